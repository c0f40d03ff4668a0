/-! promise 27: ways: the answer -/
section
variable {B : Prop} {k k0 k1 m S s x p cu i j nx : Nat} {M M' Mc Mr Mc' Mr' : gz_M} {T : gp_T} {l : List Nat}
theorem gp_yL.qq (h : gp_yL M M') : gp_qR M M' := ⟨fun c hc => h.2 c (by omega), by rw [h.2 0 (by omega)], by rw [h.2 0 (by omega)], by rw [h.2 0 (by omega)]⟩
theorem gp_wL.qq (hcu : cu = 30 ∨ cu = 60) (h : gp_wL M M') : gp_qC cu M M' := ⟨fun c hc => h.2 c (by omega), by rw [h.2 0 (by omega)], by rw [h.2 0 (by omega)]⟩
theorem gp_ways63 (hw : gp_wT T) (hij : i ≤ j) (hj : j ≤ l.length) : ∀ (d n p : Nat) (M : gz_M), p + d = j → d < n → i ≤ p → gp_tR M T → gp_lR M l → (∀ q, i ≤ q → q ≤ j → M.1 29 q = nI (min 1000000 (gp_Aw (gp_eW T l) i p q)) ∧ M.1 30 q = gp_o (gp_Ww (gp_eW T l) i p q)) → ∃ M', f12_ways_63 n (nI j) (nI p) M = some (nI (min 1000000 (gp_Aw (gp_eW T l) i j j)), M') ∧ gp_qR M M' ∧ gp_wR M' [(gp_o (gp_Ww (gp_eW T l) i j j)).toInt64] := by
  intro d
  induction d with
  | zero =>
    intro n p M hp hn hip ht hl hS
    have h24 := hl.1
    obtain ⟨n, rfl⟩ : ∃ q, n = q + 1 := ⟨n - 1, by omega⟩
    have : p = j := by omega
    subst this
    obtain ⟨v1, v2⟩ := hS p hip (Nat.le_refl _)
    obtain ⟨M2, f1, f2, f3⟩ := gp_tellR (gp_o (gp_Ww (gp_eW T l) i p p)).toInt64 (gp_wR0 M).2 (by simp)
    refine ⟨M2, ?_, ((gp_wR0 M).1.trans f2).qq, f3⟩
    rw [f12_ways_63, if_pos (nI_le (Nat.le_refl _) (by omega)), gp_eL, gp_ckb (by omega) (by omega), gp_gn (by omega), nI_clamp (by omega), v2, f1, gp_eB, gp_ckb (by omega) (by omega), f2.1 _ (by omega), gp_gn (by omega), v1]
  | succ d ih =>
    intro n p M hp hn hip ht hl hS
    have h24 := hl.1
    obtain ⟨n, rfl⟩ : ∃ q, n = q + 1 := ⟨n - 1, by omega⟩
    obtain ⟨M1, e1, e2, e3⟩ := gp_ways74 (p := p) hw hij hj hip (by omega) (f12_ways_63 n) (j - p) gz_FU p M (by omega) (by unfold gz_FU; omega) (Nat.le_refl _) ht hl (fun q h1 h2 => by
      have hq := hS q h1 h2
      by_cases hqp : q ≤ p
      · rw [if_pos hqp, if_pos hqp, (gp_wy_st hip q (fun h => by omega)).1, (gp_wy_st hip q (fun h => by omega)).2]
        exact hq
      · rw [if_neg hqp, if_neg hqp]
        exact hq)
    rw [Nat.sub_self] at e1
    obtain ⟨M', f1, f2, f3⟩ := ih n (p + 1) M1 (by omega) (by omega) (by omega) (e2.t ht) (e2.ln hl) (fun q h1 h2 => by
      have := e3 q h1 h2
      rw [if_pos h2, if_pos h2] at this
      exact this)
    refine ⟨M', ?_, e2.qq.trans f2, f3⟩
    rw [f12_ways_63, if_neg (nI_ge (by omega) (by omega))]
    have e1' : f12_ways_74 (f12_ways_63 n) gz_FU (nI j) (nI p) 0 (nI p) M = _ := e1
    rw [e1', f1]
theorem gp_a27 (h : gp_Q B cu Mc Mr T l) (a b : Int32) : gp_ans B cu Mc Mr (f11_ways a b Mc) (f12_ways a b Mr) := by
  have hq := h
  obtain ⟨h1, h2, h3, h4, h5, h6, h7, h8⟩ := h
  have hcu := h6.1
  have h24 := h4.1
  have ht : gp_tR (gz_w Mr 0 5 0) T := h3.fr (fun c c1 c2 => gp_wc _ (by omega)) (gp_gn (by omega))
  have hl : gp_lR (gz_w Mr 0 5 0) l := h5.fr (gp_wc _ (by omega))
  rcases gp_strE h4 hl a b with ⟨e1, e2⟩ | ⟨i, j, hij, hj, rfl, rfl, e1, e2⟩
  · refine gp_ansN hq (-1) ?_ ?_
    · unfold f11_ways; rw [e1]; rfl
    · unfold f12_ways; rw [gp_eL, e2]; rfl
  · obtain ⟨M1, c1, c2, c3⟩ := gp_make9 h1 hij hj h2 h4
    obtain ⟨_, v1, v2⟩ := c3 i (Nat.le_refl _) hij
    have hj24 : j ≤ 24 := by omega
    have hC := gp_ways_eq (E := gp_eW T l) hij hj24
    have hR := gp_few_eq (E := gp_eW T l) hij hj24
    have hCb := (gp_Cb_b (E := gp_eW T l) hj24 (j - i) i (by omega)).1
    have hp24 : 2 ^ (j - i) ≤ 2 ^ 24 := Nat.pow_le_pow_right (by decide) (by omega)
    obtain ⟨M2, g1, g2, g3⟩ := gp_tellC (gp_o (gp_Rb (gp_eW T l) j i)).toInt64 (gp_wC0 M1).2 (by simp)
    -- the reference lays its rows out, then goes on
    have lay : ∀ (d n p : Nat) (M : gz_M), p + d = j + 1 → d < n → i ≤ p → gp_yL (gz_w Mr 0 5 0) M → (∀ q, i ≤ q → q < p → M.1 29 q = nI (min 1000000 (gp_Aw (gp_eW T l) i i q)) ∧ M.1 30 q = gp_o (gp_Ww (gp_eW T l) i i q)) → ∃ M', f12_ways_18 n (nI i) (nI j) (nI p) M = some (nI (min 1000000 (gp_Aw (gp_eW T l) i j j)), M') ∧ gp_qR (gz_w Mr 0 5 0) M' ∧ gp_wR M' [(gp_o (gp_Ww (gp_eW T l) i j j)).toInt64] := by
      intro d
      induction d with
      | zero =>
        intro n p M hp hn hip hy hS
        obtain ⟨n, rfl⟩ : ∃ q, n = q + 1 := ⟨n - 1, by omega⟩
        obtain ⟨M', f1, f2, f3⟩ := gp_ways63 (T := T) (l := l) h1 hij hj (j - i) gz_FU i M (by omega) (by unfold gz_FU; omega) (Nat.le_refl _) (hy.t ht) (hy.ln hl) (fun q a1 a2 => hS q a1 (by omega))
        refine ⟨M', ?_, hy.qq.trans f2, f3⟩
        rw [f12_ways_18, if_pos (nI_lt (by omega) (by omega)), f1]
      | succ d ih =>
        intro n p M hp hn hip hy hS
        obtain ⟨n, rfl⟩ : ∃ q, n = q + 1 := ⟨n - 1, by omega⟩
        have hAi := gp_Aw_i (E := gp_eW T l) (i := i) i p (Nat.le_refl _)
        have hWi : gp_Ww (gp_eW T l) i i p = if p = i then some 0 else none := by
          refine gp_lst_u (gp_Ww_l i p) ?_
          split
          · rename_i h
            exact ⟨(gp_AQ_i i p 0 (Nat.le_refl _)).mpr ⟨h, rfl⟩, fun m hm => absurd hm (by omega)⟩
          · rename_i h
            exact fun n hn => h ((gp_AQ_i i p n (Nat.le_refl _)).mp hn).1
        rw [f12_ways_18, if_neg (nI_nlt (by omega) (by omega))]
        have nxt : ∀ M1 : gz_M, gp_yL M M1 → (∀ q, q ≠ p → M1.1 29 q = M.1 29 q ∧ M1.1 30 q = M.1 30 q) → M1.1 29 p = nI (min 1000000 (gp_Aw (gp_eW T l) i i p)) → M1.1 30 p = gp_o (gp_Ww (gp_eW T l) i i p) → ∃ M', f12_ways_18 n (nI i) (nI j) (nI (p + 1)) M1 = some (nI (min 1000000 (gp_Aw (gp_eW T l) i j j)), M') ∧ gp_qR (gz_w Mr 0 5 0) M' ∧ gp_wR M' [(gp_o (gp_Ww (gp_eW T l) i j j)).toInt64] := by
          intro M1 y1 u1 u2 u3
          refine ih n (p + 1) M1 (by omega) (by omega) (by omega) (hy.trans y1) (fun q a1 a2 => ?_)
          by_cases hqp : q = p
          · subst hqp
            exact ⟨u2, u3⟩
          · rw [(u1 q hqp).1, (u1 q hqp).2]
            exact hS q a1 (by omega)
        unfold f12_ways_38
        by_cases hpi : p = i
        · rw [if_pos (by rw [hpi]), gp_ckb (by omega) (by omega), gp_eL, if_pos (by rw [hpi]), gp_ckb (by omega) (by omega), gp_eL, gp_eL, nI_1, nI_clamp (by omega)]
          rw [if_pos hpi] at hAi hWi
          refine nxt _ ⟨rfl, fun c hc => by rw [gp_wc _ (by omega), gp_wc _ (by omega)]⟩ (fun q hq => ⟨by rw [gp_gn (by omega), gp_gn (by omega)], by rw [gp_gn (by omega), gp_gn (by omega)]⟩) ?_ ?_
          · rw [gp_gn (by omega), gp_gs, hAi]; rfl
          · rw [gp_gs, hWi]; rfl
        · have hne : ¬ nI p = nI i := fun e => hpi ((nI_eq (by omega) (by omega)).mp e)
          rw [if_neg hne, gp_ckb (by omega) (by omega), gp_eL, if_neg hne, gp_ckb (by omega) (by omega), gp_eL, gp_eL, nI_1, nI_clamp (by omega)]
          rw [if_neg hpi] at hAi hWi
          refine nxt _ ⟨rfl, fun c hc => by rw [gp_wc _ (by omega), gp_wc _ (by omega)]⟩ (fun q hq => ⟨by rw [gp_gn (by omega), gp_gn (by omega)], by rw [gp_gn (by omega), gp_gn (by omega)]⟩) ?_ ?_
          · rw [gp_gn (by omega), gp_gs, hAi]; rfl
          · rw [gp_gs, hWi]; rfl
    obtain ⟨Mr', r1, r2, r3⟩ := lay (j + 1 - i) gz_FU i (gz_w Mr 0 5 0) (by omega) (by unfold gz_FU; omega) (Nat.le_refl _) (gp_yL.refl _) (fun q a1 a2 => absurd a1 (by omega))
    rw [hR, hC] at *
    refine gp_ansI (v := nI (min 1000000 (gp_Cb (gp_eW T l) j i))) (Mc' := M2) (Mr' := Mr') ?_ ?_ ((c2.qq hcu).trans (((gp_wC0 M1).1.trans g2).qq (by omega))) ((gp_thr 0).1.trans r2) g3 (by rw [← hR]; exact r3) (by simp)
    · unfold f11_ways
      rw [e1, gp_eB2, if_neg (by decide), c1, gp_eB, gp_eL, gp_ckb (by omega) (by omega), nI_clamp (by omega), gp_gn (by omega), v2, g1, gp_eB, gp_ckb (by omega) (by omega), g2.1 _ (by omega), gp_gn (by omega), v1, show (1000000 : Int32) = nI 1000000 from rfl, gp_min (by omega) (by omega), Nat.min_comm]
    · unfold f12_ways
      rw [gp_eL, e2, gp_eB2, if_neg (by decide), r1, hC]
end
