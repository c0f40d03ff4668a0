section
/-! promise 27: ways -/
theorem gp_Ww_b {E : Nat → Nat → Bool} {i : Nat} : ∀ p q n, gp_Ww E i p q = some n → n ≤ p
  | 0, q, n, h => by
    rw [gp_Ww] at h
    split at h <;> simp at h
    omega
  | p + 1, q, n, h => by
    rw [gp_Ww] at h
    split at h
    · exact gp_mrg_b (fun n h => by have := gp_Ww_b p q n h; omega) (fun n h => gp_Ww_b p p n h) h
    · have := gp_Ww_b p q n h
      omega
section
variable {B : Prop} {k k0 k1 m S s x p cu i j nx : Nat} {M M' Mc Mr Mc' Mr' : gz_M} {T : gp_T} {l : List Nat}
/-- what the reference's ways leave -/
def gp_yL (M M' : gz_M) : Prop := M'.2 = M.2 ∧ ∀ c, c < 29 ∨ 33 ≤ c → M'.1 c = M.1 c
theorem gp_yL.refl (M : gz_M) : gp_yL M M := ⟨rfl, fun _ _ => rfl⟩
theorem gp_yL.trans {M1 M2 M3 : gz_M} (a : gp_yL M1 M2) (b : gp_yL M2 M3) : gp_yL M1 M3 := ⟨b.1.trans a.1, fun c hc => (b.2 c hc).trans (a.2 c hc)⟩
theorem gp_yL.t (h : gp_yL M M') (ht : gp_tR M T) : gp_tR M' T := ht.fr (fun c c1 c2 => h.2 c (by omega)) (by rw [h.2 0 (by omega)])
theorem gp_yL.ln (h : gp_yL M M') (hl : gp_lR M l) : gp_lR M' l := hl.fr (h.2 1 (by omega))
def gp_wyS (M : gz_M) (T : gp_T) (l : List Nat) (i j p x : Nat) : Prop := ∀ q, i ≤ q → q ≤ j → M.1 29 q = nI (min 1000000 (if q ≤ x then gp_Aw (gp_eW T l) i (p + 1) q else gp_Aw (gp_eW T l) i p q)) ∧ M.1 30 q = gp_o (if q ≤ x then gp_Ww (gp_eW T l) i (p + 1) q else gp_Ww (gp_eW T l) i p q)
theorem gp_wy_st (hp : i ≤ p) (q : Nat) (hc : ¬ (p < q ∧ gp_eW T l p q = true)) : gp_Aw (gp_eW T l) i (p + 1) q = gp_Aw (gp_eW T l) i p q ∧ gp_Ww (gp_eW T l) i (p + 1) q = gp_Ww (gp_eW T l) i p q := by
  constructor
  · rw [gp_Aw, if_neg (fun h => hc h.2), Nat.add_zero]
  · rw [gp_Ww, if_neg (fun h => hc h.2)]
theorem gp_ways74 (hw : gp_wT T) (hij : i ≤ j) (hj : j ≤ l.length) (hip : i ≤ p) (hpj : p < j) (c63 : Int32 → Int32 → gz_M → Option (Int32 × gz_M)) : ∀ (d n x : Nat) (M : gz_M), x + d = j → d < n → p ≤ x → gp_tR M T → gp_lR M l → gp_wyS M T l i j p x → ∃ M', f12_ways_74 c63 n (nI j) (nI p) (nI (gp_ss T 0 l p (x - p)).2) (nI x) M = c63 (nI j) (nI (p + 1)) M' ∧ gp_yL M M' ∧ gp_wyS M' T l i j p j := by
  have hm : 0 < 4 := by decide
  intro d
  induction d with
  | zero =>
    intro n x M hx hn hpx ht hl hS
    have h24 := hl.1
    obtain ⟨n, rfl⟩ : ∃ q, n = q + 1 := ⟨n - 1, by omega⟩
    have : x = j := by omega
    subst this
    refine ⟨M, ?_, gp_yL.refl M, hS⟩
    rw [f12_ways_74, if_pos (nI_le (Nat.le_refl _) (by omega)), gp_eL, nI_1]
  | succ d ih =>
    intro n x M hx hn hpx ht hl hS
    have h24 := hl.1
    obtain ⟨n, rfl⟩ : ∃ q, n = q + 1 := ⟨n - 1, by omega⟩
    obtain ⟨p29, p30⟩ := hS p hip (by omega)
    rw [if_pos hpx, (gp_wy_st hip p (fun h => by omega)).1] at p29
    rw [if_pos hpx, (gp_wy_st hip p (fun h => by omega)).2] at p30
    rw [f12_ways_74, if_neg (nI_ge (by omega) (by omega)), gp_ckb (by omega) (by omega), nI_clamp (by omega), p29]
    -- an early end
    have early : (∀ q, x < q → q ≤ j → gp_Aw (gp_eW T l) i (p + 1) q = gp_Aw (gp_eW T l) i p q ∧ gp_Ww (gp_eW T l) i (p + 1) q = gp_Ww (gp_eW T l) i p q) → gp_wyS M T l i j p j := by
      intro he q h1 h2
      have := hS q h1 h2
      rw [if_pos h2, if_pos h2]
      by_cases hq : q ≤ x
      · rw [if_pos hq, if_pos hq] at this
        exact this
      · rw [if_neg hq, if_neg hq, ← (he q (by omega) h2).1, ← (he q (by omega) h2).2] at this
        exact this
    by_cases hA : gp_Aw (gp_eW T l) i p p = 0
    · refine ⟨M, ?_, gp_yL.refl M, early (fun q h1 h2 => ?_)⟩
      · rw [hA, if_pos (by decide), gp_eL, nI_1]
      · have hW := (gp_AW p p).mp hA
        constructor
        · rw [gp_Aw, hA]
          simp
        · rw [gp_Ww, hW]
          split
          · cases gp_Ww (gp_eW T l) i p q <;> rfl
          · rfl
    · rw [if_neg (by exact nI_nle (show 0 < min 1000000 (gp_Aw (gp_eW T l) i p p) by omega) (by omega))]
      -- the step
      have st : f12_ways_100 c63 (f12_ways_74 c63 n) (nI j) (nI p) (nI (gp_ss T 0 l p (x - p)).2) (nI x) M = f12_ways_115 c63 (f12_ways_74 c63 n) (nI j) (nI p) (nI x) (if x - p = 0 then 1 else 0) (nI (gp_ss T 0 l p (x - p)).2) 0 M := by
        unfold f12_ways_100
        by_cases hx0 : x = p
        · rw [if_pos (by rw [hx0]), if_pos (by omega)]
        · rw [if_neg (fun e => hx0 ((nI_eq (by omega) (by omega)).mp e)), if_neg (by omega)]
      have hb1 := gp_ss_lt (T := T) (m := 0) (i := p) hw hm (fun p hp => (hl.2.2 p hp).2) (x - p + 1) (by omega)
      have hx11 := gp_lt10 hw hm hb1.2
      have go : ∃ M', f12_ways_115 c63 (f12_ways_74 c63 n) (nI j) (nI p) (nI x) (if x - p = 0 then 1 else 0) (nI (gp_ss T 0 l p (x - p)).2) 0 M = c63 (nI j) (nI (p + 1)) M' ∧ gp_yL M M' ∧ gp_wyS M' T l i j p j := by
        have e := gp_stepS (i := p) (m := 0) hw ht hl hm (x - p) (by omega) (if x - p = 0 then 1 else 0) rfl
        rw [show p + (x - p) = x by omega] at e
        unfold f12_ways_115
        have hck : gz_inb (82 + nI x) 106 = true := by rw [show (82 : Int32) = nI 82 from rfl, nI_add]; exact gp_inb (by omega) (by omega)
        rw [hck, gp_eC] at e ⊢
        have e' : f12_step 0 (nI (gp_ss T 0 l p (x - p)).2) (if x - p = 0 then 1 else 0) (M.1 1 (82 + nI x).toNatClampNeg) M = some (nI (gp_ss T 0 l p (x - p + 1)).2, M) := e
        have ew : f12_winner 0 (nI (gp_ss T 0 l p (x - p + 1)).2) M = _ := gp_winR hw ht hm hx11
        rw [e', gp_eB2, ew, gp_eB2, gp_itW hw]
        have hEW : gp_eW T l p (x + 1) = (gp_win T 0 (gp_ss T 0 l p (x - p + 1)).2).isSome := by
          unfold gp_eW
          rw [show x + 1 - p = x - p + 1 by omega]
        obtain ⟨q29, q30⟩ := hS (x + 1) (by omega) (by omega)
        rw [if_neg (by omega)] at q29 q30
        have fin : ∀ M1 : gz_M, gp_yL M M1 → gp_wyS M1 T l i j p (x + 1) → ∃ M', f12_ways_74 c63 n (nI j) (nI p) (nI (gp_ss T 0 l p (x - p + 1)).2) (nI (x + 1)) M1 = c63 (nI j) (nI (p + 1)) M' ∧ gp_yL M M' ∧ gp_wyS M' T l i j p j := by
          intro M1 y1 s1
          have := ih n (x + 1) M1 (by omega) (by omega) (by omega) (y1.t ht) (y1.ln hl) s1
          rw [show x + 1 - p = x - p + 1 by omega] at this
          obtain ⟨M', f1, f2, f3⟩ := this
          exact ⟨M', f1, y1.trans f2, f3⟩
        cases hwin : gp_win T 0 (gp_ss T 0 l p (x - p + 1)).2 with
        | none =>
          rw [if_pos (show (none : Option Nat).isNone = true from rfl), gp_eL, nI_1]
          refine fin M (gp_yL.refl M) (fun q h1 h2 => ?_)
          have hq := hS q h1 h2
          by_cases hqx : q = x + 1
          · subst hqx
            have hne : ¬ (p < x + 1 ∧ gp_eW T l p (x + 1) = true) := fun h => by rw [hEW, hwin] at h; simp at h
            rw [if_pos (Nat.le_refl _), if_pos (Nat.le_refl _), (gp_wy_st hip _ hne).1, (gp_wy_st hip _ hne).2]
            exact ⟨q29, q30⟩
          · by_cases hq1 : q ≤ x
            · rw [if_pos hq1, if_pos hq1] at hq
              rw [if_pos (by omega), if_pos (by omega)]
              exact hq
            · rw [if_neg hq1, if_neg hq1] at hq
              rw [if_neg (by omega), if_neg (by omega)]
              exact hq
        | some w =>
          have hc : i ≤ p ∧ p < x + 1 ∧ gp_eW T l p (x + 1) = true := ⟨hip, by omega, by rw [hEW, hwin]; rfl⟩
          have hAs : gp_Aw (gp_eW T l) i (p + 1) (x + 1) = gp_Aw (gp_eW T l) i p (x + 1) + gp_Aw (gp_eW T l) i p p := by rw [gp_Aw, if_pos hc]
          have hWs : gp_Ww (gp_eW T l) i (p + 1) (x + 1) = gp_mrg (gp_Ww (gp_eW T l) i p (x + 1)) (gp_Ww (gp_eW T l) i p p) := by rw [gp_Ww, if_pos hc]
          obtain ⟨v, hv⟩ : ∃ v, gp_Ww (gp_eW T l) i p p = some v := by
            cases hWp : gp_Ww (gp_eW T l) i p p with
            | none => exact absurd ((gp_AW p p).mpr hWp) hA
            | some v => exact ⟨v, rfl⟩
          have hvb := gp_Ww_b p p v hv
          rw [hv] at p30 hWs
          have hmin : gz_min 1000000 (nI (min 1000000 (gp_Aw (gp_eW T l) i p (x + 1))) + nI (min 1000000 (gp_Aw (gp_eW T l) i p p))) = nI (min 1000000 (gp_Aw (gp_eW T l) i (p + 1) (x + 1))) := by
            rw [show (1000000 : Int32) = nI 1000000 from rfl, nI_add, gp_min (by omega) (by omega), hAs]
            congr 1
            omega
          rw [if_neg (by simp), show nI x + 1 = nI (x + 1) from nI_1 x, gp_ckb (by omega) (by omega), gp_ckb (by omega) (by omega), gp_ckb (by omega) (by omega), gp_eL, nI_clamp (by omega), nI_clamp (by omega), q29, p29, hmin, gp_ckb (by omega) (by omega), gp_gn (by omega), q30, gp_itO (fun n hn => by have := gp_Ww_b p (x + 1) n hn; omega), gp_ckb (by omega) (by omega), gp_ckb (by omega) (by omega), gp_gn (by omega), p30]
          -- the memory behind it
          have s29 : ∀ M1 : gz_M, (∀ q, q ≠ x + 1 → M1.1 29 q = M.1 29 q ∧ M1.1 30 q = M.1 30 q) → M1.1 29 (x + 1) = nI (min 1000000 (gp_Aw (gp_eW T l) i (p + 1) (x + 1))) → M1.1 30 (x + 1) = gp_o (gp_Ww (gp_eW T l) i (p + 1) (x + 1)) → gp_wyS M1 T l i j p (x + 1) := by
            intro M1 u1 u2 u3 q h1 h2
            have hq := hS q h1 h2
            by_cases hqx : q = x + 1
            · subst hqx
              rw [if_pos (Nat.le_refl _), if_pos (Nat.le_refl _)]
              exact ⟨u2, u3⟩
            · rw [(u1 q hqx).1, (u1 q hqx).2]
              by_cases hq1 : q ≤ x
              · rw [if_pos hq1, if_pos hq1] at hq
                rw [if_pos (by omega), if_pos (by omega)]
                exact hq
              · rw [if_neg hq1, if_neg hq1] at hq
                rw [if_neg (by omega), if_neg (by omega)]
                exact hq
          have e208 : (gp_mrg (gp_Ww (gp_eW T l) i p (x + 1)) (some v)) = some (v + 1) → ∃ M', f12_ways_208 c63 (f12_ways_74 c63 n) (nI j) (nI p) (nI (gp_ss T 0 l p (x - p + 1)).2) (nI x) (gz_w M 29 (x + 1) (nI (min 1000000 (gp_Aw (gp_eW T l) i (p + 1) (x + 1))))) = c63 (nI j) (nI (p + 1)) M' ∧ gp_yL M M' ∧ gp_wyS M' T l i j p j := by
            intro hmr
            unfold f12_ways_208
            rw [gp_ckb (by omega) (by omega), show nI x + 1 = nI (x + 1) from nI_1 x, gp_ckb (by omega) (by omega), gp_eL, nI_clamp (by omega), nI_clamp (by omega), gp_gn (by omega), p30, gp_oS, nI_1, gp_eL]
            refine fin _ ⟨rfl, fun c hc => by rw [gp_wc _ (by omega), gp_wc _ (by omega)]⟩ (s29 _ (fun q hq => ⟨?_, ?_⟩) ?_ ?_)
            · rw [gp_gn (by omega), gp_gn (by omega)]
            · rw [gp_gn (by omega), gp_gn (by omega)]
            · rw [gp_gn (by omega), gp_gs]
            · rw [gp_gs, hWs, hmr]; rfl
          cases hWx : gp_Ww (gp_eW T l) i p (x + 1) with
          | none =>
            rw [if_pos (show (none : Option Nat).isNone = true from rfl)]
            exact e208 (by rw [hWx]; rfl)
          | some u =>
            have hub := gp_Ww_b p (x + 1) u hWx
            rw [if_neg (by simp), gp_oS, gp_oS, nI_1]
            by_cases hlt : v + 1 < u
            · rw [if_neg (nI_ge hlt (by omega))]
              exact e208 (by rw [hWx]; show (if v + 1 < u then some (v + 1) else some u) = _; rw [if_pos hlt])
            · rw [if_pos (nI_le (by omega) (by omega)), gp_eL]
              refine fin _ ⟨rfl, fun c hc => by rw [gp_wc _ (by omega)]⟩ (s29 _ (fun q hq => ⟨?_, ?_⟩) ?_ ?_)
              · rw [gp_gn (by omega)]
              · rw [gp_gn (by omega)]
              · rw [gp_gs]
              · rw [gp_gn (by omega), q30, hWs, hWx]
                show gp_o (some u) = gp_o (if v + 1 < u then some (v + 1) else some u)
                rw [if_neg hlt]
      by_cases hx0 : x = p
      · rw [if_pos (by rw [hx0]), st]
        exact go
      · rw [if_neg (fun e => hx0 ((nI_eq (by omega) (by omega)).mp e))]
        have hb := gp_ss_lt (T := T) (m := 0) (i := p) hw hm (fun p hp => (hl.2.2 p hp).2) (x - p) (by omega)
        have hb10 := gp_lt10 hw hm hb.2
        by_cases hz : (gp_ss T 0 l p (x - p)).2 = 0
        · refine ⟨M, ?_, gp_yL.refl M, early (fun q h1 h2 => gp_wy_st hip q (fun h => ?_))⟩
          · rw [if_pos (by rw [hz]; rfl), gp_eL, nI_1]
          · obtain ⟨t, e⟩ : ∃ t, x - p = t + 1 := ⟨x - p - 1, by omega⟩
            rw [e] at hz
            have := gp_eW_dead T l p t (q - x) hz
            rw [show p + (t + 1 + (q - x)) = q by omega] at this
            rw [this] at h
            exact absurd h.2 (by simp)
        · rw [if_neg (show ¬ nI (gp_ss T 0 l p (x - p)).2 = (0 : Int32) from fun e => hz ((nI_eq (b := 0) (by omega) (by omega)).mp e)), st]
          exact go
end
end
section
/-! promise 27: ways: the answer -/
section
variable {B : Prop} {k k0 k1 m S s x p cu i j nx : Nat} {M M' Mc Mr Mc' Mr' : gz_M} {T : gp_T} {l : List Nat}
theorem gp_yL.qq (h : gp_yL M M') : gp_qR M M' := ⟨fun c hc => h.2 c (by omega), by rw [h.2 0 (by omega)], by rw [h.2 0 (by omega)], by rw [h.2 0 (by omega)]⟩
theorem gp_wL.qq (hcu : cu = 30 ∨ cu = 60) (h : gp_wL M M') : gp_qC cu M M' := ⟨fun c hc => h.2 c (by omega), by rw [h.2 0 (by omega)], by rw [h.2 0 (by omega)]⟩
theorem gp_ways63 (hw : gp_wT T) (hij : i ≤ j) (hj : j ≤ l.length) : ∀ (d n p : Nat) (M : gz_M), p + d = j → d < n → i ≤ p → gp_tR M T → gp_lR M l → (∀ q, i ≤ q → q ≤ j → M.1 29 q = nI (min 1000000 (gp_Aw (gp_eW T l) i p q)) ∧ M.1 30 q = gp_o (gp_Ww (gp_eW T l) i p q)) → ∃ M', f12_ways_63 n (nI j) (nI p) M = some (nI (min 1000000 (gp_Aw (gp_eW T l) i j j)), M') ∧ gp_qR M M' ∧ gp_wR M' [(gp_o (gp_Ww (gp_eW T l) i j j)).toInt64] := by
  intro d
  induction d with
  | zero =>
    intro n p M hp hn hip ht hl hS
    have h24 := hl.1
    obtain ⟨n, rfl⟩ : ∃ q, n = q + 1 := ⟨n - 1, by omega⟩
    have : p = j := by omega
    subst this
    obtain ⟨v1, v2⟩ := hS p hip (Nat.le_refl _)
    obtain ⟨M2, f1, f2, f3⟩ := gp_tellR (gp_o (gp_Ww (gp_eW T l) i p p)).toInt64 (gp_wR0 M).2 (by simp)
    refine ⟨M2, ?_, ((gp_wR0 M).1.trans f2).qq, f3⟩
    rw [f12_ways_63, if_pos (nI_le (Nat.le_refl _) (by omega)), gp_eL, gp_ckb (by omega) (by omega), gp_gn (by omega), nI_clamp (by omega), v2, f1, gp_eB, gp_ckb (by omega) (by omega), f2.1 _ (by omega), gp_gn (by omega), v1]
  | succ d ih =>
    intro n p M hp hn hip ht hl hS
    have h24 := hl.1
    obtain ⟨n, rfl⟩ : ∃ q, n = q + 1 := ⟨n - 1, by omega⟩
    obtain ⟨M1, e1, e2, e3⟩ := gp_ways74 (p := p) hw hij hj hip (by omega) (f12_ways_63 n) (j - p) gz_FU p M (by omega) (by unfold gz_FU; omega) (Nat.le_refl _) ht hl (fun q h1 h2 => by
      have hq := hS q h1 h2
      by_cases hqp : q ≤ p
      · rw [if_pos hqp, if_pos hqp, (gp_wy_st hip q (fun h => by omega)).1, (gp_wy_st hip q (fun h => by omega)).2]
        exact hq
      · rw [if_neg hqp, if_neg hqp]
        exact hq)
    rw [Nat.sub_self] at e1
    obtain ⟨M', f1, f2, f3⟩ := ih n (p + 1) M1 (by omega) (by omega) (by omega) (e2.t ht) (e2.ln hl) (fun q h1 h2 => by
      have := e3 q h1 h2
      rw [if_pos h2, if_pos h2] at this
      exact this)
    refine ⟨M', ?_, e2.qq.trans f2, f3⟩
    rw [f12_ways_63, if_neg (nI_ge (by omega) (by omega))]
    have e1' : f12_ways_74 (f12_ways_63 n) gz_FU (nI j) (nI p) 0 (nI p) M = _ := e1
    rw [e1', f1]
theorem gp_a27 (h : gp_Q B cu Mc Mr T l) (a b : Int32) : gp_ans B cu Mc Mr (f11_ways a b Mc) (f12_ways a b Mr) := by
  have hq := h
  obtain ⟨h1, h2, h3, h4, h5, h6, h7, h8⟩ := h
  have hcu := h6.1
  have h24 := h4.1
  have ht : gp_tR (gz_w Mr 0 5 0) T := h3.fr (fun c c1 c2 => gp_wc _ (by omega)) (gp_gn (by omega))
  have hl : gp_lR (gz_w Mr 0 5 0) l := h5.fr (gp_wc _ (by omega))
  rcases gp_strE h4 hl a b with ⟨e1, e2⟩ | ⟨i, j, hij, hj, rfl, rfl, e1, e2⟩
  · refine gp_ansN hq (-1) ?_ ?_
    · unfold f11_ways; rw [e1]; rfl
    · unfold f12_ways; rw [gp_eL, e2]; rfl
  · obtain ⟨M1, c1, c2, c3⟩ := gp_make9 h1 hij hj h2 h4
    obtain ⟨_, v1, v2⟩ := c3 i (Nat.le_refl _) hij
    have hj24 : j ≤ 24 := by omega
    have hC := gp_ways_eq (E := gp_eW T l) hij hj24
    have hR := gp_few_eq (E := gp_eW T l) hij hj24
    have hCb := (gp_Cb_b (E := gp_eW T l) hj24 (j - i) i (by omega)).1
    have hp24 : 2 ^ (j - i) ≤ 2 ^ 24 := Nat.pow_le_pow_right (by decide) (by omega)
    obtain ⟨M2, g1, g2, g3⟩ := gp_tellC (gp_o (gp_Rb (gp_eW T l) j i)).toInt64 (gp_wC0 M1).2 (by simp)
    -- the reference lays its rows out, then goes on
    have lay : ∀ (d n p : Nat) (M : gz_M), p + d = j + 1 → d < n → i ≤ p → gp_yL (gz_w Mr 0 5 0) M → (∀ q, i ≤ q → q < p → M.1 29 q = nI (min 1000000 (gp_Aw (gp_eW T l) i i q)) ∧ M.1 30 q = gp_o (gp_Ww (gp_eW T l) i i q)) → ∃ M', f12_ways_18 n (nI i) (nI j) (nI p) M = some (nI (min 1000000 (gp_Aw (gp_eW T l) i j j)), M') ∧ gp_qR (gz_w Mr 0 5 0) M' ∧ gp_wR M' [(gp_o (gp_Ww (gp_eW T l) i j j)).toInt64] := by
      intro d
      induction d with
      | zero =>
        intro n p M hp hn hip hy hS
        obtain ⟨n, rfl⟩ : ∃ q, n = q + 1 := ⟨n - 1, by omega⟩
        obtain ⟨M', f1, f2, f3⟩ := gp_ways63 (T := T) (l := l) h1 hij hj (j - i) gz_FU i M (by omega) (by unfold gz_FU; omega) (Nat.le_refl _) (hy.t ht) (hy.ln hl) (fun q a1 a2 => hS q a1 (by omega))
        refine ⟨M', ?_, hy.qq.trans f2, f3⟩
        rw [f12_ways_18, if_pos (nI_lt (by omega) (by omega)), f1]
      | succ d ih =>
        intro n p M hp hn hip hy hS
        obtain ⟨n, rfl⟩ : ∃ q, n = q + 1 := ⟨n - 1, by omega⟩
        have hAi := gp_Aw_i (E := gp_eW T l) (i := i) i p (Nat.le_refl _)
        have hWi : gp_Ww (gp_eW T l) i i p = if p = i then some 0 else none := by
          refine gp_lst_u (gp_Ww_l i p) ?_
          split
          · rename_i h
            exact ⟨(gp_AQ_i i p 0 (Nat.le_refl _)).mpr ⟨h, rfl⟩, fun m hm => absurd hm (by omega)⟩
          · rename_i h
            exact fun n hn => h ((gp_AQ_i i p n (Nat.le_refl _)).mp hn).1
        rw [f12_ways_18, if_neg (nI_nlt (by omega) (by omega))]
        have nxt : ∀ M1 : gz_M, gp_yL M M1 → (∀ q, q ≠ p → M1.1 29 q = M.1 29 q ∧ M1.1 30 q = M.1 30 q) → M1.1 29 p = nI (min 1000000 (gp_Aw (gp_eW T l) i i p)) → M1.1 30 p = gp_o (gp_Ww (gp_eW T l) i i p) → ∃ M', f12_ways_18 n (nI i) (nI j) (nI (p + 1)) M1 = some (nI (min 1000000 (gp_Aw (gp_eW T l) i j j)), M') ∧ gp_qR (gz_w Mr 0 5 0) M' ∧ gp_wR M' [(gp_o (gp_Ww (gp_eW T l) i j j)).toInt64] := by
          intro M1 y1 u1 u2 u3
          refine ih n (p + 1) M1 (by omega) (by omega) (by omega) (hy.trans y1) (fun q a1 a2 => ?_)
          by_cases hqp : q = p
          · subst hqp
            exact ⟨u2, u3⟩
          · rw [(u1 q hqp).1, (u1 q hqp).2]
            exact hS q a1 (by omega)
        unfold f12_ways_38
        by_cases hpi : p = i
        · rw [if_pos (by rw [hpi]), gp_ckb (by omega) (by omega), gp_eL, if_pos (by rw [hpi]), gp_ckb (by omega) (by omega), gp_eL, gp_eL, nI_1, nI_clamp (by omega)]
          rw [if_pos hpi] at hAi hWi
          refine nxt _ ⟨rfl, fun c hc => by rw [gp_wc _ (by omega), gp_wc _ (by omega)]⟩ (fun q hq => ⟨by rw [gp_gn (by omega), gp_gn (by omega)], by rw [gp_gn (by omega), gp_gn (by omega)]⟩) ?_ ?_
          · rw [gp_gn (by omega), gp_gs, hAi]; rfl
          · rw [gp_gs, hWi]; rfl
        · have hne : ¬ nI p = nI i := fun e => hpi ((nI_eq (by omega) (by omega)).mp e)
          rw [if_neg hne, gp_ckb (by omega) (by omega), gp_eL, if_neg hne, gp_ckb (by omega) (by omega), gp_eL, gp_eL, nI_1, nI_clamp (by omega)]
          rw [if_neg hpi] at hAi hWi
          refine nxt _ ⟨rfl, fun c hc => by rw [gp_wc _ (by omega), gp_wc _ (by omega)]⟩ (fun q hq => ⟨by rw [gp_gn (by omega), gp_gn (by omega)], by rw [gp_gn (by omega), gp_gn (by omega)]⟩) ?_ ?_
          · rw [gp_gn (by omega), gp_gs, hAi]; rfl
          · rw [gp_gs, hWi]; rfl
    obtain ⟨Mr', r1, r2, r3⟩ := lay (j + 1 - i) gz_FU i (gz_w Mr 0 5 0) (by omega) (by unfold gz_FU; omega) (Nat.le_refl _) (gp_yL.refl _) (fun q a1 a2 => absurd a1 (by omega))
    rw [hR, hC] at *
    refine gp_ansI (v := nI (min 1000000 (gp_Cb (gp_eW T l) j i))) (Mc' := M2) (Mr' := Mr') ?_ ?_ ((c2.qq hcu).trans (((gp_wC0 M1).1.trans g2).qq (by omega))) ((gp_thr 0).1.trans r2) g3 (by rw [← hR]; exact r3) (by simp)
    · unfold f11_ways
      rw [e1, gp_eB2, if_neg (by decide), c1, gp_eB, gp_eL, gp_ckb (by omega) (by omega), nI_clamp (by omega), gp_gn (by omega), v2, g1, gp_eB, gp_ckb (by omega) (by omega), g2.1 _ (by omega), gp_gn (by omega), v1, show (1000000 : Int32) = nI 1000000 from rfl, gp_min (by omega) (by omega), Nat.min_comm]
    · unfold f12_ways
      rw [gp_eL, e2, gp_eB2, if_neg (by decide), r1, hC]
end
end
section
/-! promise 28: fewest -/
/-- the first end of a first row of the fewest -/
def gp_ft (E : Nat → Nat → Bool) (R : Nat → Option Nat) (p : Nat) : Nat → Nat
  | 0 => 0
  | x + 1 => if p < x ∧ E p x = true then (match R x with
    | none => gp_ft E R p x
    | some n => match gp_mn E R p x with
      | none => x
      | some m => if n + 1 < m then x else gp_ft E R p x) else gp_ft E R p x
theorem gp_ft_f {E : Nat → Nat → Bool} {R : Nat → Option Nat} {p : Nat} : ∀ x m, gp_mn E R p x = some m → 1 ≤ m ∧ p < gp_ft E R p x ∧ gp_ft E R p x < x ∧ E p (gp_ft E R p x) = true ∧ R (gp_ft E R p x) = some (m - 1) ∧ ∀ q, p < q → q < gp_ft E R p x → E p q = true → ∀ n, R q = some n → m < n + 1
  | 0, m, h => by cases h
  | x + 1, m, h => by
    rw [gp_mn] at h
    rw [gp_ft]
    by_cases hc : p < x ∧ E p x = true
    · rw [if_pos hc] at h ⊢
      cases hR : R x with
      | none =>
        rw [hR] at h
        dsimp only
        have h' : gp_mn E R p x = some m := by
          cases e : gp_mn E R p x with
          | none => rw [e] at h; cases h
          | some a => rw [e] at h; exact h
        obtain ⟨a1, a2, a3, a4, a5, a6⟩ := gp_ft_f x m h'
        exact ⟨a1, a2, by omega, a4, a5, a6⟩
      | some n =>
        rw [hR] at h
        dsimp only
        cases e : gp_mn E R p x with
        | none =>
          rw [e] at h
          have hm : n + 1 = m := by simpa [gp_mrg] using h
          dsimp only
          refine ⟨by omega, hc.1, by omega, hc.2, by rw [hR, ← hm]; rfl, fun q h1 h2 h3 n' hn' => ?_⟩
          -- none ahead of it: none has a way
          exfalso
          have hno : ∀ y, gp_mn E R p y = none → ∀ q, p < q → q < y → E p q = true → R q = none := by
            intro y
            induction y with
            | zero => intro _ q _ h; exact absurd h (by omega)
            | succ y ih =>
              intro hy q h1 h2 h3
              rw [gp_mn] at hy
              by_cases hcy : p < y ∧ E p y = true
              · rw [if_pos hcy] at hy
                have hRy : R y = none := by
                  cases hRy : R y with
                  | none => rfl
                  | some b =>
                    rw [hRy] at hy
                    cases e2 : gp_mn E R p y with
                    | none => rw [e2] at hy; simp [gp_mrg] at hy
                    | some a => rw [e2] at hy; simp only [gp_mrg] at hy; split at hy <;> simp at hy
                rw [hRy] at hy
                have hy' : gp_mn E R p y = none := by
                  cases e2 : gp_mn E R p y with
                  | none => rfl
                  | some a => rw [e2] at hy; simp [gp_mrg] at hy
                by_cases hqy : q = y
                · rw [hqy]; exact hRy
                · exact ih hy' q h1 (by omega) h3
              · rw [if_neg hcy] at hy
                by_cases hqy : q = y
                · subst hqy; exact absurd ⟨h1, h3⟩ hcy
                · exact ih hy q h1 (by omega) h3
          rw [hno x e q h1 h2 h3] at hn'
          cases hn'
        | some a =>
          rw [e] at h
          obtain ⟨a1, a2, a3, a4, a5, a6⟩ := gp_ft_f x a e
          have h : (if n + 1 < a then some (n + 1) else some a) = some m := h
          dsimp only
          by_cases hlt : n + 1 < a
          · rw [if_pos hlt] at h ⊢
            simp at h
            refine ⟨by omega, hc.1, by omega, hc.2, by rw [hR, ← h]; rfl, fun q h1 h2 h3 n' hn' => ?_⟩
            -- those ahead have a at least
            have hle : ∀ y b, gp_mn E R p y = some b → ∀ q, p < q → q < y → E p q = true → ∀ n', R q = some n' → b ≤ n' + 1 := by
              intro y
              induction y with
              | zero => intro b hb; cases hb
              | succ y ih =>
                intro b hb q h1 h2 h3 n' hn'
                rw [gp_mn] at hb
                by_cases hcy : p < y ∧ E p y = true
                · rw [if_pos hcy] at hb
                  cases hRy : R y with
                  | none =>
                    rw [hRy] at hb
                    have hb' : gp_mn E R p y = some b := by
                      cases e2 : gp_mn E R p y with
                      | none => rw [e2] at hb; cases hb
                      | some c => rw [e2] at hb; exact hb
                    by_cases hqy : q = y
                    · rw [hqy, hRy] at hn'; cases hn'
                    · exact ih b hb' q h1 (by omega) h3 n' hn'
                  | some v =>
                    rw [hRy] at hb
                    cases e2 : gp_mn E R p y with
                    | none =>
                      rw [e2] at hb
                      have hb : v + 1 = b := by simpa [gp_mrg] using hb
                      by_cases hqy : q = y
                      · rw [hqy, hRy] at hn'; simp at hn'; omega
                      · exfalso
                        have hno : ∀ z, gp_mn E R p z = none → ∀ q, p < q → q < z → E p q = true → R q = none := by
                          intro z
                          induction z with
                          | zero => intro _ q _ h; exact absurd h (by omega)
                          | succ z ihz =>
                            intro hz q h1 h2 h3
                            rw [gp_mn] at hz
                            by_cases hcz : p < z ∧ E p z = true
                            · rw [if_pos hcz] at hz
                              have hRz : R z = none := by
                                cases hRz : R z with
                                | none => rfl
                                | some b =>
                                  rw [hRz] at hz
                                  cases e3 : gp_mn E R p z with
                                  | none => rw [e3] at hz; simp [gp_mrg] at hz
                                  | some a => rw [e3] at hz; simp only [gp_mrg] at hz; split at hz <;> simp at hz
                              rw [hRz] at hz
                              have hz' : gp_mn E R p z = none := by
                                cases e3 : gp_mn E R p z with
                                | none => rfl
                                | some a => rw [e3] at hz; simp [gp_mrg] at hz
                              by_cases hqz : q = z
                              · rw [hqz]; exact hRz
                              · exact ihz hz' q h1 (by omega) h3
                            · rw [if_neg hcz] at hz
                              by_cases hqz : q = z
                              · subst hqz; exact absurd ⟨h1, h3⟩ hcz
                              · exact ihz hz q h1 (by omega) h3
                        rw [hno y e2 q h1 (by omega) h3] at hn'
                        cases hn'
                    | some c =>
                      rw [e2] at hb
                      have hb : (if v + 1 < c then some (v + 1) else some c) = some b := hb
                      by_cases hqy : q = y
                      · rw [hqy, hRy] at hn'
                        simp at hn'
                        split at hb <;> simp at hb <;> omega
                      · have := ih c e2 q h1 (by omega) h3 n' hn'
                        split at hb <;> simp at hb <;> omega
                · rw [if_neg hcy] at hb
                  by_cases hqy : q = y
                  · subst hqy; exact absurd ⟨h1, h3⟩ hcy
                  · exact ih b hb q h1 (by omega) h3 n' hn'
            have := hle x a e q h1 h2 h3 n' hn'
            omega
          · rw [if_neg hlt] at h ⊢
            simp at h
            subst h
            exact ⟨a1, a2, by omega, a4, a5, a6⟩
    · rw [if_neg hc] at h ⊢
      obtain ⟨a1, a2, a3, a4, a5, a6⟩ := gp_ft_f x m h
      exact ⟨a1, a2, by omega, a4, a5, a6⟩
def gp_chn (E : Nat → Nat → Bool) (j : Nat) : Nat → Nat → List Nat
  | 0, _ => []
  | f + 1, p => if p < j then gp_ft E (gp_Rb E j) p (j + 1) :: gp_chn E j f (gp_ft E (gp_Rb E j) p (j + 1)) else []
section
variable {B : Prop} {k k0 k1 m S s x p cu i j nx : Nat} {M M' Mc Mr Mc' Mr' : gz_M} {T : gp_T} {l : List Nat}
/-- the facts of the first end, where there is a way -/
theorem gp_ftF {E : Nat → Nat → Bool} {r : Nat} (hj : j ≤ 24) (hp : p < j) (hr : gp_Rb E j p = some r) : 1 ≤ r ∧ p < gp_ft E (gp_Rb E j) p (j + 1) ∧ gp_ft E (gp_Rb E j) p (j + 1) ≤ j ∧ E p (gp_ft E (gp_Rb E j) p (j + 1)) = true ∧ gp_Rb E j (gp_ft E (gp_Rb E j) p (j + 1)) = some (r - 1) ∧ ∀ q, p < q → q < gp_ft E (gp_Rb E j) p (j + 1) → E p q = true → ∀ n, gp_Rb E j q = some n → r < n + 1 := by
  rw [gp_Rb_p hj (by omega)] at hr
  obtain ⟨a1, a2, a3, a4, a5, a6⟩ := gp_ft_f (j + 1) r hr
  exact ⟨a1, a2, by omega, a4, a5, a6⟩
theorem gp_leads (hj : j ≤ 24) (hS : gp_spC M T l j i) (hip : i ≤ p) {q : Nat} (hpq : p < q) (hqj : q ≤ j) {r : Nat} (hr : gp_Rb (gp_eW T l) j p = some r) (hr1 : 1 ≤ r) : f9_leads (nI p) (nI q) M = some ((if gp_eW T l p q = true ∧ gp_Rb (gp_eW T l) j q = some (r - 1) then 1 else 0), M) := by
  obtain ⟨v1, _, v3⟩ := hS p hip (by omega)
  obtain ⟨_, _, w3⟩ := hS q (by omega) hqj
  have hbit := gp_bitL (a := gp_eT T l p (j + 1)) (i := q) (by have := gp_eT_lt T l p (show j + 1 ≤ 25 by omega); omega) (by omega)
  rw [gp_eT_bit hpq (by omega)] at hbit
  have hrb := gp_Rb_b hr
  unfold f9_leads
  rw [if_neg (nI_pos (by omega)), if_neg (nI_ge hpq (by omega)), if_pos (by exact nI_le (show q ≤ 24 by omega) (by decide)), gp_ckb (by omega) (by omega), show (nI p).toNatClampNeg = p from nI_clamp (by omega), v1, gp_ckb (by omega) (by omega), gp_ckb (by omega) (by omega), gp_ckb (by omega) (by omega), show (nI q).toNatClampNeg = q from nI_clamp (by omega), w3, v3, hr, gp_oS, show nI r - 1 = nI (r - 1) by
    obtain ⟨b, rfl⟩ : ∃ b, r = b + 1 := ⟨r - 1, by omega⟩
    exact nI_pred b, gp_itO (fun n hn => by have := gp_Rb_b hn; omega)]
  by_cases he : gp_eW T l p q = true
  · rw [if_neg (show ¬ (gz_shr (nI (gp_eT T l p (j + 1))) (nI q) &&& (1 : Int32)) = (0 : Int32) by rw [hbit, he]; simp)]
    cases hq : gp_Rb (gp_eW T l) j q with
    | none => rw [if_pos (show (none : Option Nat).isNone = true from rfl), if_neg (by simp)]
    | some n =>
      have hn := gp_Rb_b hq
      rw [if_neg (by simp), gp_oS]
      by_cases hnr : n = r - 1
      · rw [if_pos (by rw [hnr]), if_pos ⟨he, by rw [hnr]⟩]
      · rw [if_neg (fun e => hnr ((nI_eq (by omega) (by omega)).mp e)), if_neg (fun h => hnr (by simpa using h.2))]
  · rw [if_pos (show (gz_shr (nI (gp_eT T l p (j + 1))) (nI q) &&& (1 : Int32)) = (0 : Int32) by rw [hbit]; simpa using he), if_neg (fun h => he h.1)]
theorem gp_chn_len {E : Nat → Nat → Bool} (hj : j ≤ 24) : ∀ f p r, gp_Rb E j p = some r → (gp_chn E j f p).length + p ≤ j ∨ (gp_chn E j f p) = []
  | 0, p, r, _ => Or.inr rfl
  | f + 1, p, r, hr => by
    rw [gp_chn]
    split
    · rename_i hp
      obtain ⟨a1, a2, a3, a4, a5, a6⟩ := gp_ftF hj hp hr
      left
      rcases gp_chn_len hj f _ _ a5 with h | h
      · rw [List.length_cons]; omega
      · rw [h, List.length_singleton]; omega
    · exact Or.inr rfl
theorem gp_chn_s {E : Nat → Nat → Bool} (hj : j ≤ 24) : ∀ f p r, gp_Rb E j p = some r → j ≤ p + f → gp_chn E j (f + 1) p = gp_chn E j f p
  | 0, p, r, _, h => by
    show (if p < j then _ else []) = []
    rw [if_neg (by omega)]
  | f + 1, p, r, hr, h => by
    rw [gp_chn]
    conv => rhs; rw [gp_chn]
    split
    · rename_i hp
      obtain ⟨a1, a2, a3, a4, a5, a6⟩ := gp_ftF hj hp hr
      rw [gp_chn_s hj f _ _ a5 (by omega)]
    · rfl
def gp_crow (L : List Nat) : List Int64 := L.map fun q => (nI q).toInt64
/-- the component tells them -/
theorem gp_few59 (hij : i ≤ j) (hj : j ≤ 24) (tot : List Nat) (htot : tot.length ≤ 24) {ri : Nat} (hri : gp_Rb (gp_eW T l) j i = some ri) : ∀ (d n p q r : Nat) (pre : List Nat) (M : gz_M), q + d = j + 1 → d < n → i ≤ p → p < q → gp_Rb (gp_eW T l) j p = some r → (p < j → q ≤ gp_ft (gp_eW T l) (gp_Rb (gp_eW T l) j) p (j + 1)) → pre ++ gp_chn (gp_eW T l) j 25 p = tot → gp_spC M T l j i → gp_wC M (gp_crow pre) → ∃ M', f11_fewest_59 n (nI i) (nI j) (nI p) (nI q) M = some (nI ri, M') ∧ gp_fC M M' ∧ gp_wC M' (gp_crow tot) := by
  intro d
  induction d with
  | zero =>
    intro n p q r pre M hq hn hip hpq hr hft htt hS hw
    obtain ⟨n, rfl⟩ : ∃ q, n = q + 1 := ⟨n - 1, by omega⟩
    have : q = j + 1 := by omega
    subst this
    have hpj : p = j := by
      apply Classical.byContradiction
      intro h
      have := hft (by omega)
      have := (gp_ftF hj (show p < j by omega) hr).2.2.1
      omega
    subst hpj
    rw [gp_chn, if_neg (by omega), List.append_nil] at htt
    subst htt
    obtain ⟨_, _, v3⟩ := hS i (Nat.le_refl _) hij
    refine ⟨M, ?_, gp_fC.refl M, hw⟩
    rw [f11_fewest_59, if_pos (nI_lt (by omega) (by omega)), gp_ckb (by omega) (by omega), nI_clamp (by omega), v3, hri]
    rfl
  | succ d ih =>
    intro n p q r pre M hq hn hip hpq hr hft htt hS hw
    obtain ⟨n, rfl⟩ : ∃ q, n = q + 1 := ⟨n - 1, by omega⟩
    have hpj : p < j := by omega
    obtain ⟨a1, a2, a3, a4, a5, a6⟩ := gp_ftF hj hpj hr
    have hq2 := hft hpj
    rw [f11_fewest_59, if_neg (nI_nlt (by omega) (by omega)), gp_leads hj hS hip hpq (by omega) hr a1, gp_eB2]
    by_cases hqf : q = gp_ft (gp_eW T l) (gp_Rb (gp_eW T l) j) p (j + 1)
    · rw [← hqf] at a4 a5
      have hcnd : gp_eW T l p q = true ∧ gp_Rb (gp_eW T l) j q = some (r - 1) := ⟨a4, a5⟩
      rw [if_pos hcnd, if_neg (by decide)]
      have hpre : pre.length < 24 := by
        rw [gp_chn, if_pos hpj] at htt
        have := congrArg List.length htt
        simp at this
        omega
      obtain ⟨M1, g1, g2, g3⟩ := gp_tellC (nI q).toInt64 hw (by unfold gp_crow; rw [List.length_map]; omega)
      rw [g1, gp_eB, gp_eL, nI_1]
      have hg3 : gp_wC M1 (gp_crow (pre ++ [q])) := by
        unfold gp_crow at g3 ⊢
        rw [List.map_append]
        exact g3
      have hchn : gp_chn (gp_eW T l) j 25 p = q :: gp_chn (gp_eW T l) j 25 q := by
        rw [gp_chn, if_pos hpj, ← hqf, ← gp_chn_s hj 24 q _ a5 (by omega)]
      obtain ⟨M', f1, f2, f3⟩ := ih n q (q + 1) (r - 1) (pre ++ [q]) M1 (by omega) (by omega) (by omega) (by omega) a5 (fun hqj => by have := (gp_ftF hj hqj a5).2.1; omega) (by rw [List.append_assoc, ← htt, hchn]; rfl) (fun y h1 h2 => by
        rw [g2.1 _ (by omega), g2.1 _ (by omega), g2.1 _ (by omega)]
        exact hS y h1 h2) hg3
      exact ⟨M', f1, g2.trans f2, f3⟩
    · rw [if_neg (show ¬ (gp_eW T l p q = true ∧ gp_Rb (gp_eW T l) j q = some (r - 1)) from fun h => by
        have := a6 q hpq (by omega) h.1 _ h.2
        omega), if_pos rfl, gp_eL, nI_1]
      exact ih n p (q + 1) r pre M (by omega) (by omega) hip (by omega) hr (fun _ => by omega) htt hS hw
end
end
section
/-! promise 28: fewest: the reference and the answer -/
section
variable {B : Prop} {k k0 k1 m S s x p cu i j nx : Nat} {M M' Mc Mr Mc' Mr' : gz_M} {T : gp_T} {l : List Nat}
/-- the reference's table of fewest from place p on -/
def gp_fwS (M : gz_M) (T : gp_T) (l : List Nat) (j p : Nat) : Prop := ∀ q, p ≤ q → q ≤ j → M.1 31 q = gp_o (gp_Rb (gp_eW T l) j q) ∧ (q < j → gp_Rb (gp_eW T l) j q ≠ none → M.1 32 q = nI (gp_ft (gp_eW T l) (gp_Rb (gp_eW T l) j) q (j + 1)))
theorem gp_mn_dead {E : Nat → Nat → Bool} {R : Nat → Option Nat} {p x : Nat} (h : ∀ q, x ≤ q → E p q = false) : ∀ d, gp_mn E R p (x + d) = gp_mn E R p x ∧ gp_ft E R p (x + d) = gp_ft E R p x
  | 0 => ⟨rfl, rfl⟩
  | d + 1 => by
    obtain ⟨h1, h2⟩ := gp_mn_dead h d
    have hc : ¬ (p < x + d ∧ E p (x + d) = true) := fun hc => by rw [h (x + d) (by omega)] at hc; simp at hc
    rw [show x + (d + 1) = (x + d) + 1 by omega, gp_mn, gp_ft, if_neg hc, if_neg hc]
    exact ⟨h1, h2⟩
theorem gp_few45 (hw : gp_wT T) (hij : i ≤ j) (hj : j ≤ l.length) (hip : i ≤ p) (hpj : p < j) (c18 : Int32 → Int32 → Int32 → gz_M → Option (Int32 × gz_M)) : ∀ (d n x : Nat) (M : gz_M), x + d = j → d < n → p ≤ x → gp_tR M T → gp_lR M l → gp_fwS M T l j (p + 1) → M.1 31 p = gp_o (gp_mn (gp_eW T l) (gp_Rb (gp_eW T l) j) p (x + 1)) → (gp_mn (gp_eW T l) (gp_Rb (gp_eW T l) j) p (x + 1) ≠ none → M.1 32 p = nI (gp_ft (gp_eW T l) (gp_Rb (gp_eW T l) j) p (x + 1))) → ∃ M', f12_fewest_45 c18 n (nI i) (nI j) (nI p) (nI (gp_ss T 0 l p (x - p)).2) (nI x) M = c18 (nI i) (nI j) (nI p + (-1)) M' ∧ gp_yL M M' ∧ gp_fwS M' T l j p := by
  have hm : 0 < 4 := by decide
  -- the end
  have fin : ∀ (x : Nat) (M : gz_M), l.length ≤ 24 → gp_fwS M T l j (p + 1) → M.1 31 p = gp_o (gp_mn (gp_eW T l) (gp_Rb (gp_eW T l) j) p (j + 1)) → (gp_mn (gp_eW T l) (gp_Rb (gp_eW T l) j) p (j + 1) ≠ none → M.1 32 p = nI (gp_ft (gp_eW T l) (gp_Rb (gp_eW T l) j) p (j + 1))) → gp_fwS M T l j p := by
    intro x M h24 hS h31 h32 q h1 h2
    by_cases hqp : q = p
    · subst hqp
      rw [gp_Rb_p (by omega) (by omega)]
      exact ⟨h31, fun _ h => h32 h⟩
    · exact hS q (by omega) h2
  intro d
  induction d with
  | zero =>
    intro n x M hx hn hpx ht hl hS h31 h32
    have h24 := hl.1
    obtain ⟨n, rfl⟩ : ∃ q, n = q + 1 := ⟨n - 1, by omega⟩
    have : x = j := by omega
    subst this
    refine ⟨M, ?_, gp_yL.refl M, fin x M h24 hS h31 h32⟩
    rw [f12_fewest_45, if_pos (nI_le (Nat.le_refl _) (by omega)), gp_eL]
  | succ d ih =>
    intro n x M hx hn hpx ht hl hS h31 h32
    have h24 := hl.1
    have hj24 : j ≤ 24 := by omega
    obtain ⟨n, rfl⟩ : ∃ q, n = q + 1 := ⟨n - 1, by omega⟩
    have hb1 := gp_ss_lt (T := T) (m := 0) (i := p) hw hm (fun p hp => (hl.2.2 p hp).2) (x - p + 1) (by omega)
    have hx11 := gp_lt10 hw hm hb1.2
    have st : f12_fewest_62 c18 (f12_fewest_45 c18 n) (nI i) (nI j) (nI p) (nI (gp_ss T 0 l p (x - p)).2) (nI x) M = f12_fewest_77 c18 (f12_fewest_45 c18 n) (nI i) (nI j) (nI p) (nI x) (if x - p = 0 then 1 else 0) (nI (gp_ss T 0 l p (x - p)).2) 0 M := by
      unfold f12_fewest_62
      by_cases hx0 : x = p
      · rw [if_pos (by rw [hx0]), if_pos (by omega)]
      · rw [if_neg (fun e => hx0 ((nI_eq (by omega) (by omega)).mp e)), if_neg (by omega)]
    have go : ∃ M', f12_fewest_77 c18 (f12_fewest_45 c18 n) (nI i) (nI j) (nI p) (nI x) (if x - p = 0 then 1 else 0) (nI (gp_ss T 0 l p (x - p)).2) 0 M = c18 (nI i) (nI j) (nI p + (-1)) M' ∧ gp_yL M M' ∧ gp_fwS M' T l j p := by
      have e := gp_stepS (i := p) (m := 0) hw ht hl hm (x - p) (by omega) (if x - p = 0 then 1 else 0) rfl
      rw [show p + (x - p) = x by omega] at e
      unfold f12_fewest_77
      have hck : gz_inb (82 + nI x) 106 = true := by rw [show (82 : Int32) = nI 82 from rfl, nI_add]; exact gp_inb (by omega) (by omega)
      rw [hck, gp_eC] at e ⊢
      have e' : f12_step 0 (nI (gp_ss T 0 l p (x - p)).2) (if x - p = 0 then 1 else 0) (M.1 1 (82 + nI x).toNatClampNeg) M = some (nI (gp_ss T 0 l p (x - p + 1)).2, M) := e
      have ew : f12_winner 0 (nI (gp_ss T 0 l p (x - p + 1)).2) M = _ := gp_winR hw ht hm hx11
      have hv := (hS (x + 1) (by omega) (by omega)).1
      rw [e', gp_eB2, show nI x + 1 = nI (x + 1) from nI_1 x, gp_ckb (by omega) (by omega), gp_eL, show (nI (x + 1)).toNatClampNeg = x + 1 from nI_clamp (by omega), hv, ew, gp_eB2, gp_itW hw]
      have hEW : gp_eW T l p (x + 1) = (gp_win T 0 (gp_ss T 0 l p (x - p + 1)).2).isSome := by
        unfold gp_eW
        rw [show x + 1 - p = x - p + 1 by omega]
      have nxt : ∀ M1 : gz_M, gp_yL M M1 → (∀ q, q ≠ p → M1.1 31 q = M.1 31 q ∧ M1.1 32 q = M.1 32 q) → M1.1 31 p = gp_o (gp_mn (gp_eW T l) (gp_Rb (gp_eW T l) j) p (x + 1 + 1)) → (gp_mn (gp_eW T l) (gp_Rb (gp_eW T l) j) p (x + 1 + 1) ≠ none → M1.1 32 p = nI (gp_ft (gp_eW T l) (gp_Rb (gp_eW T l) j) p (x + 1 + 1))) → ∃ M', f12_fewest_45 c18 n (nI i) (nI j) (nI p) (nI (gp_ss T 0 l p (x - p + 1)).2) (nI (x + 1)) M1 = c18 (nI i) (nI j) (nI p + (-1)) M' ∧ gp_yL M M' ∧ gp_fwS M' T l j p := by
        intro M1 y1 u1 u2 u3
        have := ih n (x + 1) M1 (by omega) (by omega) (by omega) (y1.t ht) (y1.ln hl) (fun q a1 a2 => by
          rw [(u1 q (by omega)).1, (u1 q (by omega)).2]
          exact hS q a1 a2) u2 u3
        rw [show x + 1 - p = x - p + 1 by omega] at this
        obtain ⟨M', f1, f2, f3⟩ := this
        exact ⟨M', f1, y1.trans f2, f3⟩
      cases hwin : gp_win T 0 (gp_ss T 0 l p (x - p + 1)).2 with
      | none =>
        have hc : ¬ (p < x + 1 ∧ gp_eW T l p (x + 1) = true) := fun h => by rw [hEW, hwin] at h; simp at h
        rw [if_pos (show (none : Option Nat).isNone = true from rfl), gp_eL]
        refine nxt M (gp_yL.refl M) (fun q _ => ⟨rfl, rfl⟩) ?_ ?_
        · rw [gp_mn, if_neg hc]; exact h31
        · rw [gp_mn, gp_ft, if_neg hc, if_neg hc]; exact h32
      | some w =>
        have hc : p < x + 1 ∧ gp_eW T l p (x + 1) = true := ⟨by omega, by rw [hEW, hwin]; rfl⟩
        have hmb : ∀ n, gp_mn (gp_eW T l) (gp_Rb (gp_eW T l) j) p (x + 1) = some n → n < 2 ^ 31 := fun n hn => by have := gp_mn_b (b := 25) (fun q n h => gp_Rb_b h) (x + 1) n hn; omega
        rw [if_neg (by simp), gp_itO (fun n hn => by have := gp_Rb_b hn; omega), gp_eL, gp_ckb (by omega) (by omega), gp_ckb (by omega) (by omega), nI_clamp (by omega), h31, gp_itO hmb]
        cases hRx : gp_Rb (gp_eW T l) j (x + 1) with
        | none =>
          rw [if_pos (show (none : Option Nat).isNone = true from rfl)]
          refine nxt M (gp_yL.refl M) (fun q _ => ⟨rfl, rfl⟩) ?_ ?_
          · rw [gp_mn, if_pos hc, hRx, h31]
            cases gp_mn (gp_eW T l) (gp_Rb (gp_eW T l) j) p (x + 1) <;> rfl
          · rw [gp_mn, gp_ft, if_pos hc, if_pos hc, hRx]
            intro h
            refine h32 (fun h' => h ?_)
            rw [h']; rfl
        | some r =>
          have hrb := gp_Rb_b hRx
          rw [if_neg (by simp), gp_oS, nI_1]
          have e146 : ∃ M1, gp_yL M M1 ∧ (∀ q, q ≠ p → M1.1 31 q = M.1 31 q ∧ M1.1 32 q = M.1 32 q) ∧ M1.1 31 p = nI (r + 1) ∧ M1.1 32 p = nI (x + 1) ∧ f12_fewest_146 c18 (f12_fewest_45 c18 n) (nI i) (nI j) (nI p) (nI (gp_ss T 0 l p (x - p + 1)).2) (nI x) (nI r) M = f12_fewest_45 c18 n (nI i) (nI j) (nI p) (nI (gp_ss T 0 l p (x - p + 1)).2) (nI (x + 1)) M1 := by
            refine ⟨gz_w (gz_w M 31 p (nI (r + 1))) 32 p (nI (x + 1)), ⟨rfl, fun c hc => by rw [gp_wc _ (by omega), gp_wc _ (by omega)]⟩, fun q hq => ⟨by rw [gp_gn (by omega), gp_gn (by omega)], by rw [gp_gn (by omega), gp_gn (by omega)]⟩, by rw [gp_gn (by omega), gp_gs], gp_gs _ _ _ _, ?_⟩
            unfold f12_fewest_146
            rw [gp_ckb (by omega) (by omega), gp_eL, gp_ckb (by omega) (by omega), gp_eL, gp_eL, nI_clamp (by omega), nI_1, nI_1]
          obtain ⟨M1, y1, y2, y3, y4, y5⟩ := e146
          cases hmq : gp_mn (gp_eW T l) (gp_Rb (gp_eW T l) j) p (x + 1) with
          | none =>
            rw [if_pos (show (none : Option Nat).isNone = true from rfl), y5]
            refine nxt M1 y1 y2 ?_ ?_
            · rw [gp_mn, if_pos hc, hRx, hmq, y3]; rfl
            · rw [gp_ft, if_pos hc, hRx, hmq]
              exact fun _ => y4
          | some a =>
            have hab := hmb a hmq
            rw [if_neg (by simp), gp_oS]
            by_cases hlt : r + 1 < a
            · rw [if_pos (nI_lt hlt hab), y5]
              refine nxt M1 y1 y2 ?_ ?_
              · rw [gp_mn, if_pos hc, hRx, hmq, y3]
                show nI (r + 1) = gp_o (if r + 1 < a then some (r + 1) else some a)
                rw [if_pos hlt]; rfl
              · rw [gp_ft, if_pos hc, hRx, hmq]
                dsimp only
                rw [if_pos hlt]
                exact fun _ => y4
            · rw [if_neg (nI_nlt (by omega) (by omega))]
              refine nxt M (gp_yL.refl M) (fun q _ => ⟨rfl, rfl⟩) ?_ ?_
              · rw [gp_mn, if_pos hc, hRx, hmq, h31, hmq]
                show gp_o (some a) = gp_o (if r + 1 < a then some (r + 1) else some a)
                rw [if_neg hlt]
              · rw [gp_ft, if_pos hc, hRx, hmq]
                dsimp only
                rw [if_neg hlt]
                exact fun _ => h32 (by rw [hmq]; simp)
    rw [f12_fewest_45, if_neg (nI_ge (by omega) (by omega))]
    by_cases hx0 : x = p
    · rw [if_pos (by rw [hx0]), st]
      exact go
    · rw [if_neg (fun e => hx0 ((nI_eq (by omega) (by omega)).mp e))]
      have hb := gp_ss_lt (T := T) (m := 0) (i := p) hw hm (fun p hp => (hl.2.2 p hp).2) (x - p) (by omega)
      have hb10 := gp_lt10 hw hm hb.2
      by_cases hz : (gp_ss T 0 l p (x - p)).2 = 0
      · have hdead : ∀ q, x + 1 ≤ q → gp_eW T l p q = false := fun q hq => by
          obtain ⟨t, e⟩ : ∃ t, x - p = t + 1 := ⟨x - p - 1, by omega⟩
          rw [e] at hz
          have := gp_eW_dead T l p t (q - x) hz
          rwa [show p + (t + 1 + (q - x)) = q by omega] at this
        have hd := gp_mn_dead (R := gp_Rb (gp_eW T l) j) hdead (j - x)
        rw [show x + 1 + (j - x) = j + 1 by omega] at hd
        refine ⟨M, ?_, gp_yL.refl M, fin x M h24 hS (by rw [hd.1]; exact h31) (by rw [hd.1, hd.2]; exact h32)⟩
        rw [if_pos (by rw [hz]; rfl), gp_eL]
      · rw [if_neg (show ¬ nI (gp_ss T 0 l p (x - p)).2 = (0 : Int32) from fun e => hz ((nI_eq (b := 0) (by omega) (by omega)).mp e)), st]
        exact go
theorem gp_few198 (hj : j ≤ 24) (hij : i ≤ j) {ri : Nat} (hri : gp_Rb (gp_eW T l) j i = some ri) (tot : List Nat) (htot : tot.length ≤ 24) : ∀ (f n p r : Nat) (pre : List Nat) (M : gz_M), j ≤ p + f → f < n → i ≤ p → p ≤ j → gp_Rb (gp_eW T l) j p = some r → pre ++ gp_chn (gp_eW T l) j f p = tot → gp_fwS M T l j i → gp_wR M (gp_crow pre) → ∃ M', f12_fewest_198 n (nI i) (nI j) (nI p) M = some (nI ri, M') ∧ gp_fR M M' ∧ gp_wR M' (gp_crow tot) := by
  intro f
  induction f with
  | zero =>
    intro n p r pre M hpf hn hip hpj hr htt hS hw
    obtain ⟨n, rfl⟩ : ∃ q, n = q + 1 := ⟨n - 1, by omega⟩
    have : p = j := by omega
    subst this
    rw [show gp_chn (gp_eW T l) p 0 p = [] from rfl, List.append_nil] at htt
    subst htt
    refine ⟨M, ?_, gp_fR.refl M, hw⟩
    rw [f12_fewest_198, if_pos (nI_le (Nat.le_refl _) (by omega)), gp_ckb (by omega) (by omega), nI_clamp (by omega), (hS i (Nat.le_refl _) hij).1, hri]
    rfl
  | succ f ih =>
    intro n p r pre M hpf hn hip hpj hr htt hS hw
    obtain ⟨n, rfl⟩ : ∃ q, n = q + 1 := ⟨n - 1, by omega⟩
    rw [gp_chn] at htt
    by_cases hp : p < j
    · obtain ⟨a1, a2, a3, a4, a5, a6⟩ := gp_ftF hj hp hr
      rw [if_pos hp] at htt
      have hv := (hS p hip hpj).2 hp (by rw [hr]; simp)
      have hpre : pre.length < 24 := by
        have := congrArg List.length htt
        simp at this
        omega
      obtain ⟨M1, g1, g2, g3⟩ := gp_tellR (nI (gp_ft (gp_eW T l) (gp_Rb (gp_eW T l) j) p (j + 1))).toInt64 hw (by unfold gp_crow; rw [List.length_map]; omega)
      rw [f12_fewest_198, if_neg (nI_ge hp (by omega)), gp_ckb (by omega) (by omega), nI_clamp (by omega), hv, g1, gp_eB, gp_ckb (by omega) (by omega), gp_eL, g2.1 _ (by omega), hv]
      obtain ⟨M', f1, f2, f3⟩ := ih n (gp_ft (gp_eW T l) (gp_Rb (gp_eW T l) j) p (j + 1)) (r - 1) (pre ++ [gp_ft (gp_eW T l) (gp_Rb (gp_eW T l) j) p (j + 1)]) M1 (by omega) (by omega) (by omega) a3 a5 (by rw [List.append_assoc]; exact htt) (fun y h1 h2 => by
        rw [g2.1 _ (by omega), g2.1 _ (by omega)]
        exact hS y h1 h2) (by
        unfold gp_crow at g3 ⊢
        rw [List.map_append]
        exact g3)
      exact ⟨M', f1, g2.trans f2, f3⟩
    · have : p = j := by omega
      subst this
      rw [if_neg hp, List.append_nil] at htt
      subst htt
      refine ⟨M, ?_, gp_fR.refl M, hw⟩
      rw [f12_fewest_198, if_pos (nI_le (Nat.le_refl _) (by omega)), gp_ckb (by omega) (by omega), nI_clamp (by omega), (hS i (Nat.le_refl _) hij).1, hri]
      rfl
theorem gp_a28 (h : gp_Q B cu Mc Mr T l) (a b : Int32) : gp_ans B cu Mc Mr (f11_fewest a b Mc) (f12_fewest a b Mr) := by
  have hq := h
  obtain ⟨h1, h2, h3, h4, h5, h6, h7, h8⟩ := h
  have hcu := h6.1
  have h24 := h4.1
  have ht : gp_tR (gz_w Mr 0 5 0) T := h3.fr (fun c c1 c2 => gp_wc _ (by omega)) (gp_gn (by omega))
  have hl : gp_lR (gz_w Mr 0 5 0) l := h5.fr (gp_wc _ (by omega))
  rcases gp_strE h4 hl a b with ⟨e1, e2⟩ | ⟨i, j, hij, hj, rfl, rfl, e1, e2⟩
  · refine gp_ansN hq (-1) ?_ ?_
    · unfold f11_fewest; rw [e1]; rfl
    · unfold f12_fewest; rw [gp_eL, e2]; rfl
  · have hj24 : j ≤ 24 := by omega
    obtain ⟨M1, c1, c2, c3⟩ := gp_make9 h1 hij hj h2 h4
    obtain ⟨_, v1, v2⟩ := c3 i (Nat.le_refl _) hij
    -- the end of the reference
    have ende : ∀ (n : Nat) (x : Int32) (M : gz_M), gp_yL (gz_w Mr 0 5 0) M → gp_fwS M T l j i → x = nI i - 1 → f12_fewest_18 (n + 1) (nI i) (nI j) x M = (if gp_o (gp_Rb (gp_eW T l) j i) = -1 then (some ((-2), M)) else f12_fewest_198 gz_FU (nI i) (nI j) (nI i) (gz_w M 0 4 0)) := by
      intro n x M hy hS hx
      subst hx
      rw [f12_fewest_18, if_pos, gp_ckb (by omega) (by omega), nI_clamp (by omega), (hS i (Nat.le_refl _) hij).1]
      · rfl
      · apply Int32.lt_iff_toInt_lt.mpr
        rw [gp_pI (by omega), nI_toInt (by omega)]
        omega
    have run : ∀ (d n t : Nat) (M : gz_M), t + d = j + 1 - i → d < n → gp_yL (gz_w Mr 0 5 0) M → gp_fwS M T l j (j + 1 - t) → ∃ M', gp_yL (gz_w Mr 0 5 0) M' ∧ gp_fwS M' T l j i ∧ f12_fewest_18 n (nI i) (nI j) (gp_dn (j + 1) t) M = (if gp_o (gp_Rb (gp_eW T l) j i) = -1 then (some ((-2), M')) else f12_fewest_198 gz_FU (nI i) (nI j) (nI i) (gz_w M' 0 4 0)) := by
      intro d
      induction d with
      | zero =>
        intro n t M htt hn hy hS
        obtain ⟨n, rfl⟩ : ∃ q, n = q + 1 := ⟨n - 1, by omega⟩
        rw [show j + 1 - t = i by omega] at hS
        refine ⟨M, hy, hS, ende n _ M hy hS ?_⟩
        unfold gp_dn
        rw [show j + 1 - t = i by omega]
      | succ d ih =>
        intro n t M htt hn hy hS
        obtain ⟨n, rfl⟩ : ∃ q, n = q + 1 := ⟨n - 1, by omega⟩
        obtain ⟨p, hp⟩ : ∃ p, p = j - t := ⟨_, rfl⟩
        have hdn : gp_dn (j + 1) t = nI p := by rw [gp_dn_s (by omega)]; congr 1; omega
        have hdn2 : nI p + (-1) = gp_dn (j + 1) (t + 1) := by rw [← hdn, gp_dn_n (by omega)]
        rw [show j + 1 - t = p + 1 by omega] at hS
        rw [f12_fewest_18, hdn, if_neg (nI_nlt (by omega) (by omega)), gp_ckb (by omega) (by omega), gp_ckb (by omega) (by omega), gp_eL, gp_eL, nI_clamp (by omega)]
        by_cases hpj : p = j
        · subst hpj
          rw [if_pos rfl]
          have e45 : f12_fewest_45 (f12_fewest_18 n) gz_FU (nI i) (nI p) (nI p) 0 (nI p) (gz_w M 31 p 0) = f12_fewest_18 n (nI i) (nI p) (nI p + (-1)) (gz_w M 31 p 0) := by
            show f12_fewest_45 _ (999999 + 1) _ _ _ _ _ _ = _
            rw [f12_fewest_45, if_pos (nI_le (Nat.le_refl _) (by omega)), gp_eL]
          rw [e45, hdn2]
          have y0 : gp_yL M (gz_w M 31 p 0) := ⟨rfl, fun c hc => gp_wc _ (by omega)⟩
          refine ih n (t + 1) _ (by omega) (by omega) (hy.trans y0) (fun y h1 h2 => ?_)
          have : y = p := by omega
          subst this
          rw [gp_gs, gp_Rb_j]
          exact ⟨rfl, fun h => absurd h (by omega)⟩
        · rw [if_neg (fun e => hpj ((nI_eq (by omega) (by omega)).mp e))]
          have y0 : gp_yL M (gz_w M 31 p (-1)) := ⟨rfl, fun c hc => gp_wc _ (by omega)⟩
          have yy := hy.trans y0
          obtain ⟨M2, g1, g2, g3⟩ := gp_few45 (T := T) (l := l) (p := p) h1 hij hj (by omega) (by omega) (f12_fewest_18 n) (j - p) gz_FU p (gz_w M 31 p (-1)) (by omega) (by unfold gz_FU; omega) (Nat.le_refl _) (yy.t ht) (yy.ln hl) (fun y a1 a2 => by
            rw [gp_gn (by omega), gp_gn (by omega)]
            exact hS y a1 a2) (by rw [gp_gs, gp_mn_0 _ (by omega)]; rfl) (fun h => absurd (gp_mn_0 _ (by omega)) h)
          rw [Nat.sub_self] at g1
          have g1' : f12_fewest_45 (f12_fewest_18 n) gz_FU (nI i) (nI j) (nI p) 0 (nI p) (gz_w M 31 p (-1)) = _ := g1
          rw [g1', hdn2]
          exact ih n (t + 1) M2 (by omega) (by omega) (yy.trans g2) (by rw [show j + 1 - (t + 1) = p by omega]; exact g3)
    obtain ⟨N1, n1, n2, n3⟩ := run (j + 1 - i) gz_FU 0 (gz_w Mr 0 5 0) (by omega) (by unfold gz_FU; omega) (gp_yL.refl _) (fun y a1 a2 => absurd a1 (by omega))
    rw [gp_dn_0] at n3
    have cc : f11_fewest (nI i) (nI j) Mc = (if gp_o (gp_Rb (gp_eW T l) j i) = -1 then (some ((-2), M1)) else f11_fewest_59 gz_FU (nI i) (nI j) (nI i) (nI (i + 1)) (gz_w M1 0 15 0)) := by
      unfold f11_fewest
      rw [e1, gp_eB2, if_neg (by decide), c1, gp_eB, gp_ckb (by omega) (by omega), nI_clamp (by omega), v2, gp_eL, gp_eL, nI_1]
    have rc : f12_fewest (nI i) (nI j) Mr = (if gp_o (gp_Rb (gp_eW T l) j i) = -1 then (some ((-2), N1)) else f12_fewest_198 gz_FU (nI i) (nI j) (nI i) (gz_w N1 0 4 0)) := by
      unfold f12_fewest
      rw [gp_eL, e2, gp_eB2, if_neg (by decide), n3]
    rw [gp_itO (fun n hn => by have := gp_Rb_b hn; omega)] at cc rc
    cases hR : gp_Rb (gp_eW T l) j i with
    | none =>
      rw [hR, if_pos (show (none : Option Nat).isNone = true from rfl)] at cc rc
      exact gp_ansK (v := -2) cc rc (c2.qq hcu) ((gp_thr 0).1.trans n1.qq) h8 c2.1 (by rw [c2.2 0 (by omega)]) n1.1 (by rw [n1.2 0 (by omega), gp_gn (by omega)])
    | some r =>
      rw [hR, if_neg (by simp)] at cc rc
      have hlen : (gp_chn (gp_eW T l) j 25 i).length ≤ 24 := by
        rcases gp_chn_len hj24 25 i r hR with h | h
        · omega
        · rw [h]; simp
      obtain ⟨Mc', f1, f2, f3⟩ := gp_few59 hij hj24 (gp_chn (gp_eW T l) j 25 i) hlen hR (j - i) gz_FU i (i + 1) r [] (gz_w M1 0 15 0) (by omega) (by unfold gz_FU; omega) (Nat.le_refl _) (by omega) hR (fun hlt => by have := (gp_ftF hj24 hlt hR).2.1; omega) (List.nil_append _) (fun y a1 a2 => by
        rw [gp_gn (by omega), gp_gn (by omega), gp_gn (by omega)]
        exact c3 y a1 a2) (gp_wC0 M1).2
      obtain ⟨Mr', r1, r2, r3⟩ := gp_few198 hj24 hij hR (gp_chn (gp_eW T l) j 25 i) hlen 25 gz_FU i r [] (gz_w N1 0 4 0) (by omega) (by unfold gz_FU; omega) (Nat.le_refl _) hij hR (List.nil_append _) (fun y a1 a2 => by
        rw [gp_gn (by omega), gp_gn (by omega)]
        exact n2 y a1 a2) (gp_wR0 N1).2
      exact gp_ansI (v := nI r) (cc.trans f1) (rc.trans r1) ((c2.qq hcu).trans (((gp_wC0 M1).1.trans f2).qq (by omega))) ((gp_thr 0).1.trans (n1.qq.trans ((gp_wR0 N1).1.trans r2).qq)) f3 r3 (by unfold gp_crow; rw [List.length_map]; omega)
end
end
section
/-! rules told as a text: a machine that goes sign by sign. A piece: what can be first, what can be last, whether it can be nothing -/
abbrev gp_P : Type := Nat × Nat × Bool
/-- what is due (0 a mode's digit, 1 :, 2 a part, 3 what stands behind a part, 4 an act's digit, 5 what stands behind an act), the table, chain and whole of what stands open (the innermost first), the part -/
abbrev gp_S : Type := Nat × gp_T × List (Option gp_P × Option gp_P) × Option gp_P
def gp_set (f : Nat → Nat → Nat) (c i v : Nat) : Nat → Nat → Nat := fun a b => if a = c ∧ b = i then v else f a b
def gp_setD (f : Nat → Int32) (i : Nat) (v : Int32) : Nat → Int32 := fun b => if b = i then v else f b
/-- the mode of the rule that is read -/
def gp_md (T : gp_T) : Nat := T.2.2 1 T.1
def gp_lnk (T : gp_T) (last first : Nat) : gp_T := (T.1, T.2.1, fun a b => if a = 10 + gp_md T ∧ b < 10 ∧ last.testBit b = true then T.2.2 a b ||| first else T.2.2 a b)
def gp_mgP (c p : gp_P) : gp_P := (c.1 ||| (if c.2.2 = true then p.1 else 0), p.2.1 ||| (if p.2.2 = true then c.2.1 else 0), c.2.2 && p.2.2)
def gp_mgO : Option gp_P → Option gp_P → Option gp_P
  | none, p => p
  | some c, none => some c
  | some c, some p => some (gp_mgP c p)
def gp_unP (w c : gp_P) : gp_P := (w.1 ||| c.1, w.2.1 ||| c.2.1, w.2.2 || c.2.2)
def gp_unO : Option gp_P → Option gp_P → Option gp_P
  | none, c => c
  | some w, none => some w
  | some w, some c => some (gp_unP w c)
def gp_lnO (T : gp_T) : Option gp_P → Option gp_P → gp_T
  | some c, some p => gp_lnk T c.2.1 p.1
  | _, _ => T
/-- a part ends: it joins its chain -/
def gp_eP (s : gp_S) : gp_S := match s.2.2.1 with
  | [] => s
  | (ch, wh) :: L => (s.1, gp_lnO s.2.1 ch s.2.2.2, (gp_mgO ch s.2.2.2, wh) :: L, none)
/-- a chain ends -/
def gp_eCh (s : gp_S) : gp_S := match (gp_eP s).2.2.1 with
  | [] => gp_eP s
  | (ch, wh) :: L => (s.1, (gp_eP s).2.1, (none, gp_unO wh ch) :: L, none)
/-- a rule ends -/
def gp_eR (s : gp_S) : gp_T := match (gp_eCh s).2.2.1 with
  | (_, some w) :: _ => ((gp_eCh s).2.1.1 + 1, (gp_eCh s).2.1.2.1, gp_set (gp_set (gp_set (gp_eCh s).2.1.2.2 8 (gp_md s.2.1) ((gp_eCh s).2.1.2.2 8 (gp_md s.2.1) ||| w.1)) 5 s.2.1.1 w.2.1) 6 s.2.1.1 (if w.2.2 = true then 1 else 0))
  | _ => ((gp_eCh s).2.1.1 + 1, (gp_eCh s).2.1.2)
def gp_isL (c : Nat) : Bool := c == 46 || (decide (97 ≤ c) && decide (c ≤ 104))
/-- a letter comes -/
def gp_aL (T : gp_T) (c : Nat) : gp_T := (T.1, T.2.1, fun a b => if a = 7 ∧ b = gp_md T then T.2.2 7 (gp_md T) + 1 else if a = 2 ∧ b = T.1 then T.2.2 2 T.1 + 1 else if T.2.2 7 (gp_md T) < 10 ∧ a = 15 + gp_md T ∧ b < 8 ∧ (c = 46 ∨ c = 97 + b) then T.2.2 a b ||| 1 <<< T.2.2 7 (gp_md T) else T.2.2 a b)
def gp_pL (T : gp_T) : gp_P := if T.2.2 7 (gp_md T) < 10 then (1 <<< T.2.2 7 (gp_md T), 1 <<< T.2.2 7 (gp_md T), false) else (0, 0, false)
def gp_let (s : gp_S) (c : Nat) : gp_S := (3, gp_aL (gp_eP s).2.1 c, (gp_eP s).2.2.1, some (gp_pL (gp_eP s).2.1))
def gp_brk (s : gp_S) : gp_S := (2, (gp_eP s).2.1, (none, none) :: (gp_eP s).2.2.1, none)
def gp_beg (s : gp_S) (c : Nat) : gp_S := (1, (s.2.1.1, gp_setD s.2.1.2.1 s.2.1.1 (-1), gp_set (gp_set (gp_set s.2.1.2.2 1 s.2.1.1 (c - 48)) 2 s.2.1.1 0) 3 s.2.1.1 0), [(none, none)], none)
/-- where a part can stand -/
def gp_inP (s : gp_S) (c : Nat) : Option gp_S := if gp_isL c = true then some (gp_let s c) else if c = 40 ∧ s.2.2.1.length ≤ 6 then some (gp_brk s) else none
def gp_nxt (s : gp_S) : Option gp_S := if s.2.1.1 + 1 < 8 then some (0, gp_eR s, [], none) else none
def gp_suf (s : gp_S) (c : Nat) : gp_S := match s.2.2.2 with
  | none => s
  | some p => (3, (if c = 63 then s.2.1 else gp_lnk s.2.1 p.2.1 p.1), s.2.2.1, some (p.1, p.2.1, (if c = 43 then p.2.2 else true)))
def gp_act1 (s : gp_S) (d a : Nat) : gp_S := (d, (s.2.1.1, s.2.1.2.1, gp_set s.2.1.2.2 3 s.2.1.1 a), s.2.2.1, s.2.2.2)
def gp_cls (s : gp_S) : gp_S := match (gp_eCh s).2.2.1 with
  | (_, wh) :: L => (3, (gp_eCh s).2.1, L, wh)
  | [] => s
def gp_stp (s : gp_S) (c : Nat) : Option gp_S :=
  if s.1 = 0 then (if 48 ≤ c ∧ c ≤ 51 then some (gp_beg s c) else none)
  else if s.1 = 1 then (if c = 58 then some (2, s.2.1, s.2.2.1, s.2.2.2) else none)
  else if s.1 = 2 then gp_inP s c
  else if s.1 = 3 then
    (if gp_isL c = true ∨ c = 40 then gp_inP s c
    else if c = 42 ∨ c = 43 ∨ c = 63 then some (gp_suf s c)
    else if c = 124 then some (2, (gp_eCh s).2.1, (gp_eCh s).2.2.1, none)
    else if c = 41 then (if s.2.2.1.length ≤ 1 then none else some (gp_cls s))
    else if s.2.2.1.length ≤ 1 then (if c = 60 then some (gp_act1 s 5 1) else if c = 62 then some (gp_act1 s 4 2) else if c = 61 then some (gp_act1 s 4 3) else if c = 59 then gp_nxt s else none)
    else none)
  else if s.1 = 4 then (if 48 ≤ c ∧ c ≤ 51 then some (5, (s.2.1.1, gp_setD s.2.1.2.1 s.2.1.1 (nI (c - 48)), s.2.1.2.2), s.2.2.1, s.2.2.2) else none)
  else (if c = 59 then gp_nxt s else none)
/-- n signs from place p on; none: one of them can't stand there -/
def gp_itr (t : List Nat) : Nat → Nat → gp_S → Option gp_S
  | 0, _, s => some s
  | n + 1, p, s => (gp_stp s (t.getD p 0)).bind (gp_itr t n (p + 1))
def gp_s0 : gp_S := (0, (0, fun _ => 0, fun _ _ => 0), [], none)
/-- it may end so -/
def gp_mEnd (t : List Nat) (s : gp_S) : Prop := t.length = 0 ∨ s.1 = 5 ∨ (s.1 = 3 ∧ s.2.2.1.length ≤ 1)
/-- a text that is rules -/
def gp_ok (t : List Nat) : Prop := t.length ≤ 80 ∧ ∃ s, gp_itr t t.length 0 gp_s0 = some s ∧ gp_mEnd t s ∧ ∀ m, m < 4 → s.2.1.2.2 7 m ≤ 10
def gp_tab (t : List Nat) : gp_T := match gp_itr t t.length 0 gp_s0 with
  | none => gp_s0.2.1
  | some s => if t.length = 0 then s.2.1 else gp_eR s
theorem gp_itr_add (t : List Nat) : ∀ (n m p : Nat) (s : gp_S), gp_itr t (n + m) p s = (gp_itr t n p s).bind (gp_itr t m (p + n))
  | 0, m, p, s => by rw [Nat.zero_add, Nat.add_zero]; rfl
  | n + 1, m, p, s => by
    rw [show n + 1 + m = (n + m) + 1 by omega, gp_itr, gp_itr]
    cases h : gp_stp s (t.getD p 0) with
    | none => rfl
    | some s' =>
      show gp_itr t (n + m) (p + 1) s' = (gp_itr t n (p + 1) s').bind _
      rw [gp_itr_add t n m (p + 1) s', show p + 1 + n = p + (n + 1) by omega]
theorem gp_itr_1 (t : List Nat) (p : Nat) (s : gp_S) : gp_itr t 1 p s = gp_stp s (t.getD p 0) := by
  rw [gp_itr]
  cases gp_stp s (t.getD p 0) <;> rfl
end
section
/-! rules told as a text: the component's grammar -/
/-- the first place of a fault; none: it is right -/
def gp_er (t : List Nat) : Nat → Nat → gp_S → Option Nat
  | 0, p, s => if t.length = 0 ∨ s.1 = 5 ∨ (s.1 = 3 ∧ s.2.2.1.length ≤ 1) then none else some p
  | n + 1, p, s => match gp_stp s (t.getD p 0) with
    | none => some p
    | some s' => gp_er t n (p + 1) s'
def gp_flt (t : List Nat) : Option Nat := gp_er t t.length 0 gp_s0
/-- what lies open of a state -/
def gp_opn (s : gp_S) : Prop := s.1 ≤ 5 ∧ s.2.2.1.length ≤ 7 ∧ s.2.1.1 ≤ 7 ∧ (s.1 = 0 → s.2.2.1 = []) ∧ (1 ≤ s.1 → 0 < s.2.2.1.length) ∧ (s.1 = 1 ∨ s.1 = 4 ∨ s.1 = 5 → s.2.2.1.length = 1)
theorem gp_eP_len (s : gp_S) : (gp_eP s).2.2.1.length = s.2.2.1.length := by
  unfold gp_eP
  split
  · rfl
  · rename_i h
    rw [h]; rfl
theorem gp_eP_1 (s : gp_S) : (gp_eP s).2.1.1 = s.2.1.1 := by
  unfold gp_eP
  split
  · rfl
  · show (gp_lnO _ _ _).1 = _
    unfold gp_lnO
    split <;> rfl
theorem gp_eCh_len (s : gp_S) : (gp_eCh s).2.2.1.length = s.2.2.1.length ∧ (gp_eCh s).2.1.1 = s.2.1.1 := by
  unfold gp_eCh
  split
  · exact ⟨gp_eP_len s, gp_eP_1 s⟩
  · rename_i h
    refine ⟨?_, gp_eP_1 s⟩
    have := gp_eP_len s
    rw [h] at this
    simpa using this
theorem gp_eR_1 {s : gp_S} : (gp_eR s).1 = s.2.1.1 + 1 := by
  unfold gp_eR
  split <;> rw [(gp_eCh_len s).2]
theorem gp_inP_opn {s s' : gp_S} {c : Nat} (h : gp_opn s) (h1 : 1 ≤ s.1) (e : gp_inP s c = some s') : gp_opn s' ∧ s'.2.1.1 = s.2.1.1 ∧ ((gp_isL c = true ∧ s'.1 = 3 ∧ s'.2.2.1.length = s.2.2.1.length) ∨ (gp_isL c = false ∧ c = 40 ∧ s.2.2.1.length ≤ 6 ∧ s'.1 = 2 ∧ s'.2.2.1.length = s.2.2.1.length + 1)) := by
  obtain ⟨a1, a2, a3, a4, a5, a6⟩ := h
  unfold gp_inP at e
  by_cases hl : gp_isL c = true
  · rw [if_pos hl] at e
    have e := Option.some.inj e
    subst e
    have hlen : (gp_let s c).2.2.1.length = s.2.2.1.length := gp_eP_len s
    have ht : (gp_let s c).2.1.1 = s.2.1.1 := gp_eP_1 s
    have h3 : (gp_let s c).1 = 3 := rfl
    refine ⟨⟨by omega, by omega, by omega, by omega, fun _ => by have := a5 h1; omega, by omega⟩, ht, Or.inl ⟨hl, h3, hlen⟩⟩
  · rw [if_neg hl] at e
    split at e
    · rename_i hc
      have e := Option.some.inj e
      subst e
      have hlen : (gp_brk s).2.2.1.length = s.2.2.1.length + 1 := by
        show ((none, none) :: (gp_eP s).2.2.1).length = _
        rw [List.length_cons, gp_eP_len]
      have ht : (gp_brk s).2.1.1 = s.2.1.1 := gp_eP_1 s
      have h3 : (gp_brk s).1 = 2 := rfl
      refine ⟨⟨by omega, by omega, by omega, by omega, by omega, by omega⟩, ht, Or.inr ⟨by simpa using hl, hc.1, hc.2, h3, hlen⟩⟩
    · cases e
def gp_gS (M : gz_M) (s : gp_S) : Prop := M.1 3 0 = nI (s.2.2.1.length - 1) ∧ M.1 3 1 = nI s.2.1.1
def gp_gL (M M' : gz_M) : Prop := M'.2 = M.2 ∧ ∀ c, c ≠ 3 → M'.1 c = M.1 c
section
variable {s : gp_S} {c : Nat} {M : gz_M}
theorem gp_isSignE (hc : c < 256) (M : gz_M) : f3_isSign (nI c) M = some ((if 97 ≤ c ∧ c ≤ 104 then 1 else 0), M) := by
  unfold f3_isSign
  by_cases h1 : c < 97
  · rw [if_pos (by exact nI_lt h1 (by decide)), if_neg (by omega)]
  · rw [if_neg (by exact nI_nlt (show 97 ≤ c by omega) (by omega))]
    by_cases h2 : 104 < c
    · rw [if_pos (by exact nI_lt h2 (by omega)), if_neg (by omega)]
    · rw [if_neg (show ¬ (104 : Int32) < nI c from nI_nlt (a := 104) (by omega) (by omega)), if_pos (by omega)]
theorem gp_isLetE (hc : c < 256) (M : gz_M) : f3_isLetter (nI c) M = some ((if gp_isL c = true then 1 else 0), M) := by
  unfold f3_isLetter
  by_cases h46 : c = 46
  · subst h46
    rw [if_pos (by rfl), if_pos (by decide)]
  · rw [if_neg (show ¬ nI c = (46 : Int32) from fun e => h46 ((nI_eq (b := 46) (by omega) (by omega)).mp e)), gp_isSignE hc, gp_eB2]
    by_cases h1 : 97 ≤ c ∧ c ≤ 104
    · rw [if_pos h1, if_neg (by decide), if_pos]
      unfold gp_isL
      simp [h1.1, h1.2]
    · rw [if_neg h1, if_pos rfl, if_neg]
      unfold gp_isL
      simp [h46]
      omega
theorem gp_isMDE (hc : c < 256) (M : gz_M) : f3_isModeDigit (nI c) M = some ((if 48 ≤ c ∧ c ≤ 51 then 1 else 0), M) := by
  unfold f3_isModeDigit
  by_cases h1 : c < 48
  · rw [if_pos (by exact nI_lt h1 (by decide)), if_neg (by omega)]
  · rw [if_neg (by exact nI_nlt (show 48 ≤ c by omega) (by omega))]
    by_cases h2 : 51 < c
    · rw [if_pos (by exact nI_lt h2 (by omega)), if_neg (by omega)]
    · rw [if_neg (show ¬ (51 : Int32) < nI c from nI_nlt (a := 51) (by omega) (by omega)), if_pos (by omega)]
/-- sign c is the number n -/
theorem gp_cN (hc : c < 256) (n : Nat) (hn : n < 2 ^ 31) : (nI c = nI n) = (c = n) := gp_eqe (by omega) hn
/-- what a step of the grammar says -/
def gp_gE (M : gz_M) (r : Option gp_S) (a : Option (Int32 × gz_M)) : Prop := match r with
  | none => ∃ M', a = some (-1, M') ∧ gp_gL M M'
  | some s' => ∃ M', a = some (nI s'.1, M') ∧ gp_gL M M' ∧ gp_gS M' s'
theorem gp_gInP (hc : c < 256) (h : gp_opn s) (h1 : 1 ≤ s.1) (hg : gp_gS M s) : gp_gE M (gp_inP s c) (f3_dueInPart (nI c) M) := by
  obtain ⟨a1, a2, a3, a4, a5, a6⟩ := h
  have h0 := a5 h1
  have L0 : gp_gL M M := ⟨rfl, fun _ _ => rfl⟩
  have hI := fun s' => gp_inP_opn (c := c) (s' := s') (⟨a1, a2, a3, a4, a5, a6⟩ : gp_opn s) h1
  unfold f3_dueInPart
  rw [gp_isLetE hc, gp_eB2]
  by_cases hl : gp_isL c = true
  · rw [if_pos hl, if_neg (by decide)]
    have e : gp_inP s c = some (gp_let s c) := by unfold gp_inP; rw [if_pos hl]
    obtain ⟨_, b2, b3⟩ := hI _ e
    rcases b3 with ⟨_, b4, b5⟩ | ⟨b4, _⟩
    · rw [e]
      exact ⟨M, rfl, L0, by rw [b5]; exact hg.1, by rw [b2]; exact hg.2⟩
    · rw [hl] at b4; cases b4
  · rw [if_neg hl, if_pos rfl]
    by_cases h40 : c = 40
    · rw [if_pos (by rw [h40]; rfl), hg.1]
      by_cases h6 : s.2.2.1.length ≤ 6
      · have e : gp_inP s c = some (gp_brk s) := by unfold gp_inP; rw [if_neg hl, if_pos ⟨h40, h6⟩]
        obtain ⟨_, b2, b3⟩ := hI _ e
        rcases b3 with ⟨b4, _⟩ | ⟨_, _, _, b4, b5⟩
        · rw [b4] at hl; exact absurd rfl hl
        · rw [if_pos (by exact nI_lt (show s.2.2.1.length - 1 < 6 by omega) (by decide)), gp_eL, e, nI_1]
          refine ⟨_, rfl, ⟨rfl, fun c hc => gp_wc _ hc⟩, ?_, ?_⟩
          · rw [gp_gs, b5]; congr 1; omega
          · rw [gp_gn (by omega), b2]; exact hg.2
      · rw [if_neg (by exact nI_nlt (show 6 ≤ s.2.2.1.length - 1 by omega) (by omega))]
        have e : gp_inP s c = none := by unfold gp_inP; rw [if_neg hl, if_neg (fun h => h6 h.2)]
        rw [e]
        exact ⟨M, rfl, L0⟩
    · rw [if_neg (show ¬ nI c = (40 : Int32) from fun e => h40 ((nI_eq (b := 40) (by omega) (by omega)).mp e))]
      have e : gp_inP s c = none := by unfold gp_inP; rw [if_neg hl, if_neg (fun h => h40 h.1)]
      rw [e]
      exact ⟨M, rfl, L0⟩
theorem gp_nxt_1 {s s' : gp_S} (e : gp_nxt s = some s') : s.2.1.1 + 1 < 8 ∧ s'.1 = 0 ∧ s'.2.2.1 = [] ∧ s'.2.1 = gp_eR s := by
  unfold gp_nxt at e
  split at e
  · have e := Option.some.inj e
    subst e
    exact ⟨by assumption, rfl, rfl, rfl⟩
  · cases e
theorem gp_inP_c (s : gp_S) (hc : gp_isL c = false) (h : c ≠ 40) : gp_inP s c = none := by
  unfold gp_inP
  rw [if_neg (by simp [hc]), if_neg (fun h' => h h'.1)]
theorem gp_opn_nxt {s' : gp_S} (e : gp_nxt s = some s') : gp_opn s' := by
  obtain ⟨a1, a2, a3, a4⟩ := gp_nxt_1 e
  have h1 : s'.2.1.1 = s.2.1.1 + 1 := by rw [a4, gp_eR_1]
  refine ⟨by omega, by rw [a3]; simp, by omega, fun _ => a3, fun h => by omega, fun h => by omega⟩
theorem gp_gNxt (hg : gp_gS M s) (h7 : s.2.1.1 ≤ 7) (h1 : s.2.2.1.length ≤ 1) : gp_gE M (gp_nxt s) (gz_bd2 (f3_dueInNextRule M) fun v M' => some (v, M')) := by
  unfold f3_dueInNextRule
  rw [gp_eL, hg.2, nI_1, gp_gs]
  have L1 : gp_gL M (gz_w M 3 1 (nI (s.2.1.1 + 1))) := ⟨rfl, fun c hc => gp_wc _ hc⟩
  by_cases h : s.2.1.1 + 1 < 8
  · have e : gp_nxt s = some (0, gp_eR s, [], none) := by unfold gp_nxt; rw [if_pos h]
    rw [if_neg (by exact nI_ge h (by decide)), e]
    refine ⟨_, rfl, L1, ?_, ?_⟩
    · rw [gp_gn (by omega), hg.1]
      show nI (s.2.2.1.length - 1) = nI 0
      congr 1
      omega
    · rw [gp_gs, gp_eR_1]
  · have e : gp_nxt s = none := by unfold gp_nxt; rw [if_neg h]
    rw [if_pos (by exact nI_le (show 8 ≤ s.2.1.1 + 1 by omega) (by omega)), e]
    exact ⟨_, rfl, L1⟩
theorem gp_gStep (hc : c < 256) (h : gp_opn s) (hg : gp_gS M s) : gp_gE M (gp_stp s c) (f3_dueBehind (nI s.1) (nI c) M) ∧ ∀ s', gp_stp s c = some s' → gp_opn s' := by
  have hop := h
  obtain ⟨a1, a2, a3, a4, a5, a6⟩ := h
  have L0 : gp_gL M M := ⟨rfl, fun _ _ => rfl⟩
  have cN : ∀ n : Nat, n < 2 ^ 31 → (nI c = nI n ↔ c = n) := fun n hn => nI_eq (by omega) hn
  have hcases : s.1 = 0 ∨ s.1 = 1 ∨ s.1 = 2 ∨ s.1 = 3 ∨ s.1 = 4 ∨ s.1 = 5 := by omega
  unfold f3_dueBehind
  rw [nI_toInt (by omega)]
  rcases hcases with e | e | e | e | e | e
  · -- a mode's digit
    have hl := a4 e
    rw [e, if_neg (by omega), if_pos (by rfl), gp_isMDE hc, gp_eB2]
    unfold gp_stp
    rw [if_pos e]
    by_cases hd : 48 ≤ c ∧ c ≤ 51
    · rw [if_pos hd, if_pos hd, if_neg (by decide)]
      refine ⟨⟨M, rfl, L0, ?_, hg.2⟩, fun s' hs => ?_⟩
      · rw [hg.1, hl]; rfl
      · have hs := Option.some.inj hs
        subst hs
        exact ⟨by show 1 ≤ 5; omega, by show 1 ≤ 7; omega, a3, fun h => absurd h (by show ¬ (1 : Nat) = 0; omega), fun _ => by show 0 < 1; omega, fun _ => rfl⟩
    · rw [if_neg hd, if_neg hd, if_pos rfl]
      exact ⟨⟨M, rfl, L0⟩, fun s' hs => by cases hs⟩
  · -- :
    rw [e, if_neg (by omega), if_neg (by decide), if_pos (by rfl)]
    unfold gp_stp
    rw [if_neg (by omega), if_pos e]
    by_cases h58 : c = 58
    · rw [if_pos h58, if_pos (show nI c = (58 : Int32) by rw [h58]; rfl)]
      refine ⟨⟨M, rfl, L0, hg.1, hg.2⟩, fun s' hs => ?_⟩
      have hs := Option.some.inj hs
      subst hs
      exact ⟨by show 2 ≤ 5; omega, a2, a3, fun h => absurd h (by show ¬ (2 : Nat) = 0; omega), fun _ => a5 (by omega), fun h => absurd h (by show ¬ ((2 : Nat) = 1 ∨ (2 : Nat) = 4 ∨ (2 : Nat) = 5); omega)⟩
    · rw [if_neg h58, if_neg (show ¬ nI c = (58 : Int32) from fun e => h58 ((cN 58 (by omega)).mp e))]
      exact ⟨⟨M, rfl, L0⟩, fun s' hs => by cases hs⟩
  · -- a part
    rw [e, if_neg (by omega), if_neg (by decide), if_neg (by decide), if_pos (by rfl)]
    unfold gp_stp
    rw [if_neg (by omega), if_neg (by omega), if_pos e]
    have hI := gp_gInP hc hop (by omega) hg
    refine ⟨?_, fun s' hs => (gp_inP_opn hop (by omega) hs).1⟩
    cases hp : gp_inP s c with
    | none =>
      rw [hp] at hI
      obtain ⟨M', i1, i2⟩ := hI
      rw [i1, gp_eB2]
      exact ⟨M', rfl, i2⟩
    | some s' =>
      rw [hp] at hI
      obtain ⟨M', i1, i2, i3⟩ := hI
      rw [i1, gp_eB2]
      exact ⟨M', rfl, i2, i3⟩
  · -- behind a part
    have hlen := a5 (by omega)
    rw [e, if_neg (by omega), if_neg (by decide), if_neg (by decide), if_neg (by decide), if_pos (by rfl)]
    have est : gp_stp s c = (if gp_isL c = true ∨ c = 40 then gp_inP s c
    else if c = 42 ∨ c = 43 ∨ c = 63 then some (gp_suf s c)
    else if c = 124 then some (2, (gp_eCh s).2.1, (gp_eCh s).2.2.1, none)
    else if c = 41 then (if s.2.2.1.length ≤ 1 then none else some (gp_cls s))
    else if s.2.2.1.length ≤ 1 then (if c = 60 then some (gp_act1 s 5 1) else if c = 62 then some (gp_act1 s 4 2) else if c = 61 then some (gp_act1 s 4 3) else if c = 59 then gp_nxt s else none)
    else none) := by
      unfold gp_stp
      rw [if_neg (by omega), if_neg (by omega), if_neg (by omega), if_pos e]
    have hI := gp_gInP hc hop (by omega) hg
    have part : gp_gE M (gp_inP s c) (gz_bd2 (f3_dueBehindPart_13 (nI c) M) fun v18 M19 => some (v18, M19)) := by
      unfold f3_dueBehindPart_13
      cases hp : gp_inP s c with
      | none =>
        rw [hp] at hI
        obtain ⟨M', i1, i2⟩ := hI
        rw [i1, gp_eB2, gp_eB2]
        exact ⟨M', rfl, i2⟩
      | some s' =>
        rw [hp] at hI
        obtain ⟨M', i1, i2, i3⟩ := hI
        rw [i1, gp_eB2, gp_eB2]
        exact ⟨M', rfl, i2, i3⟩
    unfold f3_dueBehindPart
    rw [gp_isLetE hc, gp_eB2]
    by_cases hl : gp_isL c = true
    · have es : gp_stp s c = gp_inP s c := by rw [est, if_pos (Or.inl hl)]
      rw [es]
      refine ⟨?_, fun s' hs => (gp_inP_opn hop (by omega) hs).1⟩
      rw [show (if gp_isL c = true then (1 : Int32) else 0) = 1 from if_pos hl, if_neg (by decide)]
      exact part
    · rw [show (if gp_isL c = true then (1 : Int32) else 0) = 0 from if_neg hl, if_pos rfl]
      by_cases h40 : c = 40
      · have es : gp_stp s c = gp_inP s c := by rw [est, if_pos (Or.inr h40)]
        rw [es]
        refine ⟨?_, fun s' hs => (gp_inP_opn hop (by omega) hs).1⟩
        rw [if_pos (show nI c = (40 : Int32) by rw [h40]; rfl)]
        exact part
      · have hn : ¬ (gp_isL c = true ∨ c = 40) := fun h => h.elim hl h40
        rw [if_neg hn] at est
        -- a sign behind a part that goes on there
        have go : ∀ s' : gp_S, gp_stp s c = some s' → gp_opn s' → gp_gS M s' → ∀ a : Option (Int32 × gz_M), a = some (nI s'.1, M) → gp_gE M (gp_stp s c) a ∧ ∀ s', gp_stp s c = some s' → gp_opn s' := by
          intro s' h1 h2 h3 a h4
          rw [h1, h4]
          exact ⟨⟨M, rfl, L0, h3⟩, fun s'' hs => by cases hs; exact h2⟩
        have no : gp_stp s c = none → ∀ a : Option (Int32 × gz_M), (∃ M', a = some (-1, M') ∧ gp_gL M M') → gp_gE M (gp_stp s c) a ∧ ∀ s', gp_stp s c = some s' → gp_opn s' := by
          intro h1 a h4
          rw [h1]
          exact ⟨h4, fun s'' hs => by cases hs⟩
        have hopS : ∀ (d : Nat) (T : gp_T) (pt : Option gp_P), (d = 2 ∨ d = 3) → T.1 = s.2.1.1 → gp_opn (d, T, s.2.2.1, pt) := fun d T pt hd hT => ⟨by show d ≤ 5; omega, a2, by show T.1 ≤ 7; omega, fun h => absurd h (by show ¬ d = 0; omega), fun _ => hlen, fun h => absurd h (by show ¬ (d = 1 ∨ d = 4 ∨ d = 5); omega)⟩
        have hopA : ∀ d : Nat, (d = 4 ∨ d = 5) → s.2.2.1.length ≤ 1 → ∀ a, gp_opn (gp_act1 s d a) := fun d hd h1 a => ⟨by show d ≤ 5; omega, a2, a3, fun h => absurd h (by show ¬ d = 0; omega), fun _ => hlen, fun _ => by show s.2.2.1.length = 1; omega⟩
        have hgS : ∀ (d : Nat) (T : gp_T) (pt : Option gp_P), T.1 = s.2.1.1 → gp_gS M (d, T, s.2.2.1, pt) := fun d T pt hT => ⟨hg.1, by rw [show ((d, T, s.2.2.1, pt) : gp_S).2.1.1 = s.2.1.1 from hT]; exact hg.2⟩
        have h0 : ∀ {A C : Option (Int32 × gz_M)}, (if M.1 3 0 = 0 then A else C) = if s.2.2.1.length ≤ 1 then A else C := by
          intro A C
          rw [hg.1]
          by_cases h1 : s.2.2.1.length ≤ 1
          · rw [if_pos h1, if_pos (by rw [show s.2.2.1.length - 1 = 0 by omega]; rfl)]
          · rw [if_neg h1, if_neg (show ¬ nI (s.2.2.1.length - 1) = (0 : Int32) from fun e => by have := (nI_eq (b := 0) (by omega) (by omega)).mp e; omega)]
        have hsuf : c = 42 ∨ c = 43 ∨ c = 63 → (gp_suf s c).1 = 3 ∧ gp_opn (gp_suf s c) ∧ gp_gS M (gp_suf s c) := by
          intro _
          unfold gp_suf
          split
          · exact ⟨e, hop, hg⟩
          · refine ⟨rfl, hopS 3 _ _ (Or.inr rfl) ?_, hgS 3 _ _ ?_⟩ <;> (split <;> rfl)
        unfold f3_dueBehindPart_144
        simp only [h0]
        by_cases h41 : c = 41
        · subst h41
          rw [if_neg (by decide), if_neg (by decide), if_pos rfl] at est
          rw [if_neg (by decide), if_pos (by rfl), gp_eL, hg.1]
          have L1 : gp_gL M (gz_w M 3 0 (nI (s.2.2.1.length - 1) - 1)) := ⟨rfl, fun c hc => gp_wc _ hc⟩
          by_cases h1 : s.2.2.1.length ≤ 1
          · rw [if_pos h1] at est
            refine no est _ ⟨_, ?_, L1⟩
            rw [gp_gs, if_neg]
            · rfl
            · intro hle
              have := Int32.le_iff_toInt_le.mp hle
              rw [gp_pI (by omega), show ((0 : Int32)).toInt = 0 by decide] at this
              omega
          · rw [if_neg h1] at est
            obtain ⟨q, hq⟩ : ∃ q, s.2.2.1.length = q + 2 := ⟨s.2.2.1.length - 2, by omega⟩
            have hcl := gp_eCh_len s
            have hlc : (gp_cls s).1 = 3 ∧ (gp_cls s).2.2.1.length = q + 1 ∧ (gp_cls s).2.1.1 = s.2.1.1 := by
              unfold gp_cls
              split
              · rename_i hL
                rw [hL] at hcl
                refine ⟨rfl, ?_, hcl.2⟩
                have := hcl.1
                rw [List.length_cons] at this
                dsimp only
                omega
              · rename_i hL
                rw [hL] at hcl
                have := hcl.1
                simp at this
                omega
            rw [est]
            refine ⟨⟨_, ?_, L1, ?_, ?_⟩, fun s' hs => ?_⟩
            · rw [gp_gs, hq, show q + 2 - 1 = q + 1 by omega, nI_pred, if_pos (nI_pos' (by omega)), gp_eB2, hlc.1]
              rfl
            · rw [gp_gs, hlc.2.1, hq, show q + 2 - 1 = q + 1 by omega, nI_pred]
              rfl
            · rw [gp_gn (by omega), hlc.2.2]; exact hg.2
            · have hs := Option.some.inj hs
              subst hs
              exact ⟨by omega, by omega, by omega, by omega, by omega, by omega⟩
        · by_cases h42 : c = 42
          · subst h42
            rw [if_pos (by decide)] at est
            obtain ⟨b1, b2, b3⟩ := hsuf (by decide)
            exact go _ est b2 b3 _ (by rw [b1]; rfl)
          · by_cases h43 : c = 43
            · subst h43
              rw [if_pos (by decide)] at est
              obtain ⟨b1, b2, b3⟩ := hsuf (by decide)
              exact go _ est b2 b3 _ (by rw [b1]; rfl)
            · by_cases h63 : c = 63
              · subst h63
                rw [if_pos (by decide)] at est
                obtain ⟨b1, b2, b3⟩ := hsuf (by decide)
                exact go _ est b2 b3 _ (by rw [b1]; rfl)
              · rw [if_neg (show ¬ (c = 42 ∨ c = 43 ∨ c = 63) by omega)] at est
                by_cases h124 : c = 124
                · subst h124
                  rw [if_pos rfl] at est
                  have hcl := gp_eCh_len s
                  refine go _ est ⟨by show 2 ≤ 5; omega, by show (gp_eCh s).2.2.1.length ≤ 7; omega, by show (gp_eCh s).2.1.1 ≤ 7; omega, fun h => absurd h (by show ¬ (2 : Nat) = 0; omega), fun _ => by show 0 < (gp_eCh s).2.2.1.length; omega, fun h => absurd h (by show ¬ ((2 : Nat) = 1 ∨ (2 : Nat) = 4 ∨ (2 : Nat) = 5); omega)⟩ ⟨?_, ?_⟩ _ rfl
                  · show M.1 3 0 = nI ((gp_eCh s).2.2.1.length - 1)
                    rw [hcl.1]; exact hg.1
                  · show M.1 3 1 = nI (gp_eCh s).2.1.1
                    rw [hcl.2]; exact hg.2
                · rw [if_neg h124, if_neg h41] at est
                  by_cases h1 : s.2.2.1.length ≤ 1
                  · rw [if_pos h1] at est
                    simp only [h1, if_true]
                    by_cases h60 : c = 60
                    · subst h60
                      rw [if_pos rfl] at est
                      exact go _ est (hopA 5 (by omega) h1 1) (hgS 5 _ _ rfl) _ rfl
                    · by_cases h62 : c = 62
                      · subst h62
                        rw [if_neg (by decide), if_pos rfl] at est
                        exact go _ est (hopA 4 (by omega) h1 2) (hgS 4 _ _ rfl) _ rfl
                      · by_cases h61 : c = 61
                        · subst h61
                          rw [if_neg (by decide), if_neg (by decide), if_pos rfl] at est
                          exact go _ est (hopA 4 (by omega) h1 3) (hgS 4 _ _ rfl) _ rfl
                        · by_cases h59 : c = 59
                          · subst h59
                            rw [if_neg (by decide), if_neg (by decide), if_neg (by decide), if_pos rfl] at est
                            rw [est]
                            refine ⟨?_, fun s' hs => gp_opn_nxt hs⟩
                            have := gp_gNxt hg a3 h1
                            rw [if_neg (by decide), if_neg (by decide), if_neg (by decide), if_neg (by decide), if_pos (by rfl)]
                            cases hp : gp_nxt s with
                            | none =>
                              rw [hp] at this
                              obtain ⟨M', i1, i2⟩ := this
                              exact ⟨M', by rw [i1]; rfl, i2⟩
                            | some s' =>
                              rw [hp] at this
                              obtain ⟨M', i1, i2, i3⟩ := this
                              exact ⟨M', by rw [i1]; rfl, i2, i3⟩
                          · rw [if_neg h60, if_neg h62, if_neg h61, if_neg h59] at est
                            refine no est _ ⟨M, ?_, L0⟩
                            have nn : ∀ n : Nat, n < 2 ^ 31 → c ≠ n → ¬ nI c = nI n := fun n h1 h2 e => h2 ((cN n h1).mp e)
                            rw [if_neg (show ¬ nI c = (40 : Int32) from nn 40 (by omega) h40), if_neg (show ¬ nI c = (41 : Int32) from nn 41 (by omega) h41), if_neg (show ¬ nI c = (42 : Int32) from nn 42 (by omega) h42), if_neg (show ¬ nI c = (43 : Int32) from nn 43 (by omega) h43), if_neg (show ¬ nI c = (59 : Int32) from nn 59 (by omega) h59), if_neg (show ¬ nI c = (60 : Int32) from nn 60 (by omega) h60), if_neg (show ¬ nI c = (61 : Int32) from nn 61 (by omega) h61), if_neg (show ¬ nI c = (62 : Int32) from nn 62 (by omega) h62), if_neg (show ¬ nI c = (63 : Int32) from nn 63 (by omega) h63), if_neg (show ¬ nI c = (124 : Int32) from nn 124 (by omega) h124)]
                            rfl
                  · rw [if_neg h1] at est
                    simp only [h1, if_false]
                    refine no est _ ⟨M, ?_, L0⟩
                    have nn : ∀ n : Nat, n < 2 ^ 31 → c ≠ n → ¬ nI c = nI n := fun n h1 h2 e => h2 ((cN n h1).mp e)
                    rw [if_neg (show ¬ nI c = (40 : Int32) from nn 40 (by omega) h40), if_neg (show ¬ nI c = (41 : Int32) from nn 41 (by omega) h41), if_neg (show ¬ nI c = (42 : Int32) from nn 42 (by omega) h42), if_neg (show ¬ nI c = (43 : Int32) from nn 43 (by omega) h43), if_neg (show ¬ nI c = (63 : Int32) from nn 63 (by omega) h63), if_neg (show ¬ nI c = (124 : Int32) from nn 124 (by omega) h124)]
                    simp only [ite_self]
                    rfl
  · -- an act's digit
    have hlen := a6 (by omega)
    rw [e, if_neg (by omega), if_neg (by decide), if_neg (by decide), if_neg (by decide), if_neg (by decide), if_pos (by rfl), gp_isMDE hc, gp_eB2]
    unfold gp_stp
    rw [if_neg (by omega), if_neg (by omega), if_neg (by omega), if_neg (by omega), if_pos e]
    by_cases hd : 48 ≤ c ∧ c ≤ 51
    · rw [if_pos hd, if_pos hd, if_neg (by decide)]
      refine ⟨⟨M, rfl, L0, hg.1, hg.2⟩, fun s' hs => ?_⟩
      have hs := Option.some.inj hs
      subst hs
      exact ⟨by show 5 ≤ 5; omega, a2, a3, fun h => absurd h (by show ¬ (5 : Nat) = 0; omega), fun _ => a5 (by omega), fun _ => hlen⟩
    · rw [if_neg hd, if_neg hd, if_pos rfl]
      exact ⟨⟨M, rfl, L0⟩, fun s' hs => by cases hs⟩
  · -- behind an act
    have hlen := a6 (by omega)
    rw [e, if_pos (by omega)]
    unfold gp_stp
    rw [if_neg (by omega), if_neg (by omega), if_neg (by omega), if_neg (by omega), if_neg (by omega)]
    by_cases h59 : c = 59
    · rw [if_pos h59, if_pos (show nI c = (59 : Int32) by rw [h59]; rfl)]
      exact ⟨gp_gNxt hg a3 (by omega), fun s' hs => gp_opn_nxt hs⟩
    · rw [if_neg h59, if_neg (show ¬ nI c = (59 : Int32) from fun e => h59 ((cN 59 (by omega)).mp e))]
      exact ⟨⟨M, rfl, L0⟩, fun s' hs => by cases hs⟩
end
end
section
/-! rules told as a text: what the machine keeps -/
def gp_u10 (T : gp_T) (m : Nat) : Nat := min (T.2.2 7 m) 10
/-- a digit of an act -/
def gp_dg (T : gp_T) (j : Nat) : Prop := ∃ d, d < 4 ∧ T.2.1 j = nI d
def gp_wTb (T : gp_T) : Prop := (∀ m, m < 4 → T.2.2 8 m < 2 ^ gp_u10 T m ∧ (∀ x, x < 10 → T.2.2 (10 + m) x < 2 ^ gp_u10 T m ∧ (T.2.2 7 m ≤ x → T.2.2 (10 + m) x = 0)) ∧ ∀ s, s < 8 → T.2.2 (15 + m) s < 2 ^ gp_u10 T m) ∧ ∀ j, j < T.1 → T.2.2 1 j < 4 ∧ T.2.2 2 j ≤ T.2.2 7 (T.2.2 1 j) ∧ T.2.2 3 j < 4 ∧ T.2.2 5 j < 2 ^ gp_u10 T (T.2.2 1 j) ∧ T.2.2 6 j < 2 ∧ (2 ≤ T.2.2 3 j → gp_dg T j)
def gp_okP (T : gp_T) (p : gp_P) : Prop := p.1 < 2 ^ gp_u10 T (gp_md T) ∧ p.2.1 < 2 ^ gp_u10 T (gp_md T)
def gp_okO (T : gp_T) (o : Option gp_P) : Prop := ∀ p, o = some p → gp_okP T p
def gp_wS (s : gp_S) : Prop := gp_opn s ∧ gp_wTb s.2.1 ∧ (1 ≤ s.1 → gp_md s.2.1 < 4 ∧ s.2.1.2.2 2 s.2.1.1 ≤ s.2.1.2.2 7 (gp_md s.2.1) ∧ s.2.1.2.2 3 s.2.1.1 < 4 ∧ (2 ≤ s.2.1.2.2 3 s.2.1.1 → s.1 = 4 ∨ gp_dg s.2.1 s.2.1.1) ∧ (∀ x, x ∈ s.2.2.1 → gp_okO s.2.1 x.1 ∧ gp_okO s.2.1 x.2) ∧ gp_okO s.2.1 s.2.2.2) ∧ (3 ≤ s.1 → s.2.2.2 ≠ none) ∧ (s.1 = 1 ∨ s.1 = 2 → s.2.2.2 = none ∧ ∀ x L, s.2.2.1 = x :: L → x.1 = none)
/-- the rows of rules and the letters counted are the same -/
def gp_sm1 (T T' : gp_T) : Prop := T'.1 = T.1 ∧ T'.2.1 = T.2.1 ∧ (∀ c, c ≤ 8 → T'.2.2 c = T.2.2 c) ∧ (∀ c, 15 ≤ c → T'.2.2 c = T.2.2 c)
theorem gp_sm1.md {T T' : gp_T} (h : gp_sm1 T T') : gp_md T' = gp_md T := by unfold gp_md; rw [h.2.2.1 1 (by omega), h.1]
theorem gp_sm1.u {T T' : gp_T} (h : gp_sm1 T T') (m : Nat) : gp_u10 T' m = gp_u10 T m := by unfold gp_u10; rw [h.2.2.1 7 (by omega)]
theorem gp_sm1.ok {T T' : gp_T} (h : gp_sm1 T T') {o : Option gp_P} (ho : gp_okO T o) : gp_okO T' o := fun p hp => by
  have := ho p hp
  unfold gp_okP at this ⊢
  rw [h.md, h.u]
  exact this
theorem gp_lnk_sm (T : gp_T) (a b : Nat) (hm : gp_md T < 4) : gp_sm1 T (gp_lnk T a b) := by
  refine ⟨rfl, rfl, fun c hc => ?_, fun c hc => ?_⟩
  · funext y
    show (if c = 10 + gp_md T ∧ y < 10 ∧ a.testBit y = true then T.2.2 c y ||| b else T.2.2 c y) = _
    rw [if_neg (fun h => by omega)]
  · funext y
    show (if c = 10 + gp_md T ∧ y < 10 ∧ a.testBit y = true then T.2.2 c y ||| b else T.2.2 c y) = _
    rw [if_neg (fun h => by omega)]
theorem gp_sm1.refl (T : gp_T) : gp_sm1 T T := ⟨rfl, rfl, fun _ _ => rfl, fun _ _ => rfl⟩
theorem gp_lnk_w {T : gp_T} (hm : gp_md T < 4) (hT : gp_wTb T) {a b : Nat} (ha : a < 2 ^ gp_u10 T (gp_md T)) (hb : b < 2 ^ gp_u10 T (gp_md T)) : gp_wTb (gp_lnk T a b) := by
  have hs := gp_lnk_sm T a b hm
  refine ⟨fun m hm4 => ?_, fun j hj => ?_⟩
  · obtain ⟨h1, h2, h3⟩ := hT.1 m hm4
    rw [hs.u, hs.2.2.1 8 (by omega), hs.2.2.1 7 (by omega)]
    refine ⟨h1, fun x hx => ?_, fun s hs8 => by rw [hs.2.2.2 (15 + m) (by omega)]; exact h3 s hs8⟩
    show (if 10 + m = 10 + gp_md T ∧ x < 10 ∧ a.testBit x = true then T.2.2 (10 + m) x ||| b else T.2.2 (10 + m) x) < _ ∧ (_ → (if 10 + m = 10 + gp_md T ∧ x < 10 ∧ a.testBit x = true then T.2.2 (10 + m) x ||| b else T.2.2 (10 + m) x) = 0)
    split
    · rename_i hc
      have hmm : m = gp_md T := by omega
      subst hmm
      refine ⟨Nat.or_lt_two_pow (h2 x hx).1 hb, fun hle => ?_⟩
      have hbit := hc.2.2
      rw [Nat.testBit_lt_two_pow (Nat.lt_of_lt_of_le ha (Nat.pow_le_pow_right (by decide) (by unfold gp_u10; omega)))] at hbit
      cases hbit
    · exact h2 x hx
  · have h1 := hT.2 j (by rw [hs.1] at hj; exact hj)
    rw [hs.2.2.1 1 (by omega), hs.2.2.1 2 (by omega), hs.2.2.1 3 (by omega), hs.2.2.1 5 (by omega), hs.2.2.1 6 (by omega), hs.2.2.1 7 (by omega), hs.u]
    unfold gp_dg at h1 ⊢
    rw [hs.2.1]
    exact h1
theorem gp_mg_ok {T : gp_T} {c p : gp_P} (hc : gp_okP T c) (hp : gp_okP T p) : gp_okP T (gp_mgP c p) := by
  refine ⟨Nat.or_lt_two_pow hc.1 ?_, Nat.or_lt_two_pow hp.2 ?_⟩
  · split
    · exact hp.1
    · exact Nat.two_pow_pos _
  · split
    · exact hc.2
    · exact Nat.two_pow_pos _
theorem gp_un_ok {T : gp_T} {c p : gp_P} (hc : gp_okP T c) (hp : gp_okP T p) : gp_okP T (gp_unP c p) := ⟨Nat.or_lt_two_pow hc.1 hp.1, Nat.or_lt_two_pow hc.2 hp.2⟩
theorem gp_mgO_ok {T : gp_T} {c p : Option gp_P} (hc : gp_okO T c) (hp : gp_okO T p) : gp_okO T (gp_mgO c p) := by
  intro q hq
  cases c with
  | none => exact hp q hq
  | some c =>
    cases p with
    | none => cases hq; exact hc _ rfl
    | some p => cases hq; exact gp_mg_ok (hc c rfl) (hp p rfl)
theorem gp_unO_ok {T : gp_T} {c p : Option gp_P} (hc : gp_okO T c) (hp : gp_okO T p) : gp_okO T (gp_unO c p) := by
  intro q hq
  cases c with
  | none => exact hp q hq
  | some c =>
    cases p with
    | none => cases hq; exact hc _ rfl
    | some p => cases hq; exact gp_un_ok (hc c rfl) (hp p rfl)
theorem gp_noneO (T : gp_T) : gp_okO T none := fun p hp => by cases hp
/-- what the end of a part keeps: same rows, the pieces right -/
theorem gp_eP_f {s : gp_S} (h : gp_wS s) (h1 : 1 ≤ s.1) : gp_sm1 s.2.1 (gp_eP s).2.1 ∧ gp_wTb (gp_eP s).2.1 ∧ (∀ x, x ∈ (gp_eP s).2.2.1 → gp_okO (gp_eP s).2.1 x.1 ∧ gp_okO (gp_eP s).2.1 x.2) ∧ ∃ ch wh L, s.2.2.1 = (ch, wh) :: L ∧ (gp_eP s).2.2.1 = (gp_mgO ch s.2.2.2, wh) :: L ∧ (gp_eP s).2.2.2 = none ∧ (gp_eP s).1 = s.1 ∧ (gp_eP s).2.1 = gp_lnO s.2.1 ch s.2.2.2 := by
  obtain ⟨ho, hT, hc, hp, hq⟩ := h
  obtain ⟨c1, c2, c3, c4, c5, c6⟩ := hc h1
  have hl := ho.2.2.2.2.1 h1
  obtain ⟨x, L, hL⟩ : ∃ x L, s.2.2.1 = x :: L := by
    cases h : s.2.2.1 with
    | nil => rw [h] at hl; exact absurd hl (by simp)
    | cons x L => exact ⟨x, L, rfl⟩
  obtain ⟨ch, wh⟩ := x
  have e : gp_eP s = (s.1, gp_lnO s.2.1 ch s.2.2.2, (gp_mgO ch s.2.2.2, wh) :: L, none) := by
    unfold gp_eP
    rw [hL]
  have hx := c5 (ch, wh) (by rw [hL]; exact List.mem_cons_self)
  have hsm : gp_sm1 s.2.1 (gp_lnO s.2.1 ch s.2.2.2) := by
    unfold gp_lnO
    split
    · exact gp_lnk_sm _ _ _ c1
    · exact gp_sm1.refl _
  have hw : gp_wTb (gp_lnO s.2.1 ch s.2.2.2) := by
    unfold gp_lnO
    split
    · rename_i c p e2
      exact gp_lnk_w c1 hT (hx.1 c rfl).2 (c6 p e2).1
    · exact hT
  rw [e]
  refine ⟨hsm, hw, fun y hy => ?_, ch, wh, L, hL, rfl, rfl, rfl, rfl⟩
  rcases List.mem_cons.mp hy with rfl | hy
  · exact ⟨hsm.ok (gp_mgO_ok hx.1 c6), hsm.ok hx.2⟩
  · have := c5 y (by rw [hL]; exact List.mem_cons_of_mem _ hy)
    exact ⟨hsm.ok this.1, hsm.ok this.2⟩
theorem gp_eCh_f {s : gp_S} (h : gp_wS s) (h1 : 1 ≤ s.1) : ∃ ch wh L, s.2.2.1 = (ch, wh) :: L ∧ gp_eCh s = (s.1, (gp_eP s).2.1, (none, gp_unO wh (gp_mgO ch s.2.2.2)) :: L, none) := by
  obtain ⟨h2, h3, h4, ch, wh, L, e1, e2, e3, e4, e5⟩ := gp_eP_f h h1
  refine ⟨ch, wh, L, e1, ?_⟩
  unfold gp_eCh
  rw [e2]
theorem gp_unO_some {w c : Option gp_P} (h : c ≠ none) : ∃ p, gp_unO w c = some p := by
  cases c with
  | none => exact absurd rfl h
  | some c => cases w with
    | none => exact ⟨c, rfl⟩
    | some w => exact ⟨_, rfl⟩
theorem gp_mgO_some {c p : Option gp_P} (h : p ≠ none) : gp_mgO c p ≠ none := by
  cases p with
  | none => exact absurd rfl h
  | some p => cases c <;> simp [gp_mgO]
/-- a rule's end, told -/
theorem gp_eR_f {s : gp_S} (h : gp_wS s) (h3 : 3 ≤ s.1) : ∃ ch wh L w, s.2.2.1 = (ch, wh) :: L ∧ gp_unO wh (gp_mgO ch s.2.2.2) = some w ∧ gp_okP s.2.1 w ∧ gp_eR s = (s.2.1.1 + 1, s.2.1.2.1, gp_set (gp_set (gp_set (gp_eP s).2.1.2.2 8 (gp_md s.2.1) (s.2.1.2.2 8 (gp_md s.2.1) ||| w.1)) 5 s.2.1.1 w.2.1) 6 s.2.1.1 (if w.2.2 = true then 1 else 0)) := by
  have hw := h
  obtain ⟨ho, hT, hc, hp, hq⟩ := h
  obtain ⟨c1, c2, c3, c4, c5, c6⟩ := hc (by omega)
  obtain ⟨ch, wh, L, e1, e2⟩ := gp_eCh_f hw (by omega)
  obtain ⟨w, e3⟩ := gp_unO_some (w := wh) (gp_mgO_some (c := ch) (hp h3))
  have hsm := (gp_eP_f hw (by omega)).1
  have hx := c5 (ch, wh) (by rw [e1]; exact List.mem_cons_self)
  refine ⟨ch, wh, L, w, e1, e3, gp_unO_ok hx.2 (gp_mgO_ok hx.1 c6) w e3, ?_⟩
  unfold gp_eR
  rw [e2, e3]
  dsimp only
  rw [hsm.1, hsm.2.1, hsm.2.2.1 8 (by omega)]
theorem gp_eR_w {s : gp_S} (h : gp_wS s) (h3 : 3 ≤ s.1) (h4 : s.1 ≠ 4) : gp_wTb (gp_eR s) ∧ (gp_eR s).2.2 7 = s.2.1.2.2 7 := by
  have hw := h
  obtain ⟨ho, hT, hc, hp, hq⟩ := h
  obtain ⟨c1, c2, c3, c4, c5, c6⟩ := hc (by omega)
  obtain ⟨ch, wh, L, w, e1, e2, e3, e4⟩ := gp_eR_f hw h3
  obtain ⟨hsm, hT', _⟩ := gp_eP_f hw (by omega)
  have h7 : (gp_eR s).2.2 7 = s.2.1.2.2 7 := by
    rw [e4]
    funext y
    dsimp only [gp_set]
    rw [if_neg (by omega), if_neg (by omega), if_neg (by omega), hsm.2.2.1 7 (by omega)]
  have hu : ∀ m, gp_u10 (gp_eR s) m = gp_u10 s.2.1 m := fun m => by unfold gp_u10; rw [h7]
  have hr : ∀ a b, a ≠ 8 → a ≠ 5 → a ≠ 6 → (gp_eR s).2.2 a b = (gp_eP s).2.1.2.2 a b := fun a b a1 a2 a3 => by
    rw [e4]
    dsimp only [gp_set]
    rw [if_neg (by omega), if_neg (by omega), if_neg (by omega)]
  refine ⟨⟨fun m hm => ?_, fun j hj => ?_⟩, h7⟩
  · obtain ⟨a1, a2, a3⟩ := hT'.1 m hm
    rw [hsm.u] at a1 a2 a3
    rw [hu]
    refine ⟨?_, fun x hx => ?_, fun z hz => ?_⟩
    · rw [e4]
      dsimp only [gp_set]
      rw [if_neg (by omega), if_neg (by omega)]
      by_cases hm2 : m = gp_md s.2.1
      · rw [if_pos ⟨rfl, hm2⟩]
        rw [hm2]
        rw [hm2, hsm.2.2.1 8 (by omega)] at a1
        exact Nat.or_lt_two_pow a1 e3.1
      · rw [if_neg (fun h => hm2 h.2)]
        exact a1
    · rw [hr _ _ (by omega) (by omega) (by omega), h7]
      have := a2 x hx
      rw [hsm.2.2.1 7 (by omega)] at this
      exact this
    · rw [hr _ _ (by omega) (by omega) (by omega)]
      exact a3 z hz
  · have hj' : j < s.2.1.1 + 1 := by rw [gp_eR_1] at hj; exact hj
    have hd : ∀ j, gp_dg s.2.1 j → gp_dg (gp_eR s) j := fun j h => by
      unfold gp_dg at h ⊢
      rw [e4]
      exact h
    rw [hr 1 j (by omega) (by omega) (by omega), hr 2 j (by omega) (by omega) (by omega), hr 3 j (by omega) (by omega) (by omega), hsm.2.2.1 1 (by omega), hsm.2.2.1 2 (by omega), hsm.2.2.1 3 (by omega), h7, hu]
    by_cases hjj : j = s.2.1.1
    · subst hjj
      have h5 : (gp_eR s).2.2 5 s.2.1.1 = w.2.1 := by
        rw [e4]
        dsimp only [gp_set]
        rw [if_neg (by omega), if_pos ⟨rfl, rfl⟩]
      have h6 : (gp_eR s).2.2 6 s.2.1.1 < 2 := by
        rw [e4]
        dsimp only [gp_set]
        rw [if_pos ⟨rfl, rfl⟩]
        split <;> omega
      exact ⟨c1, c2, c3, by rw [h5]; exact e3.2, h6, fun h => hd _ ((c4 h).resolve_left h4)⟩
    · have h1 := hT.2 j (by omega)
      have h5 : (gp_eR s).2.2 5 j = s.2.1.2.2 5 j := by
        rw [e4]
        dsimp only [gp_set]
        rw [if_neg (by omega), if_neg (by omega), if_neg (by omega), hsm.2.2.1 5 (by omega)]
      have h6 : (gp_eR s).2.2 6 j = s.2.1.2.2 6 j := by
        rw [e4]
        dsimp only [gp_set]
        rw [if_neg (by omega), if_neg (by omega), if_neg (by omega), hsm.2.2.1 6 (by omega)]
      rw [h5, h6]
      exact ⟨h1.1, h1.2.1, h1.2.2.1, h1.2.2.2.1, h1.2.2.2.2.1, fun h => hd _ (h1.2.2.2.2.2 h)⟩
end
section
/-! rules told as a text: each step keeps it -/
theorem gp_opn_stp {s s' : gp_S} {c : Nat} (hc : c < 256) (h : gp_opn s) (e : gp_stp s c = some s') : gp_opn s' := (gp_gStep (M := ((fun k i => if k = 3 ∧ i = 0 then nI (s.2.2.1.length - 1) else nI s.2.1.1), fun _ => 0)) hc h ⟨rfl, rfl⟩).2 s' e
theorem gp_aL_7 (T : gp_T) (c m : Nat) : (gp_aL T c).2.2 7 m = T.2.2 7 m + if m = gp_md T then 1 else 0 := by
  show (if (7 : Nat) = 7 ∧ m = gp_md T then _ else _) = _
  by_cases h : m = gp_md T
  · rw [if_pos ⟨rfl, h⟩, if_pos h, h]
  · rw [if_neg (fun h' => h h'.2), if_neg h, if_neg (by omega), if_neg (by omega)]
    rfl
theorem gp_aL_r (T : gp_T) (c a b : Nat) (h7 : a ≠ 7) (h2 : ¬ (a = 2 ∧ b = T.1)) (h15 : a < 15) : (gp_aL T c).2.2 a b = T.2.2 a b := by
  show (if a = 7 ∧ b = gp_md T then _ else _) = _
  rw [if_neg (fun h => h7 h.1), if_neg h2, if_neg (by omega)]
theorem gp_aL_md (T : gp_T) (c : Nat) : gp_md (gp_aL T c) = gp_md T := gp_aL_r T c 1 T.1 (by omega) (by omega) (by omega)
theorem gp_aL_u (T : gp_T) (c m : Nat) : gp_u10 T m ≤ gp_u10 (gp_aL T c) m := by
  unfold gp_u10
  rw [gp_aL_7]
  omega
theorem gp_pw {a b n : Nat} (h : n < 2 ^ a) (hab : a ≤ b) : n < 2 ^ b := Nat.lt_of_lt_of_le h (Nat.pow_le_pow_right (by decide) hab)
theorem gp_aL_ok {T : gp_T} {c : Nat} {o : Option gp_P} (h : gp_okO T o) : gp_okO (gp_aL T c) o := fun p hp => by
  obtain ⟨h1, h2⟩ := h p hp
  unfold gp_okP
  rw [gp_aL_md]
  exact ⟨gp_pw h1 (gp_aL_u _ _ _), gp_pw h2 (gp_aL_u _ _ _)⟩
theorem gp_pL_ok (T : gp_T) (c : Nat) : gp_okP (gp_aL T c) (gp_pL T) := by
  unfold gp_okP gp_pL gp_u10
  rw [gp_aL_md, gp_aL_7, if_pos rfl]
  split
  · rename_i h
    rw [Nat.one_shiftLeft, Nat.min_eq_left (by omega)]
    exact ⟨Nat.pow_lt_pow_right (by decide) (by omega), Nat.pow_lt_pow_right (by decide) (by omega)⟩
  · exact ⟨Nat.two_pow_pos _, Nat.two_pow_pos _⟩
theorem gp_aL_w {T : gp_T} {c : Nat} (h : gp_wTb T) : gp_wTb (gp_aL T c) := by
  refine ⟨fun m hm => ?_, fun j hj => ?_⟩
  · obtain ⟨a1, a2, a3⟩ := h.1 m hm
    have hu := gp_aL_u T c m
    refine ⟨by rw [gp_aL_r _ _ _ _ (by omega) (by omega) (by omega)]; exact gp_pw a1 hu, fun x hx => ?_, fun z hz => ?_⟩
    · rw [gp_aL_r _ _ _ _ (by omega) (by omega) (by omega), gp_aL_7]
      exact ⟨gp_pw (a2 x hx).1 hu, fun hle => (a2 x hx).2 (by omega)⟩
    · show (if 15 + m = 7 ∧ z = gp_md T then _ else if 15 + m = 2 ∧ z = T.1 then _ else if T.2.2 7 (gp_md T) < 10 ∧ 15 + m = 15 + gp_md T ∧ z < 8 ∧ (c = 46 ∨ c = 97 + z) then _ else _) < _
      rw [if_neg (by omega), if_neg (by omega)]
      split
      · rename_i hcnd
        have hmm : m = gp_md T := by omega
        refine Nat.or_lt_two_pow (gp_pw (a3 z hz) hu) ?_
        rw [Nat.one_shiftLeft, hmm]
        refine Nat.pow_lt_pow_right (by decide) ?_
        unfold gp_u10
        rw [gp_aL_7, if_pos rfl]
        omega
      · exact gp_pw (a3 z hz) hu
  · have hj : j < T.1 := hj
    obtain ⟨b1, b2, b3, b4, b5, b6⟩ := h.2 j hj
    rw [gp_aL_r _ _ 1 j (by omega) (by omega) (by omega), gp_aL_r _ _ 2 j (by omega) (by omega) (by omega), gp_aL_r _ _ 3 j (by omega) (by omega) (by omega), gp_aL_r _ _ 5 j (by omega) (by omega) (by omega), gp_aL_r _ _ 6 j (by omega) (by omega) (by omega), gp_aL_7]
    exact ⟨b1, by omega, b3, gp_pw b4 (gp_aL_u _ _ _), b5, b6⟩
theorem gp_inP_w {s s' : gp_S} {c : Nat} (hc : c < 256) (h : gp_wS s) (h1 : s.1 = 2 ∨ s.1 = 3) (e : gp_inP s c = some s') : gp_wS s' := by
  have hw := h
  obtain ⟨ho, hT, hcc, hp, hq⟩ := h
  have hop := (gp_inP_opn ho (by omega) e).1
  obtain ⟨c1, c2, c3, c4, c5, c6⟩ := hcc (by omega)
  obtain ⟨hsm, hT', hlv, ch, wh, L, e1, e2, e3, e4, e5⟩ := gp_eP_f hw (by omega)
  have hmd : gp_md (gp_eP s).2.1 = gp_md s.2.1 := hsm.md
  unfold gp_inP at e
  by_cases hl : gp_isL c = true
  · rw [if_pos hl] at e
    have e := Option.some.inj e
    subst e
    have hT1 : (gp_let s c).2.1.1 = s.2.1.1 := hsm.1
    refine ⟨hop, gp_aL_w hT', fun _ => ⟨?_, ?_, ?_, ?_, ?_, ?_⟩, fun _ => by show some _ ≠ none; simp, fun h => absurd h (by show ¬ ((3 : Nat) = 1 ∨ (3 : Nat) = 2); omega)⟩
    · show gp_md (gp_aL _ c) < 4
      rw [gp_aL_md, hmd]; exact c1
    · show (gp_aL (gp_eP s).2.1 c).2.2 2 (gp_aL (gp_eP s).2.1 c).1 ≤ (gp_aL (gp_eP s).2.1 c).2.2 7 (gp_md (gp_aL (gp_eP s).2.1 c))
      rw [gp_aL_md, gp_aL_7, if_pos rfl]
      have hh : (gp_aL (gp_eP s).2.1 c).2.2 2 (gp_aL (gp_eP s).2.1 c).1 = (gp_eP s).2.1.2.2 2 (gp_eP s).2.1.1 + 1 := by
        unfold gp_aL
        dsimp only
        rw [if_neg (by omega), if_pos ⟨rfl, rfl⟩]
      rw [hh, hmd, hsm.1, hsm.2.2.1 2 (by omega), hsm.2.2.1 7 (by omega)]
      omega
    · show (gp_aL (gp_eP s).2.1 c).2.2 3 (gp_eP s).2.1.1 < 4
      rw [gp_aL_r _ _ _ _ (by omega) (by omega) (by omega), hsm.1, hsm.2.2.1 3 (by omega)]
      exact c3
    · show 2 ≤ (gp_aL (gp_eP s).2.1 c).2.2 3 (gp_eP s).2.1.1 → _ ∨ gp_dg (gp_aL (gp_eP s).2.1 c) (gp_eP s).2.1.1
      rw [gp_aL_r _ _ _ _ (by omega) (by omega) (by omega), hsm.1, hsm.2.2.1 3 (by omega)]
      intro h
      have := (c4 h).resolve_left (by omega)
      right
      show ∃ d, d < 4 ∧ (gp_eP s).2.1.2.1 s.2.1.1 = nI d
      rw [hsm.2.1]
      exact this
    · intro x hx
      have := hlv x hx
      exact ⟨gp_aL_ok this.1, gp_aL_ok this.2⟩
    · intro p hp
      cases hp
      exact gp_pL_ok _ _
  · rw [if_neg hl] at e
    split at e
    · have e := Option.some.inj e
      subst e
      refine ⟨hop, hT', fun _ => ⟨?_, ?_, ?_, ?_, ?_, gp_noneO _⟩, fun h => absurd h (by show ¬ 3 ≤ 2; omega), fun _ => ⟨rfl, fun x L' hx => ?_⟩⟩
      · show gp_md (gp_eP s).2.1 < 4
        rw [hmd]; exact c1
      · show (gp_eP s).2.1.2.2 2 (gp_eP s).2.1.1 ≤ (gp_eP s).2.1.2.2 7 (gp_md (gp_eP s).2.1)
        rw [hmd, hsm.1, hsm.2.2.1 2 (by omega), hsm.2.2.1 7 (by omega)]
        exact c2
      · show (gp_eP s).2.1.2.2 3 (gp_eP s).2.1.1 < 4
        rw [hsm.1, hsm.2.2.1 3 (by omega)]; exact c3
      · show 2 ≤ (gp_eP s).2.1.2.2 3 (gp_eP s).2.1.1 → _ ∨ gp_dg (gp_eP s).2.1 (gp_eP s).2.1.1
        rw [hsm.1, hsm.2.2.1 3 (by omega)]
        intro h
        have := (c4 h).resolve_left (by omega)
        right
        unfold gp_dg at this ⊢
        rw [hsm.2.1]
        exact this
      · intro x hx
        rcases List.mem_cons.mp hx with rfl | hx
        · exact ⟨gp_noneO _, gp_noneO _⟩
        · exact hlv x hx
      · have hx : (none, none) :: (gp_eP s).2.2.1 = x :: L' := hx
        cases hx
        rfl
    · cases e
theorem gp_nxt_w {s s' : gp_S} (h : gp_wS s) (h3 : 3 ≤ s.1) (h4 : s.1 ≠ 4) (e : gp_nxt s = some s') : gp_wS s' := by
  obtain ⟨a1, a2, a3, a4⟩ := gp_nxt_1 e
  obtain ⟨b1, b2⟩ := gp_eR_w h h3 h4
  exact ⟨gp_opn_nxt e, by rw [a4]; exact b1, fun h => by omega, fun h => by omega, fun h => by omega⟩
theorem gp_stp_w {s s' : gp_S} {c : Nat} (hc : c < 256) (h : gp_wS s) (e : gp_stp s c = some s') : gp_wS s' := by
  have hw := h
  have hop' := gp_opn_stp hc h.1 e
  obtain ⟨ho, hT, hcc, hp, hq⟩ := h
  obtain ⟨a1, a2, a3, a4, a5, a6⟩ := ho
  have hcases : s.1 = 0 ∨ s.1 = 1 ∨ s.1 = 2 ∨ s.1 = 3 ∨ s.1 = 4 ∨ s.1 = 5 := by omega
  rcases hcases with h0 | h0 | h0 | h0 | h0 | h0
  · unfold gp_stp at e
    rw [if_pos h0] at e
    split at e
    · rename_i hd
      have e := Option.some.inj e
      subst e
      have hset : ∀ a b, ¬ (b = s.2.1.1) → (gp_beg s c).2.1.2.2 a b = s.2.1.2.2 a b := fun a b hb => by
        show gp_set (gp_set (gp_set _ _ _ _) _ _ _) _ _ _ a b = _
        unfold gp_set
        rw [if_neg (fun h => hb h.2), if_neg (fun h => hb h.2), if_neg (fun h => hb h.2)]
      have hset2 : ∀ a b, 3 < a → (gp_beg s c).2.1.2.2 a b = s.2.1.2.2 a b := fun a b ha => by
        show gp_set (gp_set (gp_set _ _ _ _) _ _ _) _ _ _ a b = _
        unfold gp_set
        rw [if_neg (by omega), if_neg (by omega), if_neg (by omega)]
      have hmd : gp_md (gp_beg s c).2.1 = c - 48 := by
        unfold gp_md gp_beg
        dsimp only [gp_set]
        rw [if_neg (by omega), if_neg (by omega), if_pos ⟨rfl, rfl⟩]
      have hu : ∀ m, gp_u10 (gp_beg s c).2.1 m = gp_u10 s.2.1 m := fun m => by unfold gp_u10; rw [hset2 7 m (by omega)]
      have h2 : (gp_beg s c).2.1.2.2 2 s.2.1.1 = 0 := by
        unfold gp_beg
        dsimp only [gp_set]
        rw [if_neg (by omega), if_pos ⟨rfl, rfl⟩]
      have h3 : (gp_beg s c).2.1.2.2 3 s.2.1.1 = 0 := by
        show gp_set (gp_set (gp_set _ _ _ _) _ _ _) _ _ _ 3 s.2.1.1 = _
        unfold gp_set
        rw [if_pos ⟨rfl, rfl⟩]
      refine ⟨hop', ⟨fun m hm => ?_, fun j hj => ?_⟩, fun _ => ⟨by rw [hmd]; omega, ?_, ?_, ?_, ?_, gp_noneO _⟩, fun h => absurd h (by show ¬ 3 ≤ 1; omega), fun _ => ⟨rfl, fun x L hx => ?_⟩⟩
      · rw [hu, hset2 8 m (by omega), hset2 7 m (by omega)]
        obtain ⟨b1, b2, b3⟩ := hT.1 m hm
        exact ⟨b1, fun x hx => by rw [hset2 _ _ (by omega)]; exact b2 x hx, fun z hz => by rw [hset2 _ _ (by omega)]; exact b3 z hz⟩
      · have hj : j < s.2.1.1 := hj
        have hD : gp_dg s.2.1 j → gp_dg (gp_beg s c).2.1 j := fun h => by
          unfold gp_dg gp_beg at *
          dsimp only [gp_setD]
          rw [if_neg (by omega)]
          exact h
        rw [hset 1 j (by omega), hset 2 j (by omega), hset 3 j (by omega), hset 5 j (by omega), hset 6 j (by omega), hu, hset2 7 _ (by omega)]
        have h1 := hT.2 j hj
        exact ⟨h1.1, h1.2.1, h1.2.2.1, h1.2.2.2.1, h1.2.2.2.2.1, fun h => hD (h1.2.2.2.2.2 h)⟩
      · show (gp_beg s c).2.1.2.2 2 s.2.1.1 ≤ _
        rw [h2]; omega
      · show (gp_beg s c).2.1.2.2 3 s.2.1.1 < 4
        rw [h3]; omega
      · show 2 ≤ (gp_beg s c).2.1.2.2 3 s.2.1.1 → _
        rw [h3]
        exact fun h => absurd h (by omega)
      · intro x hx
        have hx : x ∈ [((none : Option gp_P), (none : Option gp_P))] := hx
        rw [List.mem_singleton] at hx
        subst hx
        exact ⟨gp_noneO _, gp_noneO _⟩
      · have hx : [((none : Option gp_P), (none : Option gp_P))] = x :: L := hx
        cases hx
        rfl
    · cases e
  · unfold gp_stp at e
    rw [if_neg (by omega), if_pos h0] at e
    split at e
    · have e := Option.some.inj e
      subst e
      obtain ⟨c1, c2, c3, c4, c5, c6⟩ := hcc (by omega)
      exact ⟨hop', hT, fun _ => ⟨c1, c2, c3, fun h => Or.inr ((c4 h).resolve_left (by omega)), c5, c6⟩, fun h => absurd h (by show ¬ 3 ≤ 2; omega), fun _ => hq (Or.inl h0)⟩
    · cases e
  · unfold gp_stp at e
    rw [if_neg (by omega), if_neg (by omega), if_pos h0] at e
    exact gp_inP_w hc hw (Or.inl h0) e
  · obtain ⟨c1, c2, c3, c4, c5, c6⟩ := hcc (by omega)
    have hpt := hp (by omega)
    obtain ⟨hsm, hT', hlv, ch, wh, L, e1, e2, e3, e4, e5⟩ := gp_eP_f hw (by omega)
    obtain ⟨ch', wh', L', e1', e6⟩ := gp_eCh_f hw (by omega)
    rw [e1] at e1'
    cases e1'
    have c4' : 2 ≤ s.2.1.2.2 3 s.2.1.1 → gp_dg s.2.1 s.2.1.1 := fun h => (c4 h).resolve_left (by omega)
    have hx := c5 (ch, wh) (by rw [e1]; exact List.mem_cons_self)
    -- the current rule behind the end of a part
    have hcur : gp_md (gp_eP s).2.1 < 4 ∧ (gp_eP s).2.1.2.2 2 (gp_eP s).2.1.1 ≤ (gp_eP s).2.1.2.2 7 (gp_md (gp_eP s).2.1) ∧ (gp_eP s).2.1.2.2 3 (gp_eP s).2.1.1 < 4 ∧ (2 ≤ (gp_eP s).2.1.2.2 3 (gp_eP s).2.1.1 → gp_dg (gp_eP s).2.1 (gp_eP s).2.1.1) := by
      unfold gp_dg at c4' ⊢
      rw [hsm.md, hsm.1, hsm.2.2.1 2 (by omega), hsm.2.2.1 7 (by omega), hsm.2.2.1 3 (by omega), hsm.2.1]
      exact ⟨c1, c2, c3, c4'⟩
    have hun : gp_okO (gp_eP s).2.1 (gp_unO wh (gp_mgO ch s.2.2.2)) := hsm.ok (gp_unO_ok hx.2 (gp_mgO_ok hx.1 c6))
    have hLL : ∀ x, x ∈ L → gp_okO (gp_eP s).2.1 x.1 ∧ gp_okO (gp_eP s).2.1 x.2 := fun x hx => hlv x (by rw [e2]; exact List.mem_cons_of_mem _ hx)
    unfold gp_stp at e
    rw [if_neg (by omega), if_neg (by omega), if_neg (by omega), if_pos h0] at e
    split at e
    · exact gp_inP_w hc hw (Or.inr h0) e
    · split at e
      · have e := Option.some.inj e
        subst e
        unfold gp_suf at hop' ⊢
        cases hpp : s.2.2.2 with
        | none => exact absurd hpp hpt
        | some p =>
          rw [hpp] at hop' c6
          have hpo := c6 p rfl
          have hsm2 : gp_sm1 s.2.1 (if c = 63 then s.2.1 else gp_lnk s.2.1 p.2.1 p.1) := by
            split
            · exact gp_sm1.refl _
            · exact gp_lnk_sm _ _ _ c1
          have hw2 : gp_wTb (if c = 63 then s.2.1 else gp_lnk s.2.1 p.2.1 p.1) := by
            split
            · exact hT
            · exact gp_lnk_w c1 hT hpo.2 hpo.1
          dsimp only at hop' ⊢
          generalize (if c = 63 then s.2.1 else gp_lnk s.2.1 p.2.1 p.1) = T2 at hop' hsm2 hw2 ⊢
          refine ⟨hop', hw2, fun _ => ⟨?_, ?_, ?_, ?_, fun x hx => ⟨hsm2.ok (c5 x hx).1, hsm2.ok (c5 x hx).2⟩, hsm2.ok (fun q hq => ?_)⟩, fun _ => by show some _ ≠ none; simp, fun h => absurd h (by show ¬ ((3 : Nat) = 1 ∨ (3 : Nat) = 2); omega)⟩
          · show gp_md T2 < 4
            rw [hsm2.md]; exact c1
          · show T2.2.2 2 T2.1 ≤ T2.2.2 7 (gp_md T2)
            rw [hsm2.md, hsm2.1, hsm2.2.2.1 2 (by omega), hsm2.2.2.1 7 (by omega)]; exact c2
          · show T2.2.2 3 T2.1 < 4
            rw [hsm2.1, hsm2.2.2.1 3 (by omega)]; exact c3
          · show 2 ≤ T2.2.2 3 T2.1 → _ ∨ gp_dg T2 T2.1
            unfold gp_dg at c4' ⊢
            rw [hsm2.1, hsm2.2.2.1 3 (by omega), hsm2.2.1]
            exact fun h => Or.inr (c4' h)
          · cases hq
            exact hpo
      · split at e
        · have e := Option.some.inj e
          subst e
          rw [e6] at hop' ⊢
          refine ⟨hop', hT', fun _ => ⟨hcur.1, hcur.2.1, hcur.2.2.1, fun h => Or.inr (hcur.2.2.2 h), fun x hx => ?_, gp_noneO _⟩, fun h => absurd h (by show ¬ 3 ≤ 2; omega), fun _ => ⟨rfl, fun x L' hx => ?_⟩⟩
          · have hx : x ∈ (none, gp_unO wh (gp_mgO ch s.2.2.2)) :: L := hx
            rcases List.mem_cons.mp hx with rfl | hx
            · exact ⟨gp_noneO _, hun⟩
            · exact hLL x hx
          · have hx : (none, gp_unO wh (gp_mgO ch s.2.2.2)) :: L = x :: L' := hx
            cases hx
            rfl
        · split at e
          · split at e
            · cases e
            · have e := Option.some.inj e
              subst e
              unfold gp_cls at hop' ⊢
              rw [e6] at hop' ⊢
              dsimp only at hop' ⊢
              refine ⟨hop', hT', fun _ => ⟨hcur.1, hcur.2.1, hcur.2.2.1, fun h => Or.inr (hcur.2.2.2 h), hLL, hun⟩, fun _ => ?_, fun h => absurd h (by show ¬ ((3 : Nat) = 1 ∨ (3 : Nat) = 2); omega)⟩
              obtain ⟨w, hw'⟩ := gp_unO_some (w := wh) (gp_mgO_some (c := ch) hpt)
              show gp_unO wh (gp_mgO ch s.2.2.2) ≠ none
              rw [hw']
              simp
          · split at e
            · -- acts
              have hact : ∀ d a, (d = 5 ∧ a = 1 ∨ d = 4 ∧ (a = 2 ∨ a = 3)) → gp_opn (gp_act1 s d a) → gp_wS (gp_act1 s d a) := by
                intro d a hda hopa
                have hset : ∀ x y, ¬ (x = 3 ∧ y = s.2.1.1) → (gp_act1 s d a).2.1.2.2 x y = s.2.1.2.2 x y := fun x y hxy => by
                  show gp_set _ _ _ _ x y = _
                  unfold gp_set
                  rw [if_neg hxy]
                have h3 : (gp_act1 s d a).2.1.2.2 3 s.2.1.1 = a := by
                  show gp_set _ _ _ _ 3 s.2.1.1 = _
                  unfold gp_set
                  rw [if_pos ⟨rfl, rfl⟩]
                have hmd : gp_md (gp_act1 s d a).2.1 = gp_md s.2.1 := hset 1 _ (by omega)
                have hu : ∀ m, gp_u10 (gp_act1 s d a).2.1 m = gp_u10 s.2.1 m := fun m => by unfold gp_u10; rw [hset 7 m (by omega)]
                have hok : ∀ o, gp_okO s.2.1 o → gp_okO (gp_act1 s d a).2.1 o := fun o ho p hp => by
                  have := ho p hp
                  unfold gp_okP at this ⊢
                  rw [hmd, hu]; exact this
                refine ⟨hopa, ⟨fun m hm => ?_, fun j hj => ?_⟩, fun _ => ⟨by rw [hmd]; exact c1, ?_, ?_, ?_, fun x hx => ⟨hok _ (c5 x hx).1, hok _ (c5 x hx).2⟩, hok _ c6⟩, fun _ => hpt, fun h => absurd h (by show ¬ (d = 1 ∨ d = 2); omega)⟩
                · rw [hu, hset 8 m (by omega), hset 7 m (by omega)]
                  obtain ⟨b1, b2, b3⟩ := hT.1 m hm
                  exact ⟨b1, fun x hx => by rw [hset _ _ (by omega)]; exact b2 x hx, fun z hz => by rw [hset _ _ (by omega)]; exact b3 z hz⟩
                · have hj : j < s.2.1.1 := hj
                  rw [hset 1 j (by omega), hset 2 j (by omega), hset 3 j (by omega), hset 5 j (by omega), hset 6 j (by omega), hu, hset 7 _ (by omega)]
                  exact hT.2 j hj
                · show (gp_act1 s d a).2.1.2.2 2 s.2.1.1 ≤ (gp_act1 s d a).2.1.2.2 7 _
                  rw [hmd, hset 2 _ (by omega), hset 7 _ (by omega)]; exact c2
                · show (gp_act1 s d a).2.1.2.2 3 s.2.1.1 < 4
                  rw [h3]; omega
                · show 2 ≤ (gp_act1 s d a).2.1.2.2 3 s.2.1.1 → d = 4 ∨ _
                  rw [h3]
                  exact fun h => Or.inl (by omega)
              split at e
              · have e := Option.some.inj e; subst e; exact hact 5 1 (by omega) hop'
              · split at e
                · have e := Option.some.inj e; subst e; exact hact 4 2 (by omega) hop'
                · split at e
                  · have e := Option.some.inj e; subst e; exact hact 4 3 (by omega) hop'
                  · split at e
                    · exact gp_nxt_w hw (by omega) (by omega) e
                    · cases e
            · cases e
  · unfold gp_stp at e
    rw [if_neg (by omega), if_neg (by omega), if_neg (by omega), if_neg (by omega), if_pos h0] at e
    obtain ⟨c1, c2, c3, c4, c5, c6⟩ := hcc (by omega)
    split at e
    · rename_i hd
      have e := Option.some.inj e
      subst e
      refine ⟨hop', ⟨hT.1, fun j hj => ?_⟩, fun _ => ⟨c1, c2, c3, fun _ => Or.inr ⟨c - 48, by omega, ?_⟩, c5, c6⟩, fun _ => hp (by omega), fun h => absurd h (by show ¬ ((5 : Nat) = 1 ∨ (5 : Nat) = 2); omega)⟩
      · have hj : j < s.2.1.1 := hj
        obtain ⟨b1, b2, b3, b4, b5, b6⟩ := hT.2 j hj
        refine ⟨b1, b2, b3, b4, b5, ?_⟩
        intro h
        have := b6 h
        unfold gp_dg at this ⊢
        dsimp only [gp_setD]
        rw [if_neg (by omega)]
        exact this
      · dsimp only [gp_setD]
        rw [if_pos rfl]
    · cases e
  · unfold gp_stp at e
    rw [if_neg (by omega), if_neg (by omega), if_neg (by omega), if_neg (by omega), if_neg (by omega)] at e
    split at e
    · exact gp_nxt_w hw (by omega) (by omega) e
    · cases e
theorem gp_w0 : gp_wS gp_s0 := by
  refine ⟨⟨by decide, by decide, by decide, fun _ => rfl, fun h => absurd h (by decide), fun h => absurd h (by decide)⟩, ⟨fun m hm => ⟨Nat.two_pow_pos _, fun x hx => ⟨Nat.two_pow_pos _, fun _ => rfl⟩, fun z hz => Nat.two_pow_pos _⟩, fun j hj => absurd hj (by show ¬ j < 0; omega)⟩, fun h => absurd h (by decide), fun h => absurd h (by decide), fun h => absurd h (by decide)⟩
theorem gp_itr_w {t : List Nat} (ht : ∀ i, i < t.length → t.getD i 0 < 256) : ∀ (n p : Nat) (s s' : gp_S), p + n ≤ t.length → gp_wS s → gp_itr t n p s = some s' → gp_wS s'
  | 0, p, s, s', _, h, e => by cases e; exact h
  | n + 1, p, s, s', hp, h, e => by
    rw [gp_itr] at e
    cases h1 : gp_stp s (t.getD p 0) with
    | none => rw [h1] at e; cases e
    | some s1 =>
      rw [h1] at e
      exact gp_itr_w ht n (p + 1) s1 s' (by omega) (gp_stp_w (ht p (by omega)) h h1) e
/-- the table of right rules is a table -/
theorem gp_tab_w {t : List Nat} (ht : ∀ i, i < t.length → t.getD i 0 < 256) (h : gp_ok t) : gp_wT (gp_tab t) := by
  obtain ⟨h1, s, e, hm, hu⟩ := h
  have hw := gp_itr_w ht t.length 0 gp_s0 s (by omega) gp_w0 e
  have fin : ∀ T : gp_T, gp_wTb T → T.1 ≤ 8 → (∀ m, m < 4 → T.2.2 7 m ≤ 10) → gp_wT T := by
    intro T hT h8 hu
    have hu10 : ∀ m, m < 4 → gp_u10 T m = T.2.2 7 m := fun m hm => by unfold gp_u10; have := hu m hm; omega
    refine ⟨h8, fun j hj => ?_, fun m hm => ?_⟩
    · obtain ⟨b1, b2, b3, b4, b5, b6⟩ := hT.2 j hj
      have := hu _ b1
      rw [hu10 _ b1] at b4
      exact ⟨b1, by omega, b3, b4, b5, b6⟩
    · obtain ⟨b1, b2, b3⟩ := hT.1 m hm
      rw [hu10 m hm] at b1 b2 b3
      exact ⟨hu m hm, b1, fun x hx => (b2 x hx).1, b3⟩
  unfold gp_tab
  rw [e]
  dsimp only
  split
  · rename_i h0
    exact fin _ hw.2.1 (by have := hw.1.2.2.1; omega) hu
  · rename_i h0
    have h35 : 3 ≤ s.1 ∧ s.1 ≠ 4 := by
      rcases hm with hm | hm | hm
      · exact absurd hm h0
      · omega
      · omega
    obtain ⟨b1, b2⟩ := gp_eR_w hw h35.1 h35.2
    exact fin _ b1 (by rw [gp_eR_1]; have := hw.1.2.2.1; omega) (by rw [b2]; exact hu)
end
section
/-! rules told as a text: the component's faults and letters -/
def gp_xC (M : gz_M) (t : List Nat) : Prop := t.length ≤ 80 ∧ M.1 1 1 = nI t.length ∧ ∀ i, i < t.length → M.1 2 i = nI (t.getD i 0) ∧ t.getD i 0 < 256
def gp_ans1 : Option Nat → Int32
  | none => 0
  | some p => (-1) - nI p
section
variable {s : gp_S} {c p : Nat} {M M' : gz_M} {t : List Nat}
theorem gp_xC.fr (h : gp_xC M t) (e1 : M'.1 1 = M.1 1) (e2 : M'.1 2 = M.1 2) : gp_xC M' t := ⟨h.1, by rw [e1]; exact h.2.1, fun i hi => by rw [e2]; exact h.2.2 i hi⟩
theorem gp_xget (h : gp_xC M t) (hp : p < t.length) : f10_get (nI p) M = some (nI (t.getD p 0), M) := by
  have h1 := h.1
  unfold f10_get
  rw [if_neg (nI_pos (by omega)), h.2.1, if_neg (nI_ge hp (by omega)), if_neg (by exact nI_ge (show p < 80 by omega) (by decide)), gp_ckb (by omega) (by omega), nI_clamp (by omega), (h.2.2 p hp).1]
theorem gp_flt14 : ∀ (d n p : Nat) (s : gp_S) (M : gz_M), p + d = t.length → d < n → gp_xC M t → gp_opn s → gp_gS M s → ∃ M', f3_faultOfRules_14 n (nI s.1) (nI p) M = some (gp_ans1 (gp_er t d p s), M') ∧ gp_gL M M' := by
  intro d
  induction d with
  | zero =>
    intro n p s M hp hn hx ho hg
    have h1 := hx.1
    obtain ⟨n, rfl⟩ : ∃ q, n = q + 1 := ⟨n - 1, by omega⟩
    have : p = t.length := by omega
    subst this
    refine ⟨M, ?_, rfl, fun _ _ => rfl⟩
    have h5 := ho.1
    have hl7 := ho.2.1
    rw [f3_faultOfRules_14, hx.2.1, if_pos (nI_le (Nat.le_refl _) (by omega)), gp_er]
    have e1 : f3_faultOfRules_77 1 M = some (0, M) := by unfold f3_faultOfRules_77; rw [if_neg (by decide)]
    have e0 : f3_faultOfRules_77 0 M = some ((-1) - nI t.length, M) := by unfold f3_faultOfRules_77; rw [if_pos rfl, hx.2.1]
    rw [e1, e0, hg.1]
    have z0 : (nI t.length = (0 : Int32)) ↔ t.length = 0 := nI_eq (b := 0) (by omega) (by omega)
    have z5 : (nI s.1 = (5 : Int32)) ↔ s.1 = 5 := nI_eq (b := 5) (by omega) (by omega)
    have z3 : (nI s.1 = (3 : Int32)) ↔ s.1 = 3 := nI_eq (b := 3) (by omega) (by omega)
    have zl : (nI (s.2.2.1.length - 1) = (0 : Int32)) ↔ s.2.2.1.length ≤ 1 := (nI_eq (b := 0) (by omega) (by omega)).trans (by omega)
    by_cases c0 : t.length = 0
    · rw [if_pos (z0.mpr c0), if_pos (Or.inl c0)]; rfl
    · rw [if_neg (fun h => c0 (z0.mp h))]
      by_cases c5 : s.1 = 5
      · rw [if_pos (z5.mpr c5), if_pos (Or.inr (Or.inl c5))]; rfl
      · rw [if_neg (fun h => c5 (z5.mp h))]
        by_cases c3 : s.1 = 3
        · rw [if_pos (z3.mpr c3)]
          by_cases cl : s.2.2.1.length ≤ 1
          · rw [if_pos (zl.mpr cl), if_pos (Or.inr (Or.inr ⟨c3, cl⟩))]; rfl
          · rw [if_neg (fun h => cl (zl.mp h)), if_neg (fun h => h.elim c0 (fun h => h.elim c5 (fun h => cl h.2)))]; rfl
        · rw [if_neg (fun h => c3 (z3.mp h)), if_neg (fun h => h.elim c0 (fun h => h.elim c5 (fun h => c3 h.1)))]; rfl
  | succ d ih =>
    intro n p s M hp hn hx ho hg
    have h1 := hx.1
    obtain ⟨n, rfl⟩ : ∃ q, n = q + 1 := ⟨n - 1, by omega⟩
    have hc := (hx.2.2 p (by omega)).2
    obtain ⟨g1, g2⟩ := gp_gStep (M := M) hc ho hg
    rw [f3_faultOfRules_14, hx.2.1, if_neg (nI_ge (by omega) (by omega)), gp_xget hx (by omega), gp_eB2, gp_er]
    cases h : gp_stp s (t.getD p 0) with
    | none =>
      rw [h] at g1
      obtain ⟨M1, e1, e2⟩ := g1
      rw [e1, gp_eB2, if_pos rfl]
      exact ⟨M1, rfl, e2⟩
    | some s' =>
      rw [h] at g1
      obtain ⟨M1, e1, e2, e3⟩ := g1
      have ho' := g2 s' h
      have h5' := ho'.1
      rw [e1, gp_eB2, if_neg (by rw [gp_m1, gp_ne1 (by omega)]; exact id), gp_eL, nI_1]
      obtain ⟨M', f1, f2, f3⟩ := ih n (p + 1) s' M1 (by omega) (by omega) (hx.fr (e2.2 1 (by omega)) (e2.2 2 (by omega))) ho' e3
      exact ⟨M', f1, by rw [f2, e2.1], fun c hc => (f3 c hc).trans (e2.2 c hc)⟩
theorem gp_fltC (hx : gp_xC M t) : ∃ M', f3_faultOfRules M = some (gp_ans1 (gp_flt t), M') ∧ gp_gL M M' := by
  unfold f3_faultOfRules
  rw [gp_eL, gp_eL]
  have l0 : gp_gL M (gz_w (gz_w M 3 0 0) 3 1 0) := ⟨rfl, fun c hc => by rw [gp_wc _ hc, gp_wc _ hc]⟩
  obtain ⟨M', e1, e2, e3⟩ := gp_flt14 (t := t) t.length gz_FU 0 gp_s0 (gz_w (gz_w M 3 0 0) 3 1 0) (by omega) (by have := hx.1; unfold gz_FU; omega) (hx.fr (l0.2 1 (by omega)) (l0.2 2 (by omega))) gp_w0.1 ⟨by rw [gp_gn (by omega), gp_gs]; rfl, by rw [gp_gs]; rfl⟩
  exact ⟨M', e1, by rw [e2]; rfl, fun c hc => (e3 c hc).trans (l0.2 c hc)⟩
/-- no fault: the machine comes to its end, and may end so -/
theorem gp_er_none : ∀ (d p : Nat) (s : gp_S), gp_er t d p s = none → ∃ s', gp_itr t d p s = some s' ∧ gp_mEnd t s'
  | 0, p, s, h => by
    rw [gp_er] at h
    split at h
    · rename_i hc; exact ⟨s, rfl, hc⟩
    · cases h
  | d + 1, p, s, h => by
    rw [gp_er] at h
    rw [gp_itr]
    cases h1 : gp_stp s (t.getD p 0) with
    | none => rw [h1] at h; cases h
    | some s1 =>
      rw [h1] at h
      exact gp_er_none d (p + 1) s1 h
/-- what a step does with the letters counted, with the mode -/
theorem gp_stp_u {s' : gp_S} (hw : gp_wS s) (hc : c < 256) (e : gp_stp s c = some s') : (∀ m, s'.2.1.2.2 7 m = s.2.1.2.2 7 m + if s.1 ≠ 0 ∧ gp_isL c = true ∧ m = gp_md s.2.1 then 1 else 0) ∧ (s'.1 = 0 ↔ c = 59) ∧ (s.1 = 0 → gp_md s'.2.1 = c - 48 ∧ 48 ≤ c) ∧ (s.1 ≠ 0 → c ≠ 59 → gp_md s'.2.1 = gp_md s.2.1) := by
  have ho := hw.1
  have h5 := ho.1
  have hcases : s.1 = 0 ∨ s.1 = 1 ∨ s.1 = 2 ∨ s.1 = 3 ∨ s.1 = 4 ∨ s.1 = 5 := by omega
  have notL : ∀ n, n < 46 ∨ (46 < n ∧ n < 97) ∨ 104 < n → gp_isL n = false := fun n hn => by
    unfold gp_isL
    simp
    omega
  -- the letters stay
  have same : ∀ T : gp_T, (∀ y, T.2.2 7 y = s.2.1.2.2 7 y) → gp_isL c = false → ∀ m, T.2.2 7 m = s.2.1.2.2 7 m + if s.1 ≠ 0 ∧ gp_isL c = true ∧ m = gp_md s.2.1 then 1 else 0 := fun T hT hl m => by
    rw [hT, if_neg (fun h => by rw [hl] at h; simp at h)]
    rfl
  have nx : gp_nxt s = some s' → 3 ≤ s.1 → s.1 ≠ 4 → c = 59 → (∀ m, s'.2.1.2.2 7 m = s.2.1.2.2 7 m + if s.1 ≠ 0 ∧ gp_isL c = true ∧ m = gp_md s.2.1 then 1 else 0) ∧ (s'.1 = 0 ↔ c = 59) ∧ (s.1 = 0 → gp_md s'.2.1 = c - 48 ∧ 48 ≤ c) ∧ (s.1 ≠ 0 → c ≠ 59 → gp_md s'.2.1 = gp_md s.2.1) := by
    intro e h3 h4 h59
    obtain ⟨a1, a2, a3, a4⟩ := gp_nxt_1 e
    have := (gp_eR_w hw h3 h4).2
    refine ⟨same _ (fun y => by rw [a4, this]) (by rw [h59]; decide), ⟨fun _ => h59, fun _ => a2⟩, fun h => by omega, fun _ h => absurd h59 h⟩
  have inP : gp_inP s c = some s' → s.1 = 2 ∨ s.1 = 3 → (∀ m, s'.2.1.2.2 7 m = s.2.1.2.2 7 m + if s.1 ≠ 0 ∧ gp_isL c = true ∧ m = gp_md s.2.1 then 1 else 0) ∧ (s'.1 = 0 ↔ c = 59) ∧ (s.1 = 0 → gp_md s'.2.1 = c - 48 ∧ 48 ≤ c) ∧ (s.1 ≠ 0 → c ≠ 59 → gp_md s'.2.1 = gp_md s.2.1) := by
    intro e h23
    have hsm := (gp_eP_f hw (by omega)).1
    rcases (gp_inP_opn ho (by omega) e).2.2 with ⟨l1, l2, _⟩ | ⟨l1, l2, l3, l4, _⟩
    · unfold gp_inP at e
      rw [if_pos l1] at e
      have e := Option.some.inj e
      subst e
      refine ⟨fun m => ?_, ⟨fun h => by omega, fun h => by rw [h] at l1; exact absurd l1 (by decide)⟩, fun h => by omega, fun _ _ => ?_⟩
      · show (gp_aL (gp_eP s).2.1 c).2.2 7 m = _
        rw [gp_aL_7, hsm.md, hsm.2.2.1 7 (by omega)]
        congr 1
        by_cases hm : m = gp_md s.2.1
        · rw [if_pos hm, if_pos ⟨by omega, l1, hm⟩]
        · rw [if_neg hm, if_neg (fun h => hm h.2.2)]
      · show gp_md (gp_aL (gp_eP s).2.1 c) = _
        rw [gp_aL_md, hsm.md]
    · unfold gp_inP at e
      rw [if_neg (by simp [l1]), if_pos ⟨l2, l3⟩] at e
      have e := Option.some.inj e
      subst e
      refine ⟨same _ (fun y => ?_) l1, ⟨fun h => by omega, fun h => by omega⟩, fun h => by omega, fun _ _ => hsm.md⟩
      show (gp_eP s).2.1.2.2 7 y = _
      rw [hsm.2.2.1 7 (by omega)]
  have fin : ∀ s1 : gp_S, s1 = s' → 1 ≤ s1.1 → s.1 ≠ 0 → c ≠ 59 → gp_isL c = false → (∀ y, s1.2.1.2.2 7 y = s.2.1.2.2 7 y) → gp_md s1.2.1 = gp_md s.2.1 → (∀ m, s'.2.1.2.2 7 m = s.2.1.2.2 7 m + if s.1 ≠ 0 ∧ gp_isL c = true ∧ m = gp_md s.2.1 then 1 else 0) ∧ (s'.1 = 0 ↔ c = 59) ∧ (s.1 = 0 → gp_md s'.2.1 = c - 48 ∧ 48 ≤ c) ∧ (s.1 ≠ 0 → c ≠ 59 → gp_md s'.2.1 = gp_md s.2.1) := by
    intro s1 h1 h2 h3 h4 h5 h6 h7
    subst h1
    exact ⟨same _ h6 h5, ⟨fun h => by omega, fun h => absurd h h4⟩, fun h => absurd h h3, fun _ _ => h7⟩
  rcases hcases with h0 | h0 | h0 | h0 | h0 | h0
  · unfold gp_stp at e
    rw [if_pos h0] at e
    split at e
    · rename_i hd
      have e := Option.some.inj e
      subst e
      refine ⟨same _ (fun y => ?_) (notL c (by omega)), ⟨fun h => absurd h (by show ¬ (1 : Nat) = 0; omega), fun h => by omega⟩, fun _ => ⟨?_, hd.1⟩, fun h => absurd h0 h⟩
      · unfold gp_beg
        dsimp only [gp_set]
        rw [if_neg (by omega), if_neg (by omega), if_neg (by omega)]
      · unfold gp_md gp_beg
        dsimp only [gp_set]
        rw [if_neg (by omega), if_neg (by omega), if_pos ⟨rfl, rfl⟩]
    · cases e
  · unfold gp_stp at e
    rw [if_neg (by omega), if_pos h0] at e
    split at e
    · rename_i hd
      exact fin _ (Option.some.inj e) (by show 1 ≤ 2; omega) (by omega) (by omega) (notL c (by omega)) (fun y => rfl) rfl
    · cases e
  · unfold gp_stp at e
    rw [if_neg (by omega), if_neg (by omega), if_pos h0] at e
    exact inP e (Or.inl h0)
  · obtain ⟨hsm, hT', hlv, ch, wh, L, e1, e2, e3, e4, e5⟩ := gp_eP_f hw (by omega)
    obtain ⟨ch', wh', L', e1', e6⟩ := gp_eCh_f hw (by omega)
    unfold gp_stp at e
    rw [if_neg (by omega), if_neg (by omega), if_neg (by omega), if_pos h0] at e
    split at e
    · exact inP e (Or.inr h0)
    · rename_i hnl
      have hl : gp_isL c = false := by
        cases h : gp_isL c with
        | false => rfl
        | true => exact absurd (Or.inl h) hnl
      split at e
      · rename_i hd
        have e := Option.some.inj e
        have hmd4 := (hw.2.2.1 (by omega)).1
        cases hpp : s.2.2.2 with
        | none => exact absurd hpp (hw.2.2.2.1 (by omega))
        | some q =>
          have hs : gp_suf s c = (3, (if c = 63 then s.2.1 else gp_lnk s.2.1 q.2.1 q.1), s.2.2.1, some (q.1, q.2.1, (if c = 43 then q.2.2 else true))) := by
            unfold gp_suf
            rw [hpp]
          have hsm2 : gp_sm1 s.2.1 (if c = 63 then s.2.1 else gp_lnk s.2.1 q.2.1 q.1) := by
            split
            · exact gp_sm1.refl _
            · exact gp_lnk_sm _ _ _ hmd4
          rw [hs] at e
          exact fin _ e (by show 1 ≤ 3; omega) (by omega) (by omega) hl (fun y => by show _ = _; rw [hsm2.2.2.1 7 (by omega)]) hsm2.md
      · split at e
        · rename_i hd
          have e := Option.some.inj e
          rw [e6] at e
          exact fin _ e (by show 1 ≤ 2; omega) (by omega) (by omega) hl (fun y => by show (gp_eP s).2.1.2.2 7 y = _; rw [hsm.2.2.1 7 (by omega)]) hsm.md
        · split at e
          · rename_i hd
            split at e
            · cases e
            · have e := Option.some.inj e
              unfold gp_cls at e
              rw [e6] at e
              exact fin _ e (by show 1 ≤ 3; omega) (by omega) (by omega) hl (fun y => by show (gp_eP s).2.1.2.2 7 y = _; rw [hsm.2.2.1 7 (by omega)]) hsm.md
          · split at e
            · have act : ∀ d a, d = 4 ∨ d = 5 → gp_act1 s d a = s' → c ≠ 59 → (∀ m, s'.2.1.2.2 7 m = s.2.1.2.2 7 m + if s.1 ≠ 0 ∧ gp_isL c = true ∧ m = gp_md s.2.1 then 1 else 0) ∧ (s'.1 = 0 ↔ c = 59) ∧ (s.1 = 0 → gp_md s'.2.1 = c - 48 ∧ 48 ≤ c) ∧ (s.1 ≠ 0 → c ≠ 59 → gp_md s'.2.1 = gp_md s.2.1) := by
                intro d a hd e hc59
                refine fin _ e (by show 1 ≤ d; omega) (by omega) hc59 hl (fun y => ?_) ?_
                · unfold gp_act1
                  dsimp only [gp_set]
                  rw [if_neg (by omega)]
                · unfold gp_md gp_act1
                  dsimp only [gp_set]
                  rw [if_neg (by omega)]
              split at e
              · exact act 5 1 (by omega) (Option.some.inj e) (by omega)
              · split at e
                · exact act 4 2 (by omega) (Option.some.inj e) (by omega)
                · split at e
                  · exact act 4 3 (by omega) (Option.some.inj e) (by omega)
                  · split at e
                    · exact nx e (by omega) (by omega) (by assumption)
                    · cases e
            · cases e
  · unfold gp_stp at e
    rw [if_neg (by omega), if_neg (by omega), if_neg (by omega), if_neg (by omega), if_pos h0] at e
    split at e
    · rename_i hd
      exact fin _ (Option.some.inj e) (by show 1 ≤ 5; omega) (by omega) (by omega) (notL c (by omega)) (fun y => rfl) rfl
    · cases e
  · unfold gp_stp at e
    rw [if_neg (by omega), if_neg (by omega), if_neg (by omega), if_neg (by omega), if_neg (by omega)] at e
    split at e
    · exact nx e (by omega) (by omega) (by assumption)
    · cases e
end
end
section
/-! rules told as a text: the component counts letters -/
/-- the first mode with too many letters -/
def gp_over (u : Nat → Nat) : Option Nat := if 10 < u 0 then some 0 else if 10 < u 1 then some 1 else if 10 < u 2 then some 2 else if 10 < u 3 then some 3 else none
def gp_ans2 : Option Nat → Int32
  | none => 0
  | some p => (-100) - nI p
section
variable {M : gz_M} {t : List Nat}
theorem gp_lom : ∀ (d n p m : Nat) (s sE : gp_S) (x : Int32), m < 4 → p + d = t.length → d < n → gp_xC M t → gp_wS s → gp_itr t d p s = some sE → (s.1 = 0 ↔ p = 0 ∨ t.getD (p - 1) 0 = 59) → (s.1 ≠ 0 → x = nI (gp_md s.2.1)) → s.2.1.2.2 7 m ≤ p → f3_lettersOfMode_7 n (nI m) (nI (s.2.1.2.2 7 m)) x (nI p) M = some (nI (sE.2.1.2.2 7 m), M) ∧ sE.2.1.2.2 7 m ≤ t.length := by
  intro d
  induction d with
  | zero =>
    intro n p m s sE x hm hp hn hx hw e h59 hmd hc
    have h1 := hx.1
    obtain ⟨n, rfl⟩ : ∃ q, n = q + 1 := ⟨n - 1, by omega⟩
    have : p = t.length := by omega
    subst this
    have e := Option.some.inj e
    subst e
    rw [f3_lettersOfMode_7, hx.2.1, if_pos (nI_le (Nat.le_refl _) (by omega))]
    exact ⟨rfl, hc⟩
  | succ d ih =>
    intro n p m s sE x hm hp hn hx hw e h59 hmd hc
    have h1 := hx.1
    obtain ⟨n, rfl⟩ : ∃ q, n = q + 1 := ⟨n - 1, by omega⟩
    have hcc := (hx.2.2 p (by omega)).2
    rw [gp_itr] at e
    cases h : gp_stp s (t.getD p 0) with
    | none => rw [h] at e; cases e
    | some s1 =>
      rw [h] at e
      obtain ⟨u1, u2, u3, u4⟩ := gp_stp_u hw hcc h
      have hw1 := gp_stp_w hcc hw h
      have um := u1 m
      have next : ∀ x', (s1.1 ≠ 0 → x' = nI (gp_md s1.2.1)) → f3_lettersOfMode_7 n (nI m) (nI (s1.2.1.2.2 7 m)) x' (nI (p + 1)) M = some (nI (sE.2.1.2.2 7 m), M) ∧ sE.2.1.2.2 7 m ≤ t.length := fun x' hx' => by
        refine ih n (p + 1) m s1 sE x' hm (by omega) (by omega) hx hw1 e ?_ hx' ?_
        · rw [u2, Nat.add_sub_cancel]
          exact ⟨fun h => Or.inr h, fun h => h.elim (fun h => by omega) id⟩
        · rw [um]
          split <;> omega
      have hget := gp_xget hx (p := p) (by omega)
      rw [f3_lettersOfMode_7, hx.2.1, if_neg (nI_ge (by omega) (by omega)), hget, gp_eB2]
      -- a mode's digit
      have dig : s.1 = 0 → f3_lettersOfMode_7 n (nI m) (nI (s.2.1.2.2 7 m)) (nI (t.getD p 0) - 48) (nI p + 1) M = some (nI (sE.2.1.2.2 7 m), M) ∧ sE.2.1.2.2 7 m ≤ t.length := fun h0 => by
        obtain ⟨v1, v2⟩ := u3 h0
        have e48 : nI (t.getD p 0) - 48 = nI (gp_md s1.2.1) := by
          rw [show (48 : Int32) = nI 48 from rfl, gp_subI v2, v1]
        rw [e48, nI_1]
        have := next (nI (gp_md s1.2.1)) (fun _ => rfl)
        rw [um, if_neg (fun h => h.1 h0)] at this
        exact this
      by_cases hp0 : p = 0
      · rw [if_pos (by rw [hp0]; exact nI_0)]
        exact dig (h59.mpr (Or.inl hp0))
      · obtain ⟨q, rfl⟩ : ∃ q, p = q + 1 := ⟨p - 1, by omega⟩
        rw [if_neg (nI_ne0 (by omega) (by omega)), nI_pred, gp_xget hx (p := q) (by omega), gp_eB2]
        have hcq := (hx.2.2 q (by omega)).2
        by_cases hq : t.getD q 0 = 59
        · rw [if_pos (by rw [hq]; rfl)]
          exact dig (h59.mpr (Or.inr hq))
        · rw [if_neg (show ¬ nI (t.getD q 0) = (59 : Int32) from fun e => hq ((nI_eq (b := 59) (by omega) (by omega)).mp e))]
          have h0 : s.1 ≠ 0 := fun h => by
            rcases h59.mp h with h | h
            · exact hp0 h
            · exact hq h
          have hx0 := hmd h0
          have hm4 := (hw.2.2.1 (by omega)).1
          have hxn : s1.1 ≠ 0 → x = nI (gp_md s1.2.1) := fun h1 => by rw [hx0, u4 h0 (fun h => h1 (u2.mpr h))]
          by_cases hxm : m = gp_md s.2.1
          · rw [if_pos (by rw [hx0, hxm]), gp_isLetE hcc, gp_eB2]
            cases hl : gp_isL (t.getD (q + 1) 0) with
            | false =>
              rw [if_neg (show ¬ (false = true) by simp), if_pos rfl, gp_eL, nI_1]
              have := next x hxn
              rw [um, if_neg (fun h => by rw [hl] at h; exact absurd h.2.1 (by decide))] at this
              exact this
            | true =>
              rw [if_pos rfl, if_neg (by decide), gp_eL, gp_eL, nI_1, nI_1]
              have := next x hxn
              rw [um, if_pos ⟨h0, hl, hxm⟩] at this
              exact this
          · rw [if_neg (by rw [hx0]; exact fun h => hxm ((nI_eq (by omega) (by omega)).mp h).symm), gp_eL, nI_1]
            have := next x hxn
            rw [um, if_neg (fun h => hxm h.2.2)] at this
            exact this
theorem gp_lomC {s : gp_S} (hx : gp_xC M t) (e : gp_itr t t.length 0 gp_s0 = some s) {m : Nat} (hm : m < 4) : f3_lettersOfMode (nI m) M = some (nI (s.2.1.2.2 7 m), M) ∧ s.2.1.2.2 7 m ≤ 80 := by
  have h1 := hx.1
  obtain ⟨a, b⟩ := gp_lom (M := M) (t := t) t.length gz_FU 0 m gp_s0 s (-1) hm (by omega) (by unfold gz_FU; omega) hx gp_w0 e ⟨fun _ => Or.inl rfl, fun _ => rfl⟩ (fun h => absurd rfl h) (by show 0 ≤ 0; omega)
  exact ⟨a, by omega⟩
theorem gp_folC {s : gp_S} (hx : gp_xC M t) (e : gp_itr t t.length 0 gp_s0 = some s) : f3_faultOfLetters M = some (gp_ans2 (gp_over (s.2.1.2.2 7)), M) := by
  have st : ∀ (m n : Nat), m < 4 → f3_faultOfLetters_2 (n + 1) (nI m) M = if 10 < s.2.1.2.2 7 m then some ((-100) - nI m, M) else f3_faultOfLetters_2 n (nI (m + 1)) M := fun m n hm => by
    obtain ⟨a, b⟩ := gp_lomC hx e hm
    rw [f3_faultOfLetters_2, if_neg (show ¬ (4 : Int32) ≤ nI m from nI_ge (b := 4) (by omega) (by omega)), a, gp_eB2]
    by_cases h : 10 < s.2.1.2.2 7 m
    · rw [if_neg (show ¬ nI (s.2.1.2.2 7 m) ≤ (10 : Int32) from nI_ge (a := 10) (by omega) (by omega)), if_pos h]
    · rw [if_pos (show nI (s.2.1.2.2 7 m) ≤ (10 : Int32) from nI_le (b := 10) (by omega) (by omega)), if_neg h, gp_eL, nI_1]
  unfold f3_faultOfLetters
  rw [show (0 : Int32) = nI 0 from rfl, show gz_FU = 999995 + 1 + 1 + 1 + 1 + 1 from rfl, st 0 _ (by omega), st 1 _ (by omega), st 2 _ (by omega), st 3 _ (by omega)]
  unfold gp_over
  split
  · rfl
  · split
    · rfl
    · split
      · rfl
      · split
        · rfl
        · rw [f3_faultOfLetters_2, if_pos (by decide)]
          rfl
end
end
section
/-! rules told as a text: the component's pieces as numbers -/
theorem gp_shl10 : ∀ v : Nat, v < 1024 → gz_shl (nI v) 10 = nI (v <<< 10) := by decide +kernel
def gp_pN (p : gp_P) : Nat := (p.1 ||| p.2.1 <<< 10) ||| (if p.2.2 = true then 1048576 else 0)
def gp_eO : Option gp_P → Int32
  | none => -1
  | some p => nI (gp_pN p)
def gp_sP (p : gp_P) : Prop := p.1 < 2 ^ 10 ∧ p.2.1 < 2 ^ 10
theorem gp_b20 (i : Nat) : Nat.testBit 1048576 i = decide (20 = i) := by
  rw [show 1048576 = 2 ^ 20 from rfl, Nat.testBit_two_pow]
theorem gp_pN_b (p : gp_P) (i : Nat) : (gp_pN p).testBit i = (p.1.testBit i || (decide (10 ≤ i) && p.2.1.testBit (i - 10)) || (p.2.2 && decide (20 = i))) := by
  unfold gp_pN
  rw [Nat.testBit_or, Nat.testBit_or, Nat.testBit_shiftLeft]
  cases p.2.2 with
  | false => simp
  | true => simp only [if_true, gp_b20]; rfl
theorem gp_hi {a n i : Nat} (h : a < 2 ^ n) (hi : n ≤ i) : a.testBit i = false := Nat.testBit_lt_two_pow (Nat.lt_of_lt_of_le h (Nat.pow_le_pow_right (by decide) hi))
theorem gp_pN_1 {p : gp_P} (h : gp_sP p) : gp_pN p &&& 1023 = p.1 := by
  apply Nat.eq_of_testBit_eq
  intro i
  rw [Nat.testBit_and, gp_pN_b, show 1023 = 2 ^ 10 - 1 from rfl, Nat.testBit_two_pow_sub_one]
  by_cases hi : i < 10
  · rw [show decide (10 ≤ i) = false from by simp; omega, show decide (20 = i) = false from by simp; omega, show decide (i < 10) = true from by simp [hi]]
    simp
  · rw [show decide (i < 10) = false from by simp; omega, gp_hi h.1 (by omega)]
    simp
theorem gp_pN_2 {p : gp_P} (h : gp_sP p) : (gp_pN p >>> 10) &&& 1023 = p.2.1 := by
  apply Nat.eq_of_testBit_eq
  intro i
  rw [Nat.testBit_and, Nat.testBit_shiftRight, gp_pN_b, show 1023 = 2 ^ 10 - 1 from rfl, Nat.testBit_two_pow_sub_one, gp_hi h.1 (by omega)]
  by_cases hi : i < 10
  · rw [show decide (10 ≤ 10 + i) = true from by simp, show decide (20 = 10 + i) = false from by simp; omega, show decide (i < 10) = true from by simp [hi], show 10 + i - 10 = i by omega]
    simp
  · rw [show decide (i < 10) = false from by simp; omega]
    simp
    exact gp_hi h.2 (by omega)
theorem gp_pN_3 {p : gp_P} (h : gp_sP p) : gp_pN p &&& 1048576 = if p.2.2 = true then 1048576 else 0 := by
  apply Nat.eq_of_testBit_eq
  intro i
  rw [Nat.testBit_and, gp_pN_b, gp_b20]
  by_cases hi : 20 = i
  · subst hi
    rw [gp_hi h.1 (by omega), gp_hi h.2 (by omega)]
    cases p.2.2 <;> decide
  · rw [show decide (20 = i) = false from by simp [hi]]
    cases p.2.2 with
    | false => simp
    | true => simp [gp_b20, hi]
theorem gp_pN_4 {p : gp_P} (h : gp_sP p) : gp_pN p ||| 1048576 = gp_pN (p.1, p.2.1, true) := by
  apply Nat.eq_of_testBit_eq
  intro i
  rw [Nat.testBit_or, gp_pN_b, gp_pN_b, gp_b20]
  cases p.2.2 <;> cases p.1.testBit i <;> cases (decide (10 ≤ i) && p.2.1.testBit (i - 10)) <;> cases decide (20 = i) <;> rfl
theorem gp_pN_lt {p : gp_P} (h : gp_sP p) : gp_pN p < 2 ^ 21 := by
  refine Nat.or_lt_two_pow (Nat.or_lt_two_pow (Nat.lt_of_lt_of_le h.1 (by decide)) ?_) ?_
  · rw [Nat.shiftLeft_eq]
    have := h.2
    omega
  · split <;> decide
theorem gp_mg_s {c p : gp_P} (hc : gp_sP c) (hp : gp_sP p) : gp_sP (gp_mgP c p) := by
  refine ⟨Nat.or_lt_two_pow hc.1 ?_, Nat.or_lt_two_pow hp.2 ?_⟩
  · split
    · exact hp.1
    · decide
  · split
    · exact hc.2
    · decide
theorem gp_mgN {c p : gp_P} (hc : gp_sP c) (hp : gp_sP p) : ((gp_mgP c p).1 ||| (gp_mgP c p).2.1 <<< 10) ||| ((gp_pN c &&& gp_pN p) &&& 1048576) = gp_pN (gp_mgP c p) := by
  unfold gp_pN
  congr 1
  rw [show ((c.1 ||| c.2.1 <<< 10) ||| (if c.2.2 = true then 1048576 else 0)) = gp_pN c from rfl, show ((p.1 ||| p.2.1 <<< 10) ||| (if p.2.2 = true then 1048576 else 0)) = gp_pN p from rfl, Nat.and_assoc, gp_pN_3 hp]
  show _ = if (c.2.2 && p.2.2) = true then 1048576 else 0
  cases p.2.2 with
  | false => simp
  | true =>
    rw [if_pos rfl, gp_pN_3 hc]
    simp
theorem gp_unN (c p : gp_P) : gp_pN c ||| gp_pN p = gp_pN (gp_unP c p) := by
  apply Nat.eq_of_testBit_eq
  intro i
  rw [Nat.testBit_or, gp_pN_b, gp_pN_b, gp_pN_b]
  unfold gp_unP
  dsimp only
  rw [Nat.testBit_or, Nat.testBit_or]
  cases c.1.testBit i <;> cases p.1.testBit i <;> cases decide (10 ≤ i) <;> cases c.2.1.testBit (i - 10) <;> cases p.2.1.testBit (i - 10) <;> cases c.2.2 <;> cases p.2.2 <;> cases decide (20 = i) <;> rfl
section
variable {p : gp_P} {M : gz_M}
theorem gp_fOf (h : gp_sP p) (M : gz_M) : f1_firstOf (nI (gp_pN p)) M = some (nI p.1, M) := by
  unfold f1_firstOf
  rw [show (1023 : Int32) = nI 1023 from rfl, gp_and, gp_pN_1 h]
theorem gp_lOf (h : gp_sP p) (M : gz_M) : f1_lastOf (nI (gp_pN p)) M = some (nI p.2.1, M) := by
  unfold f1_lastOf
  have := gp_pN_lt h
  rw [show (10 : Int32) = nI 10 from rfl, gp_shr (by omega) (by omega), show (1023 : Int32) = nI 1023 from rfl, gp_and, gp_pN_2 h]
theorem gp_mOf (h : gp_sP p) (M : gz_M) : f1_mayBeEmpty (nI (gp_pN p)) M = some ((if p.2.2 = true then 1 else 0), M) := by
  unfold f1_mayBeEmpty
  rw [show (1048576 : Int32) = nI 1048576 from rfl, gp_and, gp_pN_3 h]
  cases p.2.2 with
  | false => exact if_pos nI_0
  | true => exact if_neg (show ¬ nI 1048576 = 0 by decide)
end
end
section
/-! rules told as a text: the component builds a table -/
def gp_lv (M : gz_M) : List (Option gp_P × Option gp_P) → Prop
  | [] => True
  | x :: L => M.1 5 L.length = gp_eO x.1 ∧ M.1 6 L.length = gp_eO x.2 ∧ gp_lv M L
/-- what lies open of a rule that is read -/
def gp_bR (k : Nat) (M : gz_M) (s : gp_S) : Prop := M.1 4 2 = nI (s.2.2.1.length - 1) ∧ M.1 4 3 = gp_eO s.2.2.2 ∧ M.1 4 4 = nI s.2.1.1 ∧ M.1 4 5 = nI (gp_md s.2.1) ∧ gp_lv M s.2.2.1 ∧ M.1 (k + 1) s.2.1.1 = nI (s.2.1.2.2 1 s.2.1.1) ∧ M.1 (k + 2) s.2.1.1 = nI (s.2.1.2.2 2 s.2.1.1) ∧ M.1 (k + 3) s.2.1.1 = nI (s.2.1.2.2 3 s.2.1.1) ∧ M.1 (k + 4) s.2.1.1 = s.2.1.2.1 s.2.1.1
def gp_bC (k : Nat) (M : gz_M) (s : gp_S) : Prop := gp_tC k M s.2.1 ∧ (1 ≤ s.1 → gp_bR k M s)
def gp_bL (k : Nat) (M M' : gz_M) : Prop := M'.2 = M.2 ∧ ∀ c, c ≠ 4 → c ≠ 5 → c ≠ 6 → c < k ∨ k + 18 < c → M'.1 c = M.1 c
theorem gp_bL.refl (k : Nat) (M : gz_M) : gp_bL k M M := ⟨rfl, fun _ _ _ _ _ => rfl⟩
theorem gp_bL.trans {k : Nat} {M M1 M2 : gz_M} (h : gp_bL k M M1) (h' : gp_bL k M1 M2) : gp_bL k M M2 := ⟨h'.1.trans h.1, fun c a b d e => (h'.2 c a b d e).trans (h.2 c a b d e)⟩
theorem gp_bL.w {k c i : Nat} (v : Int32) {M : gz_M} (h : c = 4 ∨ c = 5 ∨ c = 6 ∨ (k ≤ c ∧ c ≤ k + 18)) : gp_bL k M (gz_w M c i v) := ⟨rfl, fun a h1 h2 h3 h4 => gp_wc _ (by omega)⟩
theorem gp_lv.fr {M M' : gz_M} : ∀ {L : List (Option gp_P × Option gp_P)}, gp_lv M L → (∀ i, i < L.length → M'.1 5 i = M.1 5 i ∧ M'.1 6 i = M.1 6 i) → gp_lv M' L
  | [], _, _ => trivial
  | x :: L, h, e => ⟨by rw [(e L.length (by simp)).1]; exact h.1, by rw [(e L.length (by simp)).2]; exact h.2.1, h.2.2.fr (fun i hi => e i (by simp; omega))⟩
theorem gp_okO_s {T : gp_T} {o : Option gp_P} (h : gp_okO T o) {p : gp_P} (e : o = some p) : gp_sP p := by
  have h1 : gp_u10 T (gp_md T) ≤ 10 := by unfold gp_u10; omega
  exact ⟨gp_pw (h p e).1 h1, gp_pw (h p e).2 h1⟩
theorem gp_tC.fr5 {k : Nat} {M M' : gz_M} {T : gp_T} (h : gp_tC k M T) (e : ∀ c, k ≤ c → c ≤ k + 18 → M'.1 c = M.1 c) : gp_tC k M' T := by
  obtain ⟨a, b, c⟩ := h
  refine ⟨by rw [e k (by omega) (by omega)]; exact a, fun j hj => ?_, fun m hm => ?_⟩
  · rw [e (k + 1) (by omega) (by omega), e (k + 2) (by omega) (by omega), e (k + 3) (by omega) (by omega), e (k + 4) (by omega) (by omega), e (k + 5) (by omega) (by omega), e (k + 6) (by omega) (by omega)]
    exact b j hj
  · rw [e (k + 7) (by omega) (by omega), e (k + 8) (by omega) (by omega), e (k + 9 + 1 + m) (by omega) (by omega), e (k + 14 + 1 + m) (by omega) (by omega)]
    exact c m hm
section
variable {k m : Nat} {M : gz_M} {s : gp_S}
theorem gp_link_3 (a f : Nat) (R : Nat → Nat) (hk : 6 < k) (hm : m < 4) (h5 : M.1 4 5 = nI m) (ha : a < 2 ^ 10) : ∀ (d n x : Nat) (M1 : gz_M), x + d = 10 → d < n → M1.2 = M.2 → (∀ c, c ≠ k + 9 + 1 + m → M1.1 c = M.1 c) → (∀ b, b < 10 → M1.1 (k + 9 + 1 + m) b = nI (if b < x ∧ a.testBit b = true then R b ||| f else R b)) → ∃ M', f1_link_3 k n (nI a) (nI f) (nI x) M1 = some M' ∧ M'.2 = M.2 ∧ (∀ c, c ≠ k + 9 + 1 + m → M'.1 c = M.1 c) ∧ (∀ b, b < 10 → M'.1 (k + 9 + 1 + m) b = nI (if a.testBit b = true then R b ||| f else R b)) := by
  intro d
  induction d with
  | zero =>
    intro n x M1 hx hn e1 e2 e3
    obtain ⟨n, rfl⟩ : ∃ q, n = q + 1 := ⟨n - 1, by omega⟩
    have hx : x = 10 := by omega
    subst hx
    refine ⟨M1, by rw [f1_link_3, if_pos (by exact nI_le (Nat.le_refl 10) (by decide))], e1, e2, fun b hb => ?_⟩
    rw [e3 b hb]
    by_cases h : a.testBit b = true
    · rw [if_pos ⟨hb, h⟩, if_pos h]
    · rw [if_neg (fun h' => h h'.2), if_neg h]
  | succ d ih =>
    intro n x M1 hx hn e1 e2 e3
    obtain ⟨n, rfl⟩ : ∃ q, n = q + 1 := ⟨n - 1, by omega⟩
    have h5' : M1.1 4 5 = nI m := by rw [e2 4 (by omega)]; exact h5
    have step : ∀ v, v = (if a.testBit x = true then R x ||| f else R x) → ∃ M', f1_link_3 k n (nI a) (nI f) (nI (x + 1)) (gz_w M1 (k + 9 + 1 + m) x (nI v)) = some M' ∧ M'.2 = M.2 ∧ (∀ c, c ≠ k + 9 + 1 + m → M'.1 c = M.1 c) ∧ (∀ b, b < 10 → M'.1 (k + 9 + 1 + m) b = nI (if a.testBit b = true then R b ||| f else R b)) := fun v hv => by
      refine ih n (x + 1) _ (by omega) (by omega) (by rw [gp_gl]; exact e1) (fun c hc => by rw [gp_wc _ hc]; exact e2 c hc) (fun b hb => ?_)
      by_cases hbx : b = x
      · subst hbx
        rw [gp_gs, hv]
        by_cases h : a.testBit b = true
        · rw [if_pos h, if_pos ⟨by omega, h⟩]
        · rw [if_neg h, if_neg (fun h' => h h'.2)]
      · rw [gp_gn (by omega), e3 b hb]
        by_cases h : b < x ∧ a.testBit b = true
        · rw [if_pos h, if_pos ⟨by omega, h.2⟩]
        · rw [if_neg h, if_neg (fun h' => h ⟨by omega, h'.2⟩)]
    have hx3 := e3 x (by omega)
    rw [if_neg (show ¬ (x < x ∧ _) from fun h => absurd h.1 (by omega))] at hx3
    rw [f1_link_3, if_neg (show ¬ (10 : Int32) ≤ nI x from nI_ge (b := 10) (by omega) (by omega)), h5', gp_ckb hm (by omega), gp_ckb (by omega) (by omega), nI_clamp (by omega), nI_clamp (by omega), hx3]
    by_cases hb : a.testBit x = true
    · rw [if_neg (show ¬ (gz_shr (nI a) (nI x) &&& 1) = 0 from fun h => by have h := (gp_bit (a := a) (i := x) (by omega) (by omega)).mp h; rw [hb] at h; cases h), gp_ckb (by omega) (by omega), gp_or, gp_eL, gp_eL, nI_1]
      exact step _ (by rw [if_pos hb])
    · rw [if_pos (show (gz_shr (nI a) (nI x) &&& 1) = 0 from (gp_bit (a := a) (i := x) (by omega) (by omega)).mpr (by simpa using hb)), gp_ckb (by omega) (by omega), show nI (R x) ||| 0 = nI (R x) from by rw [gp_n0, gp_or, Nat.or_zero], gp_eL, gp_eL, nI_1]
      exact step _ (by rw [if_neg hb])
theorem gp_linkC {T : gp_T} {a f : Nat} (hk : 6 < k) (hm : gp_md T < 4) (h5 : M.1 4 5 = nI (gp_md T)) (ha : a < 2 ^ 10) (h : gp_tC k M T) : ∃ M', f1_link k (nI a) (nI f) M = some M' ∧ M'.2 = M.2 ∧ (∀ c, c ≠ k + 9 + 1 + gp_md T → M'.1 c = M.1 c) ∧ gp_tC k M' (gp_lnk T a f) := by
  unfold f1_link
  obtain ⟨M', e1, e2, e3, e4⟩ := gp_link_3 (M := M) (m := gp_md T) a f (T.2.2 (10 + gp_md T)) hk hm h5 ha 10 gz_FU 0 M (by omega) (by unfold gz_FU; omega) rfl (fun _ _ => rfl) (fun b hb => by rw [if_neg (fun h => absurd h.1 (by omega))]; exact (h.2.2 _ hm).2.2.1 b hb)
  refine ⟨M', e1, e2, e3, by rw [e3 k (by omega)]; exact h.1, fun j hj => ?_, fun m hm' => ?_⟩
  · have h1 := h.2.1 j hj
    have e : ∀ c, c < 10 → (gp_lnk T a f).2.2 c j = T.2.2 c j := fun c hc => by
      unfold gp_lnk
      dsimp only
      rw [if_neg (by omega)]
    rw [e3 (k + 1) (by omega), e3 (k + 2) (by omega), e3 (k + 3) (by omega), e3 (k + 4) (by omega), e3 (k + 5) (by omega), e3 (k + 6) (by omega), e 1 (by omega), e 2 (by omega), e 3 (by omega), e 5 (by omega), e 6 (by omega)]
    exact h1
  · have h1 := h.2.2 m hm'
    have e : ∀ c b, c ≠ 10 + gp_md T → (gp_lnk T a f).2.2 c b = T.2.2 c b := fun c b hc => by
      unfold gp_lnk
      dsimp only
      rw [if_neg (fun h => hc h.1)]
    refine ⟨by rw [e3 (k + 7) (by omega), e 7 m (by omega)]; exact h1.1, by rw [e3 (k + 8) (by omega), e 8 m (by omega)]; exact h1.2.1, fun x hx => ?_, fun x hx => by rw [e3 (k + 14 + 1 + m) (by omega), e (15 + m) x (by omega)]; exact h1.2.2.2 x hx⟩
    by_cases hmm : m = gp_md T
    · rw [hmm, e4 x hx]
      unfold gp_lnk
      dsimp only
      by_cases hb : a.testBit x = true
      · rw [if_pos hb, if_pos ⟨rfl, hx, hb⟩]
      · rw [if_neg hb, if_neg (fun h => hb h.2.2)]
    · rw [e3 (k + 9 + 1 + m) (by omega), e (10 + m) x (by omega)]
      exact h1.2.2.1 x hx
end
end
section
/-! rules told as a text: a part, a chain, a rule ends in the component -/
section
variable {k : Nat} {M M' : gz_M} {s : gp_S}
theorem gp_eO_no {o : Option gp_P} (h : ∀ p, o = some p → gp_sP p) : (gp_eO o = -1) ↔ o = none := by
  cases o with
  | none => exact ⟨fun _ => rfl, fun _ => rfl⟩
  | some p =>
    have := gp_pN_lt (h p rfl)
    refine ⟨fun e => ?_, fun e => by cases e⟩
    have e : nI (gp_pN p) = gp_no := e
    rw [gp_ne1 (by omega)] at e
    cases e
theorem gp_bR_put {ch wh ch' : Option gp_P} {L : List (Option gp_P × Option gp_P)} {T' : gp_T} (h : gp_bR k M s) (eL : s.2.2.1 = (ch, wh) :: L) (hT : gp_sm1 s.2.1 T') (e4 : ∀ i, M'.1 4 i = if i = 3 then -1 else M.1 4 i) (e5 : ∀ i, M'.1 5 i = if i = L.length then gp_eO ch' else M.1 5 i) (e6 : M'.1 6 = M.1 6) (ek : ∀ c, k + 1 ≤ c → c ≤ k + 4 → M'.1 c = M.1 c) : gp_bR k M' (s.1, T', (ch', wh) :: L, none) := by
  obtain ⟨h1, h2, h3, h4, h5, h6, h7, h8, h9⟩ := h
  rw [eL] at h1 h5
  have hmd := hT.md
  refine ⟨?_, ?_, ?_, ?_, ⟨?_, ?_, h5.2.2.fr fun i hi => ⟨?_, ?_⟩⟩, ?_, ?_, ?_, ?_⟩
  · rw [e4, if_neg (by omega)]; exact h1
  · rw [e4, if_pos rfl]; rfl
  · rw [e4, if_neg (by omega), h3]; show nI s.2.1.1 = nI T'.1; rw [hT.1]
  · rw [e4, if_neg (by omega), h4]; show _ = nI (gp_md T'); rw [hmd]
  · rw [e5, if_pos rfl]
  · rw [e6]; exact h5.2.1
  · rw [e5, if_neg (by omega)]
  · rw [e6]
  · rw [ek _ (by omega) (by omega)]; show M.1 (k + 1) T'.1 = nI (T'.2.2 1 T'.1); rw [hT.1, hT.2.2.1 1 (by omega)]; exact h6
  · rw [ek _ (by omega) (by omega)]; show M.1 (k + 2) T'.1 = nI (T'.2.2 2 T'.1); rw [hT.1, hT.2.2.1 2 (by omega)]; exact h7
  · rw [ek _ (by omega) (by omega)]; show M.1 (k + 3) T'.1 = nI (T'.2.2 3 T'.1); rw [hT.1, hT.2.2.1 3 (by omega)]; exact h8
  · rw [ek _ (by omega) (by omega)]; show M.1 (k + 4) T'.1 = T'.2.1 T'.1; rw [hT.1, hT.2.1]; exact h9
theorem gp_epC (hk : 6 < k) (hw : gp_wS s) (h1 : 1 ≤ s.1) (h : gp_bC k M s) : ∃ M', f1_endPart k M = some M' ∧ gp_bL k M M' ∧ gp_bC k M' (gp_eP s) := by
  obtain ⟨f1, f2, f3, ch, wh, L, eL, eP1, eP2, eP3, eP4⟩ := gp_eP_f hw h1
  have hcc := hw.2.2.1 h1
  have hlen := hw.1.2.1
  rw [eL] at hlen
  have hlen : L.length + 1 ≤ 7 := hlen
  obtain ⟨hT, hR⟩ := h
  have hR := hR h1
  have hR0 := hR
  obtain ⟨b1, b2, b3, b4, b5, b6, b7, b8, b9⟩ := hR
  rw [eL] at b1 b5
  have b1 : M.1 4 2 = nI L.length := b1
  have b51 : M.1 5 L.length = gp_eO ch := b5.1
  have heP : gp_eP s = (s.1, gp_lnO s.2.1 ch s.2.2.2, (gp_mgO ch s.2.2.2, wh) :: L, none) := by
    rw [← eP1, ← eP2, ← eP3, ← eP4]
  have hch := (hcc.2.2.2.2.1 (ch, wh) (by rw [eL]; exact List.mem_cons_self ..)).1
  have hpt := hcc.2.2.2.2.2
  rw [heP]
  unfold f1_endPart
  rw [b1, gp_ckb (show L.length < 7 by omega) (by omega), nI_clamp (by omega), b51, gp_eL]
  cases ech : ch with
  | none =>
    rw [if_pos (by rfl), gp_ckb (show L.length < 7 by omega) (by omega), gp_eL, gp_eL]
    refine ⟨_, rfl, (gp_bL.w _ (by omega)).trans (gp_bL.w _ (by omega)), ?_, fun _ => ?_⟩
    · exact hT.fr5 (fun c h1 h2 => by rw [gp_wc _ (by omega), gp_wc _ (by omega)])
    · refine gp_bR_put hR0 eL (gp_sm1.refl _) (fun i => ?_) (fun i => ?_) (by rw [gp_wc _ (by omega), gp_wc _ (by omega)]) (fun c h1 h2 => by rw [gp_wc _ (by omega), gp_wc _ (by omega)])
      · by_cases hi : i = 3
        · rw [hi, gp_gs, if_pos rfl]
        · rw [gp_gn (by omega), gp_gn (by omega), if_neg hi]
      · rw [gp_gn (by omega)]
        by_cases hi : i = L.length
        · rw [hi, gp_gs, if_pos rfl, b2]; rfl
        · rw [gp_gn (by omega), if_neg hi]
  | some c =>
    have hc : gp_sP c := gp_okO_s hch ech
    have hcn := gp_pN_lt hc
    rw [show gp_eO (some c) = nI (gp_pN c) from rfl, if_neg (show ¬ nI (gp_pN c) = (-1 : Int32) from by rw [gp_m1, gp_ne1 (by omega)]; exact id)]
    cases ept : s.2.2.2 with
    | none =>
      rw [if_pos (by rw [b2, ept]; rfl), gp_eL]
      refine ⟨_, rfl, gp_bL.w _ (by omega), ?_, fun _ => ?_⟩
      · exact hT.fr5 (fun c h1 h2 => by rw [gp_wc _ (by omega)])
      · refine gp_bR_put hR0 eL (gp_sm1.refl _) (fun i => ?_) (fun i => ?_) (by rw [gp_wc _ (by omega)]) (fun c h1 h2 => by rw [gp_wc _ (by omega)])
        · by_cases hi : i = 3
          · rw [hi, gp_gs, if_pos rfl]
          · rw [gp_gn (by omega), if_neg hi]
        · rw [gp_gn (by omega)]
          by_cases hi : i = L.length
          · rw [hi, if_pos rfl, b51, ech]; rfl
          · rw [if_neg hi]
    | some p =>
      have hp : gp_sP p := gp_okO_s hpt ept
      have hpn := gp_pN_lt hp
      have b2' : M.1 4 3 = nI (gp_pN p) := by rw [b2, ept]; rfl
      rw [b2', if_neg (show ¬ nI (gp_pN p) = (-1 : Int32) from by rw [gp_m1, gp_ne1 (by omega)]; exact id)]
      rw [gp_lOf hc, gp_eB2, b2', gp_fOf hp, gp_eB2]
      obtain ⟨M1, l1, l2, l3, l4⟩ := gp_linkC (f := p.1) hk hcc.1 b4 hc.2 hT
      have l31 : M1.1 4 3 = nI (gp_pN p) := by rw [l3 4 (by omega)]; exact b2'
      have l32 : M1.1 4 2 = nI L.length := by rw [l3 4 (by omega)]; exact b1
      rw [l1, gp_eB, gp_fOf hc, gp_eB2, gp_mOf hc, gp_eB2]
      -- what is left behind
      have fin : ∀ v, v = nI (gp_pN (gp_mgP c p)) → gp_bL k M (gz_w (gz_w M1 5 L.length v) 4 3 (-1)) ∧ gp_bC k (gz_w (gz_w M1 5 L.length v) 4 3 (-1)) (s.1, gp_lnk s.2.1 c.2.1 p.1, (some (gp_mgP c p), wh) :: L, none) := by
        intro v hv
        refine ⟨(gp_bL.trans ⟨l2, fun c _ _ _ h => l3 c (by omega)⟩ (gp_bL.w _ (by omega))).trans (gp_bL.w _ (by omega)), ?_, fun _ => ?_⟩
        · exact l4.fr5 (fun c h1 h2 => by rw [gp_wc _ (by omega), gp_wc _ (by omega)])
        · refine gp_bR_put hR0 eL (gp_lnk_sm _ _ _ hcc.1) (fun i => ?_) (fun i => ?_) (by rw [gp_wc _ (by omega), gp_wc _ (by omega), l3 6 (by omega)]) (fun c h1 h2 => by rw [gp_wc _ (by omega), gp_wc _ (by omega), l3 c (by omega)])
          · by_cases hi : i = 3
            · rw [hi, gp_gs, if_pos rfl]
            · rw [gp_gn (by omega), gp_gn (by omega), if_neg hi, l3 4 (by omega)]
          · rw [gp_gn (by omega)]
            by_cases hi : i = L.length
            · rw [hi, gp_gs, if_pos rfl, hv]; rfl
            · rw [gp_gn (by omega), if_neg hi, l3 5 (by omega)]
      -- the rest is a number
      have t104 : ∀ (a b : Nat), (a < 1024 ∧ b < 1024 ∧ p.2.1 < 1024) → f1_endPart_104 k (nI (gp_pN c)) (nI a) (nI b) (nI p.2.1) M1 = some (gz_w (gz_w M1 5 L.length (nI ((a ||| (p.2.1 ||| b) <<< 10) ||| ((gp_pN c &&& gp_pN p) &&& 1048576)))) 4 3 (-1)) := fun a b hab => by
        have : p.2.1 ||| b < 2 ^ 10 := Nat.or_lt_two_pow hab.2.2 hab.2.1
        unfold f1_endPart_104
        rw [gp_eL, l32, gp_ckb (show L.length < 7 by omega) (by omega), nI_clamp (by omega), l31, gp_or, gp_shl10 _ (by omega), gp_or, gp_and, show (1048576 : Int32) = nI 1048576 from rfl, gp_and, gp_or]
        rfl
      have t77 : ∀ a b : Nat, a ||| b < 2 ^ 10 → f1_endPart_77 k (nI (gp_pN c)) (nI b) (nI a) M1 = some (gz_w (gz_w M1 5 L.length (nI (((a ||| b) ||| (p.2.1 ||| (if p.2.2 = true then c.2.1 else 0)) <<< 10) ||| ((gp_pN c &&& gp_pN p) &&& 1048576)))) 4 3 (-1)) := fun a b hab => by
        have h1 := hc.2
        have h2 := hp.2
        unfold f1_endPart_77
        rw [gp_eL, gp_or, l31, gp_lOf hp, gp_eB2, l31, gp_mOf hp, gp_eB2]
        cases p.2.2 with
        | false =>
          rw [if_pos (by rfl)]
          exact t104 (a ||| b) 0 ⟨by omega, by omega, by omega⟩
        | true =>
          rw [if_neg (by decide), gp_lOf hc, gp_eB2]
          exact t104 (a ||| b) c.2.1 ⟨by omega, by omega, by omega⟩
      have hmg := gp_mgN hc hp
      have hms := (gp_mg_s hc hp).1
      cases he : c.2.2 with
      | false =>
        rw [if_pos (by rfl)]
        have e : (gp_mgP c p).1 = c.1 ||| 0 := by unfold gp_mgP; rw [he]; rfl
        rw [e] at hmg hms
        obtain ⟨g1, g2⟩ := fin _ (congrArg nI hmg)
        exact ⟨_, t77 c.1 0 hms, g1, g2⟩
      | true =>
        rw [if_neg (by decide), l31, gp_fOf hp, gp_eB2]
        have e : (gp_mgP c p).1 = c.1 ||| p.1 := by unfold gp_mgP; rw [he]; rfl
        rw [e] at hmg hms
        obtain ⟨g1, g2⟩ := fin _ (congrArg nI hmg)
        exact ⟨_, t77 c.1 p.1 hms, g1, g2⟩
end
end
section
/-! rules told as a text: a chain, a rule ends in the component -/
section
variable {k : Nat} {M M' : gz_M} {s : gp_S}
theorem gp_ecC (hk : 6 < k) (hw : gp_wS s) (h3 : 3 ≤ s.1) (h : gp_bC k M s) : ∃ M', f1_endChain k M = some M' ∧ gp_bL k M M' ∧ gp_bC k M' (gp_eCh s) := by
  obtain ⟨f1, f2, f3, ch, wh, L, eL, eP1, eP2, eP3, eP4⟩ := gp_eP_f hw (by omega)
  obtain ⟨ch', wh', L', eL', eC⟩ := gp_eCh_f hw (by omega)
  rw [eL] at eL'
  cases eL'
  have hlen := hw.1.2.1
  rw [eL] at hlen
  have hlen : L.length + 1 ≤ 7 := hlen
  obtain ⟨M1, e1, e2, e3, e4⟩ := gp_epC hk hw (by omega) h
  have hR := e4 (by rw [eP3]; omega)
  obtain ⟨b1, b2, b3, b4, b5, b6, b7, b8, b9⟩ := hR
  have hpo := f3 (gp_mgO ch s.2.2.2, wh) (by rw [eP1]; exact List.mem_cons_self ..)
  rw [eP1] at b1 b5
  have b1 : M1.1 4 2 = nI L.length := b1
  obtain ⟨b51, b52, b53⟩ := b5
  have b51 : M1.1 5 L.length = gp_eO (gp_mgO ch s.2.2.2) := b51
  have b52 : M1.1 6 L.length = gp_eO wh := b52
  cases eq : gp_mgO ch s.2.2.2 with
  | none => exact absurd eq (gp_mgO_some (hw.2.2.2.1 h3))
  | some q =>
    have hq : gp_sP q := gp_okO_s hpo.1 eq
    have hqn := gp_pN_lt hq
    rw [eq] at b51 eC
    have fin : ∀ v wh', v = gp_eO wh' → gp_bL k M (gz_w (gz_w M1 6 L.length v) 5 L.length (-1)) ∧ gp_bC k (gz_w (gz_w M1 6 L.length v) 5 L.length (-1)) (s.1, (gp_eP s).2.1, (none, wh') :: L, none) := by
      intro v wh' hv
      refine ⟨(e2.trans (gp_bL.w _ (by omega))).trans (gp_bL.w _ (by omega)), ?_, fun _ => ⟨?_, ?_, ?_, ?_, ⟨?_, ?_, b53.fr fun i hi => ⟨?_, ?_⟩⟩, ?_, ?_, ?_, ?_⟩⟩
      · exact e3.fr5 (fun c h1 h2 => by rw [gp_wc _ (by omega), gp_wc _ (by omega)])
      · rw [gp_gn (by omega), gp_gn (by omega)]; exact b1
      · rw [gp_gn (by omega), gp_gn (by omega), b2, eP2]
      · rw [gp_gn (by omega), gp_gn (by omega)]; exact b3
      · rw [gp_gn (by omega), gp_gn (by omega)]; exact b4
      · rw [gp_gs]; rfl
      · rw [gp_gn (by omega), gp_gs, hv]
      · rw [gp_gn (by omega), gp_gn (by omega)]
      · rw [gp_gn (by omega), gp_gn (by omega)]
      · rw [gp_gn (by omega), gp_gn (by omega)]; exact b6
      · rw [gp_gn (by omega), gp_gn (by omega)]; exact b7
      · rw [gp_gn (by omega), gp_gn (by omega)]; exact b8
      · rw [gp_gn (by omega), gp_gn (by omega)]; exact b9
    have b1' : ∀ v, (gz_w M1 6 L.length v).1 4 2 = nI L.length := fun v => by rw [gp_gn (by omega)]; exact b1
    have b45 : ∀ v, f1_endChain_45 k v (nI L.length) M1 = some (gz_w (gz_w M1 6 L.length v) 5 L.length (-1)) := fun v => by
      unfold f1_endChain_45
      rw [gp_ckb (show L.length < 7 by omega) (by omega), nI_clamp (by omega), gp_eL, b1', gp_ckb (show L.length < 7 by omega) (by omega), nI_clamp (by omega)]
      rfl
    unfold f1_endChain
    rw [e1, gp_eB, b1, gp_ckb (show L.length < 7 by omega) (by omega), nI_clamp (by omega), b51, gp_eL, gp_ckb (show L.length < 7 by omega) (by omega), b52, gp_eL, eC]
    cases ew : wh with
    | none =>
      rw [if_pos (by rfl), b45]
      exact ⟨_, rfl, fin _ _ rfl⟩
    | some w =>
      have hww : gp_sP w := gp_okO_s hpo.2 ew
      have hwn := gp_pN_lt hww
      rw [show gp_eO (some w) = nI (gp_pN w) from rfl, if_neg (show ¬ nI (gp_pN w) = (-1 : Int32) from by rw [gp_m1, gp_ne1 (by omega)]; exact id), b45]
      refine ⟨_, rfl, fin _ _ ?_⟩
      rw [show gp_eO (some q) = nI (gp_pN q) from rfl, gp_or, gp_unN]
      rfl
theorem gp_erC (hk : 6 < k) (hw : gp_wS s) (h3 : 3 ≤ s.1) (hl : s.2.2.1.length ≤ 1) (h : gp_bC k M s) : ∃ M', f1_endRule k M = some M' ∧ gp_bL k M M' ∧ gp_tC k M' (gp_eR s) := by
  obtain ⟨ch, wh, L, w, eL, ew, hwp, eR⟩ := gp_eR_f hw h3
  obtain ⟨f1, f2, f3, _, _, _, _, eP1, eP2, eP3, eP4⟩ := gp_eP_f hw (by omega)
  obtain ⟨ch', wh', L', eL', eC⟩ := gp_eCh_f hw (by omega)
  rw [eL] at eL'
  cases eL'
  rw [eL] at hl
  have hl : L.length + 1 ≤ 1 := hl
  have hL : L = [] := List.eq_nil_of_length_eq_zero (by omega)
  subst hL
  have hcc := hw.2.2.1 (by omega)
  have hmd4 := hcc.1
  have h7 := hw.1.2.2.1
  obtain ⟨M1, e1, e2, e3, e4⟩ := gp_ecC hk hw h3 h
  rw [eC] at e3 e4
  have e3 : gp_tC k M1 (gp_eP s).2.1 := e3
  have hR := e4 (by show 1 ≤ s.1; omega)
  obtain ⟨b1, b2, b3, b4, b5, b6, b7, b8, b9⟩ := hR
  rw [ew] at b5
  have b52 : M1.1 6 0 = nI (gp_pN w) := b5.2.1
  have b3 : M1.1 4 4 = nI s.2.1.1 := by rw [b3]; show nI (gp_eP s).2.1.1 = _; rw [f1.1]
  have b4 : M1.1 4 5 = nI (gp_md s.2.1) := by rw [b4]; show nI (gp_md (gp_eP s).2.1) = _; rw [f1.md]
  have b6 : M1.1 (k + 1) s.2.1.1 = nI (s.2.1.2.2 1 s.2.1.1) := by
    have b6 : M1.1 (k + 1) (gp_eP s).2.1.1 = nI ((gp_eP s).2.1.2.2 1 (gp_eP s).2.1.1) := b6
    rw [f1.1, f1.2.2.1 1 (by omega)] at b6
    exact b6
  have b7 : M1.1 (k + 2) s.2.1.1 = nI (s.2.1.2.2 2 s.2.1.1) := by
    have b7 : M1.1 (k + 2) (gp_eP s).2.1.1 = nI ((gp_eP s).2.1.2.2 2 (gp_eP s).2.1.1) := b7
    rw [f1.1, f1.2.2.1 2 (by omega)] at b7
    exact b7
  have b8 : M1.1 (k + 3) s.2.1.1 = nI (s.2.1.2.2 3 s.2.1.1) := by
    have b8 : M1.1 (k + 3) (gp_eP s).2.1.1 = nI ((gp_eP s).2.1.2.2 3 (gp_eP s).2.1.1) := b8
    rw [f1.1, f1.2.2.1 3 (by omega)] at b8
    exact b8
  have b9 : M1.1 (k + 4) s.2.1.1 = s.2.1.2.1 s.2.1.1 := by
    have b9 : M1.1 (k + 4) (gp_eP s).2.1.1 = (gp_eP s).2.1.2.1 (gp_eP s).2.1.1 := b9
    rw [f1.1, f1.2.1] at b9
    exact b9
  have hws : gp_sP w := gp_okO_s (T := s.2.1) (o := some w) (fun p hp => by cases hp; exact hwp) rfl
  have h8m : M1.1 (k + 8) (gp_md s.2.1) = nI (s.2.1.2.2 8 (gp_md s.2.1)) := by
    rw [(e3.2.2 _ hmd4).2.1, f1.2.2.1 8 (by omega)]
  have hv : vp_nar .boolean (if w.2.2 = true then (1 : Int32) else 0) = nI (if w.2.2 = true then 1 else 0) := by
    cases w.2.2 <;> decide
  unfold f1_endRule
  rw [e1, gp_eB, show gz_inb 0 7 = true from gp_inb (i := 0) (by omega) (by omega), gp_eC, gp_eL, show (0 : Int32).toNatClampNeg = 0 from rfl, b52, b4, gp_eL, gp_ckb hmd4 (by omega), gp_fOf hws, gp_eB2, gp_ckb hmd4 (by omega), nI_clamp (by omega), h8m, gp_or, gp_eL, gp_lOf hws, gp_eB2, gp_gn (by omega), b3, gp_ckb (show s.2.1.1 < 8 by omega) (by omega), nI_clamp (by omega), gp_eL, gp_mOf hws, gp_eB2, gp_gn (by omega), gp_gn (by omega), b3, gp_ckb (show s.2.1.1 < 8 by omega) (by omega), nI_clamp (by omega), gp_eL, gp_gn (by omega), gp_gn (by omega), gp_gn (by omega), b3, nI_1, gp_eL, hv]
  refine ⟨_, rfl, (((e2.trans (gp_bL.w _ (by omega))).trans (gp_bL.w _ (by omega))).trans (gp_bL.w _ (by omega))).trans (gp_bL.w _ (by omega)), ?_⟩
  rw [eR]
  refine ⟨by rw [gp_gs], fun j hj => ?_, fun m hm => ?_⟩
  · have hj : j < s.2.1.1 + 1 := hj
    have oth : ∀ c, c ≤ 4 → (gp_set (gp_set (gp_set (gp_eP s).2.1.2.2 8 (gp_md s.2.1) (s.2.1.2.2 8 (gp_md s.2.1) ||| w.1)) 5 s.2.1.1 w.2.1) 6 s.2.1.1 (if w.2.2 = true then 1 else 0)) c j = s.2.1.2.2 c j := fun c hc => by
      unfold gp_set
      rw [if_neg (by omega), if_neg (by omega), if_neg (by omega), f1.2.2.1 c (by omega)]
    have r : ∀ c, 1 ≤ c → c ≤ 4 → (gz_w (gz_w (gz_w (gz_w M1 (k + 8) (gp_md s.2.1) (nI (s.2.1.2.2 8 (gp_md s.2.1) ||| w.1))) (k + 5) s.2.1.1 (nI w.2.1)) (k + 6) s.2.1.1 (nI (if w.2.2 = true then 1 else 0))) k 0 (nI (s.2.1.1 + 1))).1 (k + c) = M1.1 (k + c) := fun c h1 h2 => by rw [gp_wc _ (by omega), gp_wc _ (by omega), gp_wc _ (by omega), gp_wc _ (by omega)]
    dsimp only
    rw [oth 1 (by omega), oth 2 (by omega), oth 3 (by omega), r 1 (by omega) (by omega), r 2 (by omega) (by omega), r 3 (by omega) (by omega), r 4 (by omega) (by omega)]
    by_cases hjT : j = s.2.1.1
    · subst hjT
      refine ⟨b6, b7, b8, b9, ?_, ?_⟩
      · rw [gp_gn (by omega), gp_gn (by omega), gp_gs]
        dsimp only [gp_set]
        rw [if_neg (by omega), if_pos ⟨rfl, rfl⟩]
      · rw [gp_gn (by omega), gp_gs]
        exact congrArg nI (if_pos (c := (6 : Nat) = 6 ∧ s.2.1.1 = s.2.1.1) ⟨rfl, rfl⟩).symm
    · obtain ⟨a1, a2, a3, a4, a5, a6⟩ := e3.2.1 j (by rw [f1.1]; omega)
      rw [f1.2.2.1 1 (by omega)] at a1
      rw [f1.2.2.1 2 (by omega)] at a2
      rw [f1.2.2.1 3 (by omega)] at a3
      rw [f1.2.1] at a4
      refine ⟨a1, a2, a3, a4, ?_, ?_⟩
      · rw [gp_gn (by omega), gp_gn (by omega), gp_gn (by omega), gp_gn (by omega), a5]
        dsimp only [gp_set]
        rw [if_neg (by omega), if_neg (by omega), if_neg (by omega)]
      · rw [gp_gn (by omega), gp_gn (by omega), gp_gn (by omega), gp_gn (by omega), a6]
        dsimp only [gp_set]
        rw [if_neg (by omega), if_neg (by omega), if_neg (by omega)]
  · obtain ⟨a1, a2, a3, a4⟩ := e3.2.2 m hm
    refine ⟨?_, ?_, fun x hx => ?_, fun x hx => ?_⟩
    · rw [gp_gn (by omega), gp_gn (by omega), gp_gn (by omega), gp_gn (by omega), a1]
      dsimp only [gp_set]
      rw [if_neg (by omega), if_neg (by omega), if_neg (by omega)]
    · rw [gp_gn (by omega), gp_gn (by omega), gp_gn (by omega)]
      dsimp only [gp_set]
      rw [if_neg (by omega), if_neg (by omega)]
      by_cases hmm : m = gp_md s.2.1
      · rw [hmm, gp_gs, if_pos ⟨rfl, rfl⟩]
      · rw [gp_gn (by omega), a2, if_neg (by omega)]
    · rw [gp_gn (by omega), gp_gn (by omega), gp_gn (by omega), gp_gn (by omega), a3 x hx]
      dsimp only [gp_set]
      rw [if_neg (by omega), if_neg (by omega), if_neg (by omega)]
    · rw [gp_gn (by omega), gp_gn (by omega), gp_gn (by omega), gp_gn (by omega), a4 x hx]
      dsimp only [gp_set]
      rw [if_neg (by omega), if_neg (by omega), if_neg (by omega)]
end
end
section
/-! rules told as a text: a letter, a bracket, a rule's beginning in the component -/
section
variable {k : Nat} {M M' : gz_M} {s : gp_S}
theorem gp_add_60 (hk : 6 < k) {m c q : Nat} (hm : m < 4) (hc : c < 256) (hq : q < 2 ^ 10) (R : Nat → Nat) (h5 : M.1 4 5 = nI m) : ∀ (d n x : Nat) (M1 : gz_M), x + d = 8 → d < n → M1.2 = M.2 → (∀ a, a ≠ k + 14 + 1 + m → M1.1 a = M.1 a) → (∀ b, b < 8 → M1.1 (k + 14 + 1 + m) b = nI (if b < x ∧ (c = 46 ∨ c = 97 + b) then R b ||| q else R b)) → ∃ M', f1_addLetter_60 k n (nI c) (nI q) (nI x) M1 = some (gz_w M' 4 3 (nI (q ||| q <<< 10))) ∧ M'.2 = M.2 ∧ (∀ a, a ≠ k + 14 + 1 + m → M'.1 a = M.1 a) ∧ (∀ b, b < 8 → M'.1 (k + 14 + 1 + m) b = nI (if c = 46 ∨ c = 97 + b then R b ||| q else R b)) := by
  intro d
  induction d with
  | zero =>
    intro n x M1 hx hn e1 e2 e3
    obtain ⟨n, rfl⟩ : ∃ q, n = q + 1 := ⟨n - 1, by omega⟩
    have hx : x = 8 := by omega
    subst hx
    refine ⟨M1, by rw [f1_addLetter_60, if_pos (by exact nI_le (Nat.le_refl 8) (by decide)), gp_eL, gp_shl10 _ (by omega), gp_or], e1, e2, fun b hb => ?_⟩
    rw [e3 b hb]
    by_cases h : c = 46 ∨ c = 97 + b
    · rw [if_pos ⟨hb, h⟩, if_pos h]
    · rw [if_neg (fun h' => h h'.2), if_neg h]
  | succ d ih =>
    intro n x M1 hx hn e1 e2 e3
    obtain ⟨n, rfl⟩ : ∃ q, n = q + 1 := ⟨n - 1, by omega⟩
    have h5' : M1.1 4 5 = nI m := by rw [e2 4 (by omega)]; exact h5
    have step : ∀ v, v = (if c = 46 ∨ c = 97 + x then R x ||| q else R x) → ∃ M', f1_addLetter_60 k n (nI c) (nI q) (nI (x + 1)) (gz_w M1 (k + 14 + 1 + m) x (nI v)) = some (gz_w M' 4 3 (nI (q ||| q <<< 10))) ∧ M'.2 = M.2 ∧ (∀ a, a ≠ k + 14 + 1 + m → M'.1 a = M.1 a) ∧ (∀ b, b < 8 → M'.1 (k + 14 + 1 + m) b = nI (if c = 46 ∨ c = 97 + b then R b ||| q else R b)) := fun v hv => by
      refine ih n (x + 1) _ (by omega) (by omega) (by rw [gp_gl]; exact e1) (fun a ha => by rw [gp_wc _ ha]; exact e2 a ha) (fun b hb => ?_)
      by_cases hbx : b = x
      · subst hbx
        rw [gp_gs, hv]
        by_cases h : c = 46 ∨ c = 97 + b
        · rw [if_pos h, if_pos ⟨by omega, h⟩]
        · rw [if_neg h, if_neg (fun h' => h h'.2)]
      · rw [gp_gn (by omega), e3 b hb]
        by_cases h : b < x ∧ (c = 46 ∨ c = 97 + b)
        · rw [if_pos h, if_pos ⟨by omega, h.2⟩]
        · rw [if_neg h, if_neg (fun h' => h ⟨by omega, h'.2⟩)]
    have hx3 := e3 x (by omega)
    rw [if_neg (show ¬ (x < x ∧ _) from fun h => absurd h.1 (by omega))] at hx3
    rw [f1_addLetter_60, if_neg (show ¬ (8 : Int32) ≤ nI x from nI_ge (b := 8) (by omega) (by omega)), h5', gp_ckb hm (by omega), gp_ckb (by omega) (by omega), nI_clamp (by omega), nI_clamp (by omega), hx3]
    by_cases h46 : c = 46
    · rw [if_pos (show nI c = (46 : Int32) from by rw [h46]; rfl), gp_ckb (by omega) (by omega), gp_or, gp_eL, gp_eL, nI_1]
      exact step _ (by rw [if_pos (Or.inl h46)])
    · rw [if_neg (show ¬ nI c = (46 : Int32) from fun e => h46 ((nI_eq (b := 46) (by omega) (by omega)).mp e)), show (97 : Int32) + nI x = nI (97 + x) from nI_add 97 x]
      by_cases h97 : c = 97 + x
      · rw [if_pos (by rw [h97]), gp_ckb (by omega) (by omega), gp_or, gp_eL, gp_eL, nI_1]
        exact step _ (by rw [if_pos (Or.inr h97)])
      · rw [if_neg (fun e => h97 ((nI_eq (by omega) (by omega)).mp e)), gp_ckb (by omega) (by omega), show nI (R x) ||| 0 = nI (R x) from by rw [gp_n0, gp_or, Nat.or_zero], gp_eL, gp_eL, nI_1]
        exact step _ (by rw [if_neg (fun h => h.elim h46 h97)])
theorem gp_letC (hk : 6 < k) (hw : gp_wS s) (h23 : s.1 = 2 ∨ s.1 = 3) {c : Nat} (hc : c < 256) (h : gp_bC k M s) (hu : s.2.1.2.2 7 (gp_md s.2.1) < 10) : ∃ M', f1_addLetter k (nI c) M = some M' ∧ gp_bL k M M' ∧ gp_bC k M' (gp_let s c) := by
  obtain ⟨f1, f2, f3, ch, wh, L, eL, eP1, eP2, eP3, eP4⟩ := gp_eP_f hw (by omega)
  have hmd4 := (hw.2.2.1 (by omega)).1
  have h7 := hw.1.2.2.1
  obtain ⟨M1, e1, e2, e3, e4⟩ := gp_epC hk hw (by omega) h
  have hR := e4 (by rw [eP3]; omega)
  obtain ⟨b1, b2, b3, b4, b5, b6, b7, b8, b9⟩ := hR
  have hmd : gp_md (gp_eP s).2.1 = gp_md s.2.1 := f1.md
  have hu1 : (gp_eP s).2.1.2.2 7 (gp_md s.2.1) < 10 := by rw [f1.2.2.1 7 (by omega)]; exact hu
  have h71 : (gp_eP s).2.1.1 ≤ 7 := by rw [f1.1]; exact h7
  unfold gp_let
  rw [← hmd] at hu1 hmd4
  generalize hT : (gp_eP s).2.1 = T1 at *
  generalize hmm : gp_md T1 = m at *
  generalize hU : T1.2.2 7 m = u at *
  have hq : 1 <<< u < 2 ^ 10 := by rw [Nat.one_shiftLeft]; exact Nat.pow_lt_pow_right (by decide) hu1
  obtain ⟨a1, a2, a3, a4⟩ := e3.2.2 m hmd4
  rw [hU] at a1
  -- the memory after the letter is counted
  have N0 : ∃ N, N = gz_w (gz_w M1 (k + 7) m (nI (u + 1))) (k + 2) T1.1 (nI (T1.2.2 2 T1.1 + 1)) := ⟨_, rfl⟩
  obtain ⟨N, hN⟩ := N0
  have n45 : N.1 4 5 = nI m := by rw [hN, gp_gn (by omega), gp_gn (by omega)]; exact b4
  obtain ⟨M', r1, r2, r3, r4⟩ := gp_add_60 (M := N) (m := m) (c := c) (q := 1 <<< u) hk hmd4 hc hq (T1.2.2 (15 + m)) n45 8 gz_FU 0 N (by omega) (by unfold gz_FU; omega) rfl (fun _ _ => rfl) (fun b hb => by rw [if_neg (fun h => absurd h.1 (by omega)), hN, gp_gn (by omega), gp_gn (by omega)]; exact a4 b hb)
  have hNL : gp_bL k M1 N := by rw [hN]; exact (gp_bL.w _ (by omega)).trans (gp_bL.w _ (by omega))
  have oth : ∀ a i, a ≠ k + 14 + 1 + m → ¬ (a = k + 7 ∧ i = m) → ¬ (a = k + 2 ∧ i = T1.1) → ¬ (a = 4 ∧ i = 3) → (gz_w M' 4 3 (nI (1 <<< u ||| (1 <<< u) <<< 10))).1 a i = M1.1 a i := fun a i h1 h2 h3 h4 => by
    rw [gp_gn (by omega), r3 a h1, hN, gp_gn (by omega), gp_gn (by omega)]
  have hv : ∀ a b, (gp_aL T1 c).2.2 a b = if a = 7 ∧ b = m then u + 1 else if a = 2 ∧ b = T1.1 then T1.2.2 2 T1.1 + 1 else if a = 15 + m ∧ b < 8 ∧ (c = 46 ∨ c = 97 + b) then T1.2.2 a b ||| 1 <<< u else T1.2.2 a b := fun a b => by
    unfold gp_aL
    dsimp only
    rw [hmm, hU]
    by_cases hz : a = 15 + m ∧ b < 8 ∧ (c = 46 ∨ c = 97 + b)
    · rw [if_pos hz, if_pos (show u < 10 ∧ _ from ⟨hu1, hz⟩)]
    · rw [if_neg hz, if_neg (show ¬ (u < 10 ∧ _) from fun h => hz h.2)]
  have hmA : gp_md (gp_aL T1 c) = m := by rw [gp_aL_md]; exact hmm
  refine ⟨gz_w M' 4 3 (nI (1 <<< u ||| (1 <<< u) <<< 10)), ?_, ?_, ?_, fun _ => ⟨?_, ?_, ?_, ?_, ?_, ?_, ?_, ?_, ?_⟩⟩
  · unfold f1_addLetter
    rw [e1, gp_eB, b4, gp_ckb hmd4 (by omega), nI_clamp (by omega), a1, gp_eL, if_neg (nI_pos (by omega)), if_pos (show nI u < (10 : Int32) from nI_lt (b := 10) (by omega) (by omega)), gp_eL, gp_ckb hmd4 (by omega), gp_ckb hmd4 (by omega), nI_clamp (by omega), a1, nI_1, gp_eL, gp_gn (by omega), b3, gp_eL, gp_ckb (show T1.1 < 8 by omega) (by omega), gp_ckb (show T1.1 < 8 by omega) (by omega), nI_clamp (by omega), gp_gn (by omega), b7, nI_1, gp_eL, show gz_shl 1 (nI u) = nI (1 <<< u) from gp_shl1 (by omega), gp_eL, ← hN]
    exact r1
  · refine e2.trans (hNL.trans (gp_bL.trans ⟨r2, fun a _ _ _ h => r3 a (by omega)⟩ (gp_bL.w _ (by omega))))
  · refine ⟨?_, fun j hj => ?_, fun y hy => ?_⟩
    · rw [oth k 0 (by omega) (by omega) (by omega) (by omega)]; exact e3.1
    · have hj : j < T1.1 := hj
      obtain ⟨c1, c2, c3, c4, c5, c6⟩ := e3.2.1 j hj
      rw [oth _ _ (by omega) (by omega) (by omega) (by omega), oth _ _ (by omega) (by omega) (by omega) (by omega), oth _ _ (by omega) (by omega) (by omega) (by omega), oth _ _ (by omega) (by omega) (by omega) (by omega), oth _ _ (by omega) (by omega) (by omega) (by omega), oth _ _ (by omega) (by omega) (by omega) (by omega)]
      rw [hv 1, hv 2, hv 3, hv 5, hv 6, if_neg (by omega), if_neg (by omega), if_neg (by omega), if_neg (by omega), if_neg (by omega), if_neg (by omega), if_neg (by omega), if_neg (by omega), if_neg (by omega), if_neg (by omega), if_neg (by omega), if_neg (by omega), if_neg (by omega), if_neg (by omega), if_neg (by omega)]
      exact ⟨c1, c2, c3, c4, c5, c6⟩
    · obtain ⟨c1, c2, c3, c4⟩ := e3.2.2 y hy
      refine ⟨?_, ?_, fun x hx => ?_, fun x hx => ?_⟩
      · rw [hv 7]
        by_cases hym : y = m
        · rw [if_pos ⟨rfl, hym⟩, gp_gn (by omega), r3 _ (by omega), hN, gp_gn (by omega), hym, gp_gs]
        · rw [if_neg (by omega), if_neg (by omega), if_neg (by omega), oth _ _ (by omega) (by omega) (by omega) (by omega)]
          exact c1
      · rw [hv 8, if_neg (by omega), if_neg (by omega), if_neg (by omega), oth _ _ (by omega) (by omega) (by omega) (by omega)]
        exact c2
      · rw [hv (10 + y), if_neg (by omega), if_neg (by omega), if_neg (by omega), oth _ _ (by omega) (by omega) (by omega) (by omega)]
        exact c3 x hx
      · rw [hv (15 + y), if_neg (by omega), if_neg (by omega)]
        by_cases hym : y = m
        · subst hym
          rw [gp_gn (by omega), r4 x hx]
          by_cases hz : c = 46 ∨ c = 97 + x
          · rw [if_pos hz, if_pos ⟨rfl, hx, hz⟩]
          · rw [if_neg hz, if_neg (fun h => hz h.2.2)]
        · rw [if_neg (by omega), oth _ _ (by omega) (by omega) (by omega) (by omega)]
          exact c4 x hx
  · rw [oth _ _ (by omega) (by omega) (by omega) (by omega)]; exact b1
  · rw [gp_gs]
    show _ = gp_eO (some (gp_pL T1))
    unfold gp_pL
    rw [hmm, hU, if_pos hu1]
    show _ = nI (gp_pN (1 <<< u, 1 <<< u, false))
    unfold gp_pN
    dsimp only
    rw [if_neg (by decide), Nat.or_zero]
  · rw [oth _ _ (by omega) (by omega) (by omega) (by omega)]; exact b3
  · rw [oth _ _ (by omega) (by omega) (by omega) (by omega), b4]
    show _ = nI (gp_md (gp_aL T1 c))
    rw [hmA]
  · exact b5.fr (fun i hi => ⟨oth _ _ (by omega) (by omega) (by omega) (by omega), oth _ _ (by omega) (by omega) (by omega) (by omega)⟩)
  · rw [show (3, gp_aL T1 c, (gp_eP s).2.2.1, some (gp_pL T1)).2.1.1 = T1.1 from rfl, oth _ _ (by omega) (by omega) (by omega) (by omega), b6]
    show _ = nI ((gp_aL T1 c).2.2 1 T1.1)
    rw [hv 1, if_neg (by omega), if_neg (by omega), if_neg (by omega)]
  · show (gz_w M' 4 3 _).1 (k + 2) T1.1 = nI ((gp_aL T1 c).2.2 2 T1.1)
    rw [hv 2, if_neg (by omega), if_pos ⟨rfl, rfl⟩, gp_gn (by omega), r3 _ (by omega), hN, gp_gs]
  · show (gz_w M' 4 3 _).1 (k + 3) T1.1 = nI ((gp_aL T1 c).2.2 3 T1.1)
    rw [hv 3, if_neg (by omega), if_neg (by omega), if_neg (by omega), oth _ _ (by omega) (by omega) (by omega) (by omega)]
    exact b8
  · show (gz_w M' 4 3 _).1 (k + 4) T1.1 = T1.2.1 T1.1
    rw [oth _ _ (by omega) (by omega) (by omega) (by omega)]
    exact b9
end
end
