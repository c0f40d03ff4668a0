/-! rules told as a text: the component's table is the machine's -/
section
variable {k k1 : Nat} {M M' : gz_M} {s s' : gp_S} {t : List Nat}
theorem gp_bC_d {d : Nat} {s : gp_S} (h : gp_bC k M s) (h1 : 1 ≤ s.1) : gp_bC k M (d, s.2.1, s.2.2.1, s.2.2.2) := ⟨h.1, fun _ => h.2 h1⟩
theorem gp_bStep (hk : 6 < k) (hw : gp_wS s) {c : Nat} (hc : c < 256) (h : gp_bC k M s) (e : gp_stp s c = some s') (hu : ∀ m, m < 4 → s'.2.1.2.2 7 m ≤ 10) : ∃ M', (if s.1 = 0 then f1_beginRule k (nI c - 48) M else if c = 59 then f1_endRule k M else if gp_isL c = true then f1_addLetter k (nI c) M else f1_take k (nI c) M) = some M' ∧ gp_bL k M M' ∧ gp_bC k M' s' := by
  have ho := hw.1
  have h5 := ho.1
  have h7 := ho.2.2.1
  have hst := gp_stp_u hw hc e
  have hcases : s.1 = 0 ∨ s.1 = 1 ∨ s.1 = 2 ∨ s.1 = 3 ∨ s.1 = 4 ∨ s.1 = 5 := by omega
  have notL : ∀ n, n < 46 ∨ (46 < n ∧ n < 97) ∨ 104 < n → ¬ gp_isL n = true := fun n hn => by
    unfold gp_isL
    simp
    omega
  have nx : gp_nxt s = some s' → 3 ≤ s.1 → s.1 ≠ 4 → s.2.2.1.length ≤ 1 → c = 59 → ∃ M', (if s.1 = 0 then f1_beginRule k (nI c - 48) M else if c = 59 then f1_endRule k M else if gp_isL c = true then f1_addLetter k (nI c) M else f1_take k (nI c) M) = some M' ∧ gp_bL k M M' ∧ gp_bC k M' s' := by
    intro e h3 h4 hl h59
    obtain ⟨a1, a2, a3, a4⟩ := gp_nxt_1 e
    obtain ⟨M1, e1, e2, e3⟩ := gp_erC hk hw h3 hl h
    rw [if_neg (by omega), if_pos h59]
    exact ⟨M1, e1, e2, by rw [a4]; exact e3, fun h => by omega⟩
  have inP : gp_inP s c = some s' → s.1 = 2 ∨ s.1 = 3 → ∃ M', (if s.1 = 0 then f1_beginRule k (nI c - 48) M else if c = 59 then f1_endRule k M else if gp_isL c = true then f1_addLetter k (nI c) M else f1_take k (nI c) M) = some M' ∧ gp_bL k M M' ∧ gp_bC k M' s' := by
    intro e h23
    rcases (gp_inP_opn ho (by omega) e).2.2 with ⟨l1, _⟩ | ⟨l1, l2, l3, _⟩
    · have h59 : c ≠ 59 := fun h => by rw [h] at l1; exact absurd l1 (by decide)
      rw [if_neg (by omega), if_neg h59, if_pos l1]
      unfold gp_inP at e
      rw [if_pos l1] at e
      have e := Option.some.inj e
      have hmd4 := (hw.2.2.1 (by omega)).1
      have hum := hst.1 (gp_md s.2.1)
      rw [if_pos ⟨by omega, l1, rfl⟩] at hum
      have := hu _ hmd4
      rw [← e]
      exact gp_letC hk hw h23 hc h (by omega)
    · have hnl : ¬ gp_isL c = true := by rw [l1]; decide
      rw [if_neg (by omega), if_neg (by omega), if_neg hnl]
      unfold gp_inP at e
      rw [if_neg hnl, if_pos ⟨l2, l3⟩] at e
      have e := Option.some.inj e
      rw [← e, l2]
      exact gp_brkC hk hw (by omega) l3 h
  have tk : s.1 ≠ 0 → c ≠ 59 → ¬ gp_isL c = true → (∃ M', f1_take k (nI c) M = some M' ∧ gp_bL k M M' ∧ gp_bC k M' s') → ∃ M', (if s.1 = 0 then f1_beginRule k (nI c - 48) M else if c = 59 then f1_endRule k M else if gp_isL c = true then f1_addLetter k (nI c) M else f1_take k (nI c) M) = some M' ∧ gp_bL k M M' ∧ gp_bC k M' s' := fun h1 h2 h3 h4 => by
    rw [if_neg h1, if_neg h2, if_neg h3]
    exact h4
  -- what is no mark of a part goes to the act
  have toA : c ≠ 40 → c ≠ 41 → c ≠ 42 → c ≠ 43 → c ≠ 63 → c ≠ 124 → f1_take k (nI c) M = f1_takeAct k (nI c) M := fun g1 g2 g3 g4 g5 g6 => by
    have nb : ∀ n : Nat, n < 2 ^ 31 → c ≠ n → ¬ nI c = nI n := fun n hn h e => h ((nI_eq (by omega) hn).mp e)
    unfold f1_take
    rw [if_neg (show ¬ nI c = 40 from nb 40 (by omega) g1), if_neg (show ¬ nI c = 41 from nb 41 (by omega) g2), if_neg (show ¬ nI c = 42 from nb 42 (by omega) g3), if_neg (show ¬ nI c = 43 from nb 43 (by omega) g4), if_neg (show ¬ nI c = 63 from nb 63 (by omega) g5), if_neg (show ¬ nI c = 124 from nb 124 (by omega) g6)]
    cases f1_takeAct k (nI c) M <;> rfl
  rcases hcases with h0 | h0 | h0 | h0 | h0 | h0
  · unfold gp_stp at e
    rw [if_pos h0] at e
    split at e
    · rename_i hd
      have e := Option.some.inj e
      rw [if_pos h0, ← e]
      exact gp_begC hk ho hd h
    · cases e
  · unfold gp_stp at e
    rw [if_neg (by omega), if_pos h0] at e
    split at e
    · rename_i hd
      have e := Option.some.inj e
      refine tk (by omega) (by omega) (notL c (by omega)) ⟨M, ?_, gp_bL.refl k M, by rw [← e]; exact gp_bC_d h (by omega)⟩
      rw [toA (by omega) (by omega) (by omega) (by omega) (by omega) (by omega), hd]
      unfold f1_takeAct
      rw [if_neg (by decide), if_neg (by decide), if_neg (by decide), if_pos (by rfl)]
    · cases e
  · unfold gp_stp at e
    rw [if_neg (by omega), if_neg (by omega), if_pos h0] at e
    exact inP e (Or.inl h0)
  · unfold gp_stp at e
    rw [if_neg (by omega), if_neg (by omega), if_neg (by omega), if_pos h0] at e
    split at e
    · exact inP e (Or.inr h0)
    · rename_i hnl
      have hl : ¬ gp_isL c = true := fun h => hnl (Or.inl h)
      split at e
      · rename_i hd
        have e := Option.some.inj e
        refine tk (by omega) (by omega) hl ?_
        rw [← e]
        exact gp_sufC hk hw h0 hd h
      · split at e
        · rename_i hd
          have e := Option.some.inj e
          obtain ⟨M1, e1, e2, e3⟩ := gp_ecC hk hw (by omega) h
          obtain ⟨ch', wh', L', e1', e6⟩ := gp_eCh_f hw (by omega)
          refine tk (by omega) (by omega) hl ⟨M1, ?_, e2, ?_⟩
          · unfold f1_take
            rw [hd, if_neg (by decide), if_neg (by decide), if_neg (by decide), if_neg (by decide), if_neg (by decide), if_pos (by rfl), e1]
            rfl
          · rw [← e]
            rw [e6] at e3 ⊢
            exact gp_bC_d (s := (s.1, (gp_eP s).2.1, (none, gp_unO wh' (gp_mgO ch' s.2.2.2)) :: L', none)) e3 (by show 1 ≤ s.1; omega)
        · split at e
          · rename_i hd
            split at e
            · cases e
            · rename_i hl1
              have e := Option.some.inj e
              refine tk (by omega) (by omega) hl ?_
              rw [← e, hd]
              exact gp_clsC hk hw h0 hl1 h
          · split at e
            · rename_i hl1
              have b3 := (h.2 (by omega)).2.2.1
              have act : ∀ (d a : Nat) (v : Int32), 1 ≤ d → v = nI a → c ≠ 59 → gp_act1 s d a = s' → f1_take k (nI c) M = some (gz_w M (k + 3) s.2.1.1 v) → ∃ M', (if s.1 = 0 then f1_beginRule k (nI c - 48) M else if c = 59 then f1_endRule k M else if gp_isL c = true then f1_addLetter k (nI c) M else f1_take k (nI c) M) = some M' ∧ gp_bL k M M' ∧ gp_bC k M' s' := by
                intro d a v hd hv h59 hs ht
                refine tk (by omega) h59 hl ⟨_, ht, gp_bL.w _ (by omega), ?_⟩
                rw [← hs, hv]
                exact gp_actC hk hw (by omega) d a hd h
              split at e
              · rename_i hd
                refine act 5 1 1 (by omega) rfl (by omega) (Option.some.inj e) ?_
                rw [toA (by omega) (by omega) (by omega) (by omega) (by omega) (by omega), hd]
                unfold f1_takeAct
                rw [if_pos (by rfl), b3, gp_ckb (show s.2.1.1 < 8 by omega) (by omega), nI_clamp (by omega)]
                rfl
              · split at e
                · rename_i hd
                  refine act 4 2 2 (by omega) rfl (by omega) (Option.some.inj e) ?_
                  rw [toA (by omega) (by omega) (by omega) (by omega) (by omega) (by omega), hd]
                  unfold f1_takeAct
                  rw [if_neg (by decide), if_pos (by rfl), b3, gp_ckb (show s.2.1.1 < 8 by omega) (by omega), nI_clamp (by omega)]
                  rfl
                · split at e
                  · rename_i hd
                    refine act 4 3 3 (by omega) rfl (by omega) (Option.some.inj e) ?_
                    rw [toA (by omega) (by omega) (by omega) (by omega) (by omega) (by omega), hd]
                    unfold f1_takeAct
                    rw [if_neg (by decide), if_neg (by decide), if_pos (by rfl), b3, gp_ckb (show s.2.1.1 < 8 by omega) (by omega), nI_clamp (by omega)]
                    rfl
                  · split at e
                    · exact nx e (by omega) (by omega) (by assumption) (by assumption)
                    · cases e
            · cases e
  · unfold gp_stp at e
    rw [if_neg (by omega), if_neg (by omega), if_neg (by omega), if_neg (by omega), if_pos h0] at e
    split at e
    · rename_i hd
      have b3 := (h.2 (by omega)).2.2.1
      have nb : ∀ n : Nat, n < 2 ^ 31 → c ≠ n → ¬ nI c = nI n := fun n hn h e => h ((nI_eq (by omega) hn).mp e)
      refine tk (by omega) (by omega) (notL c (by omega)) ⟨gz_w M (k + 4) s.2.1.1 (nI (c - 48)), ?_, gp_bL.w _ (by omega), ?_⟩
      · rw [toA (by omega) (by omega) (by omega) (by omega) (by omega) (by omega)]
        unfold f1_takeAct
        rw [if_neg (show ¬ nI c = 60 from nb 60 (by omega) (by omega)), if_neg (show ¬ nI c = 62 from nb 62 (by omega) (by omega)), if_neg (show ¬ nI c = 61 from nb 61 (by omega) (by omega)), if_neg (show ¬ nI c = 58 from nb 58 (by omega) (by omega)), b3, gp_ckb (show s.2.1.1 < 8 by omega) (by omega), nI_clamp (by omega), show nI c - 48 = nI (c - 48) from gp_subI (b := 48) hd.1]
        rfl
      · rw [← Option.some.inj e]
        exact gp_digC hk (by omega) _ h
    · cases e
  · unfold gp_stp at e
    rw [if_neg (by omega), if_neg (by omega), if_neg (by omega), if_neg (by omega), if_neg (by omega)] at e
    split at e
    · exact nx e (by omega) (by omega) (by have := ho.2.2.2.2.2 (by omega); omega) (by assumption)
    · cases e
theorem gp_itr_u (ht : ∀ i, i < t.length → t.getD i 0 < 256) : ∀ (n p : Nat) (s s' : gp_S), p + n ≤ t.length → gp_wS s → gp_itr t n p s = some s' → ∀ m, s.2.1.2.2 7 m ≤ s'.2.1.2.2 7 m
  | 0, p, s, s', _, h, e, m => by cases e; exact Nat.le_refl _
  | n + 1, p, s, s', hp, h, e, m => by
    rw [gp_itr] at e
    cases h1 : gp_stp s (t.getD p 0) with
    | none => rw [h1] at e; cases e
    | some s1 =>
      rw [h1] at e
      have h2 := gp_itr_u ht n (p + 1) s1 s' (by omega) (gp_stp_w (ht p (by omega)) h h1) e m
      have h3 := (gp_stp_u h (ht p (by omega)) h1).1 m
      omega
end
