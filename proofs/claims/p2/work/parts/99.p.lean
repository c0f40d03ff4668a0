/-! rules told as a text: the reference reads a rule -/
/-- inside a rule nothing of an act stands yet -/
def gp_na (s : gp_S) : Prop := 1 ≤ s.1 → s.1 ≤ 3 → s.2.1.2.2 3 s.2.1.1 = 0 ∧ s.2.1.2.1 s.2.1.1 = -1
theorem gp_na_T {d : Nat} {s : gp_S} {T : gp_T} {L : List (Option gp_P × Option gp_P)} {o : Option gp_P} (h : gp_na s) (h1 : 1 ≤ s.1) (h3 : s.1 ≤ 3) (e1 : T.1 = s.2.1.1) (e2 : T.2.1 = s.2.1.2.1) (e3 : T.2.2 3 s.2.1.1 = s.2.1.2.2 3 s.2.1.1) : gp_na (d, T, L, o) := fun _ _ => by
  show T.2.2 3 T.1 = 0 ∧ T.2.1 T.1 = -1
  rw [e1, e2, e3]
  exact h h1 h3
theorem gp_na_stp {s s' : gp_S} {c : Nat} (hw : gp_wS s) (h : gp_na s) (e : gp_stp s c = some s') : gp_na s' := by
  have h5 := hw.1.1
  have inP : gp_inP s c = some s' → s.1 = 2 ∨ s.1 = 3 → gp_na s' := by
    intro e h23
    obtain ⟨hsm, _⟩ := gp_eP_f hw (by omega)
    unfold gp_inP at e
    split at e
    · cases e
      refine gp_na_T h (by omega) (by omega) hsm.1 hsm.2.1 ?_
      rw [gp_aL_r _ _ 3 _ (by omega) (by omega) (by omega), hsm.2.2.1 3 (by omega)]
    · split at e
      · cases e
        exact gp_na_T h (by omega) (by omega) hsm.1 hsm.2.1 (by rw [hsm.2.2.1 3 (by omega)])
      · cases e
  have big : s'.1 = 0 ∨ 4 ≤ s'.1 → gp_na s' := fun h1 h2 h3 => by omega
  have nx : gp_nxt s = some s' → gp_na s' := fun e => by
    unfold gp_nxt at e
    split at e
    · cases e
      exact big (Or.inl rfl)
    · cases e
  have hcases : s.1 = 0 ∨ s.1 = 1 ∨ s.1 = 2 ∨ s.1 = 3 ∨ s.1 = 4 ∨ s.1 = 5 := by omega
  unfold gp_stp at e
  rcases hcases with h0 | h0 | h0 | h0 | h0 | h0
  · rw [if_pos h0] at e
    split at e
    · cases e
      refine fun _ _ => ⟨?_, ?_⟩
      · show gp_set _ 3 s.2.1.1 0 3 s.2.1.1 = 0
        unfold gp_set
        rw [if_pos ⟨rfl, rfl⟩]
      · show gp_setD s.2.1.2.1 s.2.1.1 (-1) s.2.1.1 = -1
        unfold gp_setD
        rw [if_pos rfl]
    · cases e
  · rw [if_neg (by omega), if_pos h0] at e
    split at e
    · cases e
      exact gp_na_T h (by omega) (by omega) rfl rfl rfl
    · cases e
  · rw [if_neg (by omega), if_neg (by omega), if_pos h0] at e
    exact inP e (Or.inl h0)
  · rw [if_neg (by omega), if_neg (by omega), if_neg (by omega), if_pos h0] at e
    obtain ⟨hsm, _⟩ := gp_eP_f hw (by omega)
    by_cases c1 : gp_isL c = true ∨ c = 40
    · rw [if_pos c1] at e
      exact inP e (Or.inr h0)
    · rw [if_neg c1] at e
      by_cases c2 : c = 42 ∨ c = 43 ∨ c = 63
      · rw [if_pos c2] at e
        have e := Option.some.inj e
        subst e
        unfold gp_suf
        split
        · exact h
        · have hmd := (hw.2.2.1 (by omega)).1
          have hs := gp_lnk_sm s.2.1
          refine gp_na_T h (by omega) (by omega) ?_ ?_ ?_ <;> split <;> first | rfl | exact (hs _ _ hmd).1 | exact (hs _ _ hmd).2.1 | rw [(hs _ _ hmd).2.2.1 3 (by omega)]
      · rw [if_neg c2] at e
        obtain ⟨ch, wh, L, eL, eC⟩ := gp_eCh_f hw (by omega)
        by_cases c3 : c = 124
        · rw [if_pos c3] at e
          have e := Option.some.inj e
          subst e
          rw [eC]
          exact gp_na_T h (by omega) (by omega) hsm.1 hsm.2.1 (by rw [hsm.2.2.1 3 (by omega)])
        · rw [if_neg c3] at e
          by_cases c4 : c = 41
          · rw [if_pos c4] at e
            by_cases c5 : s.2.2.1.length ≤ 1
            · rw [if_pos c5] at e
              cases e
            · rw [if_neg c5] at e
              have e := Option.some.inj e
              subst e
              unfold gp_cls
              rw [eC]
              exact gp_na_T h (by omega) (by omega) hsm.1 hsm.2.1 (by rw [hsm.2.2.1 3 (by omega)])
          · rw [if_neg c4] at e
            by_cases c5 : s.2.2.1.length ≤ 1
            · rw [if_pos c5] at e
              by_cases d1 : c = 60
              · rw [if_pos d1] at e
                have e := Option.some.inj e
                subst e
                exact big (Or.inr (by show 4 ≤ (5 : Nat); omega))
              · rw [if_neg d1] at e
                by_cases d2 : c = 62
                · rw [if_pos d2] at e
                  have e := Option.some.inj e
                  subst e
                  exact big (Or.inr (by show 4 ≤ (4 : Nat); omega))
                · rw [if_neg d2] at e
                  by_cases d3 : c = 61
                  · rw [if_pos d3] at e
                    have e := Option.some.inj e
                    subst e
                    exact big (Or.inr (by show 4 ≤ (4 : Nat); omega))
                  · rw [if_neg d3] at e
                    by_cases d4 : c = 59
                    · rw [if_pos d4] at e
                      exact nx e
                    · rw [if_neg d4] at e
                      cases e
            · rw [if_neg c5] at e
              cases e
  · rw [if_neg (by omega), if_neg (by omega), if_neg (by omega), if_neg (by omega), if_pos h0] at e
    split at e
    · have e := Option.some.inj e
      subst e
      exact big (Or.inr (by show 4 ≤ (5 : Nat); omega))
    · cases e
  · rw [if_neg (by omega), if_neg (by omega), if_neg (by omega), if_neg (by omega), if_neg (by omega)] at e
    by_cases d4 : c = 59
    · rw [if_pos d4] at e
      exact nx e
    · rw [if_neg d4] at e
      cases e
theorem gp_na_itr {t : List Nat} (ht : ∀ i, i < t.length → t.getD i 0 < 256) : ∀ (n p : Nat) (s s' : gp_S), p + n ≤ t.length → gp_wS s → gp_na s → gp_itr t n p s = some s' → gp_na s'
  | 0, p, s, s', _, _, h, e => by cases e; exact h
  | n + 1, p, s, s', hp, hw, h, e => by
    rw [gp_itr] at e
    cases e1 : gp_stp s (t.getD p 0) with
    | none => rw [e1] at e; cases e
    | some s1 =>
      rw [e1] at e
      exact gp_na_itr ht n (p + 1) s1 s' (by omega) (gp_stp_w (ht p (by omega)) hw e1) (gp_na_stp hw h e1) e
section
variable {M M' : gz_M} {t : List Nat} {p c : Nat} {s : gp_S}
theorem gp_na_at (ha : gp_at M t p) (h : gp_itr t p 0 gp_s0 = some s) : gp_na s := gp_na_itr (fun i hi => (ha.2.2.2.2.2 i hi).2) p 0 gp_s0 s (by have := ha.2.1; omega) gp_w0 (fun h1 _ => by have h1 : 1 ≤ (0 : Nat) := h1; omega) h
/-- one of some signs -/
theorem gp_oneE (h : gp_at M t p) {a b : Nat} (ha : a < 200) (hb : b < 50) : f12_oneOf (nI a) (nI (b + 1)) M = match gp_hr t p with | none => some (0, gz_w M 0 9 (nI p)) | some c => if a ≤ c ∧ c ≤ a + b then some (nI (c - a), gz_w M 0 8 (nI (p + 1))) else some (0, gz_w M 0 9 (nI p)) := by
  have h80 := h.1
  have bad : gz_bd (f12_fault (M.1 0 8) M) (fun M12 => some ((0 : Int32), M12)) = some (0, gz_w M 0 9 (nI p)) := by rw [gp_faultE h, gp_eB]
  unfold f12_oneOf
  rw [gp_fineE h, gp_eB2, if_neg (by decide), gp_hereE h, gp_eB2, nI_add, show a + (b + 1) = (a + b) + 1 by omega, nI_pred, gp_inE h (by omega) (by omega), gp_eB2]
  cases e : gp_hr t p with
  | none =>
    rw [if_pos rfl, bad]
  | some c =>
    dsimp only
    obtain ⟨hc, hp, ht⟩ := gp_hr_lt h e
    by_cases hab : a ≤ c ∧ c ≤ a + b
    · rw [if_neg (show ¬ (if a ≤ c ∧ c ≤ a + b then (1 : Int32) else 0) = 0 from by rw [if_pos hab]; decide), if_pos hab, h.2.2.2.1, nI_1, gp_eL, gp_gs, nI_pred, gp_ckb (show p < 80 by omega) (by omega), nI_clamp (by omega), gp_gn (by omega), (h.2.2.2.2.2 p hp).1, ht, gp_subI hab.1]
    · rw [if_pos (show (if a ≤ c ∧ c ≤ a + b then (1 : Int32) else 0) = 0 from if_neg hab), if_neg hab, bad]
theorem gp_oneN {q : Nat} (h : M.1 0 9 = nI q) (hq : q < 2 ^ 31) (a b : Int32) : f12_oneOf a b M = some (0, M) := by
  unfold f12_oneOf
  rw [gp_nfine h hq, gp_eB2, if_pos rfl]
end
