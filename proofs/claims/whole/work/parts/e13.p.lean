/-! the bound of the rows: every step keeps the letters' owners -/
section
variable {own : Nat → Nat → Nat} {c : Nat} {s s' : gp_S} {t : List Nat}
theorem gq_oO.up {m x n i j : Nat} {o : Option gp_P} (h : gq_oO (own n) j o) (ho : ∀ p, o = some p → p.1 < 2 ^ min i 10 ∧ p.2.1 < 2 ^ min i 10) (hx : n = m → i ≤ x) : gq_oO (gq_up own m x c n) j o := fun p hp => ⟨(h p hp).1.up (ho p hp).1 hx, (h p hp).2.up (ho p hp).2 hx⟩
theorem gq_olet (hw : gp_wS s) (h : gq_oS own s) (h1 : 1 ≤ s.1) (c : Nat) : ∃ own', gq_oS own' (gp_let s c) := by
  obtain ⟨a1, a2⟩ := gq_oeP hw h h1
  obtain ⟨hsm, hT', hlv, _⟩ := gp_eP_f hw h1
  have hm4 := (hw.2.2.1 h1).1
  have hmd : gp_md (gp_eP s).2.1 = gp_md s.2.1 := hsm.md
  have h01 : (gp_eP s).2.1.1 = s.2.1.1 := hsm.1
  obtain ⟨T1, hT1⟩ : ∃ T1, T1 = (gp_eP s).2.1 := ⟨_, rfl⟩
  rw [← hT1] at a1 hT' hlv hmd h01
  have hlet : gp_let s c = (3, gp_aL T1 c, (gp_eP s).2.2.1, some (gp_pL T1)) := by rw [hT1]; rfl
  rw [hlet]
  have e7 : T1.2.2 7 (gp_md s.2.1) = T1.2.2 7 (gp_md T1) := by rw [hmd]
  refine ⟨gq_up own (gp_md s.2.1) (T1.2.2 7 (gp_md s.2.1)) s.2.1.1, ⟨fun m hm x hx => ?_, fun j hj => ?_⟩, fun _ => ?_⟩
  · show gq_oB _ ((gp_aL T1 c).2.2 (10 + m) x) _
    rw [gp_aL_r T1 c _ _ (by omega) (by omega) (by omega)]
    obtain ⟨b1, b2, b3⟩ := hT'.1 m hm
    by_cases e : m = gp_md s.2.1 ∧ x = T1.2.2 7 (gp_md s.2.1)
    · rw [(b2 x hx).2 (by rw [e.1, e.2]; exact Nat.le_refl _)]
      exact gq_oB0
    · have : gq_up own (gp_md s.2.1) (T1.2.2 7 (gp_md s.2.1)) s.2.1.1 m x = own m x := if_neg e
      rw [this]
      exact (a1.1 m hm x hx).up (i := T1.2.2 7 m) (b2 x hx).1 (fun e2 => by rw [e2]; exact Nat.le_refl _)
  · have hj : j < T1.1 := hj
    show gq_oB _ ((gp_aL T1 c).2.2 5 j) j
    have e1 : (gp_aL T1 c).2.2 1 j = T1.2.2 1 j := gp_aL_r T1 c 1 j (by omega) (by omega) (by omega)
    show gq_oB (gq_up own (gp_md s.2.1) (T1.2.2 7 (gp_md s.2.1)) s.2.1.1 ((gp_aL T1 c).2.2 1 j)) ((gp_aL T1 c).2.2 5 j) j
    rw [e1, gp_aL_r T1 c 5 j (by omega) (by omega) (by omega)]
    obtain ⟨b1, b2, b3, b4, b5, b6⟩ := hT'.2 j hj
    exact (a1.2 j hj).up (i := T1.2.2 7 (T1.2.2 1 j)) b4 (fun e2 => by rw [e2]; exact Nat.le_refl _)
  · have e2 : gp_md (gp_aL T1 c) = gp_md s.2.1 := by rw [gp_aL_md, hmd]
    have e3 : (gp_aL T1 c).1 = s.2.1.1 := h01
    show (∀ x, x ∈ (gp_eP s).2.2.1 → gq_oO (gq_up own (gp_md s.2.1) (T1.2.2 7 (gp_md s.2.1)) s.2.1.1 (gp_md (gp_aL T1 c))) (gp_aL T1 c).1 x.1 ∧ gq_oO (gq_up own (gp_md s.2.1) (T1.2.2 7 (gp_md s.2.1)) s.2.1.1 (gp_md (gp_aL T1 c))) (gp_aL T1 c).1 x.2) ∧ gq_oO (gq_up own (gp_md s.2.1) (T1.2.2 7 (gp_md s.2.1)) s.2.1.1 (gp_md (gp_aL T1 c))) (gp_aL T1 c).1 (some (gp_pL T1))
    rw [e2, e3]
    refine ⟨fun x hx => ?_, fun p hp => ?_⟩
    · obtain ⟨o1, o2⟩ := hlv x hx
      have cv : ∀ o, gp_okO T1 o → ∀ p, o = some p → p.1 < 2 ^ min (T1.2.2 7 (gp_md s.2.1)) 10 ∧ p.2.1 < 2 ^ min (T1.2.2 7 (gp_md s.2.1)) 10 := fun o ho p hp => by
        have := ho p hp
        unfold gp_okP gp_u10 at this
        rw [hmd] at this
        exact this
      exact ⟨(a2 x hx).1.up (cv _ o1) (fun _ => Nat.le_refl _), (a2 x hx).2.up (cv _ o2) (fun _ => Nat.le_refl _)⟩
    · have hp : gp_pL T1 = p := Option.some.inj hp
      rw [← hp]
      unfold gp_pL
      split
      · have one : gq_oB (gq_up own (gp_md s.2.1) (T1.2.2 7 (gp_md s.2.1)) s.2.1.1 (gp_md s.2.1)) (1 <<< T1.2.2 7 (gp_md T1)) s.2.1.1 := fun y hy => by
          rw [Nat.one_shiftLeft, Nat.testBit_two_pow] at hy
          have hy : T1.2.2 7 (gp_md T1) = y := of_decide_eq_true hy
          exact if_pos ⟨rfl, by rw [e7]; exact hy.symm⟩
        exact ⟨one, one⟩
      · exact ⟨gq_oB0, gq_oB0⟩
theorem gq_oinP (hw : gp_wS s) (h : gq_oS own s) (h1 : 1 ≤ s.1) (e : gp_inP s c = some s') : ∃ own', gq_oS own' s' := by
  unfold gp_inP at e
  split at e
  · cases e
    exact gq_olet hw h h1 c
  · split at e
    · cases e
      obtain ⟨a1, a2⟩ := gq_oeP hw h h1
      obtain ⟨hsm, _⟩ := gp_eP_f hw h1
      refine ⟨own, a1, fun _ => ?_⟩
      show (∀ x, x ∈ (none, none) :: (gp_eP s).2.2.1 → gq_oO (own (gp_md (gp_eP s).2.1)) (gp_eP s).2.1.1 x.1 ∧ gq_oO (own (gp_md (gp_eP s).2.1)) (gp_eP s).2.1.1 x.2) ∧ gq_oO (own (gp_md (gp_eP s).2.1)) (gp_eP s).2.1.1 none
      rw [hsm.md, hsm.1]
      refine ⟨fun x hx => ?_, gq_oO0⟩
      rcases List.mem_cons.mp hx with hx | hx
      · rw [hx]; exact ⟨gq_oO0, gq_oO0⟩
      · exact a2 x hx
    · cases e
theorem gq_set1 (F : Nat → Nat → Nat) (a b c d e f j : Nat) : gp_set (gp_set (gp_set F 8 a b) 5 c d) 6 e f 1 j = F 1 j := by
  unfold gp_set
  rw [if_neg (by omega), if_neg (by omega), if_neg (by omega)]
theorem gq_set5 (F : Nat → Nat → Nat) (a b c d e f j : Nat) : gp_set (gp_set (gp_set F 8 a b) 5 c d) 6 e f 5 j = if j = c then d else F 5 j := by
  unfold gp_set
  rw [if_neg (by omega)]
  by_cases h : j = c
  · rw [if_pos ⟨rfl, h⟩, if_pos h]
  · rw [if_neg (fun g => h g.2), if_neg (by omega), if_neg h]
theorem gq_oeR (hw : gp_wS s) (h : gq_oS own s) (h3 : 3 ≤ s.1) : gq_oT own (gp_eR s) := by
  obtain ⟨ch, wh, L, w, e1, e2, e3, e4⟩ := gp_eR_f hw h3
  obtain ⟨a1, a2⟩ := gq_oeP hw h (by omega)
  obtain ⟨hsm, hT', _⟩ := gp_eP_f hw (by omega)
  obtain ⟨hT, hc⟩ := h
  obtain ⟨c1, c2⟩ := hc (by omega)
  rw [e1] at c1
  have c0 := c1 _ List.mem_cons_self
  have hwb := (c0.2.un (c0.1.mg c2)) w e2
  rw [e4]
  have e8 : (gp_eP s).2.1.1 = s.2.1.1 := hsm.1
  refine ⟨fun m hm x hx => ?_, fun j hj => ?_⟩
  · have := a1.1 m hm x hx
    show gq_oB (own m) (gp_set (gp_set (gp_set (gp_eP s).2.1.2.2 8 _ _) 5 _ _) 6 _ _ (10 + m) x) (own m x)
    unfold gp_set
    rw [if_neg (by omega), if_neg (by omega), if_neg (by omega)]
    exact this
  · have hj : j < s.2.1.1 + 1 := hj
    dsimp only
    rw [gq_set1, gq_set5]
    by_cases ej : j = s.2.1.1
    · rw [if_pos ej, hsm.2.2.1 1 (by omega), ej]
      exact hwb.2
    · rw [if_neg ej]
      exact a1.2 j (by omega)
theorem gq_onxt (hw : gp_wS s) (h : gq_oS own s) (h3 : 3 ≤ s.1) (e : gp_nxt s = some s') : gq_oS own s' := by
  unfold gp_nxt at e
  split at e
  · cases e
    exact ⟨gq_oeR hw h h3, fun g => absurd g (by show ¬ 1 ≤ 0; omega)⟩
  · cases e
/-- only cells of no matter here have changed -/
theorem gq_oS.tab {d : Nat} {T' : gp_T} {o : Option gp_P} {L : List (Option gp_P × Option gp_P)} (h : gq_oS own s) (h1 : 1 ≤ s.1) (e1 : T'.1 = s.2.1.1) (e2 : ∀ a, a = 1 ∨ a = 5 ∨ (10 ≤ a ∧ a < 14) → T'.2.2 a = s.2.1.2.2 a) (hL : L = s.2.2.1) (ho : o = s.2.2.2) : gq_oS own (d, T', L, o) := by
  obtain ⟨hT, hc⟩ := h
  have em : gp_md T' = gp_md s.2.1 := by unfold gp_md; rw [e1, e2 1 (by omega)]
  refine ⟨⟨fun m hm x hx => ?_, fun j hj => ?_⟩, fun _ => ?_⟩
  · show gq_oB (own m) (T'.2.2 (10 + m) x) _
    rw [e2 (10 + m) (by omega)]
    exact hT.1 m hm x hx
  · show gq_oB (own (T'.2.2 1 j)) (T'.2.2 5 j) j
    have hj : j < T'.1 := hj
    rw [e2 1 (by omega), e2 5 (by omega)]
    exact hT.2 j (by omega)
  · show (∀ x, x ∈ L → gq_oO (own (gp_md T')) T'.1 x.1 ∧ gq_oO (own (gp_md T')) T'.1 x.2) ∧ gq_oO (own (gp_md T')) T'.1 o
    rw [em, e1, hL, ho]
    exact hc h1
end
