/-! rules told as a text: the reference's tables behind a rule's end -/
section
variable {M M' : gz_M} {t : List Nat} {p c : Nat} {s : gp_S}
theorem gp_tP_end {T TE : gp_T} {w : gp_P} {r : Nat} (h : gp_tP M T) (hr : T.1 = r) (e1 : TE.1 = r + 1) (eb : ∀ j, j < r → TE.2.2 1 j = T.2.2 1 j ∧ TE.2.2 2 j = T.2.2 2 j ∧ TE.2.2 3 j = T.2.2 3 j ∧ TE.2.1 j = T.2.1 j ∧ TE.2.2 6 j = T.2.2 6 j ∧ TE.2.2 5 j = T.2.2 5 j) (e7 : ∀ m, m < 4 → TE.2.2 7 m = T.2.2 7 m ∧ TE.2.2 (10 + m) = T.2.2 (10 + m) ∧ TE.2.2 (15 + m) = T.2.2 (15 + m) ∧ TE.2.2 8 m = if m = TE.2.2 1 r then T.2.2 8 m ||| w.1 else T.2.2 8 m) (m0 : ∀ a, 12 ≤ a → a ≤ 14 → M'.1 a = M.1 a) (m1 : ∀ a j, 5 ≤ a → a ≤ 11 → j < r → M'.1 a j = M.1 a j) (r1 : M'.1 5 r = nI (TE.2.2 1 r)) (r2 : M'.1 6 r = nI (TE.2.2 2 r)) (r3 : M'.1 7 r = nI (TE.2.2 3 r)) (r4 : M'.1 8 r = TE.2.1 r) (r5 : M'.1 9 r = nI (TE.2.2 6 r)) (r6 : M'.1 10 r = nI w.1) (r7 : M'.1 11 r = nI (TE.2.2 5 r)) : gp_tP M' TE := by
  obtain ⟨h1, ⟨bg, h2, h3⟩, h4⟩ := h
  refine ⟨fun j hj => ?_, ⟨fun j => if j = r then w.1 else bg j, fun j hj => ?_, fun m hm => ?_⟩, fun m hm => ?_⟩
  · rw [e1] at hj
    by_cases hjr : j = r
    · subst hjr
      exact ⟨r1, r2, r3, r4, r5, r7⟩
    · have hj : j < r := by omega
      obtain ⟨b1, b2, b3, b4, b5, b6⟩ := eb j hj
      rw [m1 5 j (by omega) (by omega) hj, m1 6 j (by omega) (by omega) hj, m1 7 j (by omega) (by omega) hj, m1 8 j (by omega) (by omega) hj, m1 9 j (by omega) (by omega) hj, m1 11 j (by omega) (by omega) hj, b1, b2, b3, b4, b5, b6]
      exact h1 j (by omega)
  · rw [e1] at hj
    dsimp only
    by_cases hjr : j = r
    · subst hjr
      rw [if_pos rfl]
      exact r6
    · rw [if_neg hjr, m1 10 j (by omega) (by omega) (by omega)]
      exact h2 j (by omega)
  · rw [(e7 m hm).2.2.2, e1, gp_orN, h3 m hm, hr]
    show _ = gp_orN (fun j => if TE.2.2 1 j = m then (if j = r then w.1 else bg j) else 0) r ||| (if TE.2.2 1 r = m then (if r = r then w.1 else bg r) else 0)
    rw [if_pos (rfl : r = r)]
    have e : gp_orN (fun j => if TE.2.2 1 j = m then (if j = r then w.1 else bg j) else 0) r = gp_orN (fun j => if T.2.2 1 j = m then bg j else 0) r := gp_orN_e (fun j hj => by
      rw [(eb j hj).1, if_neg (show ¬ j = r by omega)])
    rw [e]
    by_cases hmm : m = TE.2.2 1 r
    · rw [if_pos hmm, if_pos hmm.symm]
    · rw [if_neg hmm, if_neg (fun h => hmm h.symm), Nat.or_zero]
  · obtain ⟨a1, a2, a3, _⟩ := e7 m hm
    have hu : gp_u10 TE m = gp_u10 T m := by unfold gp_u10; rw [a1]
    rw [hu, m0 12 (by omega) (by omega), m0 13 (by omega) (by omega), m0 14 (by omega) (by omega), a1, a2, a3]
    exact h4 m hm
/-- links look at the row of modes alone -/
theorem gp_lnO_c {T T' : gp_T} (h1 : T'.1 = T.1) (hm : gp_md T' = gp_md T) (h : ∀ a b, a ≠ 3 → T'.2.2 a b = T.2.2 a b) (o q : Option gp_P) : ∀ a b, a ≠ 3 → (gp_lnO T' o q).2.2 a b = (gp_lnO T o q).2.2 a b := by
  intro a b ha
  unfold gp_lnO
  split
  · unfold gp_lnk
    dsimp only
    rw [hm, h a b ha]
  · exact h a b ha
/-- what a rule's end says when an act stands at it -/
theorem gp_eR_c {s s2 : gp_S} {r : Nat} {L : List (Option gp_P × Option gp_P)} {ch wh : Option gp_P} {w : gp_P} (hw : gp_wS s) (hw2 : gp_wS s2) (h3 : s.1 = 3) (h32 : 3 ≤ s2.1) (hr : s.2.1.1 = r) (e1 : s2.2.1.1 = r) (eD : ∀ j, j < r → s2.2.1.2.1 j = s.2.1.2.1 j) (eT : ∀ a b, ¬ (a = 3 ∧ b = r) → s2.2.1.2.2 a b = s.2.1.2.2 a b) (eL : s2.2.2.1 = s.2.2.1) (eo : s2.2.2.2 = s.2.2.2) (hL : s.2.2.1 = (ch, wh) :: L) (hq : gp_unO wh (gp_mgO ch s.2.2.2) = some w) (hT : gp_tP M (gp_eP s).2.1) (hc : gp_tc M (gp_eP s).2.1) (m0 : ∀ a, 12 ≤ a → a ≤ 14 → M'.1 a = M.1 a) (m1 : ∀ a j, 5 ≤ a → a ≤ 11 → j < r → M'.1 a j = M.1 a j) (m5 : M'.1 5 r = M.1 5 r) (m6 : M'.1 6 r = M.1 6 r) (r3 : M'.1 7 r = nI (s2.2.1.2.2 3 r)) (r4 : M'.1 8 r = s2.2.1.2.1 r) (r5 : M'.1 9 r = nI (if w.2.2 = true then 1 else 0)) (r6 : M'.1 10 r = nI w.1) (r7 : M'.1 11 r = nI w.2.1) : gp_tP M' (gp_eR s2) := by
  obtain ⟨ch1, wh1, L1, w1, a1, a2, a3, a4⟩ := gp_eR_f hw2 h32
  rw [eL, hL] at a1
  cases a1
  rw [eo, hq] at a2
  cases a2
  obtain ⟨hsm, _, _, ch2, wh2, L2, b1, b2, b3, b4, b5⟩ := gp_eP_f hw (by omega)
  rw [hL] at b1
  cases b1
  obtain ⟨hsm2, _, _, ch2, wh2, L2, c1, c2, c3, c4, c5⟩ := gp_eP_f hw2 (by omega)
  rw [eL, hL] at c1
  cases c1
  have hmd : gp_md s2.2.1 = gp_md s.2.1 := by
    unfold gp_md
    rw [e1, eT 1 r (by omega), hr]
  have hab : ∀ a b, ¬ (a = 3 ∧ b = r) → (gp_eP s2).2.1.2.2 a b = (gp_eP s).2.1.2.2 a b := fun a b h => by
    by_cases ha : a = 3
    · subst ha
      rw [hsm2.2.2.1 3 (by omega), hsm.2.2.1 3 (by omega)]
      exact eT 3 b h
    · rw [c5, b5, eo]
      exact gp_lnO_c (by rw [e1, hr]) hmd (fun a b ha => eT a b (by omega)) _ _ a b ha
  have hT1 : (gp_eP s).2.1.1 = r := by rw [hsm.1]; exact hr
  have o1 : (gp_eP s).2.1.2.2 1 r = gp_md s.2.1 := by rw [hsm.2.2.1 1 (by omega)]; unfold gp_md; rw [hr]
  have g : ∀ a b, ¬ (a = 3 ∧ b = r) → (a = 8 → b ≠ gp_md s.2.1) → (a = 5 ∨ a = 6 → b ≠ r) → (gp_eR s2).2.2 a b = (gp_eP s).2.1.2.2 a b := fun a b h h8 h56 => by
    rw [a4]
    dsimp only [gp_set]
    rw [hmd, e1, if_neg (by omega), if_neg (by omega), if_neg (fun h => h8 h.1 h.2), hab a b h]
  have hE1 : (gp_eR s2).2.2 1 r = gp_md s.2.1 := by rw [g 1 r (by omega) (by omega) (by omega), o1]
  refine gp_tP_end (w := w) hT hT1 (by rw [a4]; show s2.2.1.1 + 1 = r + 1; rw [e1]) (fun j hj => ?_) (fun m hm => ?_) m0 m1 ?_ ?_ ?_ ?_ ?_ r6 ?_
  · refine ⟨g 1 j (by omega) (by omega) (by omega), g 2 j (by omega) (by omega) (by omega), g 3 j (by omega) (by omega) (by omega), ?_, g 6 j (by omega) (by omega) (by omega), g 5 j (by omega) (by omega) (by omega)⟩
    rw [a4, hsm.2.1]
    exact eD j hj
  · refine ⟨g 7 m (by omega) (by omega) (by omega), funext fun y => g (10 + m) y (by omega) (by omega) (by omega), funext fun y => g (15 + m) y (by omega) (by omega) (by omega), ?_⟩
    rw [hE1]
    by_cases hmm : m = gp_md s.2.1
    · rw [if_pos hmm, a4]
      dsimp only [gp_set]
      rw [hmd, if_neg (by omega), if_neg (by omega), if_pos ⟨rfl, hmm⟩, eT 8 _ (by omega), hsm.2.2.1 8 (by omega), hmm]
    · rw [if_neg hmm]
      exact g 8 m (by omega) (fun _ => hmm) (by omega)
  · rw [hE1, m5, ← hT1, hc.1, hsm.md]
  · rw [g 2 r (by omega) (by omega) (by omega), m6]
    have := hc.2
    rw [hT1] at this
    exact this
  · have : (gp_eR s2).2.2 3 r = s2.2.1.2.2 3 r := by
      rw [a4]
      dsimp only [gp_set]
      rw [if_neg (by omega), if_neg (by omega), if_neg (by omega), hsm2.2.2.1 3 (by omega)]
    rw [this]
    exact r3
  · rw [a4]
    exact r4
  · have : (gp_eR s2).2.2 6 r = if w.2.2 = true then 1 else 0 := by
      rw [a4]
      dsimp only [gp_set]
      rw [if_pos ⟨rfl, e1.symm⟩]
    rw [this]
    exact r5
  · have : (gp_eR s2).2.2 5 r = w.2.1 := by
      rw [a4]
      dsimp only [gp_set]
      rw [if_neg (by omega), if_pos ⟨rfl, e1.symm⟩]
    rw [this]
    exact r7
end
