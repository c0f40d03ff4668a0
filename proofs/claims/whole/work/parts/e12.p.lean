/-! the bound of the rows: letters belong to rules -/
def gq_oB (f : Nat → Nat) (S j : Nat) : Prop := ∀ y, S.testBit y = true → f y = j
def gq_oO (f : Nat → Nat) (j : Nat) (o : Option gp_P) : Prop := ∀ p, o = some p → gq_oB f p.1 j ∧ gq_oB f p.2.1 j
def gq_oT (own : Nat → Nat → Nat) (T : gp_T) : Prop := (∀ m, m < 4 → ∀ x, x < 10 → gq_oB (own m) (T.2.2 (10 + m) x) (own m x)) ∧ ∀ j, j < T.1 → gq_oB (own (T.2.2 1 j)) (T.2.2 5 j) j
def gq_oS (own : Nat → Nat → Nat) (s : gp_S) : Prop := gq_oT own s.2.1 ∧ (1 ≤ s.1 → (∀ x, x ∈ s.2.2.1 → gq_oO (own (gp_md s.2.1)) s.2.1.1 x.1 ∧ gq_oO (own (gp_md s.2.1)) s.2.1.1 x.2) ∧ gq_oO (own (gp_md s.2.1)) s.2.1.1 s.2.2.2)
section
variable {f g : Nat → Nat} {own : Nat → Nat → Nat} {S S' j m c : Nat} {T T' : gp_T} {s s' : gp_S} {o o' : Option gp_P}
theorem gq_oB0 : gq_oB f 0 j := fun y h => by simp at h
theorem gq_oB.or (h : gq_oB f S j) (h' : gq_oB f S' j) : gq_oB f (S ||| S') j := fun y hy => by
  rw [Nat.testBit_or, Bool.or_eq_true] at hy
  exact hy.elim (h y) (h' y)
theorem gq_oB.ite {P : Prop} [Decidable P] (h : gq_oB f S j) : gq_oB f (if P then S else 0) j := by
  split
  · exact h
  · exact gq_oB0
theorem gq_oO0 : gq_oO f j none := fun p h => by cases h
theorem gq_oO.mg (h : gq_oO f j o) (h' : gq_oO f j o') : gq_oO f j (gp_mgO o o') := by
  cases o with
  | none => exact h'
  | some c =>
    cases o' with
    | none => exact h
    | some p =>
      intro q hq
      cases hq
      obtain ⟨a1, a2⟩ := h c rfl
      obtain ⟨b1, b2⟩ := h' p rfl
      exact ⟨a1.or b1.ite, b2.or a2.ite⟩
theorem gq_oO.un (h : gq_oO f j o) (h' : gq_oO f j o') : gq_oO f j (gp_unO o o') := by
  cases o with
  | none => exact h'
  | some c =>
    cases o' with
    | none => exact h
    | some p =>
      intro q hq
      cases hq
      obtain ⟨a1, a2⟩ := h c rfl
      obtain ⟨b1, b2⟩ := h' p rfl
      exact ⟨a1.or b1, a2.or b2⟩
theorem gq_oT.lnk (h : gq_oT own T) (ha : gq_oB (own (gp_md T)) S T.1) (hb : gq_oB (own (gp_md T)) S' T.1) : gq_oT own (gp_lnk T S S') := by
  refine ⟨fun m hm x hx => ?_, fun j hj => ?_⟩
  · show gq_oB (own m) (if 10 + m = 10 + gp_md T ∧ x < 10 ∧ S.testBit x = true then T.2.2 (10 + m) x ||| S' else T.2.2 (10 + m) x) (own m x)
    by_cases e : 10 + m = 10 + gp_md T ∧ x < 10 ∧ S.testBit x = true
    · rw [if_pos e]
      obtain ⟨e1, _, e3⟩ := e
      have e1 : m = gp_md T := by omega
      have := h.1 m hm x hx
      rw [e1] at this ⊢
      rw [ha x e3] at this ⊢
      exact this.or hb
    · rw [if_neg e]
      exact h.1 m hm x hx
  · have e5 : (gp_lnk T S S').2.2 5 j = T.2.2 5 j := by
      show (if 5 = 10 + gp_md T ∧ j < 10 ∧ S.testBit j = true then T.2.2 5 j ||| S' else T.2.2 5 j) = _
      rw [if_neg (by omega)]
    have e1 : (gp_lnk T S S').2.2 1 j = T.2.2 1 j := by
      show (if 1 = 10 + gp_md T ∧ j < 10 ∧ S.testBit j = true then T.2.2 1 j ||| S' else T.2.2 1 j) = _
      rw [if_neg (by omega)]
    rw [e5, e1]
    exact h.2 j hj
theorem gq_oT.lnO (h : gq_oT own T) (ha : gq_oO (own (gp_md T)) T.1 o) (hb : gq_oO (own (gp_md T)) T.1 o') : gq_oT own (gp_lnO T o o') := by
  cases o with
  | none => exact h
  | some c =>
    cases o' with
    | none => exact h
    | some p => exact h.lnk (ha c rfl).2 (hb p rfl).1
/-- a part ends -/
theorem gq_oeP (hw : gp_wS s) (h : gq_oS own s) (h1 : 1 ≤ s.1) : gq_oT own (gp_eP s).2.1 ∧ ∀ x, x ∈ (gp_eP s).2.2.1 → gq_oO (own (gp_md s.2.1)) s.2.1.1 x.1 ∧ gq_oO (own (gp_md s.2.1)) s.2.1.1 x.2 := by
  obtain ⟨hT, hc⟩ := h
  obtain ⟨c1, c2⟩ := hc h1
  unfold gp_eP
  split
  · exact ⟨hT, c1⟩
  · rename_i ch wh L e
    rw [e] at c1
    have c0 := c1 _ List.mem_cons_self
    refine ⟨hT.lnO c0.1 c2, fun x hx => ?_⟩
    rcases List.mem_cons.mp hx with hx | hx
    · rw [hx]; exact ⟨c0.1.mg c2, c0.2⟩
    · exact c1 x (List.mem_cons_of_mem _ hx)
theorem gq_oeCh (hw : gp_wS s) (h : gq_oS own s) (h1 : 1 ≤ s.1) : gq_oT own (gp_eCh s).2.1 ∧ ∀ x, x ∈ (gp_eCh s).2.2.1 → gq_oO (own (gp_md s.2.1)) s.2.1.1 x.1 ∧ gq_oO (own (gp_md s.2.1)) s.2.1.1 x.2 := by
  obtain ⟨a1, a2⟩ := gq_oeP hw h h1
  unfold gp_eCh
  split
  · exact ⟨a1, a2⟩
  · rename_i ch wh L e
    rw [e] at a2
    have c0 := a2 _ List.mem_cons_self
    refine ⟨a1, fun x hx => ?_⟩
    rcases List.mem_cons.mp hx with hx | hx
    · rw [hx]; exact ⟨gq_oO0, c0.2.un c0.1⟩
    · exact a2 x (List.mem_cons_of_mem _ hx)
/-- another owner of one letter that no one has -/
def gq_up (own : Nat → Nat → Nat) (m x j : Nat) : Nat → Nat → Nat := fun a b => if a = m ∧ b = x then j else own a b
theorem gq_oB.up {n x i : Nat} (h : gq_oB (own n) S j) (hS : S < 2 ^ min i 10) (hx : n = m → i ≤ x) : gq_oB (gq_up own m x c n) S j := fun y hy => by
  have hlt : y < min i 10 := by
    refine Classical.byContradiction fun hn => ?_
    have := Nat.testBit_lt_two_pow (x := S) (i := y) (Nat.lt_of_lt_of_le hS (Nat.pow_le_pow_right (by decide) (by omega)))
    rw [this] at hy
    cases hy
  show (if n = m ∧ y = x then c else own n y) = j
  rw [if_neg (fun e => by have := hx e.1; omega)]
  exact h y hy
end
