/-- the law's cells: the class's (below 1000), the reference's (from 1000), the row out (2000); the three long rows interleaved -/
def gz_cfL : gz_CF := (fun pf k => if k < 1000 then gz_cfC.1 pf k else if k < 2000 then gz_cfR.1 pf (k - 1000) else decide (k = 2000), fun aC ad pf k g gl => if k < 1000 then gz_cfC.2 aC ad pf k g (fun i => gl (3 * i)) else if k < 2000 then gz_cfR.2 aC (fun j => ad (1000 + j)) pf (k - 1000) g (fun i => gl (3 * i + 1)) else gz_oJ 1 aC ad pf k g (fun i => gl (3 * i + 2)))
def gz_sC (M : gz_M) : gz_M := (M.1, fun i => M.2 (3 * i))
def gz_sR (M : gz_M) : gz_M := (fun k => M.1 (1000 + k), fun i => M.2 (3 * i + 1))
def gz_pC (M N : gz_M) : gz_M := (fun k => if k < 1000 then N.1 k else M.1 k, fun i => if i % 3 = 0 then N.2 (i / 3) else M.2 i)
def gz_pR (M N : gz_M) : gz_M := (fun k => if k < 1000 then M.1 k else if k < 2000 then N.1 (k - 1000) else M.1 k, fun i => if i % 3 = 1 then N.2 (i / 3) else M.2 i)
theorem gz_cfC_lt {pf : Nat → Bool} {k : Nat} (h : gz_cfC.1 pf k = true) : k < 183 := by
  unfold gz_cfC at h
  dsimp only at h
  by_cases h1 : k < 183
  · exact h1
  · rw [if_neg (by omega), if_neg h1] at h; cases h
theorem gz_cfR_lt {pf : Nat → Bool} {k : Nat} (h : gz_cfR.1 pf k = true) : k < 36 := by
  unfold gz_cfR at h
  exact of_decide_eq_true h
theorem gz_Lc {pf : Nat → Bool} {k : Nat} (h : gz_cfC.1 pf k = true) : gz_cfL.1 pf k = true := by
  have h1 := gz_cfC_lt h
  show (if k < 1000 then gz_cfC.1 pf k else if k < 2000 then gz_cfR.1 pf (k - 1000) else decide (k = 2000)) = true
  rw [if_pos (by omega)]; exact h
theorem gz_Lr {pf : Nat → Bool} {k : Nat} (h : gz_cfR.1 pf k = true) : gz_cfL.1 pf (1000 + k) = true := by
  have h1 := gz_cfR_lt h
  show (if 1000 + k < 1000 then gz_cfC.1 pf (1000 + k) else if 1000 + k < 2000 then gz_cfR.1 pf (1000 + k - 1000) else decide (1000 + k = 2000)) = true
  rw [if_neg (by omega), if_pos (by omega), Nat.add_sub_cancel_left]; exact h
theorem gz_mwC {D : va_G} {aC : Nat → ClassId} {ad : Nat → Nat} {pf : Nat → Bool} {M : gz_M} {H : Heap} (h : gz_mw D gz_cls gz_cfL aC ad pf M H) : gz_mw D gz_cls gz_cfC aC ad pf (gz_sC M) H := by
  intro k hk
  have h1 := gz_cfC_lt hk
  have h2 := h k (gz_Lc hk)
  have e : gz_cfL.2 aC ad pf k (M.1 k) M.2 = gz_cfC.2 aC ad pf k ((gz_sC M).1 k) (gz_sC M).2 := by
    show (if k < 1000 then _ else _) = _
    rw [if_pos (by omega)]; rfl
  rw [e] at h2
  exact h2
theorem gz_mwR {D : va_G} {aC : Nat → ClassId} {ad : Nat → Nat} {pf : Nat → Bool} {M : gz_M} {H : Heap} (h : gz_mw D gz_cls gz_cfL aC ad pf M H) : gz_mw D gz_cls gz_cfR aC (fun j => ad (1000 + j)) pf (gz_sR M) H := by
  intro k hk
  have h1 := gz_cfR_lt hk
  have h2 := h (1000 + k) (gz_Lr hk)
  have e : gz_cfL.2 aC ad pf (1000 + k) (M.1 (1000 + k)) M.2 = gz_cfR.2 aC (fun j => ad (1000 + j)) pf k ((gz_sR M).1 k) (gz_sR M).2 := by
    show (if 1000 + k < 1000 then _ else if 1000 + k < 2000 then _ else _) = _
    rw [if_neg (by omega), if_pos (by omega), Nat.add_sub_cancel_left]; rfl
  rw [e] at h2
  exact h2
theorem gz_injC {ad : Nat → Nat} {pf : Nat → Bool} (h : gz_inj gz_cfL ad pf) : gz_inj gz_cfC ad pf := fun i j hi hj e => h i j (gz_Lc hi) (gz_Lc hj) e
theorem gz_injR {ad : Nat → Nat} {pf : Nat → Bool} (h : gz_inj gz_cfL ad pf) : gz_inj gz_cfR (fun j => ad (1000 + j)) pf := fun i j hi hj e => by
  have := h (1000 + i) (1000 + j) (gz_Lr hi) (gz_Lr hj) e
  omega
theorem gz_AC {ad : Nat → Nat} {pf : Nat → Bool} {sz q : Nat} (h : gz_A gz_cfC ad pf sz q) : gz_A gz_cfL ad pf sz q := by
  rcases h with ⟨k, hk, e⟩ | h
  · exact Or.inl ⟨k, gz_Lc hk, e⟩
  · exact Or.inr h
theorem gz_AR {ad : Nat → Nat} {pf : Nat → Bool} {sz q : Nat} (h : gz_A gz_cfR (fun j => ad (1000 + j)) pf sz q) : gz_A gz_cfL ad pf sz q := by
  rcases h with ⟨k, hk, e⟩ | h
  · exact Or.inl ⟨1000 + k, gz_Lr hk, e⟩
  · exact Or.inr h
theorem gz_BC {D : va_G} {aC : Nat → ClassId} {ad : Nat → Nat} {pf : Nat → Bool} {M : gz_M} {sz : Nat} {U : State} (h : gz_B D gz_cfL aC ad pf M sz U) : gz_B D gz_cfC aC ad pf (gz_sC M) sz U := ⟨h.1, gz_mwC h.2.1, h.2.2.1, gz_injC h.2.2.2.1, h.2.2.2.2⟩
theorem gz_BR {D : va_G} {aC : Nat → ClassId} {ad : Nat → Nat} {pf : Nat → Bool} {M : gz_M} {sz : Nat} {U : State} (h : gz_B D gz_cfL aC ad pf M sz U) : gz_B D gz_cfR aC (fun j => ad (1000 + j)) pf (gz_sR M) sz U := ⟨h.1, gz_mwR h.2.1, h.2.2.1, gz_injR h.2.2.2.1, h.2.2.2.2⟩
/-- the class's cells are others: the whole memory -/
theorem gz_joinC {D : va_G} {aC : Nat → ClassId} {ad : Nat → Nat} {pf : Nat → Bool} {M N : gz_M} {H H1 : Heap} (h : gz_mw D gz_cls gz_cfL aC ad pf M H) (hi : gz_inj gz_cfL ad pf) (hN : gz_mw D gz_cls gz_cfC aC ad pf N H1) (hk : ∀ q : Nat, q < H.size → ¬ gz_A gz_cfC ad pf H.size q → H1[q]? = H[q]?) : gz_mw D gz_cls gz_cfL aC ad pf (gz_pC M N) H1 := by
  intro k hk1
  by_cases hc : k < 1000
  · have h0 : gz_cfC.1 pf k = true := by
      have h9 : (if k < 1000 then gz_cfC.1 pf k else if k < 2000 then gz_cfR.1 pf (k - 1000) else decide (k = 2000)) = true := hk1
      rw [if_pos hc] at h9; exact h9
    have h2 := hN k h0
    have e : gz_cfL.2 aC ad pf k ((gz_pC M N).1 k) (gz_pC M N).2 = gz_cfC.2 aC ad pf k (N.1 k) N.2 := by
      show (if k < 1000 then _ else _) = _
      rw [if_pos hc]
      have e1 : (gz_pC M N).1 k = N.1 k := by show (if k < 1000 then N.1 k else M.1 k) = _; rw [if_pos hc]
      have e2 : (fun i => (gz_pC M N).2 (3 * i)) = N.2 := by
        funext i
        show (if 3 * i % 3 = 0 then N.2 (3 * i / 3) else M.2 (3 * i)) = _
        rw [if_pos (by omega), show 3 * i / 3 = i by omega]
      rw [e1, e2]
    rw [e]; exact h2
  · have h2 := h k hk1
    have hq : H1[ad k]? = H[ad k]? := by
      refine hk _ h2.lt ?_
      rintro (⟨j, hj, e⟩ | h9)
      · have := hi k j hk1 (gz_Lc hj) e
        have := gz_cfC_lt hj
        omega
      · exact absurd h2.lt (Nat.not_lt.mpr h9)
    have e : gz_cfL.2 aC ad pf k ((gz_pC M N).1 k) (gz_pC M N).2 = gz_cfL.2 aC ad pf k (M.1 k) M.2 := by
      show (if k < 1000 then _ else if k < 2000 then _ else _) = (if k < 1000 then _ else if k < 2000 then _ else _)
      rw [if_neg hc, if_neg hc]
      have e1 : (gz_pC M N).1 k = M.1 k := by show (if k < 1000 then N.1 k else M.1 k) = _; rw [if_neg hc]
      have e2 : (fun i => (gz_pC M N).2 (3 * i + 1)) = fun i => M.2 (3 * i + 1) := by
        funext i
        show (if (3 * i + 1) % 3 = 0 then N.2 ((3 * i + 1) / 3) else M.2 (3 * i + 1)) = _
        rw [if_neg (by omega)]
      have e3 : (fun i => (gz_pC M N).2 (3 * i + 2)) = fun i => M.2 (3 * i + 2) := by
        funext i
        show (if (3 * i + 2) % 3 = 0 then N.2 ((3 * i + 2) / 3) else M.2 (3 * i + 2)) = _
        rw [if_neg (by omega)]
      rw [e1, e2, e3]
    rw [e]; exact va_at.kept h2 hq
theorem gz_joinR {D : va_G} {aC : Nat → ClassId} {ad : Nat → Nat} {pf : Nat → Bool} {M N : gz_M} {H H1 : Heap} (h : gz_mw D gz_cls gz_cfL aC ad pf M H) (hi : gz_inj gz_cfL ad pf) (hN : gz_mw D gz_cls gz_cfR aC (fun j => ad (1000 + j)) pf N H1) (hk : ∀ q : Nat, q < H.size → ¬ gz_A gz_cfR (fun j => ad (1000 + j)) pf H.size q → H1[q]? = H[q]?) : gz_mw D gz_cls gz_cfL aC ad pf (gz_pR M N) H1 := by
  intro k hk1
  have h9 : (if k < 1000 then gz_cfC.1 pf k else if k < 2000 then gz_cfR.1 pf (k - 1000) else decide (k = 2000)) = true := hk1
  by_cases hc : ¬ k < 1000 ∧ k < 2000
  · rw [if_neg hc.1, if_pos hc.2] at h9
    obtain ⟨j, rfl⟩ : ∃ j, k = 1000 + j := ⟨k - 1000, by omega⟩
    rw [Nat.add_sub_cancel_left] at h9
    have h2 := hN j h9
    have e : gz_cfL.2 aC ad pf (1000 + j) ((gz_pR M N).1 (1000 + j)) (gz_pR M N).2 = gz_cfR.2 aC (fun j => ad (1000 + j)) pf j (N.1 j) N.2 := by
      show (if 1000 + j < 1000 then _ else if 1000 + j < 2000 then _ else _) = _
      rw [if_neg hc.1, if_pos hc.2]
      have e1 : (gz_pR M N).1 (1000 + j) = N.1 j := by
        show (if 1000 + j < 1000 then M.1 (1000 + j) else if 1000 + j < 2000 then N.1 (1000 + j - 1000) else M.1 (1000 + j)) = _
        rw [if_neg hc.1, if_pos hc.2, Nat.add_sub_cancel_left]
      have e2 : (fun i => (gz_pR M N).2 (3 * i + 1)) = N.2 := by
        funext i
        show (if (3 * i + 1) % 3 = 1 then N.2 ((3 * i + 1) / 3) else M.2 (3 * i + 1)) = _
        rw [if_pos (by omega), show (3 * i + 1) / 3 = i by omega]
      rw [e1, e2, Nat.add_sub_cancel_left]
    rw [e]; exact h2
  · have h2 := h k hk1
    have hq : H1[ad k]? = H[ad k]? := by
      refine hk _ h2.lt ?_
      rintro (⟨j, hj, e⟩ | h9)
      · have := hi k (1000 + j) hk1 (gz_Lr hj) e
        have := gz_cfR_lt hj
        omega
      · exact absurd h2.lt (Nat.not_lt.mpr h9)
    have e : gz_cfL.2 aC ad pf k ((gz_pR M N).1 k) (gz_pR M N).2 = gz_cfL.2 aC ad pf k (M.1 k) M.2 := by
      show (if k < 1000 then _ else if k < 2000 then _ else _) = (if k < 1000 then _ else if k < 2000 then _ else _)
      have e1 : (gz_pR M N).1 k = M.1 k := by
        show (if k < 1000 then M.1 k else if k < 2000 then N.1 (k - 1000) else M.1 k) = _
        by_cases h1 : k < 1000
        · rw [if_pos h1]
        · rw [if_neg h1, if_neg (fun h2 => hc ⟨h1, h2⟩)]
      have e2 : (fun i => (gz_pR M N).2 (3 * i)) = fun i => M.2 (3 * i) := by
        funext i
        show (if (3 * i) % 3 = 1 then N.2 ((3 * i) / 3) else M.2 (3 * i)) = _
        rw [if_neg (by omega)]
      have e3 : (fun i => (gz_pR M N).2 (3 * i + 2)) = fun i => M.2 (3 * i + 2) := by
        funext i
        show (if (3 * i + 2) % 3 = 1 then N.2 ((3 * i + 2) / 3) else M.2 (3 * i + 2)) = _
        rw [if_neg (by omega)]
      by_cases h1 : k < 1000
      · rw [if_pos h1, if_pos h1, e1, e2]
      · rw [if_neg h1, if_neg h1, if_neg (fun h2 => hc ⟨h1, h2⟩), if_neg (fun h2 => hc ⟨h1, h2⟩), e1, e3]
    rw [e]; exact va_at.kept h2 hq
