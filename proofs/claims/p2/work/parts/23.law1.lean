/-- the law's cells, in threes: the class's (3k), the reference's (3k+1), the row out (2); addresses, memory and long rows likewise -/
def gz_cfL : gz_CF := (fun pf k => if k % 3 = 0 then gz_cfC.1 pf (k / 3) else if k % 3 = 1 then gz_cfR.1 pf (k / 3) else decide (k = 2), fun aC ad pf k g gl => if k % 3 = 0 then gz_cfC.2 aC (fun j => ad (3 * j)) pf (k / 3) g (fun i => gl (3 * i)) else if k % 3 = 1 then gz_cfR.2 aC (fun j => ad (3 * j + 1)) pf (k / 3) g (fun i => gl (3 * i + 1)) else gz_oJ 1 aC ad pf k g (fun i => gl (3 * i + 2)))
def gz_aC (ad : Nat → Nat) : Nat → Nat := fun j => ad (3 * j)
def gz_aR (ad : Nat → Nat) : Nat → Nat := fun j => ad (3 * j + 1)
def gz_sC (M : gz_M) : gz_M := (fun k => M.1 (3 * k), fun i => M.2 (3 * i))
def gz_sR (M : gz_M) : gz_M := (fun k => M.1 (3 * k + 1), fun i => M.2 (3 * i + 1))
def gz_pC (M N : gz_M) : gz_M := (fun k => if k % 3 = 0 then N.1 (k / 3) else M.1 k, fun i => if i % 3 = 0 then N.2 (i / 3) else M.2 i)
def gz_pR (M N : gz_M) : gz_M := (fun k => if k % 3 = 1 then N.1 (k / 3) else M.1 k, fun i => if i % 3 = 1 then N.2 (i / 3) else M.2 i)
def gz_pA (ad ad' : Nat → Nat) : Nat → Nat := fun k => if k % 3 = 0 then ad' (k / 3) else ad k
theorem gz_m0 (j : Nat) : 3 * j % 3 = 0 := by omega
theorem gz_d0 (j : Nat) : 3 * j / 3 = j := by omega
theorem gz_m1 (j : Nat) : (3 * j + 1) % 3 = 1 := by omega
theorem gz_d1 (j : Nat) : (3 * j + 1) / 3 = j := by omega
theorem gz_m2 (j : Nat) : (3 * j + 2) % 3 = 2 := by omega
theorem gz_sCpC (M N : gz_M) : gz_sC (gz_pC M N) = N := by
  refine Prod.ext (funext fun k => ?_) (funext fun i => ?_)
  · show (if 3 * k % 3 = 0 then N.1 (3 * k / 3) else M.1 (3 * k)) = _
    rw [if_pos (gz_m0 k), gz_d0]
  · show (if 3 * i % 3 = 0 then N.2 (3 * i / 3) else M.2 (3 * i)) = _
    rw [if_pos (gz_m0 i), gz_d0]
theorem gz_sRpR (M N : gz_M) : gz_sR (gz_pR M N) = N := by
  refine Prod.ext (funext fun k => ?_) (funext fun i => ?_)
  · show (if (3 * k + 1) % 3 = 1 then N.1 ((3 * k + 1) / 3) else M.1 (3 * k + 1)) = _
    rw [if_pos (gz_m1 k), gz_d1]
  · show (if (3 * i + 1) % 3 = 1 then N.2 ((3 * i + 1) / 3) else M.2 (3 * i + 1)) = _
    rw [if_pos (gz_m1 i), gz_d1]
theorem gz_sRpC (M N : gz_M) : gz_sR (gz_pC M N) = gz_sR M := by
  refine Prod.ext (funext fun k => ?_) (funext fun i => ?_)
  · show (if (3 * k + 1) % 3 = 0 then N.1 ((3 * k + 1) / 3) else M.1 (3 * k + 1)) = M.1 (3 * k + 1)
    rw [if_neg (by omega)]
  · show (if (3 * i + 1) % 3 = 0 then N.2 ((3 * i + 1) / 3) else M.2 (3 * i + 1)) = M.2 (3 * i + 1)
    rw [if_neg (by omega)]
theorem gz_sCpR (M N : gz_M) : gz_sC (gz_pR M N) = gz_sC M := by
  refine Prod.ext (funext fun k => ?_) (funext fun i => ?_)
  · show (if 3 * k % 3 = 1 then N.1 (3 * k / 3) else M.1 (3 * k)) = M.1 (3 * k)
    rw [if_neg (by omega)]
  · show (if 3 * i % 3 = 1 then N.2 (3 * i / 3) else M.2 (3 * i)) = M.2 (3 * i)
    rw [if_neg (by omega)]
theorem gz_aCpA (ad ad' : Nat → Nat) : gz_aC (gz_pA ad ad') = ad' := funext fun k => by
  show (if 3 * k % 3 = 0 then ad' (3 * k / 3) else ad (3 * k)) = _
  rw [if_pos (gz_m0 k), gz_d0]
theorem gz_aRpA (ad ad' : Nat → Nat) : gz_aR (gz_pA ad ad') = gz_aR ad := funext fun k => by
  show (if (3 * k + 1) % 3 = 0 then ad' ((3 * k + 1) / 3) else ad (3 * k + 1)) = ad (3 * k + 1)
  rw [if_neg (by omega)]
theorem gz_Lc (pf : Nat → Bool) (k : Nat) : gz_cfL.1 pf (3 * k) = gz_cfC.1 pf k := by
  show (if 3 * k % 3 = 0 then gz_cfC.1 pf (3 * k / 3) else _) = _
  rw [if_pos (gz_m0 k), gz_d0]
theorem gz_Lr (pf : Nat → Bool) (k : Nat) : gz_cfL.1 pf (3 * k + 1) = gz_cfR.1 pf k := by
  show (if (3 * k + 1) % 3 = 0 then _ else if (3 * k + 1) % 3 = 1 then gz_cfR.1 pf ((3 * k + 1) / 3) else _) = _
  rw [if_neg (by omega), if_pos (gz_m1 k), gz_d1]
theorem gz_Lc2 (aC : Nat → ClassId) (ad : Nat → Nat) (pf : Nat → Bool) (k : Nat) (M : gz_M) : gz_cfL.2 aC ad pf (3 * k) (M.1 (3 * k)) M.2 = gz_cfC.2 aC (gz_aC ad) pf k ((gz_sC M).1 k) (gz_sC M).2 := by
  show (if 3 * k % 3 = 0 then gz_cfC.2 aC (gz_aC ad) pf (3 * k / 3) (M.1 (3 * k)) (gz_sC M).2 else _) = _
  rw [if_pos (gz_m0 k), gz_d0]; rfl
theorem gz_Lr2 (aC : Nat → ClassId) (ad : Nat → Nat) (pf : Nat → Bool) (k : Nat) (M : gz_M) : gz_cfL.2 aC ad pf (3 * k + 1) (M.1 (3 * k + 1)) M.2 = gz_cfR.2 aC (gz_aR ad) pf k ((gz_sR M).1 k) (gz_sR M).2 := by
  show (if (3 * k + 1) % 3 = 0 then _ else if (3 * k + 1) % 3 = 1 then gz_cfR.2 aC (gz_aR ad) pf ((3 * k + 1) / 3) (M.1 (3 * k + 1)) (gz_sR M).2 else _) = _
  rw [if_neg (by omega), if_pos (gz_m1 k), gz_d1]; rfl
theorem gz_L3 {pf : Nat → Bool} {k : Nat} (h : gz_cfL.1 pf k = true) : (∃ j, k = 3 * j ∧ gz_cfC.1 pf j = true) ∨ (∃ j, k = 3 * j + 1 ∧ gz_cfR.1 pf j = true) ∨ k = 2 := by
  by_cases h0 : k % 3 = 0
  · obtain ⟨j, rfl⟩ : ∃ j, k = 3 * j := ⟨k / 3, by omega⟩
    exact Or.inl ⟨j, rfl, (gz_Lc pf j) ▸ h⟩
  · by_cases h1 : k % 3 = 1
    · obtain ⟨j, rfl⟩ : ∃ j, k = 3 * j + 1 := ⟨k / 3, by omega⟩
      exact Or.inr (Or.inl ⟨j, rfl, (gz_Lr pf j) ▸ h⟩)
    · have h2 : (if k % 3 = 0 then gz_cfC.1 pf (k / 3) else if k % 3 = 1 then gz_cfR.1 pf (k / 3) else decide (k = 2)) = true := h
      rw [if_neg h0, if_neg h1] at h2
      exact Or.inr (Or.inr (of_decide_eq_true h2))
theorem gz_L2 (pf : Nat → Bool) : gz_cfL.1 pf 2 = true := rfl
theorem gz_mwC {D : va_G} {aC : Nat → ClassId} {ad : Nat → Nat} {pf : Nat → Bool} {M : gz_M} {H : Heap} (h : gz_mw D gz_cls gz_cfL aC ad pf M H) : gz_mw D gz_cls gz_cfC aC (gz_aC ad) pf (gz_sC M) H := by
  intro k hk
  have h2 := h (3 * k) ((gz_Lc pf k).trans hk)
  rw [gz_Lc2] at h2
  exact h2
theorem gz_mwR {D : va_G} {aC : Nat → ClassId} {ad : Nat → Nat} {pf : Nat → Bool} {M : gz_M} {H : Heap} (h : gz_mw D gz_cls gz_cfL aC ad pf M H) : gz_mw D gz_cls gz_cfR aC (gz_aR ad) pf (gz_sR M) H := by
  intro k hk
  have h2 := h (3 * k + 1) ((gz_Lr pf k).trans hk)
  rw [gz_Lr2] at h2
  exact h2
theorem gz_injC {ad : Nat → Nat} {pf : Nat → Bool} (h : gz_inj gz_cfL ad pf) : gz_inj gz_cfC (gz_aC ad) pf := fun i j hi hj e => by
  have := h (3 * i) (3 * j) ((gz_Lc pf i).trans hi) ((gz_Lc pf j).trans hj) e
  omega
theorem gz_injR {ad : Nat → Nat} {pf : Nat → Bool} (h : gz_inj gz_cfL ad pf) : gz_inj gz_cfR (gz_aR ad) pf := fun i j hi hj e => by
  have := h (3 * i + 1) (3 * j + 1) ((gz_Lr pf i).trans hi) ((gz_Lr pf j).trans hj) e
  omega
theorem gz_AC {ad : Nat → Nat} {pf : Nat → Bool} {sz q : Nat} (h : gz_A gz_cfC (gz_aC ad) pf sz q) : gz_A gz_cfL ad pf sz q := by
  rcases h with ⟨k, hk, e⟩ | h
  · exact Or.inl ⟨3 * k, (gz_Lc pf k).trans hk, e⟩
  · exact Or.inr h
theorem gz_AR {ad : Nat → Nat} {pf : Nat → Bool} {sz q : Nat} (h : gz_A gz_cfR (gz_aR ad) pf sz q) : gz_A gz_cfL ad pf sz q := by
  rcases h with ⟨k, hk, e⟩ | h
  · exact Or.inl ⟨3 * k + 1, (gz_Lr pf k).trans hk, e⟩
  · exact Or.inr h
theorem gz_BC {D : va_G} {aC : Nat → ClassId} {ad : Nat → Nat} {pf : Nat → Bool} {M : gz_M} {sz : Nat} {U : State} (h : gz_B D gz_cfL aC ad pf M sz U) : gz_B D gz_cfC aC (gz_aC ad) pf (gz_sC M) sz U := ⟨h.1, gz_mwC h.2.1, h.2.2.1, gz_injC h.2.2.2.1, h.2.2.2.2⟩
theorem gz_BR {D : va_G} {aC : Nat → ClassId} {ad : Nat → Nat} {pf : Nat → Bool} {M : gz_M} {sz : Nat} {U : State} (h : gz_B D gz_cfL aC ad pf M sz U) : gz_B D gz_cfR aC (gz_aR ad) pf (gz_sR M) sz U := ⟨h.1, gz_mwR h.2.1, h.2.2.1, gz_injR h.2.2.2.1, h.2.2.2.2⟩
theorem gz_Rpf (aC : Nat → ClassId) (ad : Nat → Nat) (pf pf' : Nat → Bool) (g : Nat → Int32) (gl : Nat → Int64) : ∀ k : Nat, gz_cfR.1 pf k = true → gz_cfR.2 aC ad pf k g gl = gz_cfR.2 aC ad pf' k g gl := by
  intro k hk
  have hk : k < 36 := of_decide_eq_true hk
  match k, hk with
  | 0, _ => rfl
  | 1, _ => rfl
  | 2, _ => rfl
  | 3, _ => rfl
  | 4, _ => rfl
  | 5, _ => rfl
  | 6, _ => rfl
  | 7, _ => rfl
  | 8, _ => rfl
  | 9, _ => rfl
  | 10, _ => rfl
  | 11, _ => rfl
  | 12, _ => rfl
  | 13, _ => rfl
  | 14, _ => rfl
  | 15, _ => rfl
  | 16, _ => rfl
  | 17, _ => rfl
  | 18, _ => rfl
  | 19, _ => rfl
  | 20, _ => rfl
  | 21, _ => rfl
  | 22, _ => rfl
  | 23, _ => rfl
  | 24, _ => rfl
  | 25, _ => rfl
  | 26, _ => rfl
  | 27, _ => rfl
  | 28, _ => rfl
  | 29, _ => rfl
  | 30, _ => rfl
  | 31, _ => rfl
  | 32, _ => rfl
  | 33, _ => rfl
  | 34, _ => rfl
  | 35, _ => rfl
  | n + 36, h => exact absurd h (by omega)
/-- the class's cells are others (and may lie elsewhere): the whole memory -/
theorem gz_joinA {D : va_G} {aC : Nat → ClassId} {ad ad' : Nat → Nat} {pf pf' : Nat → Bool} {M N : gz_M} {H H1 : Heap} (h : gz_mw D gz_cls gz_cfL aC ad pf M H) (hi : gz_inj gz_cfL ad pf) (hN : gz_mw D gz_cls gz_cfC aC ad' pf' N H1) (hk : ∀ q : Nat, q < H.size → ¬ gz_A gz_cfC (gz_aC ad) pf H.size q → H1[q]? = H[q]?) : gz_mw D gz_cls gz_cfL aC (gz_pA ad ad') pf' (gz_pC M N) H1 := by
  have hq : ∀ k, gz_cfL.1 pf k = true → k % 3 ≠ 0 → ad k < H.size → H1[ad k]? = H[ad k]? := by
    intro k h1 h2 h3
    refine hk _ h3 ?_
    rintro (⟨j, hj, e⟩ | h9)
    · have := hi k (3 * j) h1 ((gz_Lc pf j).trans hj) e
      omega
    · exact absurd h3 (Nat.not_lt.mpr h9)
  intro k hk1
  rcases gz_L3 hk1 with ⟨j, rfl, hj⟩ | ⟨j, rfl, hj⟩ | rfl
  · have h2 := hN j hj
    rw [gz_Lc2, gz_aCpA, gz_sCpC]
    have e : gz_pA ad ad' (3 * j) = ad' j := congrFun (gz_aCpA ad ad') j
    rw [e]; exact h2
  · have h1 : gz_cfL.1 pf (3 * j + 1) = true := (gz_Lr pf j).trans hj
    have h2 := h (3 * j + 1) h1
    rw [gz_Lr2, gz_Rpf _ _ pf pf' _ _ _ hj] at h2
    rw [gz_Lr2, gz_aRpA, gz_sRpC]
    have e : gz_pA ad ad' (3 * j + 1) = ad (3 * j + 1) := congrFun (gz_aRpA ad ad') j
    rw [e]; exact va_at.kept h2 (hq _ h1 (by omega) h2.lt)
  · have h2 := h 2 (gz_L2 pf)
    exact va_at.kept h2 (hq _ (gz_L2 pf) (by omega) h2.lt)
theorem gz_pAself (ad : Nat → Nat) : gz_pA ad (gz_aC ad) = ad := funext fun k => by
  show (if k % 3 = 0 then ad (3 * (k / 3)) else ad k) = ad k
  by_cases h : k % 3 = 0
  · rw [if_pos h]; exact congrArg ad (by omega)
  · rw [if_neg h]
theorem gz_joinC {D : va_G} {aC : Nat → ClassId} {ad : Nat → Nat} {pf : Nat → Bool} {M N : gz_M} {H H1 : Heap} (h : gz_mw D gz_cls gz_cfL aC ad pf M H) (hi : gz_inj gz_cfL ad pf) (hN : gz_mw D gz_cls gz_cfC aC (gz_aC ad) pf N H1) (hk : ∀ q : Nat, q < H.size → ¬ gz_A gz_cfC (gz_aC ad) pf H.size q → H1[q]? = H[q]?) : gz_mw D gz_cls gz_cfL aC ad pf (gz_pC M N) H1 := by
  have h1 := gz_joinA h hi hN hk
  rw [gz_pAself] at h1
  exact h1
theorem gz_joinR {D : va_G} {aC : Nat → ClassId} {ad : Nat → Nat} {pf : Nat → Bool} {M N : gz_M} {H H1 : Heap} (h : gz_mw D gz_cls gz_cfL aC ad pf M H) (hi : gz_inj gz_cfL ad pf) (hN : gz_mw D gz_cls gz_cfR aC (gz_aR ad) pf N H1) (hk : ∀ q : Nat, q < H.size → ¬ gz_A gz_cfR (gz_aR ad) pf H.size q → H1[q]? = H[q]?) : gz_mw D gz_cls gz_cfL aC ad pf (gz_pR M N) H1 := by
  have hq : ∀ k, gz_cfL.1 pf k = true → k % 3 ≠ 1 → ad k < H.size → H1[ad k]? = H[ad k]? := by
    intro k h1 h2 h3
    refine hk _ h3 ?_
    rintro (⟨j, hj, e⟩ | h9)
    · have := hi k (3 * j + 1) h1 ((gz_Lr pf j).trans hj) e
      omega
    · exact absurd h3 (Nat.not_lt.mpr h9)
  intro k hk1
  rcases gz_L3 hk1 with ⟨j, rfl, hj⟩ | ⟨j, rfl, hj⟩ | rfl
  · have h2 := h (3 * j) hk1
    rw [gz_Lc2] at h2
    rw [gz_Lc2, gz_sCpR]
    exact va_at.kept h2 (hq _ hk1 (by omega) h2.lt)
  · have h2 := hN j hj
    rw [gz_Lr2, gz_sRpR]
    exact h2
  · have h2 := h 2 (gz_L2 pf)
    exact va_at.kept h2 (hq _ (gz_L2 pf) (by omega) h2.lt)
