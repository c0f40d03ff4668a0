section GL3
variable {x : gz_X} {cc : ByteArray} {own : String} {nL d pc : Nat} {pf pf' : Nat → Bool} {l : Launch} {lv : List (Nat × Value)} {st : List Value} {M M' N : gz_M}
def gz_StL (x x' : gz_X) : Prop := (∃ ad' pf' c' s', x' = gz_set x ad' pf' c' s') ∧ ∀ k, gz_cfL.1 (gx_pf x) k = true → gz_cfL.1 (gx_pf x') k = true ∧ gx_ad x' k = gx_ad x k
def gz_UL (x : gz_X) (n : Nat) : Prop := gx_cells x + 4 * n ≤ (gx_R x).cells ∧ gx_slots x + 109 * n ≤ (gx_R x).slots
theorem gz_UL.c {n : Nat} (h : gz_UL x n) : gx_cells x ≤ (gx_R x).cells ∧ gx_slots x ≤ (gx_R x).slots := by
  obtain ⟨h1, h2⟩ := h
  exact ⟨by omega, by omega⟩
theorem gz_UL.le {n m : Nat} (h : gz_UL x n) (hm : m ≤ n) : gz_UL x m := by
  obtain ⟨h1, h2⟩ := h
  exact ⟨by omega, by omega⟩
theorem gz_StL.rf {x : gz_X} : gz_StL x x := ⟨⟨gx_ad x, gx_pf x, gx_cells x, gx_slots x, rfl⟩, fun k h => ⟨h, rfl⟩⟩
theorem gz_StL.tr {x y z : gz_X} (h1 : gz_StL x y) (h2 : gz_StL y z) : gz_StL x z := by
  obtain ⟨⟨a1, p1, c1, s1, rfl⟩, h1⟩ := h1
  obtain ⟨⟨a2, p2, c2, s2, rfl⟩, h2⟩ := h2
  exact ⟨⟨a2, p2, c2, s2, rfl⟩, fun k h => ⟨(h2 k (h1 k h).1).1, ((h2 k (h1 k h).1).2).trans (h1 k h).2⟩⟩
theorem gz_okSetL {ad' : Nat → Nat} {c' s' : Nat} (X : gz_Ok x cc own nL d gz_cfL pf l) (h1 : gz_inj gz_cfL ad' pf') (h2 : ∀ k, gz_cfL.1 pf' k = true → gx_A x (ad' k)) : gz_Ok (gz_set x ad' pf' c' s') cc own nL d gz_cfL pf' l := ⟨X.1, X.2.1, X.2.2.1, by show gz_inj (gx_cf x) ad' pf'; rw [X.hcf]; exact h1, by show ∀ k, (gx_cf x).1 pf' k = true → gx_A x (ad' k); rw [X.hcf]; exact h2, X.hA2, X.hlk, X.hfr, X.hlo, X.hN, X.hcf, rfl, X.hl, X.hcl⟩
def gz_BAL (D : va_G) (aC : Nat → ClassId) (ad : Nat → Nat) (pf : Nat → Bool) (M : gz_M) (sz : Nat) : State → Prop := fun U => gz_B D gz_cfL aC ad pf M sz U ∧ gc_AO U
def gz_PAL (D : va_G) (aC : Nat → ClassId) (ad : Nat → Nat) (pf : Nat → Bool) (sz : Nat) (M' : gz_M) (pf' : Nat → Bool) : (Nat → Nat) → State → Prop := fun ad' t => (∀ k, gz_cfL.1 pf k = true → gz_cfL.1 pf' k = true ∧ ad' k = ad k) ∧ gz_mw D gz_cls gz_cfL aC ad' pf' M' t.heap ∧ gz_inj gz_cfL ad' pf' ∧ ∀ k, gz_cfL.1 pf' k = true → gz_A gz_cfL ad pf sz (ad' k)
def gz_CAIL (l : Launch) (y : MethodName) (cc : ByteArray) (nL d : Nat) (rt : FieldType) (asF : (Nat → Nat) → List Value) (pf : Nat → Bool) (M : gz_M) (r : Int32) (M' : gz_M) (pf' : Nat → Bool) : Prop := ∀ D aC ad sz, Met l y (Cond.code y cc nL (some rt) :: gz_TB) (gz_rm d 4 109) (va_Pc (asF ad) (gz_BAL D aC ad pf M sz)) (va_Qi (fun r' (_ : Nat → Nat) => r' = r) (gz_PAL D aC ad pf sz M' pf') (gz_A gz_cfL ad pf sz)) 4 109 (gz_A gz_cfL ad pf sz)
theorem gz_liftA {y : MethodName} {rt : FieldType} {r : Int32} {asF : (Nat → Nat) → List Value} (h : gz_CAI l y cc nL d rt asF pf (gz_sC M) r N pf') : gz_CAIL l y cc nL d rt (fun ad => asF (gz_aC ad)) pf M r (gz_pC M N) pf' := by
  intro D aC ad sz
  refine MetFree.mono (h D aC (gz_aC ad) sz) (fun a s hp => ⟨hp.1, gz_BC hp.2.1, hp.2.2⟩) (fun _ _ _ _ _ h => h) (fun a s o s' hp hq => ?_)
  obtain ⟨⟨⟨r', ad', ho, hr, p1, p2, p3, p4⟩, hF⟩, L, hL, hf⟩ := hq
  obtain ⟨hp1, ⟨hp2, hp3, hp4, hp5, hp6⟩, hp7⟩ := hp
  subst hp2
  have e0 : ∀ j, gz_pA ad ad' (3 * j) = ad' j := fun j => congrFun (gz_aCpA ad ad') j
  have e1 : ∀ j, gz_pA ad ad' (3 * j + 1) = ad (3 * j + 1) := fun j => congrFun (gz_aRpA ad ad') j
  have e2 : gz_pA ad ad' 2 = ad 2 := rfl
  have hlt : ∀ k, gz_cfL.1 pf k = true → ad k < s.heap.size := fun k hk => (hp3 k hk).lt
  have hRp : ∀ j, gz_cfR.1 pf' j = true → gz_cfL.1 pf (3 * j + 1) = true := fun j hj => (gz_Lr pf j).trans hj
  -- where the class's cells lie: among the old ones of the class, or new
  have hcl : ∀ j, gz_cfC.1 pf' j = true → ∀ k, gz_cfL.1 pf k = true → k % 3 ≠ 0 → ad' j ≠ ad k := by
    intro j hj k hk h3 e
    rcases p4 j hj with ⟨i, hi, e9⟩ | h9
    · have h8 : ad (3 * i) = ad k := e9.symm.trans e
      have := hp5 (3 * i) k ((gz_Lc pf i).trans hi) hk h8
      omega
    · have := hlt k hk
      rw [← e] at this
      exact absurd this (Nat.not_lt.mpr h9)
  refine ⟨⟨⟨r', gz_pA ad ad', ho, hr, ?_, gz_joinA hp3 hp5 p2 hF.2, ?_, ?_⟩, va_Fmono hF fun q h => gz_AC h⟩, L, hL, fun q hq => gz_AC (hf q hq)⟩
  · intro k hk
    rcases gz_L3 hk with ⟨j, rfl, hj⟩ | ⟨j, rfl, hj⟩ | rfl
    · exact ⟨(gz_Lc pf' j).trans (p1 j hj).1, (e0 j).trans (p1 j hj).2⟩
    · exact ⟨(gz_Lr pf' j).trans hj, e1 j⟩
    · exact ⟨rfl, rfl⟩
  · intro i k hi hk e
    rcases gz_L3 hi with ⟨i, rfl, hi1⟩ | ⟨i, rfl, hi1⟩ | rfl <;> rcases gz_L3 hk with ⟨k, rfl, hk1⟩ | ⟨k, rfl, hk1⟩ | rfl
    · rw [e0, e0] at e
      rw [p3 i k hi1 hk1 e]
    · rw [e0, e1] at e
      exact absurd e (hcl i hi1 _ (hRp k hk1) (by omega))
    · rw [e0, e2] at e
      exact absurd e (hcl i hi1 _ (gz_L2 pf) (by omega))
    · rw [e0, e1] at e
      exact absurd e.symm (hcl k hk1 _ (hRp i hi1) (by omega))
    · rw [e1, e1] at e
      exact hp5 _ _ (hRp i hi1) (hRp k hk1) e
    · rw [e1, e2] at e
      exact hp5 _ _ (hRp i hi1) (gz_L2 pf) e
    · rw [e0, e2] at e
      exact absurd e.symm (hcl k hk1 _ (gz_L2 pf) (by omega))
    · rw [e1, e2] at e
      exact hp5 _ _ (gz_L2 pf) (hRp k hk1) e
    · rfl
  · intro k hk
    rcases gz_L3 hk with ⟨j, rfl, hj⟩ | ⟨j, rfl, hj⟩ | rfl
    · rw [e0]; exact gz_AC (p4 j hj)
    · rw [e1]; exact Or.inl ⟨_, hRp j hj, rfl⟩
    · exact Or.inl ⟨2, gz_L2 pf, rfl⟩
end GL3
