section
/-- the law's cells, in threes: the class's (3k), the reference's (3k+1), the row out (2); addresses, memory and long rows likewise -/
def gz_cfL : gz_CF := (fun pf k => if k % 3 = 0 then gz_cfC.1 pf (k / 3) else if k % 3 = 1 then gz_cfR.1 pf (k / 3) else decide (k = 2), fun aC ad pf k g gl => if k % 3 = 0 then gz_cfC.2 aC (fun j => ad (3 * j)) pf (k / 3) g (fun i => gl (3 * i)) else if k % 3 = 1 then gz_cfR.2 aC (fun j => ad (3 * j + 1)) pf (k / 3) g (fun i => gl (3 * i + 1)) else gz_oJ 1 aC ad pf k g (fun i => gl (3 * i + 2)))
def gz_aC (ad : Nat → Nat) : Nat → Nat := fun j => ad (3 * j)
def gz_aR (ad : Nat → Nat) : Nat → Nat := fun j => ad (3 * j + 1)
def gz_sC (M : gz_M) : gz_M := (fun k => M.1 (3 * k), fun i => M.2 (3 * i))
def gz_sR (M : gz_M) : gz_M := (fun k => M.1 (3 * k + 1), fun i => M.2 (3 * i + 1))
def gz_pC (M N : gz_M) : gz_M := (fun k => if k % 3 = 0 then N.1 (k / 3) else M.1 k, fun i => if i % 3 = 0 then N.2 (i / 3) else M.2 i)
def gz_pR (M N : gz_M) : gz_M := (fun k => if k % 3 = 1 then N.1 (k / 3) else M.1 k, fun i => if i % 3 = 1 then N.2 (i / 3) else M.2 i)
def gz_pA (ad ad' : Nat → Nat) : Nat → Nat := fun k => if k % 3 = 0 then ad' (k / 3) else ad k
theorem gz_m0 (j : Nat) : 3 * j % 3 = 0 := by omega
theorem gz_d0 (j : Nat) : 3 * j / 3 = j := by omega
theorem gz_m1 (j : Nat) : (3 * j + 1) % 3 = 1 := by omega
theorem gz_d1 (j : Nat) : (3 * j + 1) / 3 = j := by omega
theorem gz_m2 (j : Nat) : (3 * j + 2) % 3 = 2 := by omega
theorem gz_sCpC (M N : gz_M) : gz_sC (gz_pC M N) = N := by
  refine Prod.ext (funext fun k => ?_) (funext fun i => ?_)
  · show (if 3 * k % 3 = 0 then N.1 (3 * k / 3) else M.1 (3 * k)) = _
    rw [if_pos (gz_m0 k), gz_d0]
  · show (if 3 * i % 3 = 0 then N.2 (3 * i / 3) else M.2 (3 * i)) = _
    rw [if_pos (gz_m0 i), gz_d0]
theorem gz_sRpR (M N : gz_M) : gz_sR (gz_pR M N) = N := by
  refine Prod.ext (funext fun k => ?_) (funext fun i => ?_)
  · show (if (3 * k + 1) % 3 = 1 then N.1 ((3 * k + 1) / 3) else M.1 (3 * k + 1)) = _
    rw [if_pos (gz_m1 k), gz_d1]
  · show (if (3 * i + 1) % 3 = 1 then N.2 ((3 * i + 1) / 3) else M.2 (3 * i + 1)) = _
    rw [if_pos (gz_m1 i), gz_d1]
theorem gz_sRpC (M N : gz_M) : gz_sR (gz_pC M N) = gz_sR M := by
  refine Prod.ext (funext fun k => ?_) (funext fun i => ?_)
  · show (if (3 * k + 1) % 3 = 0 then N.1 ((3 * k + 1) / 3) else M.1 (3 * k + 1)) = M.1 (3 * k + 1)
    rw [if_neg (by omega)]
  · show (if (3 * i + 1) % 3 = 0 then N.2 ((3 * i + 1) / 3) else M.2 (3 * i + 1)) = M.2 (3 * i + 1)
    rw [if_neg (by omega)]
theorem gz_sCpR (M N : gz_M) : gz_sC (gz_pR M N) = gz_sC M := by
  refine Prod.ext (funext fun k => ?_) (funext fun i => ?_)
  · show (if 3 * k % 3 = 1 then N.1 (3 * k / 3) else M.1 (3 * k)) = M.1 (3 * k)
    rw [if_neg (by omega)]
  · show (if 3 * i % 3 = 1 then N.2 (3 * i / 3) else M.2 (3 * i)) = M.2 (3 * i)
    rw [if_neg (by omega)]
theorem gz_aCpA (ad ad' : Nat → Nat) : gz_aC (gz_pA ad ad') = ad' := funext fun k => by
  show (if 3 * k % 3 = 0 then ad' (3 * k / 3) else ad (3 * k)) = _
  rw [if_pos (gz_m0 k), gz_d0]
theorem gz_aRpA (ad ad' : Nat → Nat) : gz_aR (gz_pA ad ad') = gz_aR ad := funext fun k => by
  show (if (3 * k + 1) % 3 = 0 then ad' ((3 * k + 1) / 3) else ad (3 * k + 1)) = ad (3 * k + 1)
  rw [if_neg (by omega)]
theorem gz_Lc (pf : Nat → Bool) (k : Nat) : gz_cfL.1 pf (3 * k) = gz_cfC.1 pf k := by
  show (if 3 * k % 3 = 0 then gz_cfC.1 pf (3 * k / 3) else _) = _
  rw [if_pos (gz_m0 k), gz_d0]
theorem gz_Lr (pf : Nat → Bool) (k : Nat) : gz_cfL.1 pf (3 * k + 1) = gz_cfR.1 pf k := by
  show (if (3 * k + 1) % 3 = 0 then _ else if (3 * k + 1) % 3 = 1 then gz_cfR.1 pf ((3 * k + 1) / 3) else _) = _
  rw [if_neg (by omega), if_pos (gz_m1 k), gz_d1]
theorem gz_Lc2 (aC : Nat → ClassId) (ad : Nat → Nat) (pf : Nat → Bool) (k : Nat) (M : gz_M) : gz_cfL.2 aC ad pf (3 * k) (M.1 (3 * k)) M.2 = gz_cfC.2 aC (gz_aC ad) pf k ((gz_sC M).1 k) (gz_sC M).2 := by
  show (if 3 * k % 3 = 0 then gz_cfC.2 aC (gz_aC ad) pf (3 * k / 3) (M.1 (3 * k)) (gz_sC M).2 else _) = _
  rw [if_pos (gz_m0 k), gz_d0]; rfl
theorem gz_Lr2 (aC : Nat → ClassId) (ad : Nat → Nat) (pf : Nat → Bool) (k : Nat) (M : gz_M) : gz_cfL.2 aC ad pf (3 * k + 1) (M.1 (3 * k + 1)) M.2 = gz_cfR.2 aC (gz_aR ad) pf k ((gz_sR M).1 k) (gz_sR M).2 := by
  show (if (3 * k + 1) % 3 = 0 then _ else if (3 * k + 1) % 3 = 1 then gz_cfR.2 aC (gz_aR ad) pf ((3 * k + 1) / 3) (M.1 (3 * k + 1)) (gz_sR M).2 else _) = _
  rw [if_neg (by omega), if_pos (gz_m1 k), gz_d1]; rfl
theorem gz_L3 {pf : Nat → Bool} {k : Nat} (h : gz_cfL.1 pf k = true) : (∃ j, k = 3 * j ∧ gz_cfC.1 pf j = true) ∨ (∃ j, k = 3 * j + 1 ∧ gz_cfR.1 pf j = true) ∨ k = 2 := by
  by_cases h0 : k % 3 = 0
  · obtain ⟨j, rfl⟩ : ∃ j, k = 3 * j := ⟨k / 3, by omega⟩
    exact Or.inl ⟨j, rfl, (gz_Lc pf j) ▸ h⟩
  · by_cases h1 : k % 3 = 1
    · obtain ⟨j, rfl⟩ : ∃ j, k = 3 * j + 1 := ⟨k / 3, by omega⟩
      exact Or.inr (Or.inl ⟨j, rfl, (gz_Lr pf j) ▸ h⟩)
    · have h2 : (if k % 3 = 0 then gz_cfC.1 pf (k / 3) else if k % 3 = 1 then gz_cfR.1 pf (k / 3) else decide (k = 2)) = true := h
      rw [if_neg h0, if_neg h1] at h2
      exact Or.inr (Or.inr (of_decide_eq_true h2))
theorem gz_L2 (pf : Nat → Bool) : gz_cfL.1 pf 2 = true := rfl
theorem gz_mwC {D : va_G} {aC : Nat → ClassId} {ad : Nat → Nat} {pf : Nat → Bool} {M : gz_M} {H : Heap} (h : gz_mw D gz_cls gz_cfL aC ad pf M H) : gz_mw D gz_cls gz_cfC aC (gz_aC ad) pf (gz_sC M) H := by
  intro k hk
  have h2 := h (3 * k) ((gz_Lc pf k).trans hk)
  rw [gz_Lc2] at h2
  exact h2
theorem gz_mwR {D : va_G} {aC : Nat → ClassId} {ad : Nat → Nat} {pf : Nat → Bool} {M : gz_M} {H : Heap} (h : gz_mw D gz_cls gz_cfL aC ad pf M H) : gz_mw D gz_cls gz_cfR aC (gz_aR ad) pf (gz_sR M) H := by
  intro k hk
  have h2 := h (3 * k + 1) ((gz_Lr pf k).trans hk)
  rw [gz_Lr2] at h2
  exact h2
theorem gz_injC {ad : Nat → Nat} {pf : Nat → Bool} (h : gz_inj gz_cfL ad pf) : gz_inj gz_cfC (gz_aC ad) pf := fun i j hi hj e => by
  have := h (3 * i) (3 * j) ((gz_Lc pf i).trans hi) ((gz_Lc pf j).trans hj) e
  omega
theorem gz_injR {ad : Nat → Nat} {pf : Nat → Bool} (h : gz_inj gz_cfL ad pf) : gz_inj gz_cfR (gz_aR ad) pf := fun i j hi hj e => by
  have := h (3 * i + 1) (3 * j + 1) ((gz_Lr pf i).trans hi) ((gz_Lr pf j).trans hj) e
  omega
theorem gz_AC {ad : Nat → Nat} {pf : Nat → Bool} {sz q : Nat} (h : gz_A gz_cfC (gz_aC ad) pf sz q) : gz_A gz_cfL ad pf sz q := by
  rcases h with ⟨k, hk, e⟩ | h
  · exact Or.inl ⟨3 * k, (gz_Lc pf k).trans hk, e⟩
  · exact Or.inr h
theorem gz_AR {ad : Nat → Nat} {pf : Nat → Bool} {sz q : Nat} (h : gz_A gz_cfR (gz_aR ad) pf sz q) : gz_A gz_cfL ad pf sz q := by
  rcases h with ⟨k, hk, e⟩ | h
  · exact Or.inl ⟨3 * k + 1, (gz_Lr pf k).trans hk, e⟩
  · exact Or.inr h
theorem gz_BC {D : va_G} {aC : Nat → ClassId} {ad : Nat → Nat} {pf : Nat → Bool} {M : gz_M} {sz : Nat} {U : State} (h : gz_B D gz_cfL aC ad pf M sz U) : gz_B D gz_cfC aC (gz_aC ad) pf (gz_sC M) sz U := ⟨h.1, gz_mwC h.2.1, h.2.2.1, gz_injC h.2.2.2.1, h.2.2.2.2⟩
theorem gz_BR {D : va_G} {aC : Nat → ClassId} {ad : Nat → Nat} {pf : Nat → Bool} {M : gz_M} {sz : Nat} {U : State} (h : gz_B D gz_cfL aC ad pf M sz U) : gz_B D gz_cfR aC (gz_aR ad) pf (gz_sR M) sz U := ⟨h.1, gz_mwR h.2.1, h.2.2.1, gz_injR h.2.2.2.1, h.2.2.2.2⟩
theorem gz_Rpf (aC : Nat → ClassId) (ad : Nat → Nat) (pf pf' : Nat → Bool) (g : Nat → Int32) (gl : Nat → Int64) : ∀ k : Nat, gz_cfR.1 pf k = true → gz_cfR.2 aC ad pf k g gl = gz_cfR.2 aC ad pf' k g gl := by
  intro k hk
  have hk : k < 36 := of_decide_eq_true hk
  match k, hk with
  | 0, _ => rfl
  | 1, _ => rfl
  | 2, _ => rfl
  | 3, _ => rfl
  | 4, _ => rfl
  | 5, _ => rfl
  | 6, _ => rfl
  | 7, _ => rfl
  | 8, _ => rfl
  | 9, _ => rfl
  | 10, _ => rfl
  | 11, _ => rfl
  | 12, _ => rfl
  | 13, _ => rfl
  | 14, _ => rfl
  | 15, _ => rfl
  | 16, _ => rfl
  | 17, _ => rfl
  | 18, _ => rfl
  | 19, _ => rfl
  | 20, _ => rfl
  | 21, _ => rfl
  | 22, _ => rfl
  | 23, _ => rfl
  | 24, _ => rfl
  | 25, _ => rfl
  | 26, _ => rfl
  | 27, _ => rfl
  | 28, _ => rfl
  | 29, _ => rfl
  | 30, _ => rfl
  | 31, _ => rfl
  | 32, _ => rfl
  | 33, _ => rfl
  | 34, _ => rfl
  | 35, _ => rfl
  | n + 36, h => exact absurd h (by omega)
/-- the class's cells are others (and may lie elsewhere): the whole memory -/
theorem gz_joinA {D : va_G} {aC : Nat → ClassId} {ad ad' : Nat → Nat} {pf pf' : Nat → Bool} {M N : gz_M} {H H1 : Heap} (h : gz_mw D gz_cls gz_cfL aC ad pf M H) (hi : gz_inj gz_cfL ad pf) (hN : gz_mw D gz_cls gz_cfC aC ad' pf' N H1) (hk : ∀ q : Nat, q < H.size → ¬ gz_A gz_cfC (gz_aC ad) pf H.size q → H1[q]? = H[q]?) : gz_mw D gz_cls gz_cfL aC (gz_pA ad ad') pf' (gz_pC M N) H1 := by
  have hq : ∀ k, gz_cfL.1 pf k = true → k % 3 ≠ 0 → ad k < H.size → H1[ad k]? = H[ad k]? := by
    intro k h1 h2 h3
    refine hk _ h3 ?_
    rintro (⟨j, hj, e⟩ | h9)
    · have := hi k (3 * j) h1 ((gz_Lc pf j).trans hj) e
      omega
    · exact absurd h3 (Nat.not_lt.mpr h9)
  intro k hk1
  rcases gz_L3 hk1 with ⟨j, rfl, hj⟩ | ⟨j, rfl, hj⟩ | rfl
  · have h2 := hN j hj
    rw [gz_Lc2, gz_aCpA, gz_sCpC]
    have e : gz_pA ad ad' (3 * j) = ad' j := congrFun (gz_aCpA ad ad') j
    rw [e]; exact h2
  · have h1 : gz_cfL.1 pf (3 * j + 1) = true := (gz_Lr pf j).trans hj
    have h2 := h (3 * j + 1) h1
    rw [gz_Lr2, gz_Rpf _ _ pf pf' _ _ _ hj] at h2
    rw [gz_Lr2, gz_aRpA, gz_sRpC]
    have e : gz_pA ad ad' (3 * j + 1) = ad (3 * j + 1) := congrFun (gz_aRpA ad ad') j
    rw [e]; exact va_at.kept h2 (hq _ h1 (by omega) h2.lt)
  · have h2 := h 2 (gz_L2 pf)
    exact va_at.kept h2 (hq _ (gz_L2 pf) (by omega) h2.lt)
theorem gz_pAself (ad : Nat → Nat) : gz_pA ad (gz_aC ad) = ad := funext fun k => by
  show (if k % 3 = 0 then ad (3 * (k / 3)) else ad k) = ad k
  by_cases h : k % 3 = 0
  · rw [if_pos h]; exact congrArg ad (by omega)
  · rw [if_neg h]
theorem gz_joinC {D : va_G} {aC : Nat → ClassId} {ad : Nat → Nat} {pf : Nat → Bool} {M N : gz_M} {H H1 : Heap} (h : gz_mw D gz_cls gz_cfL aC ad pf M H) (hi : gz_inj gz_cfL ad pf) (hN : gz_mw D gz_cls gz_cfC aC (gz_aC ad) pf N H1) (hk : ∀ q : Nat, q < H.size → ¬ gz_A gz_cfC (gz_aC ad) pf H.size q → H1[q]? = H[q]?) : gz_mw D gz_cls gz_cfL aC ad pf (gz_pC M N) H1 := by
  have h1 := gz_joinA h hi hN hk
  rw [gz_pAself] at h1
  exact h1
theorem gz_joinR {D : va_G} {aC : Nat → ClassId} {ad : Nat → Nat} {pf : Nat → Bool} {M N : gz_M} {H H1 : Heap} (h : gz_mw D gz_cls gz_cfL aC ad pf M H) (hi : gz_inj gz_cfL ad pf) (hN : gz_mw D gz_cls gz_cfR aC (gz_aR ad) pf N H1) (hk : ∀ q : Nat, q < H.size → ¬ gz_A gz_cfR (gz_aR ad) pf H.size q → H1[q]? = H[q]?) : gz_mw D gz_cls gz_cfL aC ad pf (gz_pR M N) H1 := by
  have hq : ∀ k, gz_cfL.1 pf k = true → k % 3 ≠ 1 → ad k < H.size → H1[ad k]? = H[ad k]? := by
    intro k h1 h2 h3
    refine hk _ h3 ?_
    rintro (⟨j, hj, e⟩ | h9)
    · have := hi k (3 * j + 1) h1 ((gz_Lr pf j).trans hj) e
      omega
    · exact absurd h3 (Nat.not_lt.mpr h9)
  intro k hk1
  rcases gz_L3 hk1 with ⟨j, rfl, hj⟩ | ⟨j, rfl, hj⟩ | rfl
  · have h2 := h (3 * j) hk1
    rw [gz_Lc2] at h2
    rw [gz_Lc2, gz_sCpR]
    exact va_at.kept h2 (hq _ hk1 (by omega) h2.lt)
  · have h2 := hN j hj
    rw [gz_Lr2, gz_sRpR]
    exact h2
  · have h2 := h 2 (gz_L2 pf)
    exact va_at.kept h2 (hq _ (gz_L2 pf) (by omega) h2.lt)
end
section
theorem va_Fmono {A B : Nat → Prop} {s t : State} (h : va_F A s t) (hAB : ∀ q, A q → B q) : va_F B s t := ⟨h.1, fun q hq hB => h.2 q hq fun hA => hB (hAB q hA)⟩
section GL
variable {l : Launch} {y : MethodName} {cc : ByteArray} {nL d : Nat} {rt : FieldType} {asF : (Nat → Nat) → List Value} {pf : Nat → Bool} {M N : gz_M}
theorem gz_liftCI {r : Int32} (h : gz_CI l gz_cfC y cc nL d rt asF pf (gz_sC M) r N) : gz_CI l gz_cfL y cc nL d rt (fun ad => asF (gz_aC ad)) pf M r (gz_pC M N) := by
  intro D aC ad sz
  refine MetFree.mono (h D aC (gz_aC ad) sz) (fun a s hp => ⟨hp.1, gz_BC hp.2⟩) (fun _ _ _ _ _ h => h) (fun a s o s' hp hq => ?_)
  obtain ⟨⟨⟨r', u, ho, hr, hB⟩, hF⟩, L, hL, hf⟩ := hq
  obtain ⟨hp1, hp2, hp3, hp4, hp5, hp6⟩ := hp
  subst hp2
  refine ⟨⟨⟨r', u, ho, hr, ?_⟩, va_Fmono hF fun q h => gz_AC h⟩, L, hL, fun q hq => gz_AC (hf q hq)⟩
  exact gz_joinC hp3 hp5 hB hF.2
theorem gz_liftRI {r : Int32} (h : gz_CI l gz_cfR y cc nL d rt asF pf (gz_sR M) r N) : gz_CI l gz_cfL y cc nL d rt (fun ad => asF (gz_aR ad)) pf M r (gz_pR M N) := by
  intro D aC ad sz
  refine MetFree.mono (h D aC (gz_aR ad) sz) (fun a s hp => ⟨hp.1, gz_BR hp.2⟩) (fun _ _ _ _ _ h => h) (fun a s o s' hp hq => ?_)
  obtain ⟨⟨⟨r', u, ho, hr, hB⟩, hF⟩, L, hL, hf⟩ := hq
  obtain ⟨hp1, hp2, hp3, hp4, hp5, hp6⟩ := hp
  subst hp2
  refine ⟨⟨⟨r', u, ho, hr, ?_⟩, va_Fmono hF fun q h => gz_AR h⟩, L, hL, fun q hq => gz_AR (hf q hq)⟩
  exact gz_joinR hp3 hp5 hB hF.2
theorem gz_liftCL {r : Int64} (h : gz_CL l gz_cfC y cc nL d rt asF pf (gz_sC M) r N) : gz_CL l gz_cfL y cc nL d rt (fun ad => asF (gz_aC ad)) pf M r (gz_pC M N) := by
  intro D aC ad sz
  refine MetFree.mono (h D aC (gz_aC ad) sz) (fun a s hp => ⟨hp.1, gz_BC hp.2⟩) (fun _ _ _ _ _ h => h) (fun a s o s' hp hq => ?_)
  obtain ⟨⟨⟨r', u, ho, hr, hB⟩, hF⟩, L, hL, hf⟩ := hq
  obtain ⟨hp1, hp2, hp3, hp4, hp5, hp6⟩ := hp
  subst hp2
  refine ⟨⟨⟨r', u, ho, hr, ?_⟩, va_Fmono hF fun q h => gz_AC h⟩, L, hL, fun q hq => gz_AC (hf q hq)⟩
  exact gz_joinC hp3 hp5 hB hF.2
theorem gz_liftRL {r : Int64} (h : gz_CL l gz_cfR y cc nL d rt asF pf (gz_sR M) r N) : gz_CL l gz_cfL y cc nL d rt (fun ad => asF (gz_aR ad)) pf M r (gz_pR M N) := by
  intro D aC ad sz
  refine MetFree.mono (h D aC (gz_aR ad) sz) (fun a s hp => ⟨hp.1, gz_BR hp.2⟩) (fun _ _ _ _ _ h => h) (fun a s o s' hp hq => ?_)
  obtain ⟨⟨⟨r', u, ho, hr, hB⟩, hF⟩, L, hL, hf⟩ := hq
  obtain ⟨hp1, hp2, hp3, hp4, hp5, hp6⟩ := hp
  subst hp2
  refine ⟨⟨⟨r', u, ho, hr, ?_⟩, va_Fmono hF fun q h => gz_AR h⟩, L, hL, fun q hq => gz_AR (hf q hq)⟩
  exact gz_joinR hp3 hp5 hB hF.2
theorem gz_liftCV (h : gz_CV l gz_cfC y cc nL d asF pf (gz_sC M) N) : gz_CV l gz_cfL y cc nL d (fun ad => asF (gz_aC ad)) pf M (gz_pC M N) := by
  intro D aC ad sz
  refine MetFree.mono (h D aC (gz_aC ad) sz) (fun a s hp => ⟨hp.1, gz_BC hp.2⟩) (fun _ _ _ _ _ h => h) (fun a s o s' hp hq => ?_)
  obtain ⟨⟨⟨u, ho, hr, hB⟩, hF⟩, L, hL, hf⟩ := hq
  obtain ⟨hp1, hp2, hp3, hp4, hp5, hp6⟩ := hp
  subst hp2
  refine ⟨⟨⟨u, ho, hr, ?_⟩, va_Fmono hF fun q h => gz_AC h⟩, L, hL, fun q hq => gz_AC (hf q hq)⟩
  exact gz_joinC hp3 hp5 hB hF.2
theorem gz_liftRV (h : gz_CV l gz_cfR y cc nL d asF pf (gz_sR M) N) : gz_CV l gz_cfL y cc nL d (fun ad => asF (gz_aR ad)) pf M (gz_pR M N) := by
  intro D aC ad sz
  refine MetFree.mono (h D aC (gz_aR ad) sz) (fun a s hp => ⟨hp.1, gz_BR hp.2⟩) (fun _ _ _ _ _ h => h) (fun a s o s' hp hq => ?_)
  obtain ⟨⟨⟨u, ho, hr, hB⟩, hF⟩, L, hL, hf⟩ := hq
  obtain ⟨hp1, hp2, hp3, hp4, hp5, hp6⟩ := hp
  subst hp2
  refine ⟨⟨⟨u, ho, hr, ?_⟩, va_Fmono hF fun q h => gz_AR h⟩, L, hL, fun q hq => gz_AR (hf q hq)⟩
  exact gz_joinR hp3 hp5 hB hF.2
end GL
end
section
section GL3
variable {x : gz_X} {cc : ByteArray} {own : String} {nL d pc : Nat} {pf pf' : Nat → Bool} {l : Launch} {lv : List (Nat × Value)} {st : List Value} {M M' N : gz_M}
def gz_StL (x x' : gz_X) : Prop := (∃ ad' pf' c' s', x' = gz_set x ad' pf' c' s') ∧ ∀ k, gz_cfL.1 (gx_pf x) k = true → gz_cfL.1 (gx_pf x') k = true ∧ gx_ad x' k = gx_ad x k
def gz_UL (x : gz_X) (n : Nat) : Prop := gx_cells x + 4 * n ≤ (gx_R x).cells ∧ gx_slots x + 109 * n ≤ (gx_R x).slots
theorem gz_UL.c {n : Nat} (h : gz_UL x n) : gx_cells x ≤ (gx_R x).cells ∧ gx_slots x ≤ (gx_R x).slots := by
  obtain ⟨h1, h2⟩ := h
  exact ⟨by omega, by omega⟩
theorem gz_UL.le {n m : Nat} (h : gz_UL x n) (hm : m ≤ n) : gz_UL x m := by
  obtain ⟨h1, h2⟩ := h
  exact ⟨by omega, by omega⟩
theorem gz_StL.rf {x : gz_X} : gz_StL x x := ⟨⟨gx_ad x, gx_pf x, gx_cells x, gx_slots x, rfl⟩, fun k h => ⟨h, rfl⟩⟩
theorem gz_StL.tr {x y z : gz_X} (h1 : gz_StL x y) (h2 : gz_StL y z) : gz_StL x z := by
  obtain ⟨⟨a1, p1, c1, s1, rfl⟩, h1⟩ := h1
  obtain ⟨⟨a2, p2, c2, s2, rfl⟩, h2⟩ := h2
  exact ⟨⟨a2, p2, c2, s2, rfl⟩, fun k h => ⟨(h2 k (h1 k h).1).1, ((h2 k (h1 k h).1).2).trans (h1 k h).2⟩⟩
theorem gz_okSetL {ad' : Nat → Nat} {c' s' : Nat} (X : gz_Ok x cc own nL d gz_cfL pf l) (h1 : gz_inj gz_cfL ad' pf') (h2 : ∀ k, gz_cfL.1 pf' k = true → gx_A x (ad' k)) : gz_Ok (gz_set x ad' pf' c' s') cc own nL d gz_cfL pf' l := ⟨X.1, X.2.1, X.2.2.1, by show gz_inj (gx_cf x) ad' pf'; rw [X.hcf]; exact h1, by show ∀ k, (gx_cf x).1 pf' k = true → gx_A x (ad' k); rw [X.hcf]; exact h2, X.hA2, X.hlk, X.hfr, X.hlo, X.hN, X.hcf, rfl, X.hl, X.hcl⟩
def gz_BAL (D : va_G) (aC : Nat → ClassId) (ad : Nat → Nat) (pf : Nat → Bool) (M : gz_M) (sz : Nat) : State → Prop := fun U => gz_B D gz_cfL aC ad pf M sz U ∧ gc_AO U
def gz_PAL (D : va_G) (aC : Nat → ClassId) (ad : Nat → Nat) (pf : Nat → Bool) (sz : Nat) (M' : gz_M) (pf' : Nat → Bool) : (Nat → Nat) → State → Prop := fun ad' t => (∀ k, gz_cfL.1 pf k = true → gz_cfL.1 pf' k = true ∧ ad' k = ad k) ∧ gz_mw D gz_cls gz_cfL aC ad' pf' M' t.heap ∧ gz_inj gz_cfL ad' pf' ∧ ∀ k, gz_cfL.1 pf' k = true → gz_A gz_cfL ad pf sz (ad' k)
def gz_CAIL (l : Launch) (y : MethodName) (cc : ByteArray) (nL d : Nat) (rt : FieldType) (asF : (Nat → Nat) → List Value) (pf : Nat → Bool) (M : gz_M) (r : Int32) (M' : gz_M) (pf' : Nat → Bool) : Prop := ∀ D aC ad sz, Met l y (Cond.code y cc nL (some rt) :: gz_TB) (gz_rm d 4 109) (va_Pc (asF ad) (gz_BAL D aC ad pf M sz)) (va_Qi (fun r' (_ : Nat → Nat) => r' = r) (gz_PAL D aC ad pf sz M' pf') (gz_A gz_cfL ad pf sz)) 4 109 (gz_A gz_cfL ad pf sz)
theorem gz_liftA {y : MethodName} {rt : FieldType} {r : Int32} {asF : (Nat → Nat) → List Value} (h : gz_CAI l y cc nL d rt asF pf (gz_sC M) r N pf') : gz_CAIL l y cc nL d rt (fun ad => asF (gz_aC ad)) pf M r (gz_pC M N) pf' := by
  intro D aC ad sz
  refine MetFree.mono (h D aC (gz_aC ad) sz) (fun a s hp => ⟨hp.1, gz_BC hp.2.1, hp.2.2⟩) (fun _ _ _ _ _ h => h) (fun a s o s' hp hq => ?_)
  obtain ⟨⟨⟨r', ad', ho, hr, p1, p2, p3, p4⟩, hF⟩, L, hL, hf⟩ := hq
  obtain ⟨hp1, ⟨hp2, hp3, hp4, hp5, hp6⟩, hp7⟩ := hp
  subst hp2
  have e0 : ∀ j, gz_pA ad ad' (3 * j) = ad' j := fun j => congrFun (gz_aCpA ad ad') j
  have e1 : ∀ j, gz_pA ad ad' (3 * j + 1) = ad (3 * j + 1) := fun j => congrFun (gz_aRpA ad ad') j
  have e2 : gz_pA ad ad' 2 = ad 2 := rfl
  have hlt : ∀ k, gz_cfL.1 pf k = true → ad k < s.heap.size := fun k hk => (hp3 k hk).lt
  have hRp : ∀ j, gz_cfR.1 pf' j = true → gz_cfL.1 pf (3 * j + 1) = true := fun j hj => (gz_Lr pf j).trans hj
  -- where the class's cells lie: among the old ones of the class, or new
  have hcl : ∀ j, gz_cfC.1 pf' j = true → ∀ k, gz_cfL.1 pf k = true → k % 3 ≠ 0 → ad' j ≠ ad k := by
    intro j hj k hk h3 e
    rcases p4 j hj with ⟨i, hi, e9⟩ | h9
    · have h8 : ad (3 * i) = ad k := e9.symm.trans e
      have := hp5 (3 * i) k ((gz_Lc pf i).trans hi) hk h8
      omega
    · have := hlt k hk
      rw [← e] at this
      exact absurd this (Nat.not_lt.mpr h9)
  refine ⟨⟨⟨r', gz_pA ad ad', ho, hr, ?_, gz_joinA hp3 hp5 p2 hF.2, ?_, ?_⟩, va_Fmono hF fun q h => gz_AC h⟩, L, hL, fun q hq => gz_AC (hf q hq)⟩
  · intro k hk
    rcases gz_L3 hk with ⟨j, rfl, hj⟩ | ⟨j, rfl, hj⟩ | rfl
    · exact ⟨(gz_Lc pf' j).trans (p1 j hj).1, (e0 j).trans (p1 j hj).2⟩
    · exact ⟨(gz_Lr pf' j).trans hj, e1 j⟩
    · exact ⟨rfl, rfl⟩
  · intro i k hi hk e
    rcases gz_L3 hi with ⟨i, rfl, hi1⟩ | ⟨i, rfl, hi1⟩ | rfl <;> rcases gz_L3 hk with ⟨k, rfl, hk1⟩ | ⟨k, rfl, hk1⟩ | rfl
    · rw [e0, e0] at e
      rw [p3 i k hi1 hk1 e]
    · rw [e0, e1] at e
      exact absurd e (hcl i hi1 _ (hRp k hk1) (by omega))
    · rw [e0, e2] at e
      exact absurd e (hcl i hi1 _ (gz_L2 pf) (by omega))
    · rw [e0, e1] at e
      exact absurd e.symm (hcl k hk1 _ (hRp i hi1) (by omega))
    · rw [e1, e1] at e
      exact hp5 _ _ (hRp i hi1) (hRp k hk1) e
    · rw [e1, e2] at e
      exact hp5 _ _ (hRp i hi1) (gz_L2 pf) e
    · rw [e0, e2] at e
      exact absurd e.symm (hcl k hk1 _ (gz_L2 pf) (by omega))
    · rw [e1, e2] at e
      exact hp5 _ _ (gz_L2 pf) (hRp k hk1) e
    · rfl
  · intro k hk
    rcases gz_L3 hk with ⟨j, rfl, hj⟩ | ⟨j, rfl, hj⟩ | rfl
    · rw [e0]; exact gz_AC (p4 j hj)
    · rw [e1]; exact Or.inl ⟨_, hRp j hj, rfl⟩
    · exact Or.inl ⟨2, gz_L2 pf, rfl⟩
end GL3
end
section
section GL4
variable {x : gz_X} {cc : ByteArray} {own : String} {nL d pc : Nat} {pf pf' : Nat → Bool} {l : Launch} {lv : List (Nat × Value)} {st : List Value} {M M' N : gz_M}
theorem gz_BALblind {av : List Value} {D : va_G} {aC : Nat → ClassId} {ad : Nat → Nat} {sz : Nat} : FrameBlind (va_Pc av (gz_BAL D aC ad pf M sz)) := by
  intro a U g mk q
  obtain ⟨q0, ⟨q1, q2, q3, q4, q5⟩, q6⟩ := q
  exact ⟨q0, ⟨q1, q2, va_K.moved (u := U) (U := U.calling g mk a) (Vm.Alike.refl U.vm) q3, q4, gz_Nst.same (u := U) (U := U.calling g mk a) rfl q5⟩, gc_AO.same (u := U) (U := U.calling g mk a) rfl q6⟩
theorem gz_runVAL {y : MethodName} {cc2 : ByteArray} {nL2 n index kb d2 ci N mc ms : Nat} {C : String} {T : u_T} {rt : Option FieldType} {Qc : Array Value → State → Outcome → State → Prop} {free : Addr → Prop} {As : List Value} {fs : List Value} {H : Heap} {locs : List Loc} {ls : Array Slot} {stk : List Value} (X : gz_Ok x cc own nL d gz_cfL pf l) (hAO : gc_AO (gx_s x)) (h1 : gz_mw (gx_D x) (gx_cl x) (gx_cf x) (gx_aC x) (gx_ad x) (gx_pf x) M H) (h3 : ls.size = nL) (hM : Met (gx_l x) y (Cond.code y cc2 nL2 rt :: gz_TB) (gz_rm d2 mc ms) (va_Pc (Value.ref (gx_ad x kb) :: As) (gz_BAL (gx_D x) (gx_aC x) (gx_ad x) pf M H.size)) Qc mc ms free) (w : gz_WV own index C y cc2 nL2 n rt) (hn : As.length = n) (hk : (gx_cf x).1 (gx_pf x) kb = true) (hc2 : (gx_cf x).2 (gx_aC x) (gx_ad x) (gx_pf x) kb (M.1 kb) M.2 = .inr (ci, fs)) (hc : gz_cls[ci]? = some (C, T, N)) (hd : d2 < d) (hn2 : nL2 ≤ 20) (hst : stk = As.reverse ++ .ref (gx_ad x kb) :: st) (hW : (st.map fun v => v.category).sum ≤ 8) (hf : gx_cells x + mc ≤ (gx_R x).cells ∧ gx_slots x + ms ≤ (gx_R x).slots) (dg : decode cc pc = .ok (.invokevirtual index, 3)) : va_Run (gx_p x) (gx_l x) (gx_e x) (gx_R x) (gx_s x) (gx_m x) (gx_args x) (gx_below x) (gx_meth x) (gx_c x) H locs (gx_cells x) (gx_slots x) mc ms (F0 (gx_m x) pc ls stk) st (Qc (Value.ref (gx_ad x kb) :: As).toArray) free := by
  obtain ⟨w1, w2, w3, w4, w5, w6⟩ := w
  have hP := gz_one h1 hk hc2
  have hc' : (gx_cl x)[ci]? = some (C, T, N) := by rw [X.hcl]; exact hc
  have hp : PreV (gx_s x) H C (gx_ad x kb) (va_Pc (Value.ref (gx_ad x kb) :: As) (gz_BAL (gx_D x) (gx_aC x) (gx_ad x) pf M H.size)) As := ⟨gz_BALblind, va_recv X.hK hP (ci := ci) (q0 := 0) hc' rfl, fun U hU hW2 => by
    have h9 := gz_Bat X h1 (av := Value.ref (gx_ad x kb) :: As) hU hW2
    exact ⟨h9.1, h9.2, hAO.warm hW2⟩⟩
  have hR := gz_room (mc := mc) (ms := ms) X hd hn2
  rcases w1 with w1 | ⟨host, w1⟩
  · exact va_runV X.1 hM ⟨callB_of n X.hts (gz_goodIn w5) rfl rfl rfl (X.hts _ w4) (X.hts _ w1) w6 hR, X.hts _ w2, X.hts _ w3⟩ hp rfl hn h3 hst (lv_room hW) dg hf
  · exact va_runVN X.1 hM ⟨va_cnB n X.hts (gz_goodIn w5) rfl rfl rfl (X.hN _ w1) (X.hts _ w4) w6 hR, X.hts _ w2, X.hts _ w3⟩ hp rfl hn h3 hst (lv_room hW) dg hf
theorem gr_callAIL {y : MethodName} {cc2 : ByteArray} {nL2 n index kb d2 ci N k : Nat} {C : String} {T : u_T} {rt : FieldType} {r : Int32} {asF : (Nat → Nat) → List Value} {fs : List Value} {stk : List Value} (As : List Value) (X : gz_Ok x cc own nL d gz_cfL pf l) (hAO : gc_AO (gx_s x)) (hu : gz_UL x (k + 1)) (hM : gz_CAIL l y cc2 nL2 d2 rt asF pf M r M' pf') (has : asF (gx_ad x) = .ref (gx_ad x kb) :: As) (w : gz_WV own index C y cc2 nL2 n (some rt)) (hn : As.length = n) (hk : (gx_cf x).1 (gx_pf x) kb = true) (hc2 : (gx_cf x).2 (gx_aC x) (gx_ad x) (gx_pf x) kb (M.1 kb) M.2 = .inr (ci, fs)) (hc : gz_cls[ci]? = some (C, T, N)) (hd : d2 < d) (hn2 : nL2 ≤ 20) (hst : stk = As.reverse ++ .ref (gx_ad x kb) :: st) (hW : (st.map fun v => v.category).sum ≤ 8) (dg : decode cc pc = .ok (.invokevirtual index, 3)) (kk : ∀ x', gz_StL x x' → gz_Ok x' cc own nL d gz_cfL pf' l → gz_UL x' k → gz_At x' (pc + 3) lv (.int r :: st) M') : gz_At x pc lv stk M := by
  intro H locs ls h1 h2 h3
  have hM1 := hM (gx_D x) (gx_aC x) (gx_ad x) H.size
  rw [has, ← X.hl] at hM1
  have hroom : gx_cells x + 4 ≤ (gx_R x).cells ∧ gx_slots x + 109 ≤ (gx_R x).slots := by
    obtain ⟨h8, h9⟩ := hu
    exact ⟨by omega, by omega⟩
  refine va_calli (gz_runVAL (locs := locs) X hAO h1 (h3.1.trans X.hnL) hM1 w hn hk hc2 hc hd hn2 hst hW hroom dg) h2 (fun q _ h => gz_free X h2 q h) (gz_free X h2) (fun r ad' t H1 locs1 ht hvm hw hB hz hk hS => ?_)
  subst hw
  obtain ⟨p1, p2, p3, p4⟩ := hB
  refine kk (gz_set x ad' pf' (gx_cells x + 4) (gx_slots x + 109)) ⟨⟨ad', pf', _, _, rfl⟩, fun k hk => p1 k (by rw [← X.hpf]; exact hk)⟩ (gz_okSetL X p3 (fun k hk => gz_free X h2 _ (p4 k hk))) ?_ H1 locs1 ls ?_ hS h3
  · obtain ⟨h8, h9⟩ := hu
    exact ⟨by show gx_cells x + 4 + 4 * k ≤ (gx_R x).cells; omega, by show gx_slots x + 109 + 109 * k ≤ (gx_R x).slots; omega⟩
  · show gz_mw (gx_D x) (gx_cl x) (gx_cf x) (gx_aC x) ad' pf' M' H1
    rw [X.hcl, X.hcf, ← ht]; exact p2
end GL4
end
section
section GL5
variable {l : Launch} {y : MethodName} {cc : ByteArray} {nL d : Nat} {rt : FieldType} {asF : (Nat → Nat) → List Value} {pf : Nat → Bool} {M N : gz_M}
theorem gz_BXC {D : va_G} {aC : Nat → ClassId} {ad : Nat → Nat} {sz : Nat} {U : State} (h : gz_BX D gz_cfL aC ad pf M sz U) : gz_BX D gz_cfC aC (gz_aC ad) pf (gz_sC M) sz U := ⟨gz_BC h.1, h.2.1, h.2.2.1.narrow fun _ => gz_AC, h.2.2.2.narrow fun _ => gz_AC⟩
theorem gz_liftXI {r : Option Int32} (h : gz_CIX l gz_cfC y cc nL d rt asF pf (gz_sC M) r N) : gz_CIX l gz_cfL y cc nL d rt (fun ad => asF (gz_aC ad)) pf M r (gz_pC M N) := by
  intro D aC ad sz
  refine MetFree.mono (h D aC (gz_aC ad) sz) (fun a s hp => ⟨hp.1, gz_BXC hp.2⟩) (fun _ _ _ _ _ h => h) (fun a s o s' hp hq => ?_)
  obtain ⟨hp1, ⟨hp2, hp3, hp4, hp5, hp6⟩, hp7⟩ := hp
  subst hp2
  rcases hq with ⟨⟨⟨r', u, ho, hr, hB⟩, hF⟩, L, hL, hf⟩ | ⟨q, ho, E, ce, L, ⟨u, hu, ⟨hE, hB⟩, hF⟩, h1, h2, h3, h4, h5, hf⟩
  · exact Or.inl ⟨⟨⟨r', u, ho, hr, gz_joinC hp3 hp5 hB hF.2⟩, va_Fmono hF fun q h => gz_AC h⟩, L, hL, fun q hq => gz_AC (hf q hq)⟩
  · exact Or.inr ⟨q, ho, E, ce, L, ⟨u, hu, ⟨hE, gz_joinC hp3 hp5 hB hF.2⟩, va_Fmono hF fun q h => gz_AC h⟩, h1, h2, h3, h4, h5, fun q hq => gz_AC (hf q hq)⟩
theorem gz_liftXL {r : Option Int64} (h : gz_CLX l gz_cfC y cc nL d rt asF pf (gz_sC M) r N) : gz_CLX l gz_cfL y cc nL d rt (fun ad => asF (gz_aC ad)) pf M r (gz_pC M N) := by
  intro D aC ad sz
  refine MetFree.mono (h D aC (gz_aC ad) sz) (fun a s hp => ⟨hp.1, gz_BXC hp.2⟩) (fun _ _ _ _ _ h => h) (fun a s o s' hp hq => ?_)
  obtain ⟨hp1, ⟨hp2, hp3, hp4, hp5, hp6⟩, hp7⟩ := hp
  subst hp2
  rcases hq with ⟨⟨⟨r', u, ho, hr, hB⟩, hF⟩, L, hL, hf⟩ | ⟨q, ho, E, ce, L, ⟨u, hu, ⟨hE, hB⟩, hF⟩, h1, h2, h3, h4, h5, hf⟩
  · exact Or.inl ⟨⟨⟨r', u, ho, hr, gz_joinC hp3 hp5 hB hF.2⟩, va_Fmono hF fun q h => gz_AC h⟩, L, hL, fun q hq => gz_AC (hf q hq)⟩
  · exact Or.inr ⟨q, ho, E, ce, L, ⟨u, hu, ⟨hE, gz_joinC hp3 hp5 hB hF.2⟩, va_Fmono hF fun q h => gz_AC h⟩, h1, h2, h3, h4, h5, fun q hq => gz_AC (hf q hq)⟩
end GL5
end
section
section GL6
variable {x : gz_X} {cc : ByteArray} {own : String} {nL d pc : Nat} {pf : Nat → Bool} {l : Launch} {lv : List (Nat × Value)} {st : List Value} {M : gz_M}
theorem gz_kdO (pf : Nat → Bool) : gz_KD gz_cfL pf 2 (fun aC ad pf k g gl => gz_oJ 1 aC ad pf k g (fun i => gl (3 * i + 2))) := ⟨rfl, fun _ _ _ _ => rfl⟩
theorem gz_wl2 (aC : Nat → ClassId) (ad : Nat → Nat) (pf : Nat → Bool) (k : Nat) (hk : gz_cfL.1 pf k = true) (h : k ≠ 2) (v : Int64) : gz_cfL.2 aC ad pf k (M.1 k) (gz_wl M 2 v).2 = gz_cfL.2 aC ad pf k (M.1 k) M.2 := by
  rcases gz_L3 hk with ⟨j, rfl, hj⟩ | ⟨j, rfl, hj⟩ | rfl
  · have h1 := gz_Lc2 aC ad pf j (gz_wl M 2 v)
    have h2 := gz_Lc2 aC ad pf j M
    have e : gz_sC (gz_wl M 2 v) = gz_sC M := Prod.ext rfl (funext fun i => by
      show (if 3 * i = 2 then v else M.2 (3 * i)) = M.2 (3 * i)
      rw [if_neg (by omega)])
    rw [e] at h1
    exact h1.trans h2.symm
  · have h1 := gz_Lr2 aC ad pf j (gz_wl M 2 v)
    have h2 := gz_Lr2 aC ad pf j M
    have e : gz_sR (gz_wl M 2 v) = gz_sR M := Prod.ext rfl (funext fun i => by
      show (if 3 * i + 1 = 2 then v else M.2 (3 * i + 1)) = M.2 (3 * i + 1)
      rw [if_neg (by omega)])
    rw [e] at h1
    exact h1.trans h2.symm
  · exact absurd rfl h
theorem gr_outst {v : Int64} (X : gz_Ok x cc own nL d gz_cfL pf l) (dg : decode cc pc = .ok (.lastore, 1)) (kk : gz_At x (pc + 1) lv st (gz_wl M 2 v)) : gz_At x pc lv (.long v :: .int 0 :: .ref (gx_ad x 2) :: st) M := by
  have hk := X.kd (gz_kdO pf)
  intro H locs ls h1 h2 h3
  have hP := gz_one h1 hk.1 (hk.2 _ _ _ _)
  refine W.last X.hx X.hb (hP 0 _ rfl) ((X.hK.2 2 _ rfl).1 1 (fun j => .long (M.2 (3 * j + 2)))) (fun q => by cases q) (by show ¬ ((0 : Int32) < 0 ∨ (arrV _ _ _).slots.size ≤ _); rw [arrV_size]; show ¬ ((0 : Int32) < 0 ∨ 1 ≤ (0 : Int32).toNatClampNeg); decide) rfl rfl dg fun H1 e z oq => ?_
  refine kk H1 _ ls (fun k' hk' => ?_) (h2.put z oq (X.hA 2 hk.1)) h3
  by_cases h : k' = 2
  · subst h
    rw [hk.2]
    show H1[gx_ad x 2]? = some (vp_cell _ _)
    rw [e]
    rw [vp_cell_l, vp_cell_l, arrV_store]
    congr 2
    funext q
    by_cases hq : q = 0
    · subst hq
      simp [updV, vp_updL, gz_wl]
    · have h9 : 3 * q + 2 ≠ 2 := by omega
      simp [updV, vp_updL, gz_wl, hq]
      try (intro h8; omega)
  · have h0 := (h1 k' hk').kept (oq _ (fun q => h (X.hinj _ _ hk' hk.1 q)))
    have e9 : (gx_cf x).2 (gx_aC x) (gx_ad x) (gx_pf x) k' (M.1 k') (gz_wl M 2 v).2 = (gx_cf x).2 (gx_aC x) (gx_ad x) (gx_pf x) k' (M.1 k') M.2 := by
      rw [X.hcf]; rw [X.hcf] at hk'; exact gz_wl2 _ _ _ k' hk' h v
    show va_at _ _ (gx_ad x k', (gx_cf x).2 (gx_aC x) (gx_ad x) (gx_pf x) k' (M.1 k') (gz_wl M 2 v).2) H1
    rw [e9]; exact h0
end GL6
end
section
section GL7
variable {x : gz_X} {cc : ByteArray} {own : String} {nL d pc : Nat} {pf : Nat → Bool} {l : Launch} {lv : List (Nat × Value)} {st : List Value} {M M' : gz_M} {hh : List (Nat × Nat × Nat × Nat)}
/-- what a helper's frame stands on beside gz_Ok -/
def gz_OkH (x : gz_X) (hh : List (Nat × Nat × Nat × Nat)) : Prop := gz_Xst (gx_s x) ∧ gz_Th (gx_A x) (gx_s x) (gx_s x).heap ∧ (gx_c x).exceptionTable.toList = tableOf hh
def gz_CH (l : Launch) (y : MethodName) (cc : ByteArray) (nL d : Nat) (hh : List (Nat × Nat × Nat × Nat)) (asF : (Nat → Nat) → List Value) (pf : Nat → Bool) (M : gz_M) (v : Int32) (M' : gz_M) : Prop := ∀ D aC ad sz, Met l y (Cond.codeWith y cc nL (some .int) hh :: gz_TB) (gz_rm d 1 6) (va_Pc (asF ad) (gz_BX D gz_cfL aC ad pf M sz)) (va_Qi (fun r' (_ : Unit) => r' = v) (fun _ t => gz_mw D gz_cls gz_cfL aC ad pf M' t.heap) (gz_A gz_cfL ad pf sz)) 1 6 (gz_A gz_cfL ad pf sz)
theorem gz_ofH {y : MethodName} {v : Int32} {asF : (Nat → Nat) → List Value} (hy : plainName y.cls = true) (hlen : ∀ ad, (lg_sl (asF ad)).length ≤ nL) (body : ∀ x, gz_Ok x cc y.cls nL d gz_cfL pf l → gz_OkH x hh → (gx_cells x = 0 ∧ gx_slots x = 0 ∧ (gx_R x).cells = 1 ∧ (gx_R x).slots = 6) → (∀ x', (x' = x ∨ x' = gz_set x (gx_ad x) (gx_pf x) 1 6) → gz_EI x' cc .int v M') → gz_At x 0 (lv_args 0 (asF (gx_ad x))) [] M) : gz_CH l y cc nL d hh asF pf M v M' := by
  intro D aC ad sz
  refine va_MetW (cc := cc) (maxL := nL) (ret := some .int) (hh := hh) hy rfl ?_
  intro p e s m args below meth c s₁ B hml hv
  obtain ⟨rfl, ⟨hsz, hP, hK, hI, hN⟩, hXs, hTh⟩ := hv
  subst hsz
  have hl := lv_entry (asF ad) (n := nL) (hlen ad)
  rw [lg_entry_eq]
  generalize (lg_sl (asF ad) ++ List.replicate (nL - (lg_sl (asF ad)).length) Slot.unset).toArray = ls at hl ⊢
  let x : gz_X := (p, l, e, (gz_rm d 1 6), s, m, (asF ad).toArray, below, meth, c, MQ below (va_Qi (fun r' (_ : Unit) => r' = v) (fun _ t => gz_mw D gz_cls gz_cfL aC ad pf M' t.heap) (gz_A gz_cfL ad pf s.heap.size)) (asF ad).toArray s 1 6 (gz_A gz_cfL ad pf s.heap.size), gz_A gz_cfL ad pf s.heap.size, D, aC, gz_cfL, ad, pf, nL, 0, 0, gz_cls)
  have hts : ∀ w ∈ gz_TB, w.before (asF ad).toArray s = true := fun w hw => atoms_spec (ws := Cond.codeWith y cc nL (some .int) hh :: gz_TB) B.pre w (List.mem_cons_of_mem _ hw)
  have htb : c.exceptionTable.toList = tableOf hh := vx_table (x := y) B (atoms_spec (ws := Cond.codeWith y cc nL (some .int) hh :: gz_TB) B.pre _ List.mem_cons_self)
  have X : gz_Ok x cc y.cls nL d gz_cfL pf l := ⟨⟨B.exec, B.bytes, hml, findClass_of_methodNamed B.named, hts⟩, rfl, hK, hI, fun k hk => Or.inl ⟨k, hk, rfl⟩, fun q hq => Or.inr hq, B.notSynchronized, Nat.le_refl _, Nat.le_refl _, hN, rfl, rfl, rfl, rfl⟩
  refine body x X ⟨hXs, hTh, htb⟩ ⟨rfl, rfl, rfl, rfl⟩ (fun x' hx' pc lv hnr dg H locs ls h1 h2 h3 => ?_) s.heap [] ls hP va_S.rf hl
  rcases hx' with h9 | h9 <;> rw [h9] at h1 h2 h3 ⊢
  · exact W.widen (k := 1) (n := 6) (Nat.zero_le _) (Nat.zero_le _) (W.zret B.exec B.bytes B.returns hnr (fun t ht hW => ⟨⟨v, (), rfl, rfl, by dsimp only; rw [ht]; exact h1⟩, h2.F ht⟩) h2.2.2 dg)
  · exact W.zret B.exec B.bytes B.returns hnr (fun t ht hW => ⟨⟨v, (), rfl, rfl, by dsimp only; rw [ht]; exact h1⟩, h2.F ht⟩) h2.2.2 dg
end GL7
end
section
section GL8
variable {x : gz_X} {cc : ByteArray} {own : String} {nL d pc : Nat} {pf : Nat → Bool} {l : Launch} {lv : List (Nat × Value)} {st : List Value} {M M' : gz_M} {hh : List (Nat × Nat × Nat × Nat)}
theorem gz_BXblind {av : List Value} {D : va_G} {cf : gz_CF} {aC : Nat → ClassId} {ad : Nat → Nat} {sz : Nat} : FrameBlind (va_Pc av (gz_BX D cf aC ad pf M sz)) := by
  intro a U g mk q
  obtain ⟨q0, ⟨q1, q2, q3, q4, q5⟩, q6, q7, q8⟩ := q
  exact ⟨q0, ⟨q1, q2, va_K.moved (u := U) (U := U.calling g mk a) (Vm.Alike.refl U.vm) q3, q4, gz_Nst.same (u := U) (U := U.calling g mk a) rfl q5⟩, gz_Xst.same (u := U) (U := U.calling g mk a) rfl q6, vx_Zq.moved (u := U) (U := U.calling g mk a) (Vm.Alike.refl U.vm) q7, vx_Zq.moved (u := U) (U := U.calling g mk a) (Vm.Alike.refl U.vm) q8⟩
theorem gz_BXat {cf : gz_CF} (X : gz_Ok x cc own nL d cf pf l) (hX : gz_OkH x hh) {H : Heap} {locs : List Loc} (h1 : gz_mw (gx_D x) (gx_cl x) (gx_cf x) (gx_aC x) (gx_ad x) (gx_pf x) M H) (h2 : va_S (gx_A x) (gx_s x).heap H locs) {av : List Value} {U : State} (hU : U.heap = H) (hW : (gx_s x).WarmedH U.vm) : va_Pc av (gz_BX (gx_D x) cf (gx_aC x) (gx_ad x) pf M H.size) av.toArray U := by
  have h9 := gz_Bat X h1 (av := av) hU hW
  refine ⟨h9.1, h9.2, hX.1.warm hW, ?_, ?_⟩
  · rw [hU]; exact ((hX.2.1.1.moved hW.alike).kept h2.2.1).narrow (gz_free X h2)
  · rw [hU]; exact ((hX.2.1.2.moved hW.alike).kept h2.2.1).narrow (gz_free X h2)
end GL8
end
