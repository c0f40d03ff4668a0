/-! the reference cuts one token, whatever stands for the most modes (made by wip/gen/weak.py of parts 48 to 50) -/
section
variable {k k0 k1 m S s x p q : Nat} {M M' : gz_M} {T : gp_T} {l : List Nat} {F : Nat → Nat → Bool}
theorem gq_actR (hw : gp_wT T) (ht : gp_tR M T) {j : Nat} (hj : j < T.1) {stk : List Nat} (hsk : gp_sk stk) {mo : Nat} (hmo2 : mo ≤ 5) (hmo : M.1 0 29 = nI mo) (hs : gp_sR M stk) :
    ∃ M', f12_doAct (nI j) M = some M' ∧ gp_actL M M' ∧ gp_sR M' (gp_act T (some j) stk) ∧ (∃ mo2, mo2 ≤ 5 ∧ M'.1 0 29 = nI mo2) := by
  have hw1 := hw.1
  have hwj := hw.2.1 j hj
  have htj := ht.2.1 j hj
  have hl5 := hsk.2.1
  obtain ⟨d0, t, rfl⟩ : ∃ d t, stk = d :: t := by
    cases stk with
    | nil => exact absurd hsk.1 (by decide)
    | cons d t => exact ⟨d, t, rfl⟩
  have e3 : M.1 7 j = nI (T.2.2 3 j) := htj.2.2.1
  have hl5' : t.length + 1 ≤ 5 := hl5
  unfold f12_doAct
  rw [gp_ckb (by omega) (by omega), nI_clamp (by omega), e3, hs.1]
  have hc3 : T.2.2 3 j = 0 ∨ T.2.2 3 j = 1 ∨ T.2.2 3 j = 2 ∨ T.2.2 3 j = 3 := by omega
  -- the tail of the row, where the act isn't 2 or 3
  have tail : ∀ M1 : gz_M, M1.1 7 j = nI (T.2.2 3 j) → T.2.2 3 j ≤ 1 → f12_doAct_28 (nI j) M1 = some M1 := by
    intro M1 h1 h2
    unfold f12_doAct_28 f12_doAct_55
    have n3 : ¬ nI (T.2.2 3 j) = 3 := fun e => by have := (nI_eq (b := 3) (by omega) (by omega)).mp e; omega
    have n2 : ¬ nI (T.2.2 3 j) = 2 := fun e => by have := (nI_eq (b := 2) (by omega) (by omega)).mp e; omega
    rw [gp_ckb (by omega) (by omega), nI_clamp (by omega), h1, if_neg n3, gp_ckb (by omega) (by omega), if_neg n2]
  rcases hc3 with e | e | e | e
  · have ea : gp_act T (some j) (d0 :: t) = d0 :: t := by unfold gp_act; simp only [e]; rfl
    rw [e, if_neg (by decide), tail M e3 (by omega), ea]
    refine ⟨M, rfl, ⟨rfl, fun _ _ _ => rfl, fun _ _ _ => rfl⟩, hs, ?_⟩
    exact ⟨mo, hmo2, hmo⟩
  · rw [e, if_pos (show nI 1 = 1 from rfl)]
    by_cases hl : (d0 :: t).length ≤ 1
    · have ea : gp_act T (some j) (d0 :: t) = d0 :: t := by unfold gp_act; simp only [e, hl, if_true]
      rw [if_pos (by exact nI_le hl (by decide)), tail M e3 (by omega), ea]
      refine ⟨M, rfl, ⟨rfl, fun _ _ _ => rfl, fun _ _ _ => rfl⟩, hs, ?_⟩
      exact ⟨mo, hmo2, hmo⟩
    · have ea : gp_act T (some j) (d0 :: t) = t := by unfold gp_act; simp only [e, hl, if_false, if_true]; rfl
      rw [if_neg (show ¬ nI (d0 :: t).length ≤ (1 : Int32) from nI_ge (a := 1) (by omega) (by omega)), gp_eL, tail _ (by rw [gp_gn (by omega), e3]) (by omega), ea]
      refine ⟨_, rfl, ⟨rfl, fun c c1 c2 => gp_wc _ c1, fun i i1 i2 => gp_gn (by omega)⟩, ⟨?_, fun x hx => ?_⟩, ?_⟩
      · rw [gp_gs]
        exact nI_pred _
      · rw [gp_gn (by omega), hs.2 x (by simp; omega), gp_getD_snoc x (by simp; omega), if_pos hx]
      · exact ⟨mo, hmo2, by rw [gp_gn (by omega), hmo]⟩
  · have n3 : ¬ nI 2 = (3 : Int32) := by decide
    rw [e, if_neg (by decide)]
    unfold f12_doAct_28 f12_doAct_55
    rw [gp_ckb (by omega) (by omega), nI_clamp (by omega), e3, e, if_neg n3, gp_ckb (by omega) (by omega), if_pos (show nI 2 = 2 from rfl), hs.1]
    have ea : gp_act T (some j) (d0 :: t) = ((T.2.1 j).toNatClampNeg :: (d0 :: t)).take 5 := by unfold gp_act; simp only [e]; rfl
    by_cases h5 : (d0 :: t).length = 5
    · rw [h5, if_pos (show nI 5 = 5 from rfl), ea, List.take_succ_cons]
      obtain ⟨M', f1, f2, f3, f4⟩ := gp_actR_76 (stk := d0 :: t) hw hj e h5 hmo2 4 gz_FU 1 M (by omega) (by omega) (by unfold gz_FU; omega) ht hmo (by rw [hs.1, h5]) (fun y hy => absurd hy (by omega)) (fun y h1 h2 => by rw [hs.2 y (by omega), h5])
      refine ⟨M', f1, f2, f3, ?_⟩
      exact ⟨max mo 5, by omega, f4⟩
    · rw [if_neg (show ¬ nI (d0 :: t).length = (5 : Int32) from fun e => h5 ((nI_eq (b := 5) (by omega) (by omega)).mp e)), ea, List.take_of_length_le (by simp only [List.length_cons] at h5 ⊢; omega)]
      obtain ⟨M', f1, f2, f3, f4⟩ := gp_actR_111 hw ht hj e (stk := d0 :: t) (by omega) hmo2 hmo hs
      exact ⟨M', f1, f2, f3, max mo ((d0 :: t).length + 1), by simp only [List.length_cons] at h5 ⊢; omega, f4⟩
  · rw [e, if_neg (by decide)]
    obtain ⟨d, hd, ed⟩ := hwj.2.2.2.2.2 (by omega)
    have ea : gp_act T (some j) (d0 :: t) = (T.2.1 j).toNatClampNeg :: t := by unfold gp_act; simp only [e]; rfl
    unfold f12_doAct_28 f12_doAct_55
    rw [gp_ckb (by omega) (by omega), nI_clamp (by omega), e3, e, if_pos (show nI 3 = 3 from rfl), gp_ckb (by omega) (by omega), hs.1]
    rw [show nI (d0 :: t).length - 1 = nI t.length from nI_pred _, gp_ckb (by omega) (by omega), gp_eL, nI_clamp (by omega), htj.2.2.2.1, gp_ckb (by omega) (by omega), gp_gn (by omega), e3, e, if_neg (by decide), ea]
    refine ⟨_, rfl, ⟨rfl, fun c c1 c2 => gp_wc _ c2, fun i i1 i2 => gp_gn (by omega)⟩, ⟨?_, fun x hx => ?_⟩, ?_⟩
    · rw [gp_gn (by omega), hs.1]
      rfl
    · rw [gp_getD_snoc x hx]
      simp only [List.length_cons] at hx
      by_cases hx1 : x < t.length
      · rw [if_pos hx1, gp_gn (by omega), hs.2 x (by simp; omega), gp_getD_snoc x (by simp; omega), if_pos hx1]
      · have : x = t.length := by omega
        subst this
        rw [if_neg hx1, gp_gs, ed, nI_clamp (by omega)]
    · exact ⟨mo, hmo2, by rw [gp_gn (by omega), hmo]⟩
end
section
variable {k k0 k1 m S s x p q : Nat} {M M' : gz_M} {T : gp_T} {l : List Nat} {F : Nat → Nat → Bool}
theorem gq_cut250 (hw : gp_wT T) (ht : gp_tR M T) {stk : List Nat} (hsk : gp_sk stk) (hs : gp_sR M stk) {mo j : Nat} (hmo2 : mo ≤ 5) (hmo : M.1 0 29 = nI mo) (hj : j < 25) (h31 : M.1 0 31 = nI j) (hp : p < 24) (h26 : M.1 0 26 = nI p) (R : Option Nat × Nat × Nat × Option Nat × List Nat) (hR1 : ∀ i, R.1 = some i → i < T.1) (hR2 : R.2.1 < 2 ^ 30) (hR3 : 0 < R.2.2.1 ∧ R.2.2.1 < 2 ^ 30) (hR4 : ∀ x, R.2.2.2.1 = some x → R.2.2.1 = x + 1) {S' : Nat} (hS' : S' < 2 ^ 10) (hS2 : R.2.2.2.1.isSome = true ↔ S' = 0) :
    ∃ M', f12_cutOne_250 (nI (stk.headD 0)) (nI S') (gp_o (if R.1.isSome = true then some R.2.1 else none)) (gp_o R.1) (nI R.2.2.1) M = some M' ∧ M'.2 = M.2 ∧ (∀ c, c ≠ 0 → c ≠ 16 → c ≠ 17 → M'.1 c = M.1 c) ∧ (∀ i, i ≠ 26 → i ≠ 28 → i ≠ 29 → i ≠ 31 → M'.1 0 i = M.1 0 i) ∧ gp_sR M' (gp_tokO T p stk R).2.2.2.2.2.2 ∧ M'.1 0 26 = nI (gp_tokO T p stk R).2.2.1 ∧ (∃ mo2, mo2 ≤ 5 ∧ M'.1 0 29 = nI mo2) ∧ M'.1 0 31 = nI (j + 1) ∧ gp_rK M' j (gp_tokO T p stk R) ∧ ∀ y, y < 12 * j → M'.1 17 y = M.1 17 y := by
  generalize htk : gp_tokO T p stk R = t
  have t1 : t.1 = R.1 := by rw [← htk]; rfl
  have t2 : t.2.1 = p := by rw [← htk]; rfl
  have t3 : t.2.2.1 = if R.1.isSome = true then R.2.1 else p + 1 := by rw [← htk]; rfl
  have t4 : t.2.2.2.1 = R.2.2.1 := by rw [← htk]; rfl
  have t5 : t.2.2.2.2.1 = R.2.2.2.1 := by rw [← htk]; rfl
  have t6 : t.2.2.2.2.2.1 = stk.headD 0 := by rw [← htk]; rfl
  have t7 : t.2.2.2.2.2.2 = gp_act T R.1 stk := by rw [← htk]; rfl
  have hw1 := hw.1
  have hsk2 : gp_sk t.2.2.2.2.2.2 := by rw [t7]; exact gp_act_sk hw hR1 hsk
  have hsk5 := hsk2.2.1
  -- from the first word on
  have n12 : (12 : Int32) * nI j = nI (12 * j) := by rw [show (12 : Int32) = nI 12 from rfl, pk_mul]
  have a0 : ∀ i : Nat, nI (12 * j) + nI i = nI (12 * j + i) := fun i => nI_add _ _
  -- the last words
  have last : ∀ M1 : gz_M, M1.2 = M.2 → (∀ c, c ≠ 0 → c ≠ 17 → M1.1 c = M.1 c) → (∀ i, i ≠ 26 → M1.1 0 i = M.1 0 i) → M1.1 0 26 = nI t.2.2.1 → (M1.1 17 (12 * j) = gp_o t.1 ∧ M1.1 17 (12 * j + 1) = nI t.2.1 ∧ M1.1 17 (12 * j + 2) = nI t.2.2.1 ∧ M1.1 17 (12 * j + 3) = nI (if t.2.2.2.2.1.isSome = true then t.2.2.2.1 else t.2.2.2.1 + 1) ∧ M1.1 17 (12 * j + 4) = nI t.2.2.2.2.2.1 ∧ M1.1 17 (12 * j + 6) = gp_o t.2.2.2.2.1) → (∀ y, y < 12 * j → M1.1 17 y = M.1 17 y) → ∃ M', (if gp_o R.1 = (-1) then (f12_cutOne_388 (nI (12 * j)) M1) else (gz_bd (f12_doAct (gp_o R.1) M1) fun M6 => f12_cutOne_388 (nI (12 * j)) M6)) = some M' ∧ M'.2 = M.2 ∧ (∀ c, c ≠ 0 → c ≠ 16 → c ≠ 17 → M'.1 c = M.1 c) ∧ (∀ i, i ≠ 26 → i ≠ 28 → i ≠ 29 → i ≠ 31 → M'.1 0 i = M.1 0 i) ∧ gp_sR M' t.2.2.2.2.2.2 ∧ M'.1 0 26 = nI t.2.2.1 ∧ (∃ mo2, mo2 ≤ 5 ∧ M'.1 0 29 = nI mo2) ∧ M'.1 0 31 = nI (j + 1) ∧ gp_rK M' j t ∧ ∀ y, y < 12 * j → M'.1 17 y = M.1 17 y := by
    intro M1 b1 b2 b3 b4 b5 b6
    have c388 : ∀ M2 : gz_M, gp_actL M1 M2 → gp_sR M2 t.2.2.2.2.2.2 → (∃ mo2, mo2 ≤ 5 ∧ M2.1 0 29 = nI mo2) → ∃ M', f12_cutOne_388 (nI (12 * j)) M2 = some M' ∧ M'.2 = M.2 ∧ (∀ c, c ≠ 0 → c ≠ 16 → c ≠ 17 → M'.1 c = M.1 c) ∧ (∀ i, i ≠ 26 → i ≠ 28 → i ≠ 29 → i ≠ 31 → M'.1 0 i = M.1 0 i) ∧ gp_sR M' t.2.2.2.2.2.2 ∧ M'.1 0 26 = nI t.2.2.1 ∧ (∃ mo2, mo2 ≤ 5 ∧ M'.1 0 29 = nI mo2) ∧ M'.1 0 31 = nI (j + 1) ∧ gp_rK M' j t ∧ ∀ y, y < 12 * j → M'.1 17 y = M.1 17 y := by
      intro M2 d1 d2 d3
      unfold f12_cutOne_388
      rw [show (5 : Int32) = nI 5 from rfl, a0, gp_ckb (by omega) (by omega), gp_eL, nI_clamp (by omega), d2.1]
      obtain ⟨M', e1, e2, e3, e4, e5, e6, e7⟩ := gp_cut404 (12 * j) (by omega) t.2.2.2.2.2.2 hsk5 5 gz_FU 0 (gz_w M2 17 (12 * j + 5) (nI t.2.2.2.2.2.2.length)) (by omega) (by unfold gz_FU; omega) ⟨by rw [gp_gn (by omega)]; exact d2.1, fun x hx => by rw [gp_gn (by omega)]; exact d2.2 x hx⟩
      have h17 : M2.1 17 = M1.1 17 := d1.2.1 17 (by omega) (by omega)
      have hrow : ∀ y, y < 12 * j + 7 → y ≠ 12 * j + 5 → M'.1 17 y = M1.1 17 y := fun y y1 y2 => by rw [e6 y (by omega), gp_gn (by omega), h17]
      refine ⟨M', e1, ?_, fun c c1 c2 c3 => ?_, fun i i1 i2 i3 i4 => ?_, ⟨?_, fun x hx => ?_⟩, ?_, ?_, ?_, ⟨?_, ?_, ?_, ?_, ?_, ?_, ?_, fun x hx => ?_⟩, fun y hy => ?_⟩
      · rw [e2, gp_gl, d1.1, b1]
      · rw [e3 c c1 c3, gp_wc _ c3, d1.2.1 c c1 c2, b2 c c1 c3]
      · rw [e4 i i4, gp_gn (by omega), d1.2.2 i i2 i3, b3 i i1]
      · rw [e4 _ (by omega), gp_gn (by omega)]; exact d2.1
      · rw [e3 _ (by omega) (by omega), gp_gn (by omega)]; exact d2.2 x hx
      · rw [e4 _ (by omega), gp_gn (by omega), d1.2.2 _ (by omega) (by omega), b4]
      · obtain ⟨z, z1, z2⟩ := d3
        exact ⟨z, z1, by rw [e4 _ (by omega), gp_gn (by omega), z2]⟩
      · rw [e5, gp_gn (by omega), d1.2.2 _ (by omega) (by omega), b3 _ (by omega), h31, nI_1]
      · rw [hrow _ (by omega) (by omega)]; exact b5.1
      · rw [hrow _ (by omega) (by omega)]; exact b5.2.1
      · rw [hrow _ (by omega) (by omega)]; exact b5.2.2.1
      · rw [hrow _ (by omega) (by omega)]; exact b5.2.2.2.1
      · rw [hrow _ (by omega) (by omega)]; exact b5.2.2.2.2.1
      · rw [e6 _ (by omega), gp_gs]
      · rw [hrow _ (by omega) (by omega)]; exact b5.2.2.2.2.2
      · exact e7 x (by omega) hx
      · rw [hrow _ (by omega) (by omega), b6 y hy]
    have hs1 : gp_sR M1 stk := ⟨by rw [b3 _ (by omega)]; exact hs.1, fun x hx => by rw [b2 _ (by omega) (by omega)]; exact hs.2 x hx⟩
    cases hR : R.1 with
    | none =>
      rw [if_pos (by rfl)]
      have : t.2.2.2.2.2.2 = stk := by rw [t7, hR]; rfl
      exact c388 M1 ⟨rfl, fun _ _ _ => rfl, fun _ _ _ => rfl⟩ (by rw [this]; exact hs1) ⟨mo, hmo2, by rw [b3 _ (by omega), hmo]⟩
    | some i =>
      have hi := hR1 i hR
      rw [if_neg (by rw [gp_m1, gp_oS, gp_ne1 (by omega)]; exact id), gp_oS]
      have ht1 : gp_tR M1 T := ht.fr (fun c c1 c2 => b2 c (by omega) (by omega)) (b3 _ (by omega))
      obtain ⟨M2, f1, f2, f3, f4⟩ := gq_actR hw ht1 hi hsk hmo2 (by rw [b3 _ (by omega), hmo]) hs1
      rw [f1, gp_eB]
      have : t.2.2.2.2.2.2 = gp_act T (some i) stk := by rw [t7, hR]
      exact c388 M2 f2 (by rw [this]; exact f3) f4
  -- the words in their order
  have w362 : ∀ (s0 : Int32) (M1 : gz_M), s0 = gp_o t.2.2.2.2.1 → M1.2 = M.2 → (∀ c, c ≠ 0 → c ≠ 17 → M1.1 c = M.1 c) → (∀ i, M1.1 0 i = M.1 0 i) → (M1.1 17 (12 * j) = gp_o t.1 ∧ M1.1 17 (12 * j + 1) = nI t.2.1 ∧ M1.1 17 (12 * j + 2) = nI t.2.2.1 ∧ M1.1 17 (12 * j + 3) = nI (if t.2.2.2.2.1.isSome = true then t.2.2.2.1 else t.2.2.2.1 + 1) ∧ M1.1 17 (12 * j + 4) = nI t.2.2.2.2.2.1) → (∀ y, y < 12 * j → M1.1 17 y = M.1 17 y) → ∃ M', f12_cutOne_362 (gp_o R.1) (nI (12 * j)) s0 (nI (12 * j) + 6) M1 = some M' ∧ M'.2 = M.2 ∧ (∀ c, c ≠ 0 → c ≠ 16 → c ≠ 17 → M'.1 c = M.1 c) ∧ (∀ i, i ≠ 26 → i ≠ 28 → i ≠ 29 → i ≠ 31 → M'.1 0 i = M.1 0 i) ∧ gp_sR M' t.2.2.2.2.2.2 ∧ M'.1 0 26 = nI t.2.2.1 ∧ (∃ mo2, mo2 ≤ 5 ∧ M'.1 0 29 = nI mo2) ∧ M'.1 0 31 = nI (j + 1) ∧ gp_rK M' j t ∧ ∀ y, y < 12 * j → M'.1 17 y = M.1 17 y := by
    intro s0 M1 h0 b1 b2 b3 b5 b6
    unfold f12_cutOne_362
    rw [show (6 : Int32) = nI 6 from rfl, show (2 : Int32) = nI 2 from rfl, a0, a0, gp_ckb (by omega) (by omega), gp_eL, gp_ckb (by omega) (by omega), gp_eL, nI_clamp (by omega), nI_clamp (by omega), gp_gn (by omega), b5.2.2.1]
    refine last _ ?_ (fun c c1 c2 => ?_) (fun i i1 => ?_) ?_ ⟨?_, ?_, ?_, ?_, ?_, ?_⟩ (fun y hy => ?_)
    · exact b1
    · rw [gp_wc _ c1, gp_wc _ c2, b2 c c1 c2]
    · rw [gp_gn (by omega), gp_gn (by omega), b3]
    · rw [gp_gs]
    · rw [gp_gn (by omega), gp_gn (by omega)]; exact b5.1
    · rw [gp_gn (by omega), gp_gn (by omega)]; exact b5.2.1
    · rw [gp_gn (by omega), gp_gn (by omega)]; exact b5.2.2.1
    · rw [gp_gn (by omega), gp_gn (by omega)]; exact b5.2.2.2.1
    · rw [gp_gn (by omega), gp_gn (by omega)]; exact b5.2.2.2.2
    · rw [gp_gn (by omega), gp_gs]; exact h0
    · rw [gp_gn (by omega), gp_gn (by omega), b6 y hy]
  have w330 : ∀ (s0 : Int32) (M1 : gz_M), s0 = nI (if t.2.2.2.2.1.isSome = true then t.2.2.2.1 else t.2.2.2.1 + 1) → M1.2 = M.2 → (∀ c, c ≠ 0 → c ≠ 17 → M1.1 c = M.1 c) → (∀ i, M1.1 0 i = M.1 0 i) → (M1.1 17 (12 * j) = gp_o t.1 ∧ M1.1 17 (12 * j + 1) = nI t.2.1 ∧ M1.1 17 (12 * j + 2) = nI t.2.2.1) → (∀ y, y < 12 * j → M1.1 17 y = M.1 17 y) → ∃ M', f12_cutOne_330 (nI (stk.headD 0)) (nI S') (gp_o R.1) (nI R.2.2.1) (nI (12 * j)) s0 (nI (12 * j) + 3) M1 = some M' ∧ M'.2 = M.2 ∧ (∀ c, c ≠ 0 → c ≠ 16 → c ≠ 17 → M'.1 c = M.1 c) ∧ (∀ i, i ≠ 26 → i ≠ 28 → i ≠ 29 → i ≠ 31 → M'.1 0 i = M.1 0 i) ∧ gp_sR M' t.2.2.2.2.2.2 ∧ M'.1 0 26 = nI t.2.2.1 ∧ (∃ mo2, mo2 ≤ 5 ∧ M'.1 0 29 = nI mo2) ∧ M'.1 0 31 = nI (j + 1) ∧ gp_rK M' j t ∧ ∀ y, y < 12 * j → M'.1 17 y = M.1 17 y := by
    intro s0 M1 h0 b1 b2 b3 b5 b6
    have goo : ∀ s1 : Int32, s1 = gp_o t.2.2.2.2.1 → ∃ M', f12_cutOne_362 (gp_o R.1) (nI (12 * j)) s1 (nI (12 * j) + 6) (gz_w (gz_w M1 17 (12 * j + 3) s0) 17 (12 * j + 4) (nI (stk.headD 0))) = some M' ∧ M'.2 = M.2 ∧ (∀ c, c ≠ 0 → c ≠ 16 → c ≠ 17 → M'.1 c = M.1 c) ∧ (∀ i, i ≠ 26 → i ≠ 28 → i ≠ 29 → i ≠ 31 → M'.1 0 i = M.1 0 i) ∧ gp_sR M' t.2.2.2.2.2.2 ∧ M'.1 0 26 = nI t.2.2.1 ∧ (∃ mo2, mo2 ≤ 5 ∧ M'.1 0 29 = nI mo2) ∧ M'.1 0 31 = nI (j + 1) ∧ gp_rK M' j t ∧ ∀ y, y < 12 * j → M'.1 17 y = M.1 17 y := by
      intro s1 h1
      refine w362 s1 _ h1 ?_ (fun c c1 c2 => ?_) (fun i => ?_) ⟨?_, ?_, ?_, ?_, ?_⟩ (fun y hy => ?_)
      · exact b1
      · rw [gp_wc _ c2, gp_wc _ c2, b2 c c1 c2]
      · rw [gp_gn (by omega), gp_gn (by omega), b3]
      · rw [gp_gn (by omega), gp_gn (by omega)]; exact b5.1
      · rw [gp_gn (by omega), gp_gn (by omega)]; exact b5.2.1
      · rw [gp_gn (by omega), gp_gn (by omega)]; exact b5.2.2
      · rw [gp_gn (by omega), gp_gs]; exact h0
      · rw [gp_gs, t6]
      · rw [gp_gn (by omega), gp_gn (by omega), b6 y hy]
    unfold f12_cutOne_330
    rw [show (3 : Int32) = nI 3 from rfl, show (4 : Int32) = nI 4 from rfl, a0, a0, gp_ckb (by omega) (by omega), gp_eL, gp_ckb (by omega) (by omega), gp_eL, nI_clamp (by omega), nI_clamp (by omega)]
    cases hd : R.2.2.2.1 with
    | none =>
      have hne : S' ≠ 0 := fun e => by have := hS2.mpr e; rw [hd] at this; cases this
      rw [if_neg (show ¬ nI S' = (0 : Int32) from fun e => hne ((nI_eq (b := 0) (by omega) (by omega)).mp e))]
      exact goo _ (by rw [t5, hd]; rfl)
    | some x =>
      have he : S' = 0 := hS2.mp (by rw [hd]; rfl)
      subst he
      rw [if_pos nI_0]
      refine goo _ ?_
      rw [t5, hd, hR4 x hd]
      exact nI_pred x
  have w308 : ∀ (s0 : Int32) (M1 : gz_M), s0 = nI t.2.2.1 → M1.2 = M.2 → (∀ c, c ≠ 0 → c ≠ 17 → M1.1 c = M.1 c) → (∀ i, M1.1 0 i = M.1 0 i) → (M1.1 17 (12 * j) = gp_o t.1 ∧ M1.1 17 (12 * j + 1) = nI t.2.1) → (∀ y, y < 12 * j → M1.1 17 y = M.1 17 y) → ∃ M', f12_cutOne_308 (nI (stk.headD 0)) (nI S') (gp_o R.1) (nI R.2.2.1) (nI (12 * j)) s0 (nI (12 * j) + 2) M1 = some M' ∧ M'.2 = M.2 ∧ (∀ c, c ≠ 0 → c ≠ 16 → c ≠ 17 → M'.1 c = M.1 c) ∧ (∀ i, i ≠ 26 → i ≠ 28 → i ≠ 29 → i ≠ 31 → M'.1 0 i = M.1 0 i) ∧ gp_sR M' t.2.2.2.2.2.2 ∧ M'.1 0 26 = nI t.2.2.1 ∧ (∃ mo2, mo2 ≤ 5 ∧ M'.1 0 29 = nI mo2) ∧ M'.1 0 31 = nI (j + 1) ∧ gp_rK M' j t ∧ ∀ y, y < 12 * j → M'.1 17 y = M.1 17 y := by
    intro s0 M1 h0 b1 b2 b3 b5 b6
    have goo : ∀ s1 : Int32, s1 = nI (if t.2.2.2.2.1.isSome = true then t.2.2.2.1 else t.2.2.2.1 + 1) → ∃ M', f12_cutOne_330 (nI (stk.headD 0)) (nI S') (gp_o R.1) (nI R.2.2.1) (nI (12 * j)) s1 (nI (12 * j) + 3) (gz_w M1 17 (12 * j + 2) s0) = some M' ∧ M'.2 = M.2 ∧ (∀ c, c ≠ 0 → c ≠ 16 → c ≠ 17 → M'.1 c = M.1 c) ∧ (∀ i, i ≠ 26 → i ≠ 28 → i ≠ 29 → i ≠ 31 → M'.1 0 i = M.1 0 i) ∧ gp_sR M' t.2.2.2.2.2.2 ∧ M'.1 0 26 = nI t.2.2.1 ∧ (∃ mo2, mo2 ≤ 5 ∧ M'.1 0 29 = nI mo2) ∧ M'.1 0 31 = nI (j + 1) ∧ gp_rK M' j t ∧ ∀ y, y < 12 * j → M'.1 17 y = M.1 17 y := by
      intro s1 h1
      refine w330 s1 _ h1 ?_ (fun c c1 c2 => ?_) (fun i => ?_) ⟨?_, ?_, ?_⟩ (fun y hy => ?_)
      · exact b1
      · rw [gp_wc _ c2, b2 c c1 c2]
      · rw [gp_gn (by omega), b3]
      · rw [gp_gn (by omega)]; exact b5.1
      · rw [gp_gn (by omega)]; exact b5.2
      · rw [gp_gs]; exact h0
      · rw [gp_gn (by omega), b6 y hy]
    unfold f12_cutOne_308
    rw [show (2 : Int32) = nI 2 from rfl, a0, gp_ckb (by omega) (by omega), gp_eL, nI_clamp (by omega)]
    cases hd : R.2.2.2.1 with
    | none =>
      have hne : S' ≠ 0 := fun e => by have := hS2.mpr e; rw [hd] at this; cases this
      rw [if_neg (show ¬ nI S' = (0 : Int32) from fun e => hne ((nI_eq (b := 0) (by omega) (by omega)).mp e)), nI_1]
      exact goo _ (by rw [t5, hd, t4]; rfl)
    | some x =>
      have he : S' = 0 := hS2.mp (by rw [hd]; rfl)
      subst he
      rw [if_pos nI_0]
      exact goo _ (by rw [t5, hd, t4]; rfl)
  unfold f12_cutOne_250
  rw [h31, gp_eL, n12, show nI (12 * j) + 0 = nI (12 * j + 0) from a0 0, show nI (12 * j) + 1 = nI (12 * j + 1) from a0 1, gp_ckb (by omega) (by omega), gp_eL, gp_ckb (by omega) (by omega), gp_eL, nI_clamp (by omega), nI_clamp (by omega), show (gz_w M 17 (12 * j + 0) (gp_o R.1)).1 0 26 = nI p from (gp_gn (by omega)).trans h26]
  have goo : ∀ s1 : Int32, s1 = nI t.2.2.1 → ∃ M', f12_cutOne_308 (nI (stk.headD 0)) (nI S') (gp_o R.1) (nI R.2.2.1) (nI (12 * j)) s1 (nI (12 * j) + 2) (gz_w (gz_w M 17 (12 * j + 0) (gp_o R.1)) 17 (12 * j + 1) (nI p)) = some M' ∧ M'.2 = M.2 ∧ (∀ c, c ≠ 0 → c ≠ 16 → c ≠ 17 → M'.1 c = M.1 c) ∧ (∀ i, i ≠ 26 → i ≠ 28 → i ≠ 29 → i ≠ 31 → M'.1 0 i = M.1 0 i) ∧ gp_sR M' t.2.2.2.2.2.2 ∧ M'.1 0 26 = nI t.2.2.1 ∧ (∃ mo2, mo2 ≤ 5 ∧ M'.1 0 29 = nI mo2) ∧ M'.1 0 31 = nI (j + 1) ∧ gp_rK M' j t ∧ ∀ y, y < 12 * j → M'.1 17 y = M.1 17 y := by
    intro s1 h1
    refine w308 s1 _ h1 ?_ (fun c c1 c2 => ?_) (fun i => ?_) ⟨?_, ?_⟩ (fun y hy => ?_)
    · rfl
    · rw [gp_wc _ c2, gp_wc _ c2]
    · rw [gp_gn (by omega), gp_gn (by omega)]
    · rw [gp_gn (by omega), Nat.add_zero, gp_gs, t1]
    · rw [gp_gs, t2]
    · rw [gp_gn (by omega), gp_gn (by omega)]
  cases hR : R.1 with
  | none =>
    rw [hR] at goo t3
    have e : (gp_o (if (none : Option Nat).isSome = true then some R.2.1 else none)) = -1 := rfl
    rw [e, if_pos rfl, gp_gn (by omega), gp_gn (by omega), h26, nI_1]
    exact goo _ (by rw [t3]; rfl)
  | some i =>
    rw [hR] at goo t3
    have e : (gp_o (if (some i : Option Nat).isSome = true then some R.2.1 else none)) = nI R.2.1 := rfl
    rw [e, if_neg (by rw [gp_m1, gp_ne1 (by omega)]; exact id)]
    exact goo _ (by rw [t3]; rfl)
end
section
variable {k k0 k1 m S s x p q : Nat} {M M' : gz_M} {T : gp_T} {l : List Nat} {F : Nat → Nat → Bool}
theorem gq_cutOne (hw : gp_wT T) (mem : Nat) (hmem : mem < 2) (ht : gp_tR M T) (hl : gp_lR M l) {stk : List Nat} (hsk : gp_sk stk) (hs : gp_sR M stk) {mo j : Nat} (hmo2 : mo ≤ 5) (hmo : M.1 0 29 = nI mo) (hj : j < 25) (h31 : M.1 0 31 = nI j) (hp : p < l.length) (h26 : M.1 0 26 = nI p) (hF : ∀ S p', S < 2 ^ 10 → p' ≤ 24 → (F S p' = true ↔ mem = 1 ∧ M.1 19 (gp_code (stk.headD 0) S p') ≠ 0)) (R : Option Nat × Nat × Nat × Option Nat × List Nat) (hR : R = gp_rm T (stk.headD 0) F (l.drop p) p (T.2.2 8 (stk.headD 0)) none p) :
    ∃ M', f12_cutOne (nI mem) M = some M' ∧ gp_cutL M M' ∧ gp_sR M' (gp_tokO T p stk R).2.2.2.2.2.2 ∧ M'.1 0 26 = nI (gp_tokO T p stk R).2.2.1 ∧ (∃ mo2, mo2 ≤ 5 ∧ M'.1 0 29 = nI mo2) ∧ M'.1 0 31 = nI (j + 1) ∧ M'.1 0 32 = M.1 0 32 + nI (R.2.2.1 - p) ∧ gp_rK M' j (gp_tokO T p stk R) ∧ (∀ y, y < 12 * j → M'.1 17 y = M.1 17 y) ∧ (∀ y, M'.1 18 y = M.1 18 y + nI ((gp_codes (stk.headD 0) R.2.2.2.2 p).count y)) ∧ (mem = 0 → M'.1 19 = M.1 19) ∧ (mem = 1 → ∀ y, (y ∈ gp_marks (stk.headD 0) p R → M'.1 19 y = 1) ∧ (y ∉ gp_marks (stk.headD 0) p R → M'.1 19 y = M.1 19 y)) := by
  have hl1 := hl.1
  have hsk5 := hsk.2.1
  have hm : stk.headD 0 < 4 := by
    cases stk with
    | nil => exact absurd hsk.1 (by decide)
    | cons d t => exact hsk.2.2 d List.mem_cons_self
  have htop : M.1 16 (stk.length - 1) = nI (stk.headD 0) := by
    have h0 := hsk.1
    rw [hs.2 (stk.length - 1) (by omega), show stk.length - 1 - (stk.length - 1) = 0 by omega]
    cases stk <;> rfl
  have h0 := hsk.1
  obtain ⟨a1, a2, a3, a4, a5, a6, a7, a8, a9⟩ := gp_rm_f (T := T) (m := stk.headD 0) (F := F) (l.drop p) p (T.2.2 8 (stk.headD 0)) none p (by simp) (by simp)
  have hlen : (l.drop p).length = l.length - p := List.length_drop
  have hmets : ∀ S, S ∈ (gp_rm T (stk.headD 0) F (l.drop p) p (T.2.2 8 (stk.headD 0)) none p).2.2.2.2 → S < 2 ^ 10 := fun S hS => gp_lt10 hw hm (gp_rm_mets hw hm (l.drop p) p _ _ _ (fun s hs' => by
    obtain ⟨i, hi, e⟩ := List.mem_iff_getElem.mp (List.mem_of_mem_drop hs')
    have := (hl.2.2 i hi).2
    simp [List.getD, hi] at this
    rw [← e]; exact this) S hS)
  unfold f12_cutOne
  rw [hs.1, show nI stk.length - 1 = nI (stk.length - 1) by
    obtain ⟨q, e⟩ : ∃ q, stk.length = q + 1 := ⟨stk.length - 1, by omega⟩
    rw [e]; exact nI_pred q, gp_ckb (by omega) (by omega), gp_eL, gp_eL, nI_clamp (by omega), htop, h26]
  obtain ⟨S', M1, e1, e2, e3, e4⟩ := gp_cutOne_32 (F := F) hw hm mem hmem p (l.length - p) gz_FU p 0 p 0 none M (by omega) (by unfold gz_FU; omega) ht hl h26 (Nat.two_pow_pos _) (fun h => absurd rfl h) (fun _ => by omega) (Nat.le_refl _) (by omega) hF
  simp only [if_true] at e1 e3 e4
  rw [← hR] at e1 e3 e4 a1 a2 a3 a4 a5 a6 a7 a8 hmets
  have e1' : f12_cutOne_32 gz_FU (nI mem) (nI (stk.headD 0)) 0 (-1) (-1) (nI p) 0 0 M = _ := e1
  rw [e1', Nat.zero_add]
  obtain ⟨j1, j2, j3, j4, j5, j6, j7⟩ := e4
  have hlc : (gp_codes (stk.headD 0) R.2.2.2.2 p).length = R.2.2.2.2.length := gp_codes_len _ _ _
  have hRl : R.2.2.2.2.length + p ≤ l.length := by omega
  have hRb : R.1.isSome = true → R.2.1 ≤ 24 := fun h => by have := a4 h; omega
  have hR2 : R.2.1 < 2 ^ 30 ∨ R.1.isSome = false := by
    cases h : R.1.isSome
    · exact Or.inr rfl
    · exact Or.inl (by have := hRb h; omega)
  have hgt : p < R.2.2.1 := a3 (by rw [gp_drop hp]; simp)
  -- behind the marks
  have fin : ∀ M2 : gz_M, M2.2 = M1.2 → (∀ c, c ≠ 19 → M2.1 c = M1.1 c) → (mem = 0 → M2.1 19 = M.1 19) → (mem = 1 → ∀ y, (y ∈ gp_marks (stk.headD 0) p R → M2.1 19 y = 1) ∧ (y ∉ gp_marks (stk.headD 0) p R → M2.1 19 y = M.1 19 y)) → ∃ M', f12_cutOne_250 (nI (stk.headD 0)) (nI S') (gp_o (if R.1.isSome = true then some R.2.1 else none)) (gp_o R.1) (nI R.2.2.1) M2 = some M' ∧ gp_cutL M M' ∧ gp_sR M' (gp_tokO T p stk R).2.2.2.2.2.2 ∧ M'.1 0 26 = nI (gp_tokO T p stk R).2.2.1 ∧ (∃ mo2, mo2 ≤ 5 ∧ M'.1 0 29 = nI mo2) ∧ M'.1 0 31 = nI (j + 1) ∧ M'.1 0 32 = M.1 0 32 + nI (R.2.2.1 - p) ∧ gp_rK M' j (gp_tokO T p stk R) ∧ (∀ y, y < 12 * j → M'.1 17 y = M.1 17 y) ∧ (∀ y, M'.1 18 y = M.1 18 y + nI ((gp_codes (stk.headD 0) R.2.2.2.2 p).count y)) ∧ (mem = 0 → M'.1 19 = M.1 19) ∧ (mem = 1 → ∀ y, (y ∈ gp_marks (stk.headD 0) p R → M'.1 19 y = 1) ∧ (y ∉ gp_marks (stk.headD 0) p R → M'.1 19 y = M.1 19 y)) := by
    intro M2 b1 b2 b3 b4
    have m2c : ∀ c, c ≠ 0 → c ≠ 18 → c ≠ 19 → c ≠ 20 → M2.1 c = M.1 c := fun c c1 c2 c3 c4 => by rw [b2 c c3, j2 c c1 c2 c4]
    have m20 : ∀ i, i ≠ 32 → M2.1 0 i = M.1 0 i := fun i hi => by rw [b2 0 (by omega), j3 i hi]
    have ht2 : gp_tR M2 T := ht.fr (fun c c1 c2 => m2c c (by omega) (by omega) (by omega) (by omega)) (m20 _ (by omega))
    have hs2 : gp_sR M2 stk := ⟨by rw [m20 _ (by omega)]; exact hs.1, fun x hx => by rw [m2c _ (by omega) (by omega) (by omega) (by omega)]; exact hs.2 x hx⟩
    have conv : ∃ R' : Option Nat × Nat × Nat × Option Nat × List Nat, R'.1 = R.1 ∧ R'.2.2 = R.2.2 ∧ R'.2.1 < 2 ^ 30 ∧ (R.1.isSome = true → R'.2.1 = R.2.1) := by
      rcases hR2 with h | h
      · exact ⟨R, rfl, rfl, h, fun _ => rfl⟩
      · exact ⟨(R.1, 0, R.2.2), rfl, rfl, show 0 < 2 ^ 30 by decide, fun h' => by rw [h] at h'; cases h'⟩
    obtain ⟨R', r1, r2, r3, r4⟩ := conv
    obtain ⟨M', f1, f2, f3, f4, f5, f6, f7, f8, f9, f10⟩ := gq_cut250 hw ht2 hsk hs2 hmo2 (by rw [m20 _ (by omega), hmo]) hj (by rw [m20 _ (by omega), h31]) (show p < 24 by omega) (by rw [m20 _ (by omega), h26]) R' (by rw [r1]; exact a6) r3 (by rw [r2]; omega) (fun x hx => by rw [r2] at hx ⊢; exact (a7 x hx).1) e2 (by rw [r2]; exact e3)
    have eo : (if R'.1.isSome = true then some R'.2.1 else none) = (if R.1.isSome = true then some R.2.1 else none) := by
      rw [r1]
      split
      · rename_i h; rw [r4 h]
      · rfl
    have et : gp_tokO T p stk R' = gp_tokO T p stk R := by
      unfold gp_tokO
      rw [r1, r2]
      congr 3
      split
      · rename_i h; rw [r4 h]
      · rfl
    rw [eo, r1, r2] at f1
    rw [et] at f5 f6 f9
    refine ⟨M', f1, ⟨by rw [f2, b1, j1], fun c c1 c2 => by rw [f3 c c1 (by omega) (by omega), m2c c c1 (by omega) (by omega) (by omega)], fun i i1 i2 i3 i4 i5 => by rw [f4 i i1 i2 i3 i4, m20 i i5]⟩, f5, f6, f7, f8, ?_, f9, fun y hy => by rw [f10 y hy, m2c _ (by omega) (by omega) (by omega) (by omega)], fun y => ?_, fun h => ?_, fun h y => ?_⟩
    · rw [f4 _ (by omega) (by omega) (by omega) (by omega), b2 _ (by omega), j4]
    · rw [f3 _ (by omega) (by omega) (by omega), b2 _ (by omega), j7]
    · rw [f3 _ (by omega) (by omega) (by omega), b3 h]
    · rw [f3 _ (by omega) (by omega) (by omega)]
      exact b4 h y
  unfold f12_cutOne_190
  have hm2 : mem = 0 ∨ mem = 1 := by omega
  rcases hm2 with h | h
  · subst h
    rw [if_pos nI_0]
    exact fin M1 rfl (fun _ _ => rfl) (fun _ => j2 _ (by omega) (by omega) (by omega)) (fun h => absurd h (by decide))
  · subst h
    rw [if_neg (by decide), ← hlc]
    have hcl : ∀ i, i < (gp_codes (stk.headD 0) R.2.2.2.2 p).length → (gp_codes (stk.headD 0) R.2.2.2.2 p).getD i 0 < 102400 := fun i hi => by
      exact gp_codes_lt hm R.2.2.2.2 p hmets (by omega) _ (gp_getD_mem hi)
    have hla : ∀ b, (if R.1.isSome = true then some R.2.1 else none) = some b → b ≤ 24 := by
      intro b hb
      split at hb
      · rename_i h
        cases hb
        exact hRb h
      · cases hb
    obtain ⟨M2, g1, g2, g3, g4⟩ := gp_cut197 p (by omega) (gp_codes (stk.headD 0) R.2.2.2.2 p) (by omega) hcl (if R.1.isSome = true then some R.2.1 else none) hla (nI (stk.headD 0)) (nI S') (gp_o R.1) (nI R.2.2.1) (gp_codes (stk.headD 0) R.2.2.2.2 p).length gz_FU 0 M1 (by omega) (by unfold gz_FU; omega) (by rw [j3 _ (by omega), h26]) (fun i hi => by have := j6 i hi; rwa [Nat.zero_add] at this)
    have g1' : f12_cutOne_197 gz_FU (nI (stk.headD 0)) (nI S') (gp_o (if R.1.isSome = true then some R.2.1 else none)) (gp_o R.1) (nI R.2.2.1) (nI (gp_codes (stk.headD 0) R.2.2.2.2 p).length) 0 M1 = _ := g1
    rw [g1']
    refine fin M2 g2 g3 (fun h => absurd h (by decide)) (fun _ y => ?_)
    have hk : (if R.1.isSome = true then some R.2.1 else none).getD p = (if R.1.isSome = true then R.2.1 else p) := by split <;> rfl
    have hmk : (∃ i, 0 ≤ i ∧ i < (gp_codes (stk.headD 0) R.2.2.2.2 p).length ∧ (if R.1.isSome = true then some R.2.1 else none).getD p < p + 1 + i ∧ y = (gp_codes (stk.headD 0) R.2.2.2.2 p).getD i 0) ↔ y ∈ gp_marks (stk.headD 0) p R := by
      unfold gp_marks
      rw [gp_mem_drop (d := 0), hk]
      constructor
      · rintro ⟨i, _, b, c, e⟩
        exact ⟨i, by omega, b, e⟩
      · rintro ⟨i, a, b, e⟩
        exact ⟨i, by omega, b, by omega, e⟩
    have := g4 y
    rw [hmk] at this
    rw [j2 _ (by omega) (by omega) (by omega)] at this
    exact this
end
