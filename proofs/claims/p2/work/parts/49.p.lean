/-! the reference's cutting: a token whole -/
section
variable {k k0 k1 m S s x p q : Nat} {M M' : gz_M} {T : gp_T} {l : List Nat} {F : Nat → Nat → Bool}
theorem gp_cut404 (t : Nat) (ht : t + 12 ≤ 300) (stk : List Nat) (h5 : stk.length ≤ 5) : ∀ (d n x : Nat) (M : gz_M), x + d = 5 → d < n → gp_sR M stk →
    ∃ M', f12_cutOne_404 n (nI t) (nI x) M = some M' ∧ M'.2 = M.2 ∧ (∀ c, c ≠ 0 → c ≠ 17 → M'.1 c = M.1 c) ∧ (∀ i, i ≠ 31 → M'.1 0 i = M.1 0 i) ∧ M'.1 0 31 = M.1 0 31 + 1 ∧ (∀ y, y < t + 7 + x ∨ t + 12 ≤ y → M'.1 17 y = M.1 17 y) ∧ (∀ y, x ≤ y → y < 5 → M'.1 17 (t + 7 + y) = if y < stk.length then nI (stk.getD (stk.length - 1 - y) 0) else gp_no) := by
  intro d
  induction d with
  | zero =>
    intro n x M hx hn hs
    obtain ⟨n, rfl⟩ : ∃ q, n = q + 1 := ⟨n - 1, by omega⟩
    have hx5 : x = 5 := by omega
    subst hx5
    rw [f12_cutOne_404, if_pos (by exact nI_le (Nat.le_refl 5) (by decide)), gp_eL]
    exact ⟨_, rfl, rfl, fun c c1 c2 => gp_wc _ c1, fun i i1 => gp_gn (by omega), gp_gs _ _ _ _, fun y _ => gp_gn (by omega), fun y h1 h2 => absurd h1 (by omega)⟩
  | succ d ih =>
    intro n x M hx hn hs
    obtain ⟨n, rfl⟩ : ∃ q, n = q + 1 := ⟨n - 1, by omega⟩
    rw [f12_cutOne_404, if_neg (by exact nI_ge (show x < 5 by omega) (by decide)), hs.1]
    have go : ∀ v : Int32, v = (if x < stk.length then nI (stk.getD (stk.length - 1 - x) 0) else gp_no) → ∃ M', f12_cutOne_404 n (nI t) (nI (x + 1)) (gz_w M 17 (t + 7 + x) v) = some M' ∧ M'.2 = M.2 ∧ (∀ c, c ≠ 0 → c ≠ 17 → M'.1 c = M.1 c) ∧ (∀ i, i ≠ 31 → M'.1 0 i = M.1 0 i) ∧ M'.1 0 31 = M.1 0 31 + 1 ∧ (∀ y, y < t + 7 + x ∨ t + 12 ≤ y → M'.1 17 y = M.1 17 y) ∧ (∀ y, x ≤ y → y < 5 → M'.1 17 (t + 7 + y) = if y < stk.length then nI (stk.getD (stk.length - 1 - y) 0) else gp_no) := by
      intro v hv
      obtain ⟨M', e1, e2, e3, e4, e5, e6, e7⟩ := ih n (x + 1) (gz_w M 17 (t + 7 + x) v) (by omega) (by omega) ⟨by rw [gp_gn (by omega)]; exact hs.1, fun y hy => by rw [gp_gn (by omega)]; exact hs.2 y hy⟩
      refine ⟨M', e1, e2, fun c c1 c2 => (e3 c c1 c2).trans (gp_wc _ c2), fun i i1 => (e4 i i1).trans (gp_gn (by omega)), e5.trans (by rw [gp_gn (by omega)]), fun y hy => (e6 y (by omega)).trans (gp_gn (by omega)), fun y h1 h2 => ?_⟩
      by_cases hyx : y = x
      · subst hyx
        rw [e6 _ (by omega), gp_gs, hv]
      · exact e7 y (by omega) h2
    have e7 : (nI t + 7) + nI x = nI (t + 7 + x) := by rw [show (7 : Int32) = nI 7 from rfl, nI_add, nI_add]
    by_cases hxl : x < stk.length
    · rw [if_neg (nI_ge hxl (by omega)), gp_ckb (by omega) (by omega), e7, gp_ckb (by omega) (by omega), gp_eL, gp_eL, nI_clamp (by omega), nI_clamp (by omega), nI_1, hs.2 x hxl]
      exact go _ (by rw [if_pos hxl])
    · rw [if_pos (nI_le (by omega) (by omega)), e7, gp_ckb (by omega) (by omega), gp_eL, gp_eL, nI_clamp (by omega), nI_1]
      exact go _ (by rw [if_neg hxl]; rfl)
/-- what a cut token leaves as it was -/
def gp_cutL (M M' : gz_M) : Prop := M'.2 = M.2 ∧ (∀ c, c ≠ 0 → ¬ (16 ≤ c ∧ c ≤ 20) → M'.1 c = M.1 c) ∧ (∀ i, i ≠ 26 → i ≠ 28 → i ≠ 29 → i ≠ 31 → i ≠ 32 → M'.1 0 i = M.1 0 i)
theorem gp_cutL.trans {M1 M2 M3 : gz_M} (a : gp_cutL M1 M2) (b : gp_cutL M2 M3) : gp_cutL M1 M3 := ⟨b.1.trans a.1, fun c c1 c2 => (b.2.1 c c1 c2).trans (a.2.1 c c1 c2), fun i i1 i2 i3 i4 i5 => (b.2.2 i i1 i2 i3 i4 i5).trans (a.2.2 i i1 i2 i3 i4 i5)⟩
theorem gp_cut250 (hw : gp_wT T) (ht : gp_tR M T) {stk : List Nat} (hsk : gp_sk stk) (hs : gp_sR M stk) {mo j : Nat} (hmo2 : mo ≤ 5) (hmo3 : stk.length ≤ mo) (hmo : M.1 0 29 = nI mo) (hj : j < 25) (h31 : M.1 0 31 = nI j) (hp : p < 24) (h26 : M.1 0 26 = nI p) (R : Option Nat × Nat × Nat × Option Nat × List Nat) (hR1 : ∀ i, R.1 = some i → i < T.1) (hR2 : R.2.1 < 2 ^ 30) (hR3 : 0 < R.2.2.1 ∧ R.2.2.1 < 2 ^ 30) (hR4 : ∀ x, R.2.2.2.1 = some x → R.2.2.1 = x + 1) {S' : Nat} (hS' : S' < 2 ^ 10) (hS2 : R.2.2.2.1.isSome = true ↔ S' = 0) :
    ∃ M', f12_cutOne_250 (nI (stk.headD 0)) (nI S') (gp_o (if R.1.isSome = true then some R.2.1 else none)) (gp_o R.1) (nI R.2.2.1) M = some M' ∧ M'.2 = M.2 ∧ (∀ c, c ≠ 0 → c ≠ 16 → c ≠ 17 → M'.1 c = M.1 c) ∧ (∀ i, i ≠ 26 → i ≠ 28 → i ≠ 29 → i ≠ 31 → M'.1 0 i = M.1 0 i) ∧ gp_sR M' (gp_tokO T p stk R).2.2.2.2.2.2 ∧ M'.1 0 26 = nI (gp_tokO T p stk R).2.2.1 ∧ M'.1 0 29 = nI (max mo (gp_tokO T p stk R).2.2.2.2.2.2.length) ∧ M'.1 0 31 = nI (j + 1) ∧ gp_rK M' j (gp_tokO T p stk R) ∧ ∀ y, y < 12 * j → M'.1 17 y = M.1 17 y := by
  generalize htk : gp_tokO T p stk R = t
  have t1 : t.1 = R.1 := by rw [← htk]; rfl
  have t2 : t.2.1 = p := by rw [← htk]; rfl
  have t3 : t.2.2.1 = if R.1.isSome = true then R.2.1 else p + 1 := by rw [← htk]; rfl
  have t4 : t.2.2.2.1 = R.2.2.1 := by rw [← htk]; rfl
  have t5 : t.2.2.2.2.1 = R.2.2.2.1 := by rw [← htk]; rfl
  have t6 : t.2.2.2.2.2.1 = stk.headD 0 := by rw [← htk]; rfl
  have t7 : t.2.2.2.2.2.2 = gp_act T R.1 stk := by rw [← htk]; rfl
  have hw1 := hw.1
  have hsk2 : gp_sk t.2.2.2.2.2.2 := by rw [t7]; exact gp_act_sk hw hR1 hsk
  have hsk5 := hsk2.2.1
  -- from the first word on
  have n12 : (12 : Int32) * nI j = nI (12 * j) := by rw [show (12 : Int32) = nI 12 from rfl, pk_mul]
  have a0 : ∀ i : Nat, nI (12 * j) + nI i = nI (12 * j + i) := fun i => nI_add _ _
  -- the last words
  have last : ∀ M1 : gz_M, M1.2 = M.2 → (∀ c, c ≠ 0 → c ≠ 17 → M1.1 c = M.1 c) → (∀ i, i ≠ 26 → M1.1 0 i = M.1 0 i) → M1.1 0 26 = nI t.2.2.1 → (M1.1 17 (12 * j) = gp_o t.1 ∧ M1.1 17 (12 * j + 1) = nI t.2.1 ∧ M1.1 17 (12 * j + 2) = nI t.2.2.1 ∧ M1.1 17 (12 * j + 3) = nI (if t.2.2.2.2.1.isSome = true then t.2.2.2.1 else t.2.2.2.1 + 1) ∧ M1.1 17 (12 * j + 4) = nI t.2.2.2.2.2.1 ∧ M1.1 17 (12 * j + 6) = gp_o t.2.2.2.2.1) → (∀ y, y < 12 * j → M1.1 17 y = M.1 17 y) → ∃ M', (if gp_o R.1 = (-1) then (f12_cutOne_388 (nI (12 * j)) M1) else (gz_bd (f12_doAct (gp_o R.1) M1) fun M6 => f12_cutOne_388 (nI (12 * j)) M6)) = some M' ∧ M'.2 = M.2 ∧ (∀ c, c ≠ 0 → c ≠ 16 → c ≠ 17 → M'.1 c = M.1 c) ∧ (∀ i, i ≠ 26 → i ≠ 28 → i ≠ 29 → i ≠ 31 → M'.1 0 i = M.1 0 i) ∧ gp_sR M' t.2.2.2.2.2.2 ∧ M'.1 0 26 = nI t.2.2.1 ∧ M'.1 0 29 = nI (max mo t.2.2.2.2.2.2.length) ∧ M'.1 0 31 = nI (j + 1) ∧ gp_rK M' j t ∧ ∀ y, y < 12 * j → M'.1 17 y = M.1 17 y := by
    intro M1 b1 b2 b3 b4 b5 b6
    have c388 : ∀ M2 : gz_M, gp_actL M1 M2 → gp_sR M2 t.2.2.2.2.2.2 → M2.1 0 29 = nI (max mo t.2.2.2.2.2.2.length) → ∃ M', f12_cutOne_388 (nI (12 * j)) M2 = some M' ∧ M'.2 = M.2 ∧ (∀ c, c ≠ 0 → c ≠ 16 → c ≠ 17 → M'.1 c = M.1 c) ∧ (∀ i, i ≠ 26 → i ≠ 28 → i ≠ 29 → i ≠ 31 → M'.1 0 i = M.1 0 i) ∧ gp_sR M' t.2.2.2.2.2.2 ∧ M'.1 0 26 = nI t.2.2.1 ∧ M'.1 0 29 = nI (max mo t.2.2.2.2.2.2.length) ∧ M'.1 0 31 = nI (j + 1) ∧ gp_rK M' j t ∧ ∀ y, y < 12 * j → M'.1 17 y = M.1 17 y := by
      intro M2 d1 d2 d3
      unfold f12_cutOne_388
      rw [show (5 : Int32) = nI 5 from rfl, a0, gp_ckb (by omega) (by omega), gp_eL, nI_clamp (by omega), d2.1]
      obtain ⟨M', e1, e2, e3, e4, e5, e6, e7⟩ := gp_cut404 (12 * j) (by omega) t.2.2.2.2.2.2 hsk5 5 gz_FU 0 (gz_w M2 17 (12 * j + 5) (nI t.2.2.2.2.2.2.length)) (by omega) (by unfold gz_FU; omega) ⟨by rw [gp_gn (by omega)]; exact d2.1, fun x hx => by rw [gp_gn (by omega)]; exact d2.2 x hx⟩
      have h17 : M2.1 17 = M1.1 17 := d1.2.1 17 (by omega) (by omega)
      have hrow : ∀ y, y < 12 * j + 7 → y ≠ 12 * j + 5 → M'.1 17 y = M1.1 17 y := fun y y1 y2 => by rw [e6 y (by omega), gp_gn (by omega), h17]
      refine ⟨M', e1, ?_, fun c c1 c2 c3 => ?_, fun i i1 i2 i3 i4 => ?_, ⟨?_, fun x hx => ?_⟩, ?_, ?_, ?_, ⟨?_, ?_, ?_, ?_, ?_, ?_, ?_, fun x hx => ?_⟩, fun y hy => ?_⟩
      · rw [e2, gp_gl, d1.1, b1]
      · rw [e3 c c1 c3, gp_wc _ c3, d1.2.1 c c1 c2, b2 c c1 c3]
      · rw [e4 i i4, gp_gn (by omega), d1.2.2 i i2 i3, b3 i i1]
      · rw [e4 _ (by omega), gp_gn (by omega)]; exact d2.1
      · rw [e3 _ (by omega) (by omega), gp_gn (by omega)]; exact d2.2 x hx
      · rw [e4 _ (by omega), gp_gn (by omega), d1.2.2 _ (by omega) (by omega), b4]
      · rw [e4 _ (by omega), gp_gn (by omega), d3]
      · rw [e5, gp_gn (by omega), d1.2.2 _ (by omega) (by omega), b3 _ (by omega), h31, nI_1]
      · rw [hrow _ (by omega) (by omega)]; exact b5.1
      · rw [hrow _ (by omega) (by omega)]; exact b5.2.1
      · rw [hrow _ (by omega) (by omega)]; exact b5.2.2.1
      · rw [hrow _ (by omega) (by omega)]; exact b5.2.2.2.1
      · rw [hrow _ (by omega) (by omega)]; exact b5.2.2.2.2.1
      · rw [e6 _ (by omega), gp_gs]
      · rw [hrow _ (by omega) (by omega)]; exact b5.2.2.2.2.2
      · exact e7 x (by omega) hx
      · rw [hrow _ (by omega) (by omega), b6 y hy]
    have hs1 : gp_sR M1 stk := ⟨by rw [b3 _ (by omega)]; exact hs.1, fun x hx => by rw [b2 _ (by omega) (by omega)]; exact hs.2 x hx⟩
    cases hR : R.1 with
    | none =>
      rw [if_pos (by rfl)]
      have : t.2.2.2.2.2.2 = stk := by rw [t7, hR]; rfl
      exact c388 M1 ⟨rfl, fun _ _ _ => rfl, fun _ _ _ => rfl⟩ (by rw [this]; exact hs1) (by rw [this, b3 _ (by omega), hmo, Nat.max_eq_left hmo3])
    | some i =>
      have hi := hR1 i hR
      rw [if_neg (by rw [gp_m1, gp_oS, gp_ne1 (by omega)]; exact id), gp_oS]
      have ht1 : gp_tR M1 T := ht.fr (fun c c1 c2 => b2 c (by omega) (by omega)) (b3 _ (by omega))
      obtain ⟨M2, f1, f2, f3, f4⟩ := gp_actR hw ht1 hi hsk hmo2 hmo3 (by rw [b3 _ (by omega), hmo]) hs1
      rw [f1, gp_eB]
      have : t.2.2.2.2.2.2 = gp_act T (some i) stk := by rw [t7, hR]
      exact c388 M2 f2 (by rw [this]; exact f3) (by rw [this]; exact f4)
  -- the words in their order
  have w362 : ∀ (s0 : Int32) (M1 : gz_M), s0 = gp_o t.2.2.2.2.1 → M1.2 = M.2 → (∀ c, c ≠ 0 → c ≠ 17 → M1.1 c = M.1 c) → (∀ i, M1.1 0 i = M.1 0 i) → (M1.1 17 (12 * j) = gp_o t.1 ∧ M1.1 17 (12 * j + 1) = nI t.2.1 ∧ M1.1 17 (12 * j + 2) = nI t.2.2.1 ∧ M1.1 17 (12 * j + 3) = nI (if t.2.2.2.2.1.isSome = true then t.2.2.2.1 else t.2.2.2.1 + 1) ∧ M1.1 17 (12 * j + 4) = nI t.2.2.2.2.2.1) → (∀ y, y < 12 * j → M1.1 17 y = M.1 17 y) → ∃ M', f12_cutOne_362 (gp_o R.1) (nI (12 * j)) s0 (nI (12 * j) + 6) M1 = some M' ∧ M'.2 = M.2 ∧ (∀ c, c ≠ 0 → c ≠ 16 → c ≠ 17 → M'.1 c = M.1 c) ∧ (∀ i, i ≠ 26 → i ≠ 28 → i ≠ 29 → i ≠ 31 → M'.1 0 i = M.1 0 i) ∧ gp_sR M' t.2.2.2.2.2.2 ∧ M'.1 0 26 = nI t.2.2.1 ∧ M'.1 0 29 = nI (max mo t.2.2.2.2.2.2.length) ∧ M'.1 0 31 = nI (j + 1) ∧ gp_rK M' j t ∧ ∀ y, y < 12 * j → M'.1 17 y = M.1 17 y := by
    intro s0 M1 h0 b1 b2 b3 b5 b6
    unfold f12_cutOne_362
    rw [show (6 : Int32) = nI 6 from rfl, show (2 : Int32) = nI 2 from rfl, a0, a0, gp_ckb (by omega) (by omega), gp_eL, gp_ckb (by omega) (by omega), gp_eL, nI_clamp (by omega), nI_clamp (by omega), gp_gn (by omega), b5.2.2.1]
    refine last _ ?_ (fun c c1 c2 => ?_) (fun i i1 => ?_) ?_ ⟨?_, ?_, ?_, ?_, ?_, ?_⟩ (fun y hy => ?_)
    · exact b1
    · rw [gp_wc _ c1, gp_wc _ c2, b2 c c1 c2]
    · rw [gp_gn (by omega), gp_gn (by omega), b3]
    · rw [gp_gs]
    · rw [gp_gn (by omega), gp_gn (by omega)]; exact b5.1
    · rw [gp_gn (by omega), gp_gn (by omega)]; exact b5.2.1
    · rw [gp_gn (by omega), gp_gn (by omega)]; exact b5.2.2.1
    · rw [gp_gn (by omega), gp_gn (by omega)]; exact b5.2.2.2.1
    · rw [gp_gn (by omega), gp_gn (by omega)]; exact b5.2.2.2.2
    · rw [gp_gn (by omega), gp_gs]; exact h0
    · rw [gp_gn (by omega), gp_gn (by omega), b6 y hy]
  have w330 : ∀ (s0 : Int32) (M1 : gz_M), s0 = nI (if t.2.2.2.2.1.isSome = true then t.2.2.2.1 else t.2.2.2.1 + 1) → M1.2 = M.2 → (∀ c, c ≠ 0 → c ≠ 17 → M1.1 c = M.1 c) → (∀ i, M1.1 0 i = M.1 0 i) → (M1.1 17 (12 * j) = gp_o t.1 ∧ M1.1 17 (12 * j + 1) = nI t.2.1 ∧ M1.1 17 (12 * j + 2) = nI t.2.2.1) → (∀ y, y < 12 * j → M1.1 17 y = M.1 17 y) → ∃ M', f12_cutOne_330 (nI (stk.headD 0)) (nI S') (gp_o R.1) (nI R.2.2.1) (nI (12 * j)) s0 (nI (12 * j) + 3) M1 = some M' ∧ M'.2 = M.2 ∧ (∀ c, c ≠ 0 → c ≠ 16 → c ≠ 17 → M'.1 c = M.1 c) ∧ (∀ i, i ≠ 26 → i ≠ 28 → i ≠ 29 → i ≠ 31 → M'.1 0 i = M.1 0 i) ∧ gp_sR M' t.2.2.2.2.2.2 ∧ M'.1 0 26 = nI t.2.2.1 ∧ M'.1 0 29 = nI (max mo t.2.2.2.2.2.2.length) ∧ M'.1 0 31 = nI (j + 1) ∧ gp_rK M' j t ∧ ∀ y, y < 12 * j → M'.1 17 y = M.1 17 y := by
    intro s0 M1 h0 b1 b2 b3 b5 b6
    have goo : ∀ s1 : Int32, s1 = gp_o t.2.2.2.2.1 → ∃ M', f12_cutOne_362 (gp_o R.1) (nI (12 * j)) s1 (nI (12 * j) + 6) (gz_w (gz_w M1 17 (12 * j + 3) s0) 17 (12 * j + 4) (nI (stk.headD 0))) = some M' ∧ M'.2 = M.2 ∧ (∀ c, c ≠ 0 → c ≠ 16 → c ≠ 17 → M'.1 c = M.1 c) ∧ (∀ i, i ≠ 26 → i ≠ 28 → i ≠ 29 → i ≠ 31 → M'.1 0 i = M.1 0 i) ∧ gp_sR M' t.2.2.2.2.2.2 ∧ M'.1 0 26 = nI t.2.2.1 ∧ M'.1 0 29 = nI (max mo t.2.2.2.2.2.2.length) ∧ M'.1 0 31 = nI (j + 1) ∧ gp_rK M' j t ∧ ∀ y, y < 12 * j → M'.1 17 y = M.1 17 y := by
      intro s1 h1
      refine w362 s1 _ h1 ?_ (fun c c1 c2 => ?_) (fun i => ?_) ⟨?_, ?_, ?_, ?_, ?_⟩ (fun y hy => ?_)
      · exact b1
      · rw [gp_wc _ c2, gp_wc _ c2, b2 c c1 c2]
      · rw [gp_gn (by omega), gp_gn (by omega), b3]
      · rw [gp_gn (by omega), gp_gn (by omega)]; exact b5.1
      · rw [gp_gn (by omega), gp_gn (by omega)]; exact b5.2.1
      · rw [gp_gn (by omega), gp_gn (by omega)]; exact b5.2.2
      · rw [gp_gn (by omega), gp_gs]; exact h0
      · rw [gp_gs, t6]
      · rw [gp_gn (by omega), gp_gn (by omega), b6 y hy]
    unfold f12_cutOne_330
    rw [show (3 : Int32) = nI 3 from rfl, show (4 : Int32) = nI 4 from rfl, a0, a0, gp_ckb (by omega) (by omega), gp_eL, gp_ckb (by omega) (by omega), gp_eL, nI_clamp (by omega), nI_clamp (by omega)]
    cases hd : R.2.2.2.1 with
    | none =>
      have hne : S' ≠ 0 := fun e => by have := hS2.mpr e; rw [hd] at this; cases this
      rw [if_neg (show ¬ nI S' = (0 : Int32) from fun e => hne ((nI_eq (b := 0) (by omega) (by omega)).mp e))]
      exact goo _ (by rw [t5, hd]; rfl)
    | some x =>
      have he : S' = 0 := hS2.mp (by rw [hd]; rfl)
      subst he
      rw [if_pos nI_0]
      refine goo _ ?_
      rw [t5, hd, hR4 x hd]
      exact nI_pred x
  have w308 : ∀ (s0 : Int32) (M1 : gz_M), s0 = nI t.2.2.1 → M1.2 = M.2 → (∀ c, c ≠ 0 → c ≠ 17 → M1.1 c = M.1 c) → (∀ i, M1.1 0 i = M.1 0 i) → (M1.1 17 (12 * j) = gp_o t.1 ∧ M1.1 17 (12 * j + 1) = nI t.2.1) → (∀ y, y < 12 * j → M1.1 17 y = M.1 17 y) → ∃ M', f12_cutOne_308 (nI (stk.headD 0)) (nI S') (gp_o R.1) (nI R.2.2.1) (nI (12 * j)) s0 (nI (12 * j) + 2) M1 = some M' ∧ M'.2 = M.2 ∧ (∀ c, c ≠ 0 → c ≠ 16 → c ≠ 17 → M'.1 c = M.1 c) ∧ (∀ i, i ≠ 26 → i ≠ 28 → i ≠ 29 → i ≠ 31 → M'.1 0 i = M.1 0 i) ∧ gp_sR M' t.2.2.2.2.2.2 ∧ M'.1 0 26 = nI t.2.2.1 ∧ M'.1 0 29 = nI (max mo t.2.2.2.2.2.2.length) ∧ M'.1 0 31 = nI (j + 1) ∧ gp_rK M' j t ∧ ∀ y, y < 12 * j → M'.1 17 y = M.1 17 y := by
    intro s0 M1 h0 b1 b2 b3 b5 b6
    have goo : ∀ s1 : Int32, s1 = nI (if t.2.2.2.2.1.isSome = true then t.2.2.2.1 else t.2.2.2.1 + 1) → ∃ M', f12_cutOne_330 (nI (stk.headD 0)) (nI S') (gp_o R.1) (nI R.2.2.1) (nI (12 * j)) s1 (nI (12 * j) + 3) (gz_w M1 17 (12 * j + 2) s0) = some M' ∧ M'.2 = M.2 ∧ (∀ c, c ≠ 0 → c ≠ 16 → c ≠ 17 → M'.1 c = M.1 c) ∧ (∀ i, i ≠ 26 → i ≠ 28 → i ≠ 29 → i ≠ 31 → M'.1 0 i = M.1 0 i) ∧ gp_sR M' t.2.2.2.2.2.2 ∧ M'.1 0 26 = nI t.2.2.1 ∧ M'.1 0 29 = nI (max mo t.2.2.2.2.2.2.length) ∧ M'.1 0 31 = nI (j + 1) ∧ gp_rK M' j t ∧ ∀ y, y < 12 * j → M'.1 17 y = M.1 17 y := by
      intro s1 h1
      refine w330 s1 _ h1 ?_ (fun c c1 c2 => ?_) (fun i => ?_) ⟨?_, ?_, ?_⟩ (fun y hy => ?_)
      · exact b1
      · rw [gp_wc _ c2, b2 c c1 c2]
      · rw [gp_gn (by omega), b3]
      · rw [gp_gn (by omega)]; exact b5.1
      · rw [gp_gn (by omega)]; exact b5.2
      · rw [gp_gs]; exact h0
      · rw [gp_gn (by omega), b6 y hy]
    unfold f12_cutOne_308
    rw [show (2 : Int32) = nI 2 from rfl, a0, gp_ckb (by omega) (by omega), gp_eL, nI_clamp (by omega)]
    cases hd : R.2.2.2.1 with
    | none =>
      have hne : S' ≠ 0 := fun e => by have := hS2.mpr e; rw [hd] at this; cases this
      rw [if_neg (show ¬ nI S' = (0 : Int32) from fun e => hne ((nI_eq (b := 0) (by omega) (by omega)).mp e)), nI_1]
      exact goo _ (by rw [t5, hd, t4]; rfl)
    | some x =>
      have he : S' = 0 := hS2.mp (by rw [hd]; rfl)
      subst he
      rw [if_pos nI_0]
      exact goo _ (by rw [t5, hd, t4]; rfl)
  unfold f12_cutOne_250
  rw [h31, gp_eL, n12, show nI (12 * j) + 0 = nI (12 * j + 0) from a0 0, show nI (12 * j) + 1 = nI (12 * j + 1) from a0 1, gp_ckb (by omega) (by omega), gp_eL, gp_ckb (by omega) (by omega), gp_eL, nI_clamp (by omega), nI_clamp (by omega), show (gz_w M 17 (12 * j + 0) (gp_o R.1)).1 0 26 = nI p from (gp_gn (by omega)).trans h26]
  have goo : ∀ s1 : Int32, s1 = nI t.2.2.1 → ∃ M', f12_cutOne_308 (nI (stk.headD 0)) (nI S') (gp_o R.1) (nI R.2.2.1) (nI (12 * j)) s1 (nI (12 * j) + 2) (gz_w (gz_w M 17 (12 * j + 0) (gp_o R.1)) 17 (12 * j + 1) (nI p)) = some M' ∧ M'.2 = M.2 ∧ (∀ c, c ≠ 0 → c ≠ 16 → c ≠ 17 → M'.1 c = M.1 c) ∧ (∀ i, i ≠ 26 → i ≠ 28 → i ≠ 29 → i ≠ 31 → M'.1 0 i = M.1 0 i) ∧ gp_sR M' t.2.2.2.2.2.2 ∧ M'.1 0 26 = nI t.2.2.1 ∧ M'.1 0 29 = nI (max mo t.2.2.2.2.2.2.length) ∧ M'.1 0 31 = nI (j + 1) ∧ gp_rK M' j t ∧ ∀ y, y < 12 * j → M'.1 17 y = M.1 17 y := by
    intro s1 h1
    refine w308 s1 _ h1 ?_ (fun c c1 c2 => ?_) (fun i => ?_) ⟨?_, ?_⟩ (fun y hy => ?_)
    · rfl
    · rw [gp_wc _ c2, gp_wc _ c2]
    · rw [gp_gn (by omega), gp_gn (by omega)]
    · rw [gp_gn (by omega), Nat.add_zero, gp_gs, t1]
    · rw [gp_gs, t2]
    · rw [gp_gn (by omega), gp_gn (by omega)]
  cases hR : R.1 with
  | none =>
    rw [hR] at goo t3
    have e : (gp_o (if (none : Option Nat).isSome = true then some R.2.1 else none)) = -1 := rfl
    rw [e, if_pos rfl, gp_gn (by omega), gp_gn (by omega), h26, nI_1]
    exact goo _ (by rw [t3]; rfl)
  | some i =>
    rw [hR] at goo t3
    have e : (gp_o (if (some i : Option Nat).isSome = true then some R.2.1 else none)) = nI R.2.1 := rfl
    rw [e, if_neg (by rw [gp_m1, gp_ne1 (by omega)]; exact id)]
    exact goo _ (by rw [t3]; rfl)
end
