/-! the reference's cutting: the rest of a token -/
theorem gp_getD_snoc {stk : List Nat} {d : Nat} : ∀ x, x < (d :: stk).length → (d :: stk).getD ((d :: stk).length - 1 - x) 0 = if x < stk.length then stk.getD (stk.length - 1 - x) 0 else d := by
  intro x hx
  simp only [List.length_cons] at hx ⊢
  by_cases h : x < stk.length
  · rw [if_pos h]
    have : stk.length + 1 - 1 - x = (stk.length - 1 - x) + 1 := by omega
    rw [this]
    simp
  · rw [if_neg h]
    have : stk.length + 1 - 1 - x = 0 := by omega
    rw [this]
    simp
section
variable {k k0 k1 m S s x p q : Nat} {M M' : gz_M} {T : gp_T} {l : List Nat} {F : Nat → Nat → Bool}
/-- what an act of the reference leaves: only the modes on one another and the most of them -/
def gp_actL (M M' : gz_M) : Prop := M'.2 = M.2 ∧ (∀ c, c ≠ 0 → c ≠ 16 → M'.1 c = M.1 c) ∧ (∀ i, i ≠ 28 → i ≠ 29 → M'.1 0 i = M.1 0 i)
theorem gp_actR_111 (hw : gp_wT T) (ht : gp_tR M T) {j : Nat} (hj : j < T.1) (he : T.2.2 3 j = 2) {stk : List Nat} (hl : stk.length < 5) {mo : Nat} (hmo2 : mo ≤ 5) (hmo : M.1 0 29 = nI mo) (hs : gp_sR M stk) :
    ∃ M', f12_doAct_111 (nI j) M = some M' ∧ gp_actL M M' ∧ gp_sR M' ((T.2.1 j).toNatClampNeg :: stk) ∧ M'.1 0 29 = nI (max mo (stk.length + 1)) := by
  have hw1 := hw.1
  obtain ⟨d, hd, ed⟩ := (hw.2.1 j hj).2.2.2.2.2 (by omega)
  unfold f12_doAct_111
  rw [gp_ckb (by omega) (by omega), hs.1, gp_ckb (by omega) (by omega), gp_eL, nI_clamp (by omega), nI_clamp (by omega), (ht.2.1 j hj).2.2.2.1]
  refine ⟨_, rfl, ⟨rfl, fun c c1 c2 => ?_, fun i i1 i2 => ?_⟩, ⟨?_, fun x hx => ?_⟩, ?_⟩
  · rw [gp_wc _ c1, gp_wc _ c1, gp_wc _ c2]
  · rw [gp_gn (by omega), gp_gn (by omega), gp_gn (by omega)]
  · rw [gp_gn (by omega), gp_gs, gp_gn (by omega), hs.1, nI_1]
    rfl
  · rw [gp_gn (by omega), gp_gn (by omega), gp_getD_snoc x hx]
    simp only [List.length_cons] at hx
    by_cases hx1 : x < stk.length
    · rw [if_pos hx1, gp_gn (by omega)]
      exact hs.2 x hx1
    · have : x = stk.length := by omega
      subst this
      rw [if_neg hx1, gp_gs, ed, nI_clamp (by omega)]
  · rw [gp_gs, gp_gs, gp_gn (by omega), gp_gn (by omega), gp_gn (by omega), hs.1, nI_1, hmo, gp_max (by omega) (by omega)]
theorem gp_actR_76 (hw : gp_wT T) {j : Nat} (hj : j < T.1) (he : T.2.2 3 j = 2) {stk : List Nat} (hl : stk.length = 5) {mo : Nat} (hmo2 : mo ≤ 5) : ∀ (d n x : Nat) (M : gz_M), x + d = 5 → 0 < x → d < n → gp_tR M T → M.1 0 29 = nI mo → M.1 0 28 = nI 5 → (∀ y, y < x - 1 → M.1 16 y = nI (stk.getD (3 - y) 0)) → (∀ y, x ≤ y → y < 5 → M.1 16 y = nI (stk.getD (4 - y) 0)) →
    ∃ M', f12_doAct_76 n (nI j) (nI x) M = some M' ∧ gp_actL M M' ∧ gp_sR M' ((T.2.1 j).toNatClampNeg :: stk.take 4) ∧ M'.1 0 29 = nI (max mo 5) := by
  intro d
  induction d with
  | zero =>
    intro n x M hx h0 hn ht hmo h28 hlo hhi
    obtain ⟨n, rfl⟩ : ∃ q, n = q + 1 := ⟨n - 1, by omega⟩
    have hx5 : x = 5 := by omega
    subst hx5
    rw [f12_doAct_76, if_pos (by exact nI_le (Nat.le_refl 5) (by decide)), gp_eL, h28]
    have hl4 : (stk.take 4).length = 4 := by rw [List.length_take]; omega
    have ht1 : gp_tR (gz_w M 0 28 (nI 5 - 1)) T := ht.fr (fun c c1 c2 => gp_wc _ (by omega)) (gp_gn (by omega))
    obtain ⟨M', e1, e2, e3, e4⟩ := gp_actR_111 (M := gz_w M 0 28 (nI 5 - 1)) (stk := stk.take 4) hw ht1 hj he (by omega) hmo2 (by rw [gp_gn (by omega), hmo]) ⟨by rw [gp_gs, hl4]; rfl, fun y hy => by
      rw [gp_gn (by omega), hlo y (by omega), hl4]
      congr 1
      rw [List.getD_eq_getElem?_getD, List.getD_eq_getElem?_getD, List.getElem?_take_of_lt (by omega)]⟩
    refine ⟨M', e1, ⟨e2.1, fun c c1 c2 => (e2.2.1 c c1 c2).trans (gp_wc _ c1), fun i i1 i2 => (e2.2.2 i i1 i2).trans (gp_gn (by omega))⟩, e3, ?_⟩
    rw [e4, hl4]
  | succ d ih =>
    intro n x M hx h0 hn ht hmo h28 hlo hhi
    obtain ⟨n, rfl⟩ : ∃ q, n = q + 1 := ⟨n - 1, by omega⟩
    obtain ⟨x, rfl⟩ : ∃ q, x = q + 1 := ⟨x - 1, by omega⟩
    rw [f12_doAct_76, if_neg (by exact nI_ge (show x + 1 < 5 by omega) (by decide)), nI_pred, gp_ckb (by omega) (by omega), gp_ckb (by omega) (by omega), gp_eL, gp_eL, nI_clamp (by omega), nI_clamp (by omega), nI_1, hhi (x + 1) (by omega) (by omega)]
    obtain ⟨M', e1, e2, e3, e4⟩ := ih n (x + 1 + 1) (gz_w M 16 x (nI (stk.getD (4 - (x + 1)) 0))) (by omega) (by omega) (by omega) (ht.fr (fun c c1 c2 => gp_wc _ (by omega)) (gp_gn (by omega))) (by rw [gp_gn (by omega), hmo]) (by rw [gp_gn (by omega), h28]) (fun y hy => by
      by_cases hyx : y = x
      · subst hyx
        rw [gp_gs]
        congr 2
        omega
      · rw [gp_gn (by omega), hlo y (by omega)]) (fun y h1 h2 => by rw [gp_gn (by omega), hhi y (by omega) h2])
    exact ⟨M', e1, ⟨e2.1, fun c c1 c2 => (e2.2.1 c c1 c2).trans (gp_wc _ c2), fun i i1 i2 => (e2.2.2 i i1 i2).trans (gp_gn (by omega))⟩, e3, e4⟩
theorem gp_actR (hw : gp_wT T) (ht : gp_tR M T) {j : Nat} (hj : j < T.1) {stk : List Nat} (hsk : gp_sk stk) {mo : Nat} (hmo2 : mo ≤ 5) (hmo3 : stk.length ≤ mo) (hmo : M.1 0 29 = nI mo) (hs : gp_sR M stk) :
    ∃ M', f12_doAct (nI j) M = some M' ∧ gp_actL M M' ∧ gp_sR M' (gp_act T (some j) stk) ∧ M'.1 0 29 = nI (max mo (gp_act T (some j) stk).length) := by
  have hw1 := hw.1
  have hwj := hw.2.1 j hj
  have htj := ht.2.1 j hj
  have hl5 := hsk.2.1
  obtain ⟨d0, t, rfl⟩ : ∃ d t, stk = d :: t := by
    cases stk with
    | nil => exact absurd hsk.1 (by decide)
    | cons d t => exact ⟨d, t, rfl⟩
  have e3 : M.1 7 j = nI (T.2.2 3 j) := htj.2.2.1
  have hl5' : t.length + 1 ≤ 5 := hl5
  unfold f12_doAct
  rw [gp_ckb (by omega) (by omega), nI_clamp (by omega), e3, hs.1]
  have hc3 : T.2.2 3 j = 0 ∨ T.2.2 3 j = 1 ∨ T.2.2 3 j = 2 ∨ T.2.2 3 j = 3 := by omega
  -- the tail of the row, where the act isn't 2 or 3
  have tail : ∀ M1 : gz_M, M1.1 7 j = nI (T.2.2 3 j) → T.2.2 3 j ≤ 1 → f12_doAct_28 (nI j) M1 = some M1 := by
    intro M1 h1 h2
    unfold f12_doAct_28 f12_doAct_55
    have n3 : ¬ nI (T.2.2 3 j) = 3 := fun e => by have := (nI_eq (b := 3) (by omega) (by omega)).mp e; omega
    have n2 : ¬ nI (T.2.2 3 j) = 2 := fun e => by have := (nI_eq (b := 2) (by omega) (by omega)).mp e; omega
    rw [gp_ckb (by omega) (by omega), nI_clamp (by omega), h1, if_neg n3, gp_ckb (by omega) (by omega), if_neg n2]
  rcases hc3 with e | e | e | e
  · have ea : gp_act T (some j) (d0 :: t) = d0 :: t := by unfold gp_act; simp only [e]; rfl
    rw [e, if_neg (by decide), tail M e3 (by omega), ea]
    refine ⟨M, rfl, ⟨rfl, fun _ _ _ => rfl, fun _ _ _ => rfl⟩, hs, ?_⟩
    rw [hmo, Nat.max_eq_left hmo3]
  · rw [e, if_pos (show nI 1 = 1 from rfl)]
    by_cases hl : (d0 :: t).length ≤ 1
    · have ea : gp_act T (some j) (d0 :: t) = d0 :: t := by unfold gp_act; simp only [e, hl, if_true]
      rw [if_pos (by exact nI_le hl (by decide)), tail M e3 (by omega), ea]
      refine ⟨M, rfl, ⟨rfl, fun _ _ _ => rfl, fun _ _ _ => rfl⟩, hs, ?_⟩
      rw [hmo, Nat.max_eq_left hmo3]
    · have ea : gp_act T (some j) (d0 :: t) = t := by unfold gp_act; simp only [e, hl, if_false, if_true]; rfl
      rw [if_neg (show ¬ nI (d0 :: t).length ≤ (1 : Int32) from nI_ge (a := 1) (by omega) (by omega)), gp_eL, tail _ (by rw [gp_gn (by omega), e3]) (by omega), ea]
      refine ⟨_, rfl, ⟨rfl, fun c c1 c2 => gp_wc _ c1, fun i i1 i2 => gp_gn (by omega)⟩, ⟨?_, fun x hx => ?_⟩, ?_⟩
      · rw [gp_gs]
        exact nI_pred _
      · rw [gp_gn (by omega), hs.2 x (by simp; omega), gp_getD_snoc x (by simp; omega), if_pos hx]
      · rw [gp_gn (by omega), hmo, Nat.max_eq_left]
        simp at hmo3
        omega
  · have n3 : ¬ nI 2 = (3 : Int32) := by decide
    rw [e, if_neg (by decide)]
    unfold f12_doAct_28 f12_doAct_55
    rw [gp_ckb (by omega) (by omega), nI_clamp (by omega), e3, e, if_neg n3, gp_ckb (by omega) (by omega), if_pos (show nI 2 = 2 from rfl), hs.1]
    have ea : gp_act T (some j) (d0 :: t) = ((T.2.1 j).toNatClampNeg :: (d0 :: t)).take 5 := by unfold gp_act; simp only [e]; rfl
    by_cases h5 : (d0 :: t).length = 5
    · rw [h5, if_pos (show nI 5 = 5 from rfl), ea, List.take_succ_cons]
      obtain ⟨M', f1, f2, f3, f4⟩ := gp_actR_76 (stk := d0 :: t) hw hj e h5 hmo2 4 gz_FU 1 M (by omega) (by omega) (by unfold gz_FU; omega) ht hmo (by rw [hs.1, h5]) (fun y hy => absurd hy (by omega)) (fun y h1 h2 => by rw [hs.2 y (by omega), h5])
      refine ⟨M', f1, f2, f3, ?_⟩
      rw [f4, List.length_cons, List.length_take, h5]
      rfl
    · rw [if_neg (show ¬ nI (d0 :: t).length = (5 : Int32) from fun e => h5 ((nI_eq (b := 5) (by omega) (by omega)).mp e)), ea, List.take_of_length_le (by simp only [List.length_cons] at h5 ⊢; omega)]
      obtain ⟨M', f1, f2, f3, f4⟩ := gp_actR_111 hw ht hj e (stk := d0 :: t) (by omega) hmo2 hmo hs
      exact ⟨M', f1, f2, f3, f4⟩
  · rw [e, if_neg (by decide)]
    obtain ⟨d, hd, ed⟩ := hwj.2.2.2.2.2 (by omega)
    have ea : gp_act T (some j) (d0 :: t) = (T.2.1 j).toNatClampNeg :: t := by unfold gp_act; simp only [e]; rfl
    unfold f12_doAct_28 f12_doAct_55
    rw [gp_ckb (by omega) (by omega), nI_clamp (by omega), e3, e, if_pos (show nI 3 = 3 from rfl), gp_ckb (by omega) (by omega), hs.1]
    rw [show nI (d0 :: t).length - 1 = nI t.length from nI_pred _, gp_ckb (by omega) (by omega), gp_eL, nI_clamp (by omega), htj.2.2.2.1, gp_ckb (by omega) (by omega), gp_gn (by omega), e3, e, if_neg (by decide), ea]
    refine ⟨_, rfl, ⟨rfl, fun c c1 c2 => gp_wc _ c2, fun i i1 i2 => gp_gn (by omega)⟩, ⟨?_, fun x hx => ?_⟩, ?_⟩
    · rw [gp_gn (by omega), hs.1]
      rfl
    · rw [gp_getD_snoc x hx]
      simp only [List.length_cons] at hx
      by_cases hx1 : x < t.length
      · rw [if_pos hx1, gp_gn (by omega), hs.2 x (by simp; omega), gp_getD_snoc x (by simp; omega), if_pos hx1]
      · have : x = t.length := by omega
        subst this
        rw [if_neg hx1, gp_gs, ed, nI_clamp (by omega)]
    · rw [gp_gn (by omega), hmo, Nat.max_eq_left]
      simpa using hmo3
end
