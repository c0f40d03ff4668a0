/-! rules told as a text: the reference reads a letter, the marks behind a part -/
/-- what reading a part may change -/
def gp_rF (M M' : gz_M) : Prop := M'.2 = M.2 ∧ (∀ c, c ≠ 0 → c ≠ 6 → c ≠ 12 → c ≠ 13 → c ≠ 14 → M'.1 c = M.1 c) ∧ ∀ i, i ≠ 8 → i ≠ 9 → i < 21 ∨ 24 < i → M'.1 0 i = M.1 0 i
theorem gp_rF.refl (M : gz_M) : gp_rF M M := ⟨rfl, fun _ _ _ _ _ _ => rfl, fun _ _ _ _ => rfl⟩
theorem gp_rF.trans {M M1 M2 : gz_M} (h : gp_rF M M1) (h' : gp_rF M1 M2) : gp_rF M M2 := ⟨h'.1.trans h.1, fun c a1 a2 a3 a4 a5 => (h'.2.1 c a1 a2 a3 a4 a5).trans (h.2.1 c a1 a2 a3 a4 a5), fun i a1 a2 a3 => (h'.2.2 i a1 a2 a3).trans (h.2.2 i a1 a2 a3)⟩
theorem gp_rF.w0 {i : Nat} (v : Int32) {M : gz_M} (h : i = 8 ∨ i = 9 ∨ (21 ≤ i ∧ i ≤ 24)) : gp_rF M (gz_w M 0 i v) := ⟨rfl, fun c h1 _ _ _ _ => gp_wc _ h1, fun a h1 h2 h3 => gp_gn (by omega)⟩
theorem gp_rF.w {c i : Nat} (v : Int32) {M : gz_M} (h : c = 6 ∨ c = 12 ∨ c = 13 ∨ c = 14) : gp_rF M (gz_w M c i v) := ⟨rfl, fun a h1 _ _ _ _ => gp_wc _ (by omega), fun a h1 _ _ => gp_gn (by omega)⟩
theorem gp_rF.of14 {M M' : gz_M} (h : M'.2 = M.2) (h' : ∀ c, c ≠ 14 → M'.1 c = M.1 c) : gp_rF M M' := ⟨h, fun c _ _ _ _ h4 => h' c h4, fun i _ _ _ => by rw [h' 0 (by omega)]⟩
theorem gp_at.frF {M M' : gz_M} {t : List Nat} {p : Nat} (h : gp_at M t p) (hL : gp_rF M M') (e8 : M'.1 0 8 = M.1 0 8) (e9 : M'.1 0 9 = M.1 0 9) : gp_at M' t p := ⟨h.1, h.2.1, by rw [hL.2.2 7 (by omega) (by omega) (by omega)]; exact h.2.2.1, by rw [e8]; exact h.2.2.2.1, by rw [e9]; exact h.2.2.2.2.1, fun i hi => by rw [hL.2.1 4 (by omega) (by omega) (by omega) (by omega) (by omega)]; exact h.2.2.2.2.2 i hi⟩
/-- no fault yet: the machine came to s, the tables are T -/
def gp_good (M : gz_M) (t : List Nat) (p : Nat) (s : gp_S) (T : gp_T) : Prop := gp_at M t p ∧ gp_wS s ∧ gp_itr t p 0 gp_s0 = some s ∧ (∀ m, s.2.1.2.2 7 m ≤ p) ∧ gp_tP M T ∧ gp_tc M T ∧ M.1 0 24 = nI (s.2.2.1.length - 1)
/-- a fault, where the machine has it -/
def gp_bad (M : gz_M) (t : List Nat) : Prop := ∃ q s, gp_itr t q 0 gp_s0 = some s ∧ q ≤ t.length ∧ (q < t.length → gp_stp s (t.getD q 0) = none) ∧ (q = t.length → ¬ gp_mEnd t s) ∧ M.1 0 9 = nI q
theorem gp_itr_s {t : List Nat} {p : Nat} {s s' : gp_S} (h : gp_itr t p 0 gp_s0 = some s) (e : gp_stp s (t.getD p 0) = some s') : gp_itr t (p + 1) 0 gp_s0 = some s' := by
  rw [gp_itr_add, h]
  show gp_itr t 1 (0 + p) s = some s'
  rw [gp_itr_1, Nat.zero_add]
  exact e
theorem gp_good_u {s s' : gp_S} {c p : Nat} (hw : gp_wS s) (hc : c < 256) (e : gp_stp s c = some s') (h : ∀ m, s.2.1.2.2 7 m ≤ p) (m : Nat) : s'.2.1.2.2 7 m ≤ p + 1 := by
  have h1 := (gp_stp_u hw hc e).1 m
  have h2 := h m
  rw [h1]
  split <;> omega
section
variable {M M' : gz_M} {T : gp_T} {t : List Nat} {p c : Nat}
theorem gp_rdLet (ha : gp_at M t p) (hh : gp_hr t p = some c) (hl : gp_isL c = true) (hT : gp_tP M T) (hc : gp_tc M T) (hb : gp_wTb T) (hm : gp_md T < 4) (h7 : T.1 ≤ 7) (hu : T.2.2 7 (gp_md T) ≤ 80) : ∃ M', f12_readLetter (nI T.1) M = some M' ∧ gp_rF M M' ∧ gp_at M' t (p + 1) ∧ gp_tP M' (gp_aL T c) ∧ gp_tc M' (gp_aL T c) ∧ gp_pc M' (gp_pL T) ∧ M'.1 0 24 = M.1 0 24 := by
  obtain ⟨hc256, hpl, htp⟩ := gp_hr_lt ha hh
  have h80 := ha.1
  obtain ⟨k, hk8, hkc, hkk⟩ : ∃ k, k ≤ 8 ∧ (∀ z, z < 8 → ((k = 8 ∨ k = z) ↔ (c = 46 ∨ c = 97 + z))) ∧ (if c = 46 then (8 : Int32) else nI c - 97) = nI k := by
    by_cases h46 : c = 46
    · exact ⟨8, by omega, fun z hz => ⟨fun _ => Or.inl h46, fun _ => Or.inl rfl⟩, by rw [if_pos h46]; rfl⟩
    · have hcl : 97 ≤ c ∧ c ≤ 104 := by
        unfold gp_isL at hl
        simp [h46] at hl
        exact hl
      refine ⟨c - 97, by omega, fun z hz => by omega, ?_⟩
      rw [if_neg h46]
      exact gp_subI (b := 97) hcl.1
  have e28 : f12_readLetter (nI T.1) M = f12_readLetter_28 (nI T.1) (nI (gp_md T)) (nI k) M := by
    unfold f12_readLetter
    rw [gp_ckb (show T.1 < 8 by omega) (by omega), nI_clamp (by omega), hc.1, gp_eL, gp_hereE ha, gp_eB2, gp_hereE ha, gp_eB2, hh, show gp_o (some c) = nI c from rfl, ← hkk]
    by_cases h46 : c = 46
    · rw [if_pos (show nI c = 46 from by rw [h46]; rfl), if_pos h46]
    · rw [if_neg (show ¬ nI c = (46 : Int32) from fun e => h46 ((nI_eq (b := 46) (by omega) (by omega)).mp e)), if_neg h46]
  generalize hmm : gp_md T = m at *
  generalize hU : T.2.2 7 m = u at *
  have h12 : M.1 12 m = nI u := by rw [(hT.2.2 m hm).1, hU]
  obtain ⟨b, hbv⟩ : ∃ b, b = (if u < 10 then 1 <<< u else 0) := ⟨_, rfl⟩
  obtain ⟨N, hN⟩ : ∃ N, N = gz_w (gz_w (gz_w (gz_w (gz_w (gz_w M 0 8 (nI (p + 1))) 6 T.1 (nI (T.2.2 2 T.1 + 1))) 12 m (nI (u + 1))) 0 21 0) 0 22 (nI b)) 0 23 (nI b) := ⟨_, rfl⟩
  have hb0 : gz_b01 0 = true := by decide
  have h10 : (10 : Int32) * nI m + nI u = nI (10 * m + u) := by rw [show (10 : Int32) = nI 10 from rfl, pk_mul, nI_add]
  have e1 : f12_readLetter_28 (nI T.1) (nI m) (nI k) M = if u < 10 then some (gz_w (gz_w N 13 (10 * m + u) (nI k)) 14 (10 * m + u) 0) else some N := by
    unfold f12_readLetter_28
    rw [ha.2.2.2.1, nI_1, gp_eL, gp_ckb (show T.1 < 8 by omega) (by omega), gp_ckb (show T.1 < 8 by omega) (by omega), nI_clamp (by omega), gp_gn (by omega), hc.2, nI_1, gp_eL, gp_ckb hm (by omega), nI_clamp (by omega), gp_gn (by omega), gp_gn (by omega), h12, gp_eL, gp_ckb hm (by omega), gp_ckb hm (by omega), nI_1, gp_eL, hb0, gp_eC, gp_eL]
    by_cases hu10 : u < 10
    · rw [if_neg (show ¬ (10 : Int32) ≤ nI u from nI_ge (b := 10) (by omega) (by omega)), if_pos hu10, show gz_shl 1 (nI u) = nI (1 <<< u) from gp_shl1 (by omega)]
      unfold f12_readLetter_88
      rw [gp_eL, gp_gs, gp_eL, if_pos (show nI u < (10 : Int32) from nI_lt (b := 10) (by omega) (by omega)), h10, gp_ckb (show 10 * m + u < 40 by omega) (by omega), nI_clamp (by omega), gp_eL, gp_ckb (show 10 * m + u < 40 by omega) (by omega), gp_eL, hN, hbv, if_pos hu10]
    · rw [if_pos (show (10 : Int32) ≤ nI u from nI_le (a := 10) (by omega) (by omega)), if_neg hu10]
      unfold f12_readLetter_88
      rw [gp_eL, gp_gs, gp_eL, if_neg (show ¬ nI u < (10 : Int32) from nI_nlt (b := 10) (by omega) (by omega)), hN, hbv, if_neg hu10]
      rfl
  have nF : gp_rF M N := by
    rw [hN]
    exact (((((gp_rF.w0 _ (by omega)).trans (gp_rF.w _ (by omega))).trans (gp_rF.w _ (by omega))).trans (gp_rF.w0 _ (by omega))).trans (gp_rF.w0 _ (by omega))).trans (gp_rF.w0 _ (by omega))
  have n6 : ∀ i, N.1 6 i = if i = T.1 then nI (T.2.2 2 T.1 + 1) else M.1 6 i := fun i => by
    rw [hN, gp_gn (by omega), gp_gn (by omega), gp_gn (by omega), gp_gn (by omega)]
    by_cases hi : i = T.1
    · rw [hi, gp_gs, if_pos rfl]
    · rw [gp_gn (by omega), gp_gn (by omega), if_neg hi]
  have n12 : ∀ i, N.1 12 i = if i = m then nI (u + 1) else M.1 12 i := fun i => by
    rw [hN, gp_gn (by omega), gp_gn (by omega), gp_gn (by omega)]
    by_cases hi : i = m
    · rw [hi, gp_gs, if_pos rfl]
    · rw [gp_gn (by omega), gp_gn (by omega), gp_gn (by omega), if_neg hi]
  have n1314 : ∀ a, a = 13 ∨ a = 14 → N.1 a = M.1 a := fun a h => by
    rw [hN, gp_wc _ (by omega), gp_wc _ (by omega), gp_wc _ (by omega), gp_wc _ (by omega), gp_wc _ (by omega), gp_wc _ (by omega)]
  have n8 : N.1 0 8 = nI (p + 1) := by
    rw [hN, gp_gn (by omega), gp_gn (by omega), gp_gn (by omega), gp_gn (by omega), gp_gn (by omega), gp_gs]
  have n9 : N.1 0 9 = M.1 0 9 := by
    rw [hN, gp_gn (by omega), gp_gn (by omega), gp_gn (by omega), gp_gn (by omega), gp_gn (by omega), gp_gn (by omega)]
  have n24 : N.1 0 24 = M.1 0 24 := by
    rw [hN, gp_gn (by omega), gp_gn (by omega), gp_gn (by omega), gp_gn (by omega), gp_gn (by omega), gp_gn (by omega)]
  have n21 : N.1 0 21 = 0 := by rw [hN, gp_gn (by omega), gp_gn (by omega), gp_gs]
  have n22 : N.1 0 22 = nI b := by rw [hN, gp_gn (by omega), gp_gs]
  have n23 : N.1 0 23 = nI b := by rw [hN, gp_gs]
  have fin : ∀ M', f12_readLetter_28 (nI T.1) (nI m) (nI k) M = some M' → gp_rF N M' → (∀ a, a ≠ 13 → a ≠ 14 → M'.1 a = N.1 a) → (∀ i, M'.1 13 i = if u < 10 ∧ i = 10 * m + u then nI k else M.1 13 i) → (∀ i, M'.1 14 i = if u < 10 ∧ i = 10 * m + u then nI 0 else M.1 14 i) → ∃ M', f12_readLetter (nI T.1) M = some M' ∧ gp_rF M M' ∧ gp_at M' t (p + 1) ∧ gp_tP M' (gp_aL T c) ∧ gp_tc M' (gp_aL T c) ∧ gp_pc M' (gp_pL T) ∧ M'.1 0 24 = M.1 0 24 := by
    intro M' r1 r2 r3 r13 r14
    have hF := nF.trans r2
    have r0 : ∀ i, M'.1 0 i = N.1 0 i := fun i => by rw [r3 0 (by omega) (by omega)]
    refine ⟨M', by rw [e28]; exact r1, hF, ⟨h80, by omega, ?_, ?_, ?_, fun i hi => ?_⟩, ?_, ⟨?_, ?_⟩, ⟨?_, ?_, ?_⟩, ?_⟩
    · rw [hF.2.2 7 (by omega) (by omega) (by omega)]; exact ha.2.2.1
    · rw [r0, n8]
    · rw [r0, n9]; exact ha.2.2.2.2.1
    · rw [hF.2.1 4 (by omega) (by omega) (by omega) (by omega) (by omega)]; exact ha.2.2.2.2.2 i hi
    · refine gp_tP_let (u := u) (k := k) (b := 0) hT hb (by rw [hmm]; exact hm) (by rw [hmm]; exact hU) hk8 hkc (fun a h => hF.2.1 a (by omega) (by omega) (by omega) (by omega) (by omega)) (fun i hi => ?_) (fun i => ?_) (fun i => by rw [hmm]; exact r13 i) (fun i => by rw [hmm]; exact r14 i)
      · rw [r3 6 (by omega) (by omega), n6, if_neg (by omega)]
      · rw [hmm, r3 12 (by omega) (by omega), n12]
    · show M'.1 5 T.1 = nI (gp_md (gp_aL T c))
      rw [gp_aL_md, hF.2.1 5 (by omega) (by omega) (by omega) (by omega) (by omega)]
      exact hc.1
    · show M'.1 6 T.1 = nI ((gp_aL T c).2.2 2 T.1)
      rw [r3 6 (by omega) (by omega), n6, if_pos rfl]
      unfold gp_aL
      dsimp only
      rw [if_neg (by omega), if_pos ⟨rfl, rfl⟩]
    · rw [r0, n21]
      unfold gp_pL
      split <;> rfl
    · rw [r0, n22, hbv]
      unfold gp_pL
      rw [hmm, hU]
      split <;> rfl
    · rw [r0, n23, hbv]
      unfold gp_pL
      rw [hmm, hU]
      split <;> rfl
    · rw [r0, n24]
  by_cases hu10 : u < 10
  · rw [if_pos hu10] at e1
    refine fin _ e1 ((gp_rF.w _ (by omega)).trans (gp_rF.w _ (by omega))) (fun a h1 h2 => by rw [gp_wc _ h2, gp_wc _ h1]) (fun i => ?_) (fun i => ?_)
    · rw [gp_gn (by omega)]
      by_cases hi : i = 10 * m + u
      · rw [hi, gp_gs, if_pos ⟨hu10, rfl⟩]
      · rw [gp_gn (by omega), n1314 13 (by omega), if_neg (fun h => hi h.2)]
    · by_cases hi : i = 10 * m + u
      · rw [hi, gp_gs, if_pos ⟨hu10, rfl⟩]; rfl
      · rw [gp_gn (by omega), gp_gn (by omega), n1314 14 (by omega), if_neg (fun h => hi h.2)]
  · rw [if_neg hu10] at e1
    exact fin _ e1 (gp_rF.refl N) (fun a _ _ => rfl) (fun i => by rw [n1314 13 (by omega), if_neg (fun h => hu10 h.1)]) (fun i => by rw [n1314 14 (by omega), if_neg (fun h => hu10 h.1)])
end
