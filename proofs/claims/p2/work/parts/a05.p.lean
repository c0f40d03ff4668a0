/-! books of the component: copied, pushed, popped -/
def gp_bK (k : Nat) (M : gz_M) (b : gp_Bk) : Prop := gp_xK k M b.1 ∧ gp_lC (k + 2) M b.2
def gp_bk0 : gp_Bk := ([], [])
theorem gp_cp_c {M : gz_M} {k1 k2 n a : Nat} (h : a ≠ k2) : (gz_cp M k1 k2 0 0 n).1 a = M.1 a := by
  unfold gz_cp
  dsimp only
  rw [if_neg h]
theorem gp_cp_i {M : gz_M} {k1 k2 n i : Nat} (h : i < n) : (gz_cp M k1 k2 0 0 n).1 k2 i = M.1 k1 i := by
  unfold gz_cp va_cpy
  dsimp only
  rw [if_pos rfl, if_pos ⟨Nat.zero_le _, by omega⟩, Nat.zero_add, Nat.sub_zero]
section
variable {M M' : gz_M} {b : gp_Bk} {k k0 : Nat}
theorem gp_bK.fr (h : gp_bK k M b) (e : ∀ c, k ≤ c → c < k + 4 → M'.1 c = M.1 c) : gp_bK k M' b := by
  obtain ⟨⟨h1, h2, h3⟩, h4⟩ := h
  exact ⟨⟨h1, by rw [e k (by omega) (by omega)]; exact h2, fun i hi => by rw [e (k + 1) (by omega) (by omega)]; exact h3 i hi⟩, h4.fr (fun c c1 c2 => e c (by omega) (by omega))⟩
theorem gp_lcp {k k0 : Nat} {l : List Nat} (hk : k + 1 < k0 ∨ k0 + 1 < k) (M : gz_M) : ∃ M', f5_copy k k0 M = some M' ∧ M'.2 = M.2 ∧ (∀ c, c ≠ k → c ≠ k + 1 → M'.1 c = M.1 c) ∧ (gp_lC k0 M l → gp_lC k M' l) := by
  unfold f5_copy
  rw [gp_eL, gp_eL]
  refine ⟨_, rfl, rfl, fun c h1 h2 => by rw [gp_wc _ h1, gp_cp_c h2], fun ⟨h1, h2, h3⟩ => ⟨h1, by rw [gp_gs, gp_cp_c (by omega)]; exact h2, fun i hi => ?_⟩⟩
  rw [gp_gn (by omega), gp_cp_i (by omega)]
  exact h3 i hi
theorem gp_bcp (hk : k + 3 < k0 ∨ k0 + 3 < k) (M : gz_M) : ∃ M', f0_copy k k0 M = some M' ∧ M'.2 = M.2 ∧ (∀ c, c < k ∨ k + 3 < c → M'.1 c = M.1 c) ∧ ∀ b, gp_bK k0 M b → gp_bK k M' b := by
  obtain ⟨N, hN⟩ : ∃ N, N = gz_w (gz_cp M (k0 + 1) (k + 1) 0 0 80) k 1 ((gz_cp M (k0 + 1) (k + 1) 0 0 80).1 k0 1) := ⟨_, rfl⟩
  have nc : ∀ c, c ≠ k → c ≠ k + 1 → N.1 c = M.1 c := fun c h1 h2 => by rw [hN, gp_wc _ h1, gp_cp_c h2]
  obtain ⟨M', e1, e2, e3, _⟩ := gp_lcp (l := []) (k := k + 2) (k0 := k0 + 2) (by omega) N
  have e4 : ∀ l, gp_lC (k0 + 2) N l → gp_lC (k + 2) M' l := fun l h => by
    obtain ⟨M2, d1, d2, d3, d4⟩ := gp_lcp (l := l) (k := k + 2) (k0 := k0 + 2) (by omega) N
    rw [e1] at d1
    cases d1
    exact d4 h
  unfold f0_copy
  rw [gp_eL, gp_eL, ← hN, e1, gp_eB]
  refine ⟨M', rfl, by rw [e2, hN]; rfl, fun c hc => by rw [e3 c (by omega) (by omega), nc c (by omega) (by omega)], fun b hb => ?_⟩
  obtain ⟨⟨h1, h2, h3⟩, h4⟩ := hb
  refine ⟨⟨h1, ?_, fun i hi => ?_⟩, e4 b.2 (h4.fr (fun c c1 c2 => nc c (by omega) (by omega)))⟩
  · rw [e3 k (by omega) (by omega), hN, gp_gs, gp_cp_c (by omega)]
    exact h2
  · rw [e3 (k + 1) (by omega) (by omega), hN, gp_gn (by omega), gp_cp_i (by omega)]
    exact h3 i hi
end
/-- the ten that can be undone, oldest first, from o on -/
def gp_H (pf : Nat → Bool) (M : gz_M) (o : Nat) (us : List gp_Bk) : Prop := o < 10 ∧ us.length ≤ 10 ∧ M.1 131 1 = nI o ∧ M.1 131 2 = nI us.length ∧ ∀ j, j < us.length → pf ((o + j) % 10) = true ∧ gp_bK (135 + 4 * ((o + j) % 10)) M (us.getD j gp_bk0)
def gp_pf (pf : Nat → Bool) : Prop := ∀ j, j < 12 → pf (100 + j) = pf j
theorem gp_mod10 {a : Nat} (h : a < 20) (M : gz_M) : fJ_floorMod (nI a) 10 M = some (nI (a % 10), M) := by
  have e : ∀ a : Nat, a < 20 → gz_rem (nI a) 10 = nI (a % 10) ∧ 0 ≤ (nI a ^^^ 10) := by decide +kernel
  obtain ⟨e1, e2⟩ := e a h
  unfold fJ_floorMod
  rw [show (!decide ((10 : Int32) = 0)) = true from by decide, gp_eC, gp_eL, if_pos e2, e1]
theorem gp_rem10 {a : Nat} (h : a < 20) : gz_rem (nI a) 10 = nI (a % 10) := by
  have e : ∀ a : Nat, a < 20 → gz_rem (nI a) 10 = nI (a % 10) := by decide +kernel
  exact e a h
/-- a slot: made, if there is none -/
theorem gp_slotG {pf : Nat → Bool} {M : gz_M} {o s : Nat} (hp : gp_pf pf) (ho : o < 10) (h1 : M.1 131 1 = nI o) (hs : s < 10) : ∃ M' pf', g4_slotAt (nI s) M pf = some (135 + 4 * ((o + s) % 10), M', pf') ∧ M'.2 = M.2 ∧ (∀ c, c < 135 + 4 * ((o + s) % 10) ∨ 135 + 4 * ((o + s) % 10) + 3 < c → M'.1 c = M.1 c) ∧ gp_pf pf' ∧ pf' ((o + s) % 10) = true ∧ ∀ j, j < 12 → j ≠ (o + s) % 10 → pf' j = pf j := by
  have hi : (o + s) % 10 < 10 := Nat.mod_lt _ (by omega)
  unfold g4_slotAt
  rw [h1, nI_add, gp_mod10 (by omega), gp_eB2, gp_ckb hi (by omega), nI_clamp (by omega), Nat.zero_add]
  generalize (o + s) % 10 = i at hi
  by_cases hpf : pf i = true
  · rw [if_pos (by rw [hp i (by omega)]; exact hpf), hpf, gp_eC]
    unfold g4_slotAt_34
    rw [gp_ckb hi (by omega), nI_clamp (by omega), Nat.zero_add, if_pos (by rw [hp i (by omega)]; exact hpf), hpf, gp_eC]
    exact ⟨M, pf, rfl, rfl, fun _ _ => rfl, hp, hpf, fun _ _ _ => rfl⟩
  · have hpf' : pf i = false := by simpa using hpf
    have q1 : gz_pfs (gz_pfs pf i) (100 + i) i = true := by
      unfold gz_pfs
      rw [if_neg (by omega), if_pos rfl]
    have q2 : gz_pfs (gz_pfs pf i) (100 + i) (100 + i) = true := by
      unfold gz_pfs
      rw [if_pos rfl]
    have q3 : gz_pfs pf i i = true := by
      unfold gz_pfs
      rw [if_pos rfl]
    rw [if_neg (by rw [hp i (by omega)]; exact hpf), show decide (0 + 1 ≤ 1) = true from by decide, gp_eC, decide_eq_true (show i < 12 by omega), gp_eC, hpf', Bool.not_false, gp_eC, hp i (by omega), hpf', Bool.not_false, gp_eC, gp_eL, gp_ckb hi (by omega), q3, gp_eC, decide_eq_true rfl, gp_eC]
    unfold g4_slotAt_34
    rw [gp_ckb hi (by omega), nI_clamp (by omega), Nat.zero_add, if_pos q2, q1, gp_eC]
    refine ⟨_, _, rfl, rfl, fun c hc => ?_, fun j hj => ?_, q1, fun j hj hn => ?_⟩
    · unfold gz_nb
      dsimp only
      rw [if_neg (by omega)]
    · unfold gz_pfs
      by_cases hji : j = i
      · rw [hji, if_pos rfl, if_neg (by omega), if_pos rfl]
      · rw [if_neg (by omega), if_neg (by omega), if_neg (by omega), if_neg hji]
        exact hp j hj
    · unfold gz_pfs
      rw [if_neg (by omega), if_neg hn]
/-- the book now is pushed -/
theorem gp_pushG {pf : Nat → Bool} {M : gz_M} {o : Nat} {us : List gp_Bk} {b : gp_Bk} (hp : gp_pf pf) (h : gp_H pf M o us) (hb : gp_bK 7 M b) : ∃ M' pf' o', g4_push 7 M pf = some (M', pf') ∧ M'.2 = M.2 ∧ (∀ c, c ≠ 131 → c < 135 ∨ 175 ≤ c → M'.1 c = M.1 c) ∧ gp_pf pf' ∧ (∀ j, 10 ≤ j → j < 12 → pf' j = pf j) ∧ gp_H pf' M' o' ((if us.length = 10 then us.drop 1 else us) ++ [b]) := by
  obtain ⟨h1, h2, h3, h4, h5⟩ := h
  obtain ⟨s, hs10, hs⟩ : ∃ s, s < 10 ∧ s = if us.length = 10 then 0 else us.length := by
    refine ⟨_, ?_, rfl⟩
    split <;> omega
  have e0 : g4_push 7 M pf = g4_push_18 7 (nI s) M pf 0 := by
    unfold g4_push
    rw [h4]
    by_cases hl : us.length = 10
    · rw [if_pos (show (10 : Int32) ≤ nI us.length from nI_le (a := 10) (by omega) (by omega)), hs, if_pos hl]
      rfl
    · rw [if_neg (show ¬ (10 : Int32) ≤ nI us.length from nI_ge (b := 10) (by omega) (by omega)), hs, if_neg hl]
  obtain ⟨M1, pf1, a1, a2, a3, a4, a5, a6⟩ := gp_slotG hp h1 h3 hs10
  have hi : (o + s) % 10 < 10 := Nat.mod_lt _ (by omega)
  generalize hie : (o + s) % 10 = i at a1 a3 a5 a6 hi
  have hb1 : gp_bK 7 M1 b := hb.fr (fun c c1 c2 => a3 c (by omega))
  obtain ⟨M2, b1, b2, b3, b4⟩ := gp_bcp (k := 135 + 4 * i) (k0 := 7) (by omega) M1
  have hb2 := b4 b hb1
  have m131 : M2.1 131 = M.1 131 := by rw [b3 131 (by omega), a3 131 (by omega)]
  have fr2 : ∀ c, c < 135 + 4 * i ∨ 135 + 4 * i + 3 < c → M2.1 c = M.1 c := fun c hc => by rw [b3 c (by omega), a3 c (by omega)]
  have e1 : g4_push 7 M pf = if us.length = 10 then some (gz_w M2 131 1 (nI ((o + 1) % 10)), pf1) else some (gz_w M2 131 2 (nI (us.length + 1)), pf1) := by
    rw [e0]
    unfold g4_push_18
    rw [show decide (0 + 1 ≤ 1) = true from by decide, gp_eC, a1, gp_eB3, b1, gp_eB, m131, h4, h3, nI_1, nI_1]
    by_cases hl : us.length = 10
    · rw [if_pos (show (10 : Int32) ≤ nI us.length from nI_le (a := 10) (by omega) (by omega)), if_pos hl, show (!decide ((10 : Nat) = 0)) = true from by decide, gp_eC, gp_rem10 (by omega), gp_eL]
    · rw [if_neg (show ¬ (10 : Int32) ≤ nI us.length from nI_ge (b := 10) (by omega) (by omega)), if_neg hl, gp_eL]
  have n0 : ∀ v n c, c ≠ 131 → (gz_w M2 131 n v).1 c = M2.1 c := fun v n c h => gp_wc _ h
  by_cases hl : us.length = 10
  · rw [if_pos hl] at e1 hs
    subst hs
    rw [Nat.add_zero, Nat.mod_eq_of_lt h1] at hie
    subst hie
    refine ⟨_, _, (o + 1) % 10, e1, by rw [gp_gl, b2, a2], fun c h1 h2 => by rw [n0 _ _ c h1, fr2 c (by omega)], a4, fun j h1 h2 => a6 j (by omega) (by omega), Nat.mod_lt _ (by omega), ?_, gp_gs _ _ _ _, ?_, fun j hj => ?_⟩
    · rw [if_pos hl]
      simp
      omega
    · rw [gp_gn (by omega), m131, h4, if_pos hl]
      simp
      rw [hl]
    · rw [if_pos hl] at hj ⊢
      have hj : j < 10 := by
        simp at hj
        omega
      have hdl : (us.drop 1).length = 9 := by simp; omega
      have hmm : ((o + 1) % 10 + j) % 10 = (o + (j + 1)) % 10 := by omega
      rw [hmm]
      by_cases hj9 : j = 9
      · subst hj9
        rw [show (o + (9 + 1)) % 10 = o by omega]
        refine ⟨a5, ?_⟩
        have e : (us.drop 1 ++ [b]).getD 9 gp_bk0 = b := by
          rw [← hdl]
          exact gp_getD_r
        rw [e]
        exact hb2.fr (fun c c1 c2 => n0 _ _ c (by omega))
      · have e : (us.drop 1 ++ [b]).getD j gp_bk0 = us.getD (j + 1) gp_bk0 := by
          rw [gp_getD_l (by omega)]
          simp [List.getD, List.getElem?_drop, Nat.add_comm]
        rw [e]
        have hne : (o + (j + 1)) % 10 ≠ o := by omega
        obtain ⟨c1, c2⟩ := h5 (j + 1) (by omega)
        refine ⟨by rw [a6 _ (by omega) hne]; exact c1, c2.fr (fun c c1 c2 => ?_)⟩
        rw [n0 _ _ c (by omega), fr2 c (by omega)]
  · rw [if_neg hl] at e1 hs
    subst hs
    refine ⟨_, _, o, e1, by rw [gp_gl, b2, a2], fun c h1 h2 => by rw [n0 _ _ c h1, fr2 c (by omega)], a4, fun j h1 h2 => a6 j (by omega) (by omega), h1, ?_, ?_, ?_, fun j hj => ?_⟩
    · rw [if_neg hl]
      simp
      omega
    · rw [gp_gn (by omega), m131, h3]
    · rw [gp_gs, if_neg hl]
      simp
    · rw [if_neg hl] at hj ⊢
      have hj : j < us.length + 1 := by simpa using hj
      by_cases hj9 : j = us.length
      · subst hj9
        rw [hie, gp_getD_r]
        exact ⟨a5, hb2.fr (fun c c1 c2 => n0 _ _ c (by omega))⟩
      · rw [gp_getD_l (by omega)]
        have hne : (o + j) % 10 ≠ i := by omega
        obtain ⟨c1, c2⟩ := h5 j (by omega)
        refine ⟨by rw [a6 _ (by omega) hne]; exact c1, c2.fr (fun c c1 c2 => ?_)⟩
        rw [n0 _ _ c (by omega), fr2 c (by omega)]
/-- the latest one is popped -/
theorem gp_popF {pf : Nat → Bool} {M : gz_M} {o : Nat} {us : List gp_Bk} {b : gp_Bk} (hp : gp_pf pf) (h : gp_H pf M o (us ++ [b])) : ∃ M', f4_pop pf 7 M = some (1, M') ∧ M'.2 = M.2 ∧ (∀ c, c ≠ 131 → c < 7 ∨ 10 < c → M'.1 c = M.1 c) ∧ gp_H pf M' o us ∧ gp_bK 7 M' b := by
  obtain ⟨h1, h2, h3, h4, h5⟩ := h
  have hlen : (us ++ [b]).length = us.length + 1 := by simp
  rw [hlen] at h2 h4 h5
  obtain ⟨c1, c2⟩ := h5 us.length (by omega)
  rw [gp_getD_r] at c2
  have hi : (o + us.length) % 10 < 10 := Nat.mod_lt _ (by omega)
  generalize hie : (o + us.length) % 10 = i at c1 c2 hi
  obtain ⟨N, hN⟩ : ∃ N, N = gz_w M 131 2 (nI us.length) := ⟨_, rfl⟩
  have nc : ∀ c, c ≠ 131 → N.1 c = M.1 c := fun c hc => by rw [hN, gp_wc _ hc]
  obtain ⟨M', b1, b2, b3, b4⟩ := gp_bcp (k := 7) (k0 := 135 + 4 * i) (by omega) N
  have N1 : N.1 131 1 = nI o := by rw [hN, gp_gn (by omega), h3]
  have N2 : N.1 131 2 = nI us.length := by rw [hN, gp_gs]
  refine ⟨M', ?_, by rw [b2, hN]; rfl, fun c h1 h2 => by rw [b3 c h2, nc c h1], ⟨h1, by omega, by rw [b3 131 (by omega)]; exact N1, by rw [b3 131 (by omega)]; exact N2, fun j hj => ?_⟩, b4 b (c2.fr (fun c c1 c2 => nc c (by omega)))⟩
  · unfold f4_pop
    rw [h4, if_pos (show (0 : Int32) < nI (us.length + 1) from nI_lt (a := 0) (by omega) (by omega)), nI_pred, gp_eL, ← hN, N2]
    unfold f4_slotAt
    rw [N1, nI_add, gp_mod10 (by omega), gp_eB2, hie, gp_ckb hi (by omega), nI_clamp (by omega), Nat.zero_add, if_pos (by rw [hp i (by omega)]; exact c1), c1, gp_eC]
    unfold f4_slotAt_34
    rw [gp_ckb hi (by omega), nI_clamp (by omega), Nat.zero_add, if_pos (by rw [hp i (by omega)]; exact c1), c1, gp_eC, gp_eB2, b1, gp_eB]
  · obtain ⟨d1, d2⟩ := h5 j (by omega)
    rw [gp_getD_l hj] at d2
    have := Nat.mod_lt (o + j) (show 10 > 0 by omega)
    exact ⟨d1, d2.fr (fun c c1 c2 => by rw [b3 c (by omega), nc c (by omega)])⟩
