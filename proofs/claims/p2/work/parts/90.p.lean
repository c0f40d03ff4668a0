/-! rules told as a text: the reference's tables while it reads -/
def gp_tP (M : gz_M) (T : gp_T) : Prop := (∀ j, j < T.1 → M.1 5 j = nI (T.2.2 1 j) ∧ M.1 6 j = nI (T.2.2 2 j) ∧ M.1 7 j = nI (T.2.2 3 j) ∧ M.1 8 j = T.2.1 j ∧ M.1 9 j = nI (T.2.2 6 j) ∧ M.1 11 j = nI (T.2.2 5 j)) ∧ (∃ bg : Nat → Nat, (∀ j, j < T.1 → M.1 10 j = nI (bg j)) ∧ ∀ m, m < 4 → T.2.2 8 m = gp_orN (fun j => if T.2.2 1 j = m then bg j else 0) T.1) ∧ ∀ m, m < 4 → M.1 12 m = nI (T.2.2 7 m) ∧ ∀ x, x < gp_u10 T m → M.1 14 (10 * m + x) = nI (T.2.2 (10 + m) x) ∧ ∃ c, c ≤ 8 ∧ M.1 13 (10 * m + x) = nI c ∧ ∀ s, s < 8 → (T.2.2 (15 + m) s).testBit x = (decide (c = 8) || decide (c = s))
def gp_tc (M : gz_M) (T : gp_T) : Prop := M.1 5 T.1 = nI (gp_md T) ∧ M.1 6 T.1 = nI (T.2.2 2 T.1)
def gp_pc (M : gz_M) (P : gp_P) : Prop := M.1 0 21 = nI (if P.2.2 = true then 1 else 0) ∧ M.1 0 22 = nI P.1 ∧ M.1 0 23 = nI P.2.1
theorem gp_u10_10 (T : gp_T) (m : Nat) : gp_u10 T m ≤ 10 := by unfold gp_u10; omega
theorem gp_orN_e {f g : Nat → Nat} : ∀ {n : Nat}, (∀ j, j < n → f j = g j) → gp_orN f n = gp_orN g n
  | 0, _ => rfl
  | n + 1, h => by
    rw [gp_orN, gp_orN, h n (by omega), gp_orN_e (fun j hj => h j (by omega))]
section
variable {M M' : gz_M} {T : gp_T} {t : List Nat} {p c : Nat}
theorem gp_tP.fr (h : gp_tP M T) (e : ∀ a, 5 ≤ a → a ≤ 14 → M'.1 a = M.1 a) : gp_tP M' T := by
  obtain ⟨h1, ⟨bg, h2, h3⟩, h4⟩ := h
  refine ⟨fun j hj => ?_, ⟨bg, fun j hj => by rw [e 10 (by omega) (by omega)]; exact h2 j hj, h3⟩, fun m hm => ?_⟩
  · rw [e 5 (by omega) (by omega), e 6 (by omega) (by omega), e 7 (by omega) (by omega), e 8 (by omega) (by omega), e 9 (by omega) (by omega), e 11 (by omega) (by omega)]
    exact h1 j hj
  · rw [e 12 (by omega) (by omega), e 13 (by omega) (by omega), e 14 (by omega) (by omega)]
    exact h4 m hm
theorem gp_tc.fr (h : gp_tc M T) (e : ∀ a, 5 ≤ a → a ≤ 14 → M'.1 a = M.1 a) : gp_tc M' T := by
  unfold gp_tc
  rw [e 5 (by omega) (by omega), e 6 (by omega) (by omega)]
  exact h
theorem gp_folE {a f : Nat} (h : gp_tP M T) (hm : gp_md T < 4) (ha : a < 2 ^ gp_u10 T (gp_md T)) : ∃ M', f12_follow (nI (gp_md T)) (nI a) (nI f) M = some M' ∧ M'.2 = M.2 ∧ (∀ c, c ≠ 14 → M'.1 c = M.1 c) ∧ gp_tP M' (gp_lnk T a f) := by
  obtain ⟨M', e1, e2, e3, e4⟩ := gp_folG hm (nI a) (nI f) M
  refine ⟨M', e1, e2, e3, ?_⟩
  have hsm := gp_lnk_sm T a f hm
  have hu := gp_u10_10 T (gp_md T)
  have ha10 : a < 2 ^ 10 := gp_pw ha hu
  obtain ⟨h1, ⟨bg, h2, h3⟩, h4⟩ := h
  refine ⟨fun j hj => ?_, ⟨bg, fun j hj => by rw [e3 10 (by omega)]; exact h2 j hj, fun m hm => ?_⟩, fun m hm' => ?_⟩
  · have hj : j < T.1 := hj
    rw [e3 5 (by omega), e3 6 (by omega), e3 7 (by omega), e3 8 (by omega), e3 9 (by omega), e3 11 (by omega), hsm.2.2.1 1 (by omega), hsm.2.2.1 2 (by omega), hsm.2.2.1 3 (by omega), hsm.2.2.1 5 (by omega), hsm.2.2.1 6 (by omega), hsm.2.1]
    exact h1 j hj
  · rw [hsm.2.2.1 8 (by omega), hsm.2.2.1 1 (by omega), hsm.1]
    exact h3 m hm
  · rw [e3 12 (by omega), e3 13 (by omega), hsm.u, hsm.2.2.1 7 (by omega), hsm.2.2.2 (15 + m) (by omega)]
    refine ⟨(h4 m hm').1, fun x hx => ⟨?_, ((h4 m hm').2 x hx).2⟩⟩
    have hx10 := gp_u10_10 T m
    have hold := ((h4 m hm').2 x hx).1
    rw [e4]
    unfold gp_lnk
    dsimp only
    by_cases hmm : m = gp_md T
    · rw [← hmm] at e4 ⊢
      rw [Nat.add_sub_cancel_left]
      have hb : ((gz_shr (nI a) (nI x) &&& 1) = 1) = (a.testBit x = true) := gp_bit1 (by omega) (by omega)
      by_cases hbb : a.testBit x = true
      · rw [if_pos ⟨by omega, by omega, by rw [hb]; exact hbb⟩, if_pos ⟨rfl, by omega, hbb⟩, hold, gp_or]
      · rw [if_neg (fun h => hbb (by have := h.2.2; rwa [hb] at this)), if_neg (fun h => hbb h.2.2), hold]
    · rw [if_neg (by omega), if_neg (by omega), hold]
/-- a letter counted, told by what changes -/
theorem gp_tP_let {u k b : Nat} (h : gp_tP M T) (hb : gp_wTb T) (hm : gp_md T < 4) (hu : T.2.2 7 (gp_md T) = u) (hk : k ≤ 8) (hkc : ∀ z, z < 8 → ((k = 8 ∨ k = z) ↔ (c = 46 ∨ c = 97 + z))) (e : ∀ a, a = 5 ∨ a = 7 ∨ a = 8 ∨ a = 9 ∨ a = 10 ∨ a = 11 → M'.1 a = M.1 a) (e6 : ∀ i, i < T.1 → M'.1 6 i = M.1 6 i) (e12 : ∀ i, M'.1 12 i = if i = gp_md T then nI (u + 1) else M.1 12 i) (e13 : ∀ i, M'.1 13 i = if u < 10 ∧ i = 10 * gp_md T + u then nI k else M.1 13 i) (e14 : ∀ i, M'.1 14 i = if u < 10 ∧ i = 10 * gp_md T + u then nI 0 else M.1 14 i) : gp_tP M' (gp_aL T c) := by
  obtain ⟨h1, ⟨bg, h2, h3⟩, h4⟩ := h
  have o1 : ∀ j, (gp_aL T c).2.2 1 j = T.2.2 1 j := fun j => gp_aL_r _ _ 1 j (by omega) (by omega) (by omega)
  refine ⟨fun j hj => ?_, ⟨bg, fun j hj => by rw [e 10 (by omega)]; exact h2 j hj, fun m hm => ?_⟩, fun m hm' => ?_⟩
  · have hj : j < T.1 := hj
    rw [e 5 (by omega), e6 j hj, e 7 (by omega), e 8 (by omega), e 9 (by omega), e 11 (by omega), o1, gp_aL_r _ _ 2 j (by omega) (by omega) (by omega), gp_aL_r _ _ 3 j (by omega) (by omega) (by omega), gp_aL_r _ _ 5 j (by omega) (by omega) (by omega), gp_aL_r _ _ 6 j (by omega) (by omega) (by omega)]
    exact h1 j hj
  · rw [gp_aL_r _ _ 8 m (by omega) (by omega) (by omega), h3 m hm]
    exact gp_orN_e (fun j _ => by rw [o1])
  · obtain ⟨g1, g2⟩ := h4 m hm'
    obtain ⟨w1, w2, w3⟩ := hb.1 m hm'
    have hux := gp_u10_10 T m
    by_cases hmm : m = gp_md T
    · subst hmm
      refine ⟨by rw [e12, if_pos rfl, gp_aL_7, if_pos rfl, hu], fun x hx => ?_⟩
      have hx' : x < min (u + 1) 10 := by
        unfold gp_u10 at hx
        rw [gp_aL_7, if_pos rfl, hu] at hx
        exact hx
      have h14 : (gp_aL T c).2.2 (10 + gp_md T) x = T.2.2 (10 + gp_md T) x := gp_aL_r _ _ _ _ (by omega) (by omega) (by omega)
      have hv : ∀ z, z < 8 → (gp_aL T c).2.2 (15 + gp_md T) z = if u < 10 ∧ (c = 46 ∨ c = 97 + z) then T.2.2 (15 + gp_md T) z ||| 1 <<< u else T.2.2 (15 + gp_md T) z := fun z hz => by
        unfold gp_aL
        dsimp only
        rw [if_neg (by omega), if_neg (by omega), hu]
        by_cases hq : u < 10 ∧ (c = 46 ∨ c = 97 + z)
        · rw [if_pos hq, if_pos ⟨hq.1, rfl, hz, hq.2⟩]
        · rw [if_neg hq, if_neg (fun h => hq ⟨h.1, h.2.2.2⟩)]
      by_cases hxu : x = u
      · subst hxu
        refine ⟨?_, k, hk, ?_, fun z hz => ?_⟩
        · rw [e14, if_pos ⟨by omega, rfl⟩, h14, (w2 x (by omega)).2 (by omega)]
        · rw [e13, if_pos ⟨by omega, rfl⟩]
        · have hz0 : (T.2.2 (15 + gp_md T) z).testBit x = false := by
            refine gp_hi (w3 z hz) ?_
            unfold gp_u10
            omega
          rw [hv z hz]
          by_cases hq : c = 46 ∨ c = 97 + z
          · rw [if_pos ⟨by omega, hq⟩, Nat.testBit_or, hz0, Nat.one_shiftLeft, Nat.testBit_two_pow_self]
            rcases (hkc z hz).mpr hq with h | h
            · simp [h]
            · simp [h]
          · rw [if_neg (fun h => hq h.2), hz0]
            have hn : ¬ (k = 8 ∨ k = z) := fun h => hq ((hkc z hz).mp h)
            have n1 : ¬ k = 8 := fun h => hn (Or.inl h)
            have n2 : ¬ k = z := fun h => hn (Or.inr h)
            simp [n1, n2]
      · have hxo : x < gp_u10 T (gp_md T) := by unfold gp_u10; omega
        obtain ⟨g21, q, g22, g23, g24⟩ := g2 x hxo
        refine ⟨?_, q, g22, ?_, fun z hz => ?_⟩
        · rw [e14, if_neg (by omega), h14]; exact g21
        · rw [e13, if_neg (by omega)]; exact g23
        · rw [hv z hz, ← g24 z hz]
          split
          · rw [Nat.testBit_or, Nat.one_shiftLeft, Nat.testBit_two_pow]
            have : decide (u = x) = false := by simp; omega
            rw [this, Bool.or_false]
          · rfl
    · have hu' : gp_u10 (gp_aL T c) m = gp_u10 T m := by unfold gp_u10; rw [gp_aL_7, if_neg hmm]; rfl
      refine ⟨by rw [e12, if_neg hmm, gp_aL_7, if_neg hmm]; exact g1, fun x hx => ?_⟩
      rw [hu'] at hx
      obtain ⟨g21, q, g22, g23, g24⟩ := g2 x hx
      refine ⟨?_, q, g22, ?_, fun z hz => ?_⟩
      · rw [e14, if_neg (by omega), gp_aL_r _ _ (10 + m) x (by omega) (by omega) (by omega)]; exact g21
      · rw [e13, if_neg (by omega)]; exact g23
      · have : (gp_aL T c).2.2 (15 + m) z = T.2.2 (15 + m) z := by
          unfold gp_aL
          dsimp only
          rw [if_neg (by omega), if_neg (by omega), if_neg (by omega)]
        rw [this]
        exact g24 z hz
end
