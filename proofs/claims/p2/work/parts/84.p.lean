/-! rules told as a text: a letter, a bracket, a rule's beginning in the component -/
section
variable {k : Nat} {M M' : gz_M} {s : gp_S}
theorem gp_add_60 (hk : 6 < k) {m c q : Nat} (hm : m < 4) (hc : c < 256) (hq : q < 2 ^ 10) (R : Nat → Nat) (h5 : M.1 4 5 = nI m) : ∀ (d n x : Nat) (M1 : gz_M), x + d = 8 → d < n → M1.2 = M.2 → (∀ a, a ≠ k + 14 + 1 + m → M1.1 a = M.1 a) → (∀ b, b < 8 → M1.1 (k + 14 + 1 + m) b = nI (if b < x ∧ (c = 46 ∨ c = 97 + b) then R b ||| q else R b)) → ∃ M', f1_addLetter_60 k n (nI c) (nI q) (nI x) M1 = some (gz_w M' 4 3 (nI (q ||| q <<< 10))) ∧ M'.2 = M.2 ∧ (∀ a, a ≠ k + 14 + 1 + m → M'.1 a = M.1 a) ∧ (∀ b, b < 8 → M'.1 (k + 14 + 1 + m) b = nI (if c = 46 ∨ c = 97 + b then R b ||| q else R b)) := by
  intro d
  induction d with
  | zero =>
    intro n x M1 hx hn e1 e2 e3
    obtain ⟨n, rfl⟩ : ∃ q, n = q + 1 := ⟨n - 1, by omega⟩
    have hx : x = 8 := by omega
    subst hx
    refine ⟨M1, by rw [f1_addLetter_60, if_pos (by exact nI_le (Nat.le_refl 8) (by decide)), gp_eL, gp_shl10 _ (by omega), gp_or], e1, e2, fun b hb => ?_⟩
    rw [e3 b hb]
    by_cases h : c = 46 ∨ c = 97 + b
    · rw [if_pos ⟨hb, h⟩, if_pos h]
    · rw [if_neg (fun h' => h h'.2), if_neg h]
  | succ d ih =>
    intro n x M1 hx hn e1 e2 e3
    obtain ⟨n, rfl⟩ : ∃ q, n = q + 1 := ⟨n - 1, by omega⟩
    have h5' : M1.1 4 5 = nI m := by rw [e2 4 (by omega)]; exact h5
    have step : ∀ v, v = (if c = 46 ∨ c = 97 + x then R x ||| q else R x) → ∃ M', f1_addLetter_60 k n (nI c) (nI q) (nI (x + 1)) (gz_w M1 (k + 14 + 1 + m) x (nI v)) = some (gz_w M' 4 3 (nI (q ||| q <<< 10))) ∧ M'.2 = M.2 ∧ (∀ a, a ≠ k + 14 + 1 + m → M'.1 a = M.1 a) ∧ (∀ b, b < 8 → M'.1 (k + 14 + 1 + m) b = nI (if c = 46 ∨ c = 97 + b then R b ||| q else R b)) := fun v hv => by
      refine ih n (x + 1) _ (by omega) (by omega) (by rw [gp_gl]; exact e1) (fun a ha => by rw [gp_wc _ ha]; exact e2 a ha) (fun b hb => ?_)
      by_cases hbx : b = x
      · subst hbx
        rw [gp_gs, hv]
        by_cases h : c = 46 ∨ c = 97 + b
        · rw [if_pos h, if_pos ⟨by omega, h⟩]
        · rw [if_neg h, if_neg (fun h' => h h'.2)]
      · rw [gp_gn (by omega), e3 b hb]
        by_cases h : b < x ∧ (c = 46 ∨ c = 97 + b)
        · rw [if_pos h, if_pos ⟨by omega, h.2⟩]
        · rw [if_neg h, if_neg (fun h' => h ⟨by omega, h'.2⟩)]
    have hx3 := e3 x (by omega)
    rw [if_neg (show ¬ (x < x ∧ _) from fun h => absurd h.1 (by omega))] at hx3
    rw [f1_addLetter_60, if_neg (show ¬ (8 : Int32) ≤ nI x from nI_ge (b := 8) (by omega) (by omega)), h5', gp_ckb hm (by omega), gp_ckb (by omega) (by omega), nI_clamp (by omega), nI_clamp (by omega), hx3]
    by_cases h46 : c = 46
    · rw [if_pos (show nI c = (46 : Int32) from by rw [h46]; rfl), gp_ckb (by omega) (by omega), gp_or, gp_eL, gp_eL, nI_1]
      exact step _ (by rw [if_pos (Or.inl h46)])
    · rw [if_neg (show ¬ nI c = (46 : Int32) from fun e => h46 ((nI_eq (b := 46) (by omega) (by omega)).mp e)), show (97 : Int32) + nI x = nI (97 + x) from nI_add 97 x]
      by_cases h97 : c = 97 + x
      · rw [if_pos (by rw [h97]), gp_ckb (by omega) (by omega), gp_or, gp_eL, gp_eL, nI_1]
        exact step _ (by rw [if_pos (Or.inr h97)])
      · rw [if_neg (fun e => h97 ((nI_eq (by omega) (by omega)).mp e)), gp_ckb (by omega) (by omega), show nI (R x) ||| 0 = nI (R x) from by rw [gp_n0, gp_or, Nat.or_zero], gp_eL, gp_eL, nI_1]
        exact step _ (by rw [if_neg (fun h => h.elim h46 h97)])
theorem gp_letC (hk : 6 < k) (hw : gp_wS s) (h23 : s.1 = 2 ∨ s.1 = 3) {c : Nat} (hc : c < 256) (h : gp_bC k M s) (hu : s.2.1.2.2 7 (gp_md s.2.1) < 10) : ∃ M', f1_addLetter k (nI c) M = some M' ∧ gp_bL k M M' ∧ gp_bC k M' (gp_let s c) := by
  obtain ⟨f1, f2, f3, ch, wh, L, eL, eP1, eP2, eP3, eP4⟩ := gp_eP_f hw (by omega)
  have hmd4 := (hw.2.2.1 (by omega)).1
  have h7 := hw.1.2.2.1
  obtain ⟨M1, e1, e2, e3, e4⟩ := gp_epC hk hw (by omega) h
  have hR := e4 (by rw [eP3]; omega)
  obtain ⟨b1, b2, b3, b4, b5, b6, b7, b8, b9⟩ := hR
  have hmd : gp_md (gp_eP s).2.1 = gp_md s.2.1 := f1.md
  have hu1 : (gp_eP s).2.1.2.2 7 (gp_md s.2.1) < 10 := by rw [f1.2.2.1 7 (by omega)]; exact hu
  have h71 : (gp_eP s).2.1.1 ≤ 7 := by rw [f1.1]; exact h7
  unfold gp_let
  rw [← hmd] at hu1 hmd4
  generalize hT : (gp_eP s).2.1 = T1 at *
  generalize hmm : gp_md T1 = m at *
  generalize hU : T1.2.2 7 m = u at *
  have hq : 1 <<< u < 2 ^ 10 := by rw [Nat.one_shiftLeft]; exact Nat.pow_lt_pow_right (by decide) hu1
  obtain ⟨a1, a2, a3, a4⟩ := e3.2.2 m hmd4
  rw [hU] at a1
  -- the memory after the letter is counted
  have N0 : ∃ N, N = gz_w (gz_w M1 (k + 7) m (nI (u + 1))) (k + 2) T1.1 (nI (T1.2.2 2 T1.1 + 1)) := ⟨_, rfl⟩
  obtain ⟨N, hN⟩ := N0
  have n45 : N.1 4 5 = nI m := by rw [hN, gp_gn (by omega), gp_gn (by omega)]; exact b4
  obtain ⟨M', r1, r2, r3, r4⟩ := gp_add_60 (M := N) (m := m) (c := c) (q := 1 <<< u) hk hmd4 hc hq (T1.2.2 (15 + m)) n45 8 gz_FU 0 N (by omega) (by unfold gz_FU; omega) rfl (fun _ _ => rfl) (fun b hb => by rw [if_neg (fun h => absurd h.1 (by omega)), hN, gp_gn (by omega), gp_gn (by omega)]; exact a4 b hb)
  have hNL : gp_bL k M1 N := by rw [hN]; exact (gp_bL.w _ (by omega)).trans (gp_bL.w _ (by omega))
  have oth : ∀ a i, a ≠ k + 14 + 1 + m → ¬ (a = k + 7 ∧ i = m) → ¬ (a = k + 2 ∧ i = T1.1) → ¬ (a = 4 ∧ i = 3) → (gz_w M' 4 3 (nI (1 <<< u ||| (1 <<< u) <<< 10))).1 a i = M1.1 a i := fun a i h1 h2 h3 h4 => by
    rw [gp_gn (by omega), r3 a h1, hN, gp_gn (by omega), gp_gn (by omega)]
  have hv : ∀ a b, (gp_aL T1 c).2.2 a b = if a = 7 ∧ b = m then u + 1 else if a = 2 ∧ b = T1.1 then T1.2.2 2 T1.1 + 1 else if a = 15 + m ∧ b < 8 ∧ (c = 46 ∨ c = 97 + b) then T1.2.2 a b ||| 1 <<< u else T1.2.2 a b := fun a b => by
    unfold gp_aL
    dsimp only
    rw [hmm, hU]
    by_cases hz : a = 15 + m ∧ b < 8 ∧ (c = 46 ∨ c = 97 + b)
    · rw [if_pos hz, if_pos (show u < 10 ∧ _ from ⟨hu1, hz⟩)]
    · rw [if_neg hz, if_neg (show ¬ (u < 10 ∧ _) from fun h => hz h.2)]
  have hmA : gp_md (gp_aL T1 c) = m := by rw [gp_aL_md]; exact hmm
  refine ⟨gz_w M' 4 3 (nI (1 <<< u ||| (1 <<< u) <<< 10)), ?_, ?_, ?_, fun _ => ⟨?_, ?_, ?_, ?_, ?_, ?_, ?_, ?_, ?_⟩⟩
  · unfold f1_addLetter
    rw [e1, gp_eB, b4, gp_ckb hmd4 (by omega), nI_clamp (by omega), a1, gp_eL, if_neg (nI_pos (by omega)), if_pos (show nI u < (10 : Int32) from nI_lt (b := 10) (by omega) (by omega)), gp_eL, gp_ckb hmd4 (by omega), gp_ckb hmd4 (by omega), nI_clamp (by omega), a1, nI_1, gp_eL, gp_gn (by omega), b3, gp_eL, gp_ckb (show T1.1 < 8 by omega) (by omega), gp_ckb (show T1.1 < 8 by omega) (by omega), nI_clamp (by omega), gp_gn (by omega), b7, nI_1, gp_eL, show gz_shl 1 (nI u) = nI (1 <<< u) from gp_shl1 (by omega), gp_eL, ← hN]
    exact r1
  · refine e2.trans (hNL.trans (gp_bL.trans ⟨r2, fun a _ _ _ h => r3 a (by omega)⟩ (gp_bL.w _ (by omega))))
  · refine ⟨?_, fun j hj => ?_, fun y hy => ?_⟩
    · rw [oth k 0 (by omega) (by omega) (by omega) (by omega)]; exact e3.1
    · have hj : j < T1.1 := hj
      obtain ⟨c1, c2, c3, c4, c5, c6⟩ := e3.2.1 j hj
      rw [oth _ _ (by omega) (by omega) (by omega) (by omega), oth _ _ (by omega) (by omega) (by omega) (by omega), oth _ _ (by omega) (by omega) (by omega) (by omega), oth _ _ (by omega) (by omega) (by omega) (by omega), oth _ _ (by omega) (by omega) (by omega) (by omega), oth _ _ (by omega) (by omega) (by omega) (by omega)]
      rw [hv 1, hv 2, hv 3, hv 5, hv 6, if_neg (by omega), if_neg (by omega), if_neg (by omega), if_neg (by omega), if_neg (by omega), if_neg (by omega), if_neg (by omega), if_neg (by omega), if_neg (by omega), if_neg (by omega), if_neg (by omega), if_neg (by omega), if_neg (by omega), if_neg (by omega), if_neg (by omega)]
      exact ⟨c1, c2, c3, c4, c5, c6⟩
    · obtain ⟨c1, c2, c3, c4⟩ := e3.2.2 y hy
      refine ⟨?_, ?_, fun x hx => ?_, fun x hx => ?_⟩
      · rw [hv 7]
        by_cases hym : y = m
        · rw [if_pos ⟨rfl, hym⟩, gp_gn (by omega), r3 _ (by omega), hN, gp_gn (by omega), hym, gp_gs]
        · rw [if_neg (by omega), if_neg (by omega), if_neg (by omega), oth _ _ (by omega) (by omega) (by omega) (by omega)]
          exact c1
      · rw [hv 8, if_neg (by omega), if_neg (by omega), if_neg (by omega), oth _ _ (by omega) (by omega) (by omega) (by omega)]
        exact c2
      · rw [hv (10 + y), if_neg (by omega), if_neg (by omega), if_neg (by omega), oth _ _ (by omega) (by omega) (by omega) (by omega)]
        exact c3 x hx
      · rw [hv (15 + y), if_neg (by omega), if_neg (by omega)]
        by_cases hym : y = m
        · subst hym
          rw [gp_gn (by omega), r4 x hx]
          by_cases hz : c = 46 ∨ c = 97 + x
          · rw [if_pos hz, if_pos ⟨rfl, hx, hz⟩]
          · rw [if_neg hz, if_neg (fun h => hz h.2.2)]
        · rw [if_neg (by omega), oth _ _ (by omega) (by omega) (by omega) (by omega)]
          exact c4 x hx
  · rw [oth _ _ (by omega) (by omega) (by omega) (by omega)]; exact b1
  · rw [gp_gs]
    show _ = gp_eO (some (gp_pL T1))
    unfold gp_pL
    rw [hmm, hU, if_pos hu1]
    show _ = nI (gp_pN (1 <<< u, 1 <<< u, false))
    unfold gp_pN
    dsimp only
    rw [if_neg (by decide), Nat.or_zero]
  · rw [oth _ _ (by omega) (by omega) (by omega) (by omega)]; exact b3
  · rw [oth _ _ (by omega) (by omega) (by omega) (by omega), b4]
    show _ = nI (gp_md (gp_aL T1 c))
    rw [hmA]
  · exact b5.fr (fun i hi => ⟨oth _ _ (by omega) (by omega) (by omega) (by omega), oth _ _ (by omega) (by omega) (by omega) (by omega)⟩)
  · rw [show (3, gp_aL T1 c, (gp_eP s).2.2.1, some (gp_pL T1)).2.1.1 = T1.1 from rfl, oth _ _ (by omega) (by omega) (by omega) (by omega), b6]
    show _ = nI ((gp_aL T1 c).2.2 1 T1.1)
    rw [hv 1, if_neg (by omega), if_neg (by omega), if_neg (by omega)]
  · show (gz_w M' 4 3 _).1 (k + 2) T1.1 = nI ((gp_aL T1 c).2.2 2 T1.1)
    rw [hv 2, if_neg (by omega), if_pos ⟨rfl, rfl⟩, gp_gn (by omega), r3 _ (by omega), hN, gp_gs]
  · show (gz_w M' 4 3 _).1 (k + 3) T1.1 = nI ((gp_aL T1 c).2.2 3 T1.1)
    rw [hv 3, if_neg (by omega), if_neg (by omega), if_neg (by omega), oth _ _ (by omega) (by omega) (by omega) (by omega)]
    exact b8
  · show (gz_w M' 4 3 _).1 (k + 4) T1.1 = T1.2.1 T1.1
    rw [oth _ _ (by omega) (by omega) (by omega) (by omega)]
    exact b9
end
