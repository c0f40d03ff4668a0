/-! rules told as a text: the reference reads rules -/
section
variable {M M' N : gz_M} {t : List Nat} {p q c r a : Nat} {s : gp_S}
theorem gp_b0 : gz_b01 0 = true := by decide
theorem gp_b1 : gz_b01 1 = true := by decide
theorem gp_wrBad (h : gp_bad M t) (h80 : t.length ≤ 80) : f12_readRules_126 M = some (0, M) := by
  obtain ⟨z, z1, z2⟩ := h.nf h80
  have e19 : f12_wasRight_19 M = some (0, M) := by
    unfold f12_wasRight_19
    rw [gp_nfine z2 z1, gp_eB2, gp_b0, gp_eC]
  have e : f12_wasRight M = some (0, M) := by
    unfold f12_wasRight
    split
    · exact e19
    · rw [gp_faultN z2 z1, gp_eB, e19]
  unfold f12_readRules_126
  rw [e, gp_eB2, gp_b0, gp_eC]
theorem gp_wrE (h : gp_at M t p) : f12_wasRight M = if p = t.length then some (1, M) else some (0, gz_w M 0 9 (nI p)) := by
  have h80 := h.1
  have hp := h.2.1
  unfold f12_wasRight f12_wasRight_19
  rw [h.2.2.1, h.2.2.2.1]
  by_cases e : p = t.length
  · rw [if_pos (nI_le (by omega) (by omega)), if_pos e, gp_fineE h, gp_eB2, gp_b1, gp_eC]
  · have := gp_faultE h
    rw [h.2.2.2.1] at this
    rw [if_neg (nI_ge (by omega) (by omega)), if_neg e, this, gp_eB, gp_nfine (gp_gs _ _ _ _) (by omega), gp_eB2, gp_b0, gp_eC]
/-- what readRules leaves -/
def gp_rdR (M M' : gz_M) (t : List Nat) (v : Int32) : Prop := gp_rL M M' ∧ ((v = 0 ∧ gp_bad M' t) ∨ (v = 1 ∧ gp_at M' t t.length ∧ M'.1 0 10 = nI (gp_tab t).1 ∧ gp_tP M' (gp_tab t) ∧ ∃ s, gp_itr t t.length 0 gp_s0 = some s ∧ gp_mEnd t s ∧ (gp_tab t).2.2 7 = s.2.1.2.2 7 ∧ ∀ m, s.2.1.2.2 7 m ≤ 80))
theorem gp_c88 (c38 : Int32 → gz_M → Option (Int32 × gz_M)) : f12_readRules_88 c38 0 M = c38 0 M := by
  unfold f12_readRules_88
  rw [if_pos rfl]
theorem gp_n38 {n : Nat} (hn : 0 < n) (N' : gz_M) : f12_readRules_38 n 0 N' = f12_readRules_126 N' := by
  obtain ⟨k, rfl⟩ : ∃ j, n = j + 1 := ⟨n - 1, by omega⟩
  rw [f12_readRules_38, if_pos rfl]
theorem gp_rd38 (hne : t.length ≠ 0) : ∀ (n p : Nat) (s : gp_S) (M : gz_M), t.length + 1 < p + n → gp_at M t p → gp_wS s → gp_itr t p 0 gp_s0 = some s → (∀ m, s.2.1.2.2 7 m ≤ p) → s.1 = 0 → gp_tP M s.2.1 → M.1 0 10 = nI s.2.1.1 → ∃ v M', f12_readRules_38 n 1 M = some (v, M') ∧ gp_rdR M M' t v := by
  intro n
  induction n with
  | zero =>
    intro p s M hn ha
    have := ha.2.1
    omega
  | succ n ih =>
    intro p s M hn ha hw hi hu h0 hT h10
    have h80 := ha.1
    have h7 := hw.1.2.2.1
    have hn0 : 0 < n := by have := ha.2.1; omega
    obtain ⟨N, e1, e2, e3, e4⟩ := gp_rdRule ha hw hi hu h0 hT rfl hne
    rw [f12_readRules_38, if_neg (show ¬ (1 : Int32) = 0 by decide), gp_fineE ha, gp_eB2, if_neg (show ¬ (1 : Int32) = 0 by decide), h10, e1, gp_eB, e3, h10, nI_1, gp_eL]
    obtain ⟨K, hK⟩ : ∃ K, K = gz_w N 0 10 (nI (s.2.1.1 + 1)) := ⟨_, rfl⟩
    rw [← hK]
    have l10 : gp_rL M K := by rw [hK]; exact e2.trans (gp_rL.w0 _ (by omega))
    rcases e4 with hb | ⟨p', s', ⟨b1, b2, b3, b4, b5, b6⟩, hlt, hr'⟩
    · have hb' : gp_bad K t := by rw [hK]; exact hb.w (by omega)
      obtain ⟨z, z1, z2⟩ := hb'.nf h80
      rw [gp_nfine z2 z1, gp_eB2, if_pos rfl, gp_c88, gp_n38 hn0, gp_wrBad hb' h80]
      exact ⟨0, K, rfl, l10, Or.inl ⟨rfl, hb'⟩⟩
    · obtain ⟨d1, d2, d3, d4, d5⟩ := b6
      have aK : gp_at K t p' := by rw [hK]; exact b1.fr (gp_rL.w0 _ (by omega)) (gp_gn (by omega)) (gp_gn (by omega))
      have cK : ∀ a, a ≠ 0 → K.1 a = N.1 a := fun a h => by rw [hK, gp_wc _ h]
      have K10 : K.1 0 10 = nI (s.2.1.1 + 1) := by rw [hK, gp_gs]
      have eR1 : (gp_eR s').1 = s.2.1.1 + 1 := by rw [gp_eR_1, hr']
      have TK : gp_tP K (gp_eR s') := b5.fr (fun a h1 h2 => cK a (by omega))
      rw [gp_fineE aK, gp_eB2, if_neg (show ¬ (1 : Int32) = 0 by decide), gp_hereE aK, gp_eB2]
      by_cases h59 : gp_hr t p' = some 59
      · obtain ⟨_, hpl', htp'⟩ := gp_hr_lt aK h59
        have hst : gp_stp s' (t.getD p' 0) = gp_nxt s' := by rw [htp', d4 h59]
        have hc' : t.getD p' 0 < 256 := by rw [htp']; decide
        rw [if_pos (show gp_o (gp_hr t p') = (59 : Int32) from by rw [h59]; rfl)]
        unfold f12_readRules_88
        rw [if_neg (show ¬ (1 : Int32) = 0 by decide), K10, gp_faultE aK, aK.2.2.2.1, nI_1, gp_eB, gp_eL, gp_eL]
        by_cases h8 : s.2.1.1 + 1 = 8
        · rw [if_pos (show nI (s.2.1.1 + 1) = (8 : Int32) from by rw [h8]; rfl), gp_gn (by omega), aK.2.2.2.1, nI_1]
          have hb' : gp_bad (gz_w (gz_w K 0 9 (nI p')) 0 8 (nI (p' + 1))) t := ⟨p', s', b3, by omega, fun _ => by rw [hst]; unfold gp_nxt; rw [hr', if_neg (by omega)], fun h => by omega, by rw [gp_gn (by omega), gp_gs]⟩
          obtain ⟨z, z1, z2⟩ := hb'.nf h80
          obtain ⟨k, rfl⟩ : ∃ k, n = k + 1 := ⟨n - 1, by omega⟩
          rw [f12_readRules_38, if_neg (show ¬ (1 : Int32) = 0 by decide), gp_nfine z2 z1, gp_eB2, if_pos rfl, gp_wrBad hb' h80]
          exact ⟨0, _, rfl, (l10.trans (gp_rL.w0 _ (by omega))).trans (gp_rL.w0 _ (by omega)), Or.inl ⟨rfl, hb'⟩⟩
        · rw [if_neg (show ¬ nI (s.2.1.1 + 1) = (8 : Int32) from fun h => h8 ((nI_eq (b := 8) (by omega) (by omega)).mp h))]
          have hn : gp_nxt s' = some (0, gp_eR s', [], none) := by
            unfold gp_nxt
            rw [hr', if_pos (by omega)]
          rw [hn] at hst
          obtain ⟨v, M', f1, f2, f3⟩ := ih (p' + 1) (0, gp_eR s', [], none) (gz_w K 0 8 (nI (p' + 1))) (by omega) (aK.nx hpl') (gp_stp_w hc' b2 hst) (gp_itr_s b3 hst) (gp_good_u b2 hc' hst b4) rfl (TK.fr (fun a h1 h2 => gp_wc _ (by omega))) (by rw [gp_gn (by omega), K10]; show _ = nI (gp_eR s').1; rw [eR1])
          exact ⟨v, M', f1, (l10.trans (gp_rL.w0 _ (by omega))).trans f2, f3⟩
      · rw [if_neg (show ¬ gp_o (gp_hr t p') = (59 : Int32) from fun h => h59 ((gp_oEq (fun c hc => (gp_hr_lt aK hc).1) (n := 59) (by omega)).mp h)), gp_c88, gp_n38 hn0]
        unfold f12_readRules_126
        rw [gp_wrE aK]
        by_cases hpe : p' = t.length
        · rw [if_pos hpe, gp_eB2, gp_b1, gp_eC]
          have htab : gp_tab t = gp_eR s' := by
            unfold gp_tab
            rw [hpe] at b3
            rw [b3]
            dsimp only
            rw [if_neg hne]
          refine ⟨1, K, rfl, l10, Or.inr ⟨rfl, by rw [← hpe]; exact aK, by rw [htab, eR1, K10], by rw [htab]; exact TK, s', by rw [← hpe]; exact b3, d3, by rw [htab]; exact (gp_eR_w b2 d1 d2).2, fun m => by have := b4 m; omega⟩⟩
        · rw [if_neg hpe, gp_eB2, gp_b0, gp_eC]
          have hp' := aK.2.1
          refine ⟨0, _, rfl, l10.trans (gp_rL.w0 _ (by omega)), Or.inl ⟨rfl, p', s', b3, hp', fun h => d5 _ (gp_hrS h) (fun h' => h59 (by rw [gp_hrS h, h'])), fun h => absurd h hpe, gp_gs _ _ _ _⟩⟩
theorem gp_rdRules (ha : gp_at M t 0) : ∃ v M', f12_readRules M = some (v, M') ∧ gp_rdR M M' t v := by
  have h80 := ha.1
  have st : ∀ (m n : Nat) (N : gz_M), m < 4 → f12_readRules_7 (n + 1) (nI m) N = f12_readRules_7 n (nI (m + 1)) (gz_w N 12 m 0) := fun m n N hm => by
    rw [f12_readRules_7, if_neg (show ¬ (4 : Int32) ≤ nI m from nI_ge (b := 4) (by omega) (by omega)), gp_ckb hm (by omega), nI_clamp (by omega), gp_eL, gp_eL, nI_1]
  obtain ⟨K, hK⟩ : ∃ K, K = gz_w (gz_w (gz_w (gz_w (gz_w M 0 10 0) 12 0 0) 12 1 0) 12 2 0) 12 3 0 := ⟨_, rfl⟩
  have e : f12_readRules M = if nI t.length ≤ 0 then f12_readRules_38 gz_FU 0 K else f12_readRules_38 gz_FU 1 K := by
    unfold f12_readRules
    rw [gp_eL, show (0 : Int32) = nI 0 from rfl, show gz_FU = 999995 + 1 + 1 + 1 + 1 + 1 from rfl, st 0 _ _ (by omega), st 1 _ _ (by omega), st 2 _ _ (by omega), st 3 _ _ (by omega), f12_readRules_7, if_pos (by decide), show gz_w (gz_w (gz_w (gz_w (gz_w M 0 10 (nI 0)) 12 0 0) 12 1 0) 12 2 0) 12 3 0 = K from hK.symm]
    have : K.1 0 7 = nI t.length := by rw [hK, gp_gn (by omega), gp_gn (by omega), gp_gn (by omega), gp_gn (by omega), gp_gn (by omega)]; exact ha.2.2.1
    rw [this]
    rfl
  have lK : gp_rL M K := by rw [hK]; exact ((((gp_rL.w0 _ (by omega)).trans (gp_rL.w _ (by omega))).trans (gp_rL.w _ (by omega))).trans (gp_rL.w _ (by omega))).trans (gp_rL.w _ (by omega))
  have aK : gp_at K t 0 := ha.fr lK (by rw [hK, gp_gn (by omega), gp_gn (by omega), gp_gn (by omega), gp_gn (by omega), gp_gn (by omega)]) (by rw [hK, gp_gn (by omega), gp_gn (by omega), gp_gn (by omega), gp_gn (by omega), gp_gn (by omega)])
  have K10 : K.1 0 10 = nI 0 := by rw [hK, gp_gn (by omega), gp_gn (by omega), gp_gn (by omega), gp_gn (by omega), gp_gs]; rfl
  have K12 : ∀ m, m < 4 → K.1 12 m = nI 0 := fun m hm => by
    obtain h | h | h | h : m = 0 ∨ m = 1 ∨ m = 2 ∨ m = 3 := by omega
    · rw [h, hK, gp_gn (by omega), gp_gn (by omega), gp_gn (by omega), gp_gs]; rfl
    · rw [h, hK, gp_gn (by omega), gp_gn (by omega), gp_gs]; rfl
    · rw [h, hK, gp_gn (by omega), gp_gs]; rfl
    · rw [h, hK, gp_gs]; rfl
  have TK : gp_tP K gp_s0.2.1 := by
    refine ⟨fun j hj => absurd hj (by show ¬ j < 0; omega), ⟨fun _ => 0, fun j hj => absurd hj (by show ¬ j < 0; omega), fun m hm => rfl⟩, fun m hm => ⟨K12 m hm, fun x hx => ?_⟩⟩
    have : gp_u10 gp_s0.2.1 m = 0 := rfl
    omega
  rw [e]
  by_cases h0 : t.length = 0
  · rw [if_pos (by rw [h0]; decide), gp_n38 (by unfold gz_FU; omega)]
    unfold f12_readRules_126
    rw [gp_wrE aK, if_pos h0.symm, gp_eB2, gp_b1, gp_eC]
    have htab : gp_tab t = gp_s0.2.1 := by
      unfold gp_tab
      rw [h0]
      rfl
    refine ⟨1, K, rfl, lK, Or.inr ⟨rfl, by rw [h0]; exact aK, by rw [htab, K10]; rfl, by rw [htab]; exact TK, gp_s0, by rw [h0]; rfl, Or.inl h0, by rw [htab], fun m => Nat.zero_le _⟩⟩
  · rw [if_neg (show ¬ nI t.length ≤ 0 from nI_ge (a := 0) (by omega) (by omega))]
    obtain ⟨v, M', f1, f2, f3⟩ := gp_rd38 h0 gz_FU 0 gp_s0 K (by unfold gz_FU; omega) aK gp_w0 rfl (fun m => Nat.zero_le _) rfl TK K10
    exact ⟨v, M', f1, lK.trans f2, f3⟩
/-- letters 10 at most: the tables stand -/
theorem gp_tP.tR {T : gp_T} (h : gp_tP M T) (h10 : M.1 0 10 = nI T.1) (hu : ∀ m, m < 4 → T.2.2 7 m ≤ 10) : gp_tR M T := by
  obtain ⟨h1, h2, h3⟩ := h
  refine ⟨h10, h1, h2, fun m hm => ⟨(h3 m hm).1, fun x hx => (h3 m hm).2 x ?_⟩⟩
  unfold gp_u10
  have := hu m hm
  omega
end
