/-! rules told as a text: the reference reads the marks behind a part -/
section
variable {M M' : gz_M} {t : List Nat} {p c : Nat} {s : gp_S}
theorem gp_stp_suf (h3 : s.1 = 3) (hc : c = 42 ∨ c = 43 ∨ c = 63) : gp_stp s c = some (gp_suf s c) := by
  unfold gp_stp
  have hl : ¬ (gp_isL c = true ∨ c = 40) := by rcases hc with rfl | rfl | rfl <;> decide
  rw [if_neg (by omega), if_neg (by omega), if_neg (by omega), if_pos h3, if_neg hl, if_pos hc]
theorem gp_tc_sm {T T' : gp_T} (h : gp_tc M T) (hs : gp_sm1 T T') : gp_tc M T' := by
  unfold gp_tc
  rw [hs.1, hs.md, hs.2.2.1 2 (by omega)]
  exact h
theorem gp_suf136 {P : gp_P} {r : Nat} (W : Int32 → gz_M → Option gz_M) (c102 : Int32 → gz_M → Option gz_M) (hg : gp_good M t p s s.2.1) (h3 : s.1 = 3) (hP : s.2.2.2 = some P) (hp : gp_pc M P) (hr : s.2.1.1 = r) (hc : c = 42 ∨ c = 43 ∨ c = 63) (hh : gp_hr t p = some c) : ∃ M1, f12_readPart_136 W c102 (nI r) M = c102 (nI r) M1 ∧ gp_rF M M1 ∧ gp_good M1 t (p + 1) (gp_suf s c) (gp_suf s c).2.1 ∧ gp_pc M1 (P.1, P.2.1, (if c = 43 then P.2.2 else true)) := by
  obtain ⟨g1, g2, g3, g4, g5, g6, g7⟩ := hg
  obtain ⟨hc256, hpl, htp⟩ := gp_hr_lt g1 hh
  have h7 := g2.1.2.2.1
  have hcc := g2.2.2.1 (by omega)
  have hmd4 := hcc.1
  have hPok := hcc.2.2.2.2.2 P hP
  have hst : gp_stp s (t.getD p 0) = some (gp_suf s c) := by rw [htp]; exact gp_stp_suf h3 hc
  have hs : gp_suf s c = (3, (if c = 63 then s.2.1 else gp_lnk s.2.1 P.2.1 P.1), s.2.2.1, some (P.1, P.2.1, (if c = 43 then P.2.2 else true))) := by
    unfold gp_suf
    rw [hP]
  have hsm : gp_sm1 s.2.1 (if c = 63 then s.2.1 else gp_lnk s.2.1 P.2.1 P.1) := by
    split
    · exact gp_sm1.refl _
    · exact gp_lnk_sm _ _ _ hmd4
  have ceq : ∀ n : Nat, n < 256 → ((nI c = nI n) ↔ c = n) := fun n hn => nI_eq (by omega) (by omega)
  -- behind the letters joined
  have e163 : ∀ N, gp_rF M N → (∀ i, N.1 0 i = M.1 0 i) → gp_tP N (if c = 63 then s.2.1 else gp_lnk s.2.1 P.2.1 P.1) → (∀ a, a ≠ 14 → N.1 a = M.1 a) → ∃ M1, f12_readPart_163 W c102 (nI r) N = c102 (nI r) M1 ∧ gp_rF M M1 ∧ gp_good M1 t (p + 1) (gp_suf s c) (gp_suf s c).2.1 ∧ gp_pc M1 (P.1, P.2.1, (if c = 43 then P.2.2 else true)) := by
    intro N nF n0 nT n14
    have aN : gp_at N t p := g1.frF nF (n0 8) (n0 9)
    have good : ∀ M1, gp_rF N M1 → gp_at M1 t (p + 1) → (∀ a, a ≠ 0 → M1.1 a = N.1 a) → M1.1 0 24 = N.1 0 24 → gp_good M1 t (p + 1) (gp_suf s c) (gp_suf s c).2.1 := fun M1 m1 m2 m3 m4 => by
      refine ⟨m2, gp_stp_w (by rw [← htp] at hc256; exact hc256) g2 hst, gp_itr_s g3 hst, gp_good_u g2 (by rw [← htp] at hc256; exact hc256) hst g4, ?_, ?_, ?_⟩
      · rw [hs]
        exact nT.fr (fun a h1 h2 => m3 a (by omega))
      · rw [hs]
        have q : gp_tc M1 s.2.1 := by
          unfold gp_tc
          rw [m3 5 (by omega), m3 6 (by omega), n14 5 (by omega), n14 6 (by omega)]
          exact g6
        exact gp_tc_sm q hsm
      · rw [hs, m4, n0]
        exact g7
    unfold f12_readPart_163
    rw [gp_hereE aN, gp_eB2, hh, show gp_o (some c) = nI c from rfl]
    by_cases h43 : c = 43
    · rw [if_pos (show nI c = 43 from (ceq 43 (by omega)).mpr h43), n0, g1.2.2.2.1, nI_1, gp_eL]
      refine ⟨_, rfl, nF.trans (gp_rF.w0 _ (by omega)), good _ (gp_rF.w0 _ (by omega)) (aN.nx hpl) (fun a ha => gp_wc _ ha) (gp_gn (by omega)), ?_⟩
      rw [if_pos h43]
      refine ⟨?_, ?_, ?_⟩
      · rw [gp_gn (by omega), n0]; exact hp.1
      · rw [gp_gn (by omega), n0]; exact hp.2.1
      · rw [gp_gn (by omega), n0]; exact hp.2.2
    · rw [if_neg (show ¬ nI c = 43 from fun h => h43 ((ceq 43 (by omega)).mp h)), show gz_b01 1 = true from by decide, gp_eC, gp_eL, gp_gn (by omega), n0, g1.2.2.2.1, nI_1, gp_eL]
      have aN' : gp_at (gz_w N 0 21 1) t p := aN.frF (gp_rF.w0 _ (by omega)) (by rw [gp_gn (by omega)]) (by rw [gp_gn (by omega)])
      refine ⟨_, rfl, (nF.trans (gp_rF.w0 _ (by omega))).trans (gp_rF.w0 _ (by omega)), good _ ((gp_rF.w0 _ (by omega)).trans (gp_rF.w0 _ (by omega))) (aN'.nx hpl) (fun a ha => by rw [gp_wc _ ha, gp_wc _ ha]) (by rw [gp_gn (by omega), gp_gn (by omega)]), ?_⟩
      rw [if_neg h43]
      refine ⟨?_, ?_, ?_⟩
      · rw [gp_gn (by omega), gp_gs]; rfl
      · rw [gp_gn (by omega), gp_gn (by omega), n0]; exact hp.2.1
      · rw [gp_gn (by omega), gp_gn (by omega), n0]; exact hp.2.2
  unfold f12_readPart_136
  rw [gp_hereE g1, gp_eB2, hh, show gp_o (some c) = nI c from rfl]
  by_cases h63 : c = 63
  · rw [if_pos (show nI c = 63 from (ceq 63 (by omega)).mpr h63)]
    exact e163 M (gp_rF.refl M) (fun i => rfl) (by rw [if_pos h63]; exact g5) (fun _ _ => rfl)
  · have g61 := g6.1
    rw [hr] at g61
    rw [if_neg (show ¬ nI c = 63 from fun h => h63 ((ceq 63 (by omega)).mp h)), gp_ckb (show r < 8 by omega) (by omega), nI_clamp (by omega), g61, hp.2.2, hp.2.1]
    obtain ⟨N, f1, f2, f3, f4⟩ := gp_folE (a := P.2.1) (f := P.1) g5 hmd4 hPok.2
    rw [f1, gp_eB]
    exact e163 N (gp_rF.of14 f2 f3) (fun i => by rw [f3 0 (by omega)]) (by rw [if_neg h63]; exact f4) f3
/-- the marks behind a part -/
theorem gp_sufL (W : Int32 → gz_M → Option gz_M) {r : Nat} : ∀ (n p : Nat) (s : gp_S) (M : gz_M) (P : gp_P), t.length < p + n → gp_good M t p s s.2.1 → s.1 = 3 → s.2.2.2 = some P → gp_pc M P → s.2.1.1 = r → ∃ M' p' s' P', f12_readPart_102 W n (nI r) M = some M' ∧ gp_rF M M' ∧ gp_good M' t p' s' s'.2.1 ∧ s'.1 = 3 ∧ s'.2.2.1 = s.2.2.1 ∧ s'.2.2.2 = some P' ∧ gp_pc M' P' ∧ s'.2.1.1 = r ∧ p ≤ p' ∧ ¬ (gp_hr t p' = some 42 ∨ gp_hr t p' = some 43 ∨ gp_hr t p' = some 63) ∧ gp_md s'.2.1 = gp_md s.2.1 := by
  intro n
  induction n with
  | zero =>
    intro p s M P hn hg
    have := hg.1.2.1
    omega
  | succ n ih =>
    intro p s M P hn hg h3 hP hp hr
    have g1 := hg.1
    have ho : ∀ q, gp_hr t p = some q → q < 256 := fun q hq => (gp_hr_lt g1 hq).1
    have heq : ∀ k : Nat, k < 256 → ((gp_o (gp_hr t p) = nI k) ↔ gp_hr t p = some k) := fun k hk => gp_oEq ho (by omega)
    have go : ∀ c, c = 42 ∨ c = 43 ∨ c = 63 → gp_hr t p = some c → ∃ M' p' s' P', f12_readPart_136 W (f12_readPart_102 W n) (nI r) M = some M' ∧ gp_rF M M' ∧ gp_good M' t p' s' s'.2.1 ∧ s'.1 = 3 ∧ s'.2.2.1 = s.2.2.1 ∧ s'.2.2.2 = some P' ∧ gp_pc M' P' ∧ s'.2.1.1 = r ∧ p ≤ p' ∧ ¬ (gp_hr t p' = some 42 ∨ gp_hr t p' = some 43 ∨ gp_hr t p' = some 63) ∧ gp_md s'.2.1 = gp_md s.2.1 := by
      intro c hc hh
      have hmd4 := (hg.2.1.2.2.1 (by omega)).1
      have hs : gp_suf s c = (3, (if c = 63 then s.2.1 else gp_lnk s.2.1 P.2.1 P.1), s.2.2.1, some (P.1, P.2.1, (if c = 43 then P.2.2 else true))) := by
        unfold gp_suf
        rw [hP]
      have hsm : gp_sm1 s.2.1 (gp_suf s c).2.1 := by
        rw [hs]
        dsimp only
        split
        · exact gp_sm1.refl _
        · exact gp_lnk_sm _ _ _ hmd4
      obtain ⟨M1, a1, a2, a3, a4⟩ := gp_suf136 W (f12_readPart_102 W n) hg h3 hP hp hr hc hh
      obtain ⟨M', p', s', P', b1, b2, b3, b4, b5, b6, b7, b8, b9, b10, b11⟩ := ih (p + 1) (gp_suf s c) M1 (P.1, P.2.1, (if c = 43 then P.2.2 else true)) (by omega) a3 (by rw [hs]) (by rw [hs]) a4 (by rw [hsm.1]; exact hr)
      exact ⟨M', p', s', P', by rw [a1]; exact b1, a2.trans b2, b3, b4, by rw [b5, hs], b6, b7, b8, by omega, b10, by rw [b11, hsm.md]⟩
    rw [f12_readPart_102, gp_fineE g1, gp_eB2, if_neg (show ¬ (1 : Int32) = 0 by decide), gp_hereE g1, gp_eB2]
    by_cases h42 : gp_hr t p = some 42
    · rw [if_pos (show gp_o (gp_hr t p) = 42 from (heq 42 (by omega)).mpr h42)]
      exact go 42 (by omega) h42
    · rw [if_neg (show ¬ gp_o (gp_hr t p) = 42 from fun h => h42 ((heq 42 (by omega)).mp h)), gp_hereE g1, gp_eB2]
      by_cases h43 : gp_hr t p = some 43
      · rw [if_pos (show gp_o (gp_hr t p) = 43 from (heq 43 (by omega)).mpr h43)]
        exact go 43 (by omega) h43
      · rw [if_neg (show ¬ gp_o (gp_hr t p) = 43 from fun h => h43 ((heq 43 (by omega)).mp h)), gp_hereE g1, gp_eB2]
        by_cases h63 : gp_hr t p = some 63
        · rw [if_pos (show gp_o (gp_hr t p) = 63 from (heq 63 (by omega)).mpr h63)]
          exact go 63 (by omega) h63
        · rw [if_neg (show ¬ gp_o (gp_hr t p) = 63 from fun h => h63 ((heq 63 (by omega)).mp h))]
          exact ⟨M, p, s, P, rfl, gp_rF.refl M, hg, h3, rfl, hP, hp, hr, Nat.le_refl _, fun h => h.elim h42 (fun h => h.elim h43 h63), rfl⟩
end
