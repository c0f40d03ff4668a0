/-! rules told as a text: the reference reads a part -/
def gp_noSuf (t : List Nat) (p : Nat) : Prop := ¬ (gp_hr t p = some 42 ∨ gp_hr t p = some 43 ∨ gp_hr t p = some 63)
/-- what a way leaves, at k brackets -/
def gp_wayS (t : List Nat) (r k : Nat) (W : Int32 → gz_M → Option gz_M) : Prop := ∀ (p : Nat) (s : gp_S) (M : gz_M) (L : List (Option gp_P × Option gp_P)), gp_good M t p s s.2.1 → s.1 = 2 → s.2.2.1 = (none, none) :: L → L.length = k → s.2.1.1 = r → ∃ M', W (nI r) M = some M' ∧ gp_rF M M' ∧ (gp_bad M' t ∨ ∃ p' s' w ch wh, gp_good M' t p' s' (gp_eP s').2.1 ∧ s'.1 = 3 ∧ s'.2.2.1 = (ch, wh) :: L ∧ gp_unO wh (gp_mgO ch s'.2.2.2) = some w ∧ gp_pc M' w ∧ s'.2.1.1 = r ∧ p < p' ∧ gp_noSuf t p' ∧ gp_isP (gp_hr t p') = false ∧ ¬ gp_hr t p' = some 124)
section
variable {M M' : gz_M} {t : List Nat} {p c : Nat} {s : gp_S}
theorem gp_bad.nf (h : gp_bad M t) (h80 : t.length ≤ 80) : ∃ q, q < 2 ^ 31 ∧ M.1 0 9 = nI q := by
  obtain ⟨q, s, _, h2, _, _, h5⟩ := h
  exact ⟨q, by omega, h5⟩
theorem gp_bad.w {i : Nat} {v : Int32} (h : gp_bad M t) (hi : i ≠ 9) : gp_bad (gz_w M 0 i v) t := by
  obtain ⟨q, s, h1, h2, h3, h4, h5⟩ := h
  exact ⟨q, s, h1, h2, h3, h4, by rw [gp_gn (by omega)]; exact h5⟩
theorem gp_p0 (h : gp_itr t p 0 gp_s0 = some s) (h1 : s.1 ≠ 0) : 0 < p := by
  rcases Nat.eq_zero_or_pos p with h0 | h0
  · subst h0
    cases h
    exact absurd rfl h1
  · exact h0
theorem gp_102N {n : Nat} (W : Int32 → gz_M → Option gz_M) (x : Int32) (h : gp_bad M t) (h80 : t.length ≤ 80) : f12_readPart_102 W (n + 1) x M = some M := by
  obtain ⟨q, q1, q2⟩ := h.nf h80
  rw [f12_readPart_102, gp_nfine q2 q1, gp_eB2, if_pos rfl]
theorem gp_stp_inP (h : s.1 = 2 ∨ s.1 = 3) (hc : s.1 = 3 → gp_isL c = true ∨ c = 40) : gp_stp s c = gp_inP s c := by
  unfold gp_stp
  rcases h with h | h
  · rw [if_neg (by omega), if_neg (by omega), if_pos h]
  · rw [if_neg (by omega), if_neg (by omega), if_neg (by omega), if_pos h, if_pos (hc h)]
/-- a good state with other levels of the same machine step -/
theorem gp_rdPart {r k : Nat} {W : Int32 → gz_M → Option gz_M} (hW : k ≤ 6 → gp_wayS t r k W) (hg : gp_good M t p s (gp_eP s).2.1) (h23 : s.1 = 2 ∨ s.1 = 3) (hP : s.1 = 3 → gp_isP (gp_hr t p) = true) (hr : s.2.1.1 = r) (hk : s.2.2.1.length = k) : ∃ M', f12_readPart W (nI r) M = some M' ∧ gp_rF M M' ∧ (gp_bad M' t ∨ ∃ p' s' P, gp_good M' t p' s' s'.2.1 ∧ s'.1 = 3 ∧ s'.2.2.1 = (gp_eP s).2.2.1 ∧ s'.2.2.2 = some P ∧ gp_pc M' P ∧ s'.2.1.1 = r ∧ p < p' ∧ gp_noSuf t p') := by
  obtain ⟨g1, g2, g3, g4, g5, g6, g7⟩ := hg
  obtain ⟨f1, f2, f3, ch, wh, L, eL, eP1, eP2, eP3, eP4⟩ := gp_eP_f g2 (by omega)
  have h80 := g1.1
  have hpl := g1.2.1
  have h7 := g2.1.2.2.1
  have hl7 := g2.1.2.1
  have hmd4 := (g2.2.2.1 (by omega)).1
  have hmd : gp_md (gp_eP s).2.1 = gp_md s.2.1 := f1.md
  have hT1 : (gp_eP s).2.1.1 = r := by rw [f1.1]; exact hr
  have hp0 := gp_p0 g3 (by omega)
  have hlen := gp_eP_len s
  have hk1 : 0 < k := by rw [← hk, eL]; simp
  have ho : ∀ q, gp_hr t p = some q → q < 256 := fun q hq => (gp_hr_lt g1 hq).1
  have heq : ∀ k : Nat, k < 256 → ((gp_o (gp_hr t p) = nI k) ↔ gp_hr t p = some k) := fun k hk => gp_oEq ho (by omega)
  -- a letter
  have let23 : ∀ c, gp_hr t p = some c → gp_isL c = true → ∃ M', f12_readPart_23 W (nI r) M = some M' ∧ gp_rF M M' ∧ (gp_bad M' t ∨ ∃ p' s' P, gp_good M' t p' s' s'.2.1 ∧ s'.1 = 3 ∧ s'.2.2.1 = (gp_eP s).2.2.1 ∧ s'.2.2.2 = some P ∧ gp_pc M' P ∧ s'.2.1.1 = r ∧ p < p' ∧ gp_noSuf t p') := by
    intro c hh hl
    obtain ⟨hc256, hpl, htp⟩ := gp_hr_lt g1 hh
    have hst : gp_stp s (t.getD p 0) = some (gp_let s c) := by
      rw [htp, gp_stp_inP h23 (fun _ => Or.inl hl)]
      unfold gp_inP
      rw [if_pos hl]
    have hc' : t.getD p 0 < 256 := by rw [htp]; exact hc256
    obtain ⟨M1, e1, e2, e3, e4, e5, e6, e7⟩ := gp_rdLet g1 hh hl g5 g6 f2 (by rw [hmd]; exact hmd4) (by rw [f1.1]; exact h7) (by rw [hmd, f1.2.2.1 7 (by omega)]; have := g4 (gp_md s.2.1); omega)
    rw [hT1] at e1
    have good : gp_good M1 t (p + 1) (gp_let s c) (gp_let s c).2.1 := ⟨e3, gp_stp_w hc' g2 hst, gp_itr_s g3 hst, gp_good_u g2 hc' hst g4, e4, e5, by rw [e7, g7]; show _ = nI ((gp_eP s).2.2.1.length - 1); rw [hlen]⟩
    obtain ⟨M', p', s', P', b1, b2, b3, b4, b5, b6, b7, b8, b9, b10, _⟩ := gp_sufL W gz_FU (p + 1) (gp_let s c) M1 (gp_pL (gp_eP s).2.1) (by unfold gz_FU; omega) good rfl rfl e6 hT1
    unfold f12_readPart_23
    rw [e1, gp_eB]
    exact ⟨M', b1, e2.trans b2, Or.inr ⟨p', s', P', b3, b4, b5, b6, b7, b8, by omega, b10⟩⟩
  -- no bracket can stand there
  have no57 : ∀ M1, gp_rF M M1 → M1.1 0 9 = nI p → (p < t.length → gp_stp s (t.getD p 0) = none) → (p = t.length → s.1 = 2) → gp_bad M1 t := fun M1 _ h9 hn he => ⟨p, s, g3, hpl, hn, fun h => by
    have h2 := he h
    intro hm
    rcases hm with hm | hm | hm <;> omega, h9⟩
  have n57 : ∀ M1, M1.1 0 9 = nI p → f12_readPart_57 W (nI r) M1 = some M1 := fun M1 h9 => by
    unfold f12_readPart_57
    rw [gp_needN h9 (by omega), gp_eB, gp_nfine h9 (by omega), gp_eB2, if_pos rfl]
  have hstart : f12_readPart W (nI r) M = (if gp_isL ((gp_hr t p).getD 0) = true then f12_readPart_23 W (nI r) M else if gp_hr t p = some 40 then (if s.2.2.1.length = 7 then some (gz_w M 0 9 (nI p)) else f12_readPart_57 W (nI r) M) else f12_readPart_57 W (nI r) M) := by
    unfold f12_readPart
    rw [gp_hereE g1, gp_eB2, show (97 : Int32) = nI 97 from rfl, show (104 : Int32) = nI 104 from rfl, gp_inE g1 (by omega) (by omega), gp_eB2, gp_hereE g1, gp_eB2, gp_hereE g1, gp_eB2]
    cases e : gp_hr t p with
    | none =>
      rw [if_pos rfl, if_neg (show ¬ gp_o none = (46 : Int32) by decide), if_neg (show ¬ gp_o none = (40 : Int32) by decide), if_neg (by decide), if_neg (by simp)]
    | some c =>
      have hc := ho c e
      rw [show gp_o (some c) = nI c from rfl]
      show (if (if 97 ≤ c ∧ c ≤ 104 then (1 : Int32) else 0) = 0 then _ else _) = if gp_isL c = true then _ else _
      unfold gp_isL
      by_cases h1 : 97 ≤ c ∧ c ≤ 104
      · rw [if_neg (show ¬ ((if 97 ≤ c ∧ c ≤ 104 then (1 : Int32) else 0) = 0) from by rw [if_pos h1]; decide), if_pos (by simp [h1.1, h1.2])]
      · rw [if_pos (show (if 97 ≤ c ∧ c ≤ 104 then (1 : Int32) else 0) = 0 from if_neg h1)]
        by_cases h46 : c = 46
        · rw [if_pos (show nI c = 46 from by rw [h46]; rfl), if_pos (by simp [h46])]
        · rw [if_neg (show ¬ nI c = (46 : Int32) from fun e => h46 ((nI_eq (b := 46) (by omega) (by omega)).mp e)), if_neg (show ¬ ((c == 46 || (decide (97 ≤ c) && decide (c ≤ 104))) = true) from by simp [h46]; omega)]
          by_cases h40 : c = 40
          · rw [if_pos (show nI c = 40 from by rw [h40]; rfl), if_pos (show some c = some 40 by rw [h40]), g7]
            by_cases h6 : s.2.2.1.length = 7
            · rw [if_pos (show nI (s.2.2.1.length - 1) = 6 from by rw [h6]; rfl), if_pos h6, gp_faultE g1, gp_eB, n57 _ (gp_gs _ _ _ _)]
            · rw [if_neg (show ¬ nI (s.2.2.1.length - 1) = (6 : Int32) from fun e => by have := (nI_eq (b := 6) (by omega) (by omega)).mp e; omega), if_neg h6]
          · rw [if_neg (show ¬ nI c = (40 : Int32) from fun e => h40 ((nI_eq (b := 40) (by omega) (by omega)).mp e)), if_neg (fun e => h40 (Option.some.inj e))]
  rw [hstart]
  by_cases hL : gp_isL ((gp_hr t p).getD 0) = true
  · rw [if_pos hL]
    cases e : gp_hr t p with
    | none => rw [e] at hL; exact absurd hL (by decide)
    | some c =>
      rw [e] at hL
      exact let23 c e hL
  · rw [if_neg hL]
    by_cases h40 : gp_hr t p = some 40
    · obtain ⟨hc256, hpl', htp⟩ := gp_hr_lt g1 h40
      have hin : gp_stp s (t.getD p 0) = gp_inP s 40 := by rw [htp]; exact gp_stp_inP h23 (fun _ => Or.inr rfl)
      rw [if_pos h40]
      by_cases h6 : s.2.2.1.length = 7
      · rw [if_pos h6]
        refine ⟨_, rfl, gp_rF.w0 _ (by omega), Or.inl (no57 _ (gp_rF.w0 _ (by omega)) (gp_gs _ _ _ _) (fun _ => ?_) (fun h => by omega))⟩
        rw [hin]
        unfold gp_inP
        rw [if_neg (by decide), if_neg (by omega)]
      · rw [if_neg h6]
        have hLk : (gp_eP s).2.2.1.length = k := by rw [hlen]; exact hk
        have hst : gp_stp s (t.getD p 0) = some (gp_brk s) := by
          rw [hin]
          unfold gp_inP
          rw [if_neg (by decide), if_pos ⟨rfl, by omega⟩]
        have hc' : t.getD p 0 < 256 := by rw [htp]; exact hc256
        obtain ⟨N, hN⟩ : ∃ N, N = gz_w (gz_w M 0 8 (nI (p + 1))) 0 24 (nI k) := ⟨_, rfl⟩
        have aN0 : gp_at (gz_w M 0 8 (nI (p + 1))) t (p + 1) := g1.nx hpl'
        have nF : gp_rF M N := by rw [hN]; exact (gp_rF.w0 _ (by omega)).trans (gp_rF.w0 _ (by omega))
        have nc : ∀ a, a ≠ 0 → N.1 a = M.1 a := fun a ha => by rw [hN, gp_wc _ ha, gp_wc _ ha]
        have aN : gp_at N t (p + 1) := by rw [hN]; exact aN0.frF (gp_rF.w0 _ (by omega)) (gp_gn (by omega)) (gp_gn (by omega))
        have gN : gp_good N t (p + 1) (gp_brk s) (gp_brk s).2.1 := ⟨aN, gp_stp_w hc' g2 hst, gp_itr_s g3 hst, gp_good_u g2 hc' hst g4, g5.fr (fun a h1 h2 => nc a (by omega)), g6.fr (fun a h1 h2 => nc a (by omega)), by rw [hN, gp_gs]; show nI k = nI (((none, none) :: (gp_eP s).2.2.1).length - 1); rw [List.length_cons, hLk, Nat.add_sub_cancel]⟩
        obtain ⟨M8, w1, w2, w3⟩ := hW (by omega) (p + 1) (gp_brk s) N (gp_eP s).2.2.1 gN rfl rfl hLk hT1
        have e57 : f12_readPart_57 W (nI r) M = gz_bd (f12_need 41 M8) fun M10 => gz_lt (gz_w M10 0 24 (M10.1 0 24 - 1)) fun M12 => f12_readPart_102 W gz_FU (nI r) M12 := by
          unfold f12_readPart_57
          rw [show (40 : Int32) = nI 40 from rfl, gp_needE g1 (by omega), if_pos h40, gp_eB, gp_fineE aN0, gp_eB2, if_neg (show ¬ (1 : Int32) = 0 by decide), gp_gn (by omega), g7, nI_1, hk, Nat.sub_add_cancel hk1, gp_eL, ← hN, w1, gp_eB]
        rw [e57]
        rcases w3 with hb | ⟨p', s', w, ch', wh', a1, a2, a3, a4, a5, a6, a7, a8, a9, a10⟩
        · obtain ⟨q, q1, q2⟩ := hb.nf h80
          have hb' : gp_bad (gz_w M8 0 24 (M8.1 0 24 - 1)) t := hb.w (by omega)
          rw [gp_needN q2 q1, gp_eB, gp_eL, show gz_FU = 999999 + 1 from rfl, gp_102N W _ hb' h80]
          exact ⟨_, rfl, (nF.trans w2).trans (gp_rF.w0 _ (by omega)), Or.inl hb'⟩
        · obtain ⟨b1, b2, b3, b4, b5, b6, b7⟩ := a1
          have hl2 : s'.2.2.1.length = k + 1 := by rw [a3, List.length_cons, hLk]
          have hsuf : ∀ c, gp_hr t p' = some c → ¬ (c = 42 ∨ c = 43 ∨ c = 63) := fun c hc h => a8 (by rcases h with rfl | rfl | rfl <;> simp [hc])
          have hip : ∀ c, gp_hr t p' = some c → ¬ (gp_isL c = true ∨ c = 40) := fun c hc h => by
            rw [hc] at a9
            unfold gp_isP at a9
            rcases h with h | h
            · simp [h] at a9
            · simp [h] at a9
          rw [show (41 : Int32) = nI 41 from rfl, gp_needE b1 (by omega)]
          by_cases h41 : gp_hr t p' = some 41
          · obtain ⟨_, hpl2, htp2⟩ := gp_hr_lt b1 h41
            have hst2 : gp_stp s' (t.getD p' 0) = some (gp_cls s') := by
              rw [htp2]
              unfold gp_stp
              rw [if_neg (by omega), if_neg (by omega), if_neg (by omega), if_pos a2, if_neg (hip 41 h41), if_neg (by decide), if_neg (by decide), if_pos rfl, if_neg (by omega)]
            have hc2 : t.getD p' 0 < 256 := by rw [htp2]; decide
            obtain ⟨ch2, wh2, L2, eL2, eC2⟩ := gp_eCh_f b2 (by omega)
            rw [a3] at eL2
            cases eL2
            have hcl : gp_cls s' = (3, (gp_eP s').2.1, (gp_eP s).2.2.1, some w) := by
              unfold gp_cls
              rw [eC2, a4]
            have hsm2 := (gp_eP_f b2 (by omega)).1
            have aQ : gp_at (gz_w M8 0 8 (nI (p' + 1))) t (p' + 1) := b1.nx hpl2
            have b7' : M8.1 0 24 = nI k := by rw [b7, hl2, Nat.add_sub_cancel]
            rw [if_pos h41, gp_eB, gp_gn (by omega), b7', gp_eL]
            obtain ⟨k', rfl⟩ : ∃ k', k = k' + 1 := ⟨k - 1, by omega⟩
            rw [nI_pred]
            have cQ : ∀ a, a ≠ 0 → (gz_w (gz_w M8 0 8 (nI (p' + 1))) 0 24 (nI k')).1 a = M8.1 a := fun a ha => by rw [gp_wc _ ha, gp_wc _ ha]
            have gQ : gp_good (gz_w (gz_w M8 0 8 (nI (p' + 1))) 0 24 (nI k')) t (p' + 1) (gp_cls s') (gp_cls s').2.1 := by
              refine ⟨aQ.frF (gp_rF.w0 _ (by omega)) (gp_gn (by omega)) (gp_gn (by omega)), gp_stp_w hc2 b2 hst2, gp_itr_s b3 hst2, gp_good_u b2 hc2 hst2 b4, ?_, ?_, ?_⟩
              · rw [hcl]; exact b5.fr (fun a h1 h2 => cQ a (by omega))
              · rw [hcl]; exact b6.fr (fun a h1 h2 => cQ a (by omega))
              · rw [gp_gs, hcl]
                show nI k' = nI ((gp_eP s).2.2.1.length - 1)
                rw [hLk, Nat.add_sub_cancel]
            have pQ : gp_pc (gz_w (gz_w M8 0 8 (nI (p' + 1))) 0 24 (nI k')) w := by
              refine ⟨?_, ?_, ?_⟩
              · rw [gp_gn (by omega), gp_gn (by omega)]; exact a5.1
              · rw [gp_gn (by omega), gp_gn (by omega)]; exact a5.2.1
              · rw [gp_gn (by omega), gp_gn (by omega)]; exact a5.2.2
            obtain ⟨M', p2, s2, P2, c1, c2, c3, c4, c5, c6, c7, c8, c9, c10, _⟩ := gp_sufL W (r := r) gz_FU (p' + 1) (gp_cls s') _ w (by unfold gz_FU; omega) gQ (by rw [hcl]) (by rw [hcl]) pQ (by rw [hcl]; show (gp_eP s').2.1.1 = r; rw [hsm2.1]; exact a6)
            exact ⟨M', c1, (((nF.trans w2).trans (gp_rF.w0 _ (by omega))).trans (gp_rF.w0 _ (by omega))).trans c2, Or.inr ⟨p2, s2, P2, c3, c4, by rw [c5, hcl], c6, c7, c8, by omega, c10⟩⟩
          · have hb' : gp_bad (gz_w (gz_w M8 0 9 (nI p')) 0 24 ((gz_w M8 0 9 (nI p')).1 0 24 - 1)) t := by
              refine gp_bad.w ⟨p', s', b3, b1.2.1, fun hlt => ?_, fun he hm => ?_, gp_gs _ _ _ _⟩ (by omega)
              · have e : gp_hr t p' = some (t.getD p' 0) := by unfold gp_hr; rw [if_pos hlt]
                unfold gp_stp
                rw [if_neg (by omega), if_neg (by omega), if_neg (by omega), if_pos a2, if_neg (hip _ e), if_neg (hsuf _ e), if_neg (fun h => a10 (by rw [e, h])), if_neg (fun h => h41 (by rw [e, h])), if_neg (by omega)]
              · rcases hm with hm | hm | hm <;> omega
            rw [if_neg h41, gp_eB, gp_eL, show gz_FU = 999999 + 1 from rfl, gp_102N W _ hb' h80]
            exact ⟨_, rfl, ((nF.trans w2).trans (gp_rF.w0 _ (by omega))).trans (gp_rF.w0 _ (by omega)), Or.inl hb'⟩
    · rw [if_neg h40]
      have e57 : f12_readPart_57 W (nI r) M = some (gz_w M 0 9 (nI p)) := by
        unfold f12_readPart_57
        rw [show (40 : Int32) = nI 40 from rfl, gp_needE g1 (by omega), if_neg h40, gp_eB, gp_nfine (gp_gs _ _ _ _) (by omega), gp_eB2, if_pos rfl]
      have h2 : s.1 = 2 := by
        rcases h23 with h | h
        · exact h
        · have := hP h
          cases e : gp_hr t p with
          | none => rw [e] at this; cases this
          | some c =>
            rw [e] at this hL h40
            unfold gp_isP at this
            have hL : ¬ gp_isL c = true := hL
            have h4 : ¬ c = 40 := fun h => h40 (by rw [h])
            simp [hL, h4] at this
      refine ⟨_, e57, gp_rF.w0 _ (by omega), Or.inl (no57 _ (gp_rF.w0 _ (by omega)) (gp_gs _ _ _ _) (fun hlt => ?_) (fun _ => h2))⟩
      have e : gp_hr t p = some (t.getD p 0) := by unfold gp_hr; rw [if_pos hlt]
      rw [e] at hL h40
      have hL : ¬ gp_isL (t.getD p 0) = true := hL
      rw [gp_stp_inP h23 (fun h => by omega)]
      unfold gp_inP
      rw [if_neg hL, if_neg (fun h => h40 (by rw [h.1]))]
end
