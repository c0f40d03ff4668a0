/-! rules told as a text: the reference reads a way -/
section
variable {t : List Nat}
theorem gp_w52 (W : Int32 → gz_M → Option gz_M) (c5 : Int32 → gz_M → Option gz_M) (x a b : Int32) {z : Int32} (hz : z = 0 ∨ z = 1) (M : gz_M) : f12_readWay1_52 W c5 x a b z M = c5 x (gz_w (gz_w (gz_w M 0 21 z) 0 22 (M.1 0 22 ||| a)) 0 23 (M.1 0 23 ||| b)) := by
  have h0 : gz_b01 z = true := by rcases hz with rfl | rfl <;> decide
  unfold f12_readWay1_52
  rw [h0, gp_eC, gp_eL, gp_gn (by omega), gp_eL, gp_gn (by omega), gp_gn (by omega), gp_eL]
theorem gp_wayL {r k : Nat} {W : Int32 → gz_M → Option gz_M} (hW : k ≤ 6 → gp_wayS t r k W) {L : List (Option gp_P × Option gp_P)} (hk : L.length + 1 = k) : ∀ (n p : Nat) (s : gp_S) (M : gz_M) (ch wh : Option gp_P) (w : gp_P), t.length < p + n → gp_good M t p s (gp_eP s).2.1 → s.1 = 3 → s.2.2.1 = (ch, wh) :: L → gp_unO wh (gp_mgO ch s.2.2.2) = some w → gp_pc M w → s.2.1.1 = r → gp_noSuf t p → gp_isP (gp_hr t p) = false → ∃ M', f12_readWay1_5 W n (nI r) M = some M' ∧ gp_rF M M' ∧ (gp_bad M' t ∨ ∃ p' s' w' ch' wh', gp_good M' t p' s' (gp_eP s').2.1 ∧ s'.1 = 3 ∧ s'.2.2.1 = (ch', wh') :: L ∧ gp_unO wh' (gp_mgO ch' s'.2.2.2) = some w' ∧ gp_pc M' w' ∧ s'.2.1.1 = r ∧ p ≤ p' ∧ gp_noSuf t p' ∧ gp_isP (gp_hr t p') = false ∧ ¬ gp_hr t p' = some 124) := by
  intro n
  induction n with
  | zero =>
    intro p s M ch wh w hn hg
    have := hg.1.2.1
    omega
  | succ n ih =>
    intro p s M ch wh w hn hg h3 hL hq hp hr hs hi
    have g1 := hg.1
    have h80 := g1.1
    have hw := hg.2.1
    obtain ⟨f1, _⟩ := gp_eP_f hw (by omega)
    rw [f12_readWay1_5, show (124 : Int32) = nI 124 from rfl, gp_passE g1 (by omega)]
    by_cases h124 : gp_hr t p = some 124
    · obtain ⟨_, hpl, htp⟩ := gp_hr_lt g1 h124
      obtain ⟨ch1, wh1, L1, eL1, eC⟩ := gp_eCh_f hw (by omega)
      rw [hL] at eL1
      cases eL1
      rw [hq] at eC
      have hst : gp_stp s (t.getD p 0) = some (2, (gp_eP s).2.1, (none, some w) :: L, none) := by
        rw [htp]
        unfold gp_stp
        rw [if_neg (by omega), if_neg (by omega), if_neg (by omega), if_pos h3, if_neg (by decide), if_neg (by decide), if_pos rfl, eC]
      have hc' : t.getD p 0 < 256 := by rw [htp]; decide
      have g2 : gp_good (gz_w M 0 8 (nI (p + 1))) t (p + 1) (2, (gp_eP s).2.1, (none, some w) :: L, none) (gp_eP s).2.1 := by
        refine ⟨g1.nx hpl, gp_stp_w hc' hw hst, gp_itr_s hg.2.2.1 hst, gp_good_u hw hc' hst hg.2.2.2.1, hg.2.2.2.2.1.fr (fun a h1 h2 => gp_wc _ (by omega)), hg.2.2.2.2.2.1.fr (fun a h1 h2 => gp_wc _ (by omega)), ?_⟩
        rw [gp_gn (by omega), hg.2.2.2.2.2.2, hL]
        rfl
      obtain ⟨N, e1, e2, e3⟩ := gp_rdChain hW hk (s := (2, (gp_eP s).2.1, (none, some w) :: L, none)) g2 rfl rfl (by show (gp_eP s).2.1.1 = r; rw [f1.1]; exact hr)
      rw [if_pos h124, gp_eB2, if_neg (show ¬ (1 : Int32) = 0 by decide), gp_eL, gp_eL, gp_eL, gp_gn (by omega), gp_gn (by omega), gp_gn (by omega), e1, gp_eB]
      obtain ⟨R, hR⟩ : ∃ R, R = gz_w (gz_w (gz_w N 0 21 (if M.1 0 21 = 0 then (if N.1 0 21 = 0 then 0 else 1) else 1)) 0 22 (N.1 0 22 ||| M.1 0 22)) 0 23 (N.1 0 23 ||| M.1 0 23) := ⟨_, rfl⟩
      have eR : (if M.1 0 21 = 0 then (if N.1 0 21 = 0 then f12_readWay1_52 W (f12_readWay1_5 W n) (nI r) (M.1 0 22) (M.1 0 23) 0 N else f12_readWay1_52 W (f12_readWay1_5 W n) (nI r) (M.1 0 22) (M.1 0 23) 1 N) else f12_readWay1_52 W (f12_readWay1_5 W n) (nI r) (M.1 0 22) (M.1 0 23) 1 N) = f12_readWay1_5 W n (nI r) R := by
        rw [hR, gp_w52 _ _ _ _ _ (Or.inl rfl), gp_w52 _ _ _ _ _ (Or.inr rfl)]
        split
        · split <;> rfl
        · rfl
      have rF : gp_rF N R := by rw [hR]; exact ((gp_rF.w0 _ (by omega)).trans (gp_rF.w0 _ (by omega))).trans (gp_rF.w0 _ (by omega))
      have rc : ∀ a, a ≠ 0 → R.1 a = N.1 a := fun a ha => by rw [hR, gp_wc _ ha, gp_wc _ ha, gp_wc _ ha]
      have ro : ∀ i, i ≠ 21 → i ≠ 22 → i ≠ 23 → R.1 0 i = N.1 0 i := fun i h1 h2 h3 => by rw [hR, gp_gn (by omega), gp_gn (by omega), gp_gn (by omega)]
      rw [eR]
      have hF : gp_rF M R := ((gp_rF.w0 _ (by omega)).trans e2).trans rF
      rcases e3 with hb | ⟨p2, s2, ch2, q, a1, a2, a3, a4, a5, a6, a7, a8, a9⟩
      · have hb3 : gp_bad R t := by rw [hR]; exact ((hb.w (by omega)).w (by omega)).w (by omega)
        obtain ⟨z, z1, z2⟩ := hb3.nf h80
        obtain ⟨n', rfl⟩ : ∃ n', n = n' + 1 := ⟨n - 1, by omega⟩
        rw [f12_readWay1_5, gp_passN z2 z1, gp_eB2, if_pos rfl]
        exact ⟨R, rfl, hF, Or.inl hb3⟩
      · obtain ⟨b1, b2, b3, b4, b5, b6, b7⟩ := a1
        have nz : ∀ b : Bool, (nI (if b = true then 1 else 0) = 0) ↔ b = false := fun b => by cases b <;> decide
        have pR : gp_pc R (gp_unP w q) := by
          refine ⟨?_, ?_, ?_⟩
          · rw [hR, gp_gn (by omega), gp_gn (by omega), gp_gs, hp.1, a5.1]
            show _ = nI (if (w.2.2 || q.2.2) = true then 1 else 0)
            cases w.2.2 <;> cases q.2.2 <;> decide
          · rw [hR, gp_gn (by omega), gp_gs, hp.2.1, a5.2.1, gp_or, Nat.or_comm]
            rfl
          · rw [hR, gp_gs, hp.2.2, a5.2.2, gp_or, Nat.or_comm]
            rfl
        have gR : gp_good R t p2 s2 (gp_eP s2).2.1 := ⟨b1.frF rF (ro 8 (by omega) (by omega) (by omega)) (ro 9 (by omega) (by omega) (by omega)), b2, b3, b4, b5.fr (fun a h1 h2 => rc a (by omega)), b6.fr (fun a h1 h2 => rc a (by omega)), by rw [ro 24 (by omega) (by omega) (by omega)]; exact b7⟩
        obtain ⟨M', c1, c2, c3⟩ := ih p2 s2 R ch2 (some w) (gp_unP w q) (by omega) gR a2 a3 (by rw [a4]; rfl) pR a6 a8 a9
        refine ⟨M', c1, hF.trans c2, c3.imp id ?_⟩
        rintro ⟨p', s', w', ch', wh', r1, r2, r3, r4, r5, r6, r7, r8⟩
        exact ⟨p', s', w', ch', wh', r1, r2, r3, r4, r5, r6, by omega, r8⟩
    · rw [if_neg h124, gp_eB2, if_pos rfl]
      exact ⟨M, rfl, gp_rF.refl M, Or.inr ⟨p, s, w, ch, wh, hg, h3, hL, hq, hp, hr, Nat.le_refl _, hs, hi, h124⟩⟩
end
