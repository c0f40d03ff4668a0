/-! rules told as a text: the reference reads a chain -/
section
variable {M M' : gz_M} {t : List Nat} {p c : Nat} {s : gp_S}
theorem gp_c71 (W : Int32 → gz_M → Option gz_M) (c5 : Int32 → gz_M → Option gz_M) (x v a b : Int32) (M : gz_M) : f12_readChain_71 W c5 x v a b M = c5 x (gz_w (gz_w (gz_w M 0 22 b) 0 23 (if M.1 0 21 = 0 then M.1 0 23 else a ||| M.1 0 23)) 0 21 (if v = 0 then 0 else if M.1 0 21 = 0 then 0 else 1)) := by
  have h0 : gz_b01 0 = true := by decide
  have h1 : gz_b01 1 = true := by decide
  have e96 : ∀ N z, N.1 0 21 = M.1 0 21 → f12_readChain_96 W c5 x v z N = c5 x (gz_w (gz_w N 0 23 z) 0 21 (if v = 0 then 0 else if M.1 0 21 = 0 then 0 else 1)) := fun N z hN => by
    unfold f12_readChain_96
    rw [gp_eL, gp_gn (by omega), hN, h0, h1]
    by_cases hv : v = 0
    · rw [if_pos hv, if_pos hv]; rfl
    · rw [if_neg hv, if_neg hv]
      by_cases hm : M.1 0 21 = 0
      · rw [if_pos hm, if_pos hm]; rfl
      · rw [if_neg hm, if_neg hm]; rfl
  unfold f12_readChain_71
  rw [gp_eL, gp_gn (by omega), gp_gn (by omega)]
  by_cases hm : M.1 0 21 = 0
  · rw [if_pos hm, e96 _ _ (gp_gn (by omega)), if_pos hm, if_pos hm]
  · rw [if_neg hm, e96 _ _ (gp_gn (by omega)), if_neg hm, if_neg hm]
theorem gp_chL {r k : Nat} {W : Int32 → gz_M → Option gz_M} (hW : k ≤ 6 → gp_wayS t r k W) {wh : Option gp_P} {L : List (Option gp_P × Option gp_P)} (hk : L.length + 1 = k) : ∀ (n p : Nat) (s : gp_S) (M : gz_M) (ch : Option gp_P) (q : gp_P), t.length < p + n → gp_good M t p s (gp_eP s).2.1 → s.1 = 3 → s.2.2.1 = (ch, wh) :: L → gp_mgO ch s.2.2.2 = some q → gp_pc M q → s.2.1.1 = r → gp_noSuf t p → ∃ M', f12_readChain_5 W n (nI r) M = some M' ∧ gp_rF M M' ∧ (gp_bad M' t ∨ ∃ p' s' ch' q', gp_good M' t p' s' (gp_eP s').2.1 ∧ s'.1 = 3 ∧ s'.2.2.1 = (ch', wh) :: L ∧ gp_mgO ch' s'.2.2.2 = some q' ∧ gp_pc M' q' ∧ s'.2.1.1 = r ∧ p ≤ p' ∧ gp_noSuf t p' ∧ gp_isP (gp_hr t p') = false) := by
  intro n
  induction n with
  | zero =>
    intro p s M ch q hn hg
    have := hg.1.2.1
    omega
  | succ n ih =>
    intro p s M ch q hn hg h3 hL hq hp hr hs
    have g1 := hg.1
    have h80 := g1.1
    have hw := hg.2.1
    have h7 := hw.1.2.2.1
    obtain ⟨f1, f2, f3, ch0, wh0, L0, eL, eP1, eP2, eP3, eP4⟩ := gp_eP_f hw (by omega)
    rw [hL] at eL
    cases eL
    have hmd4 := (hw.2.2.1 (by omega)).1
    have hT1 : (gp_eP s).2.1.1 = r := by rw [f1.1]; exact hr
    rw [f12_readChain_5, gp_fineE g1, gp_eB2, if_neg (show ¬ (1 : Int32) = 0 by decide), gp_isPE g1, gp_eB2]
    cases hip : gp_isP (gp_hr t p) with
    | false =>
      rw [if_pos (show (if false = true then (1 : Int32) else 0) = 0 from rfl)]
      exact ⟨M, rfl, gp_rF.refl M, Or.inr ⟨p, s, ch, q, hg, h3, hL, hq, hp, hr, Nat.le_refl _, hs, hip⟩⟩
    | true =>
      rw [if_neg (show ¬ (if true = true then (1 : Int32) else 0) = 0 from by decide)]
      have hlk : s.2.2.1.length = k := by rw [hL, List.length_cons]; exact hk
      obtain ⟨N, e1, e2, e3⟩ := gp_rdPart hW hg (Or.inr h3) (fun _ => hip) hr hlk
      have hm5 : N.1 5 r = nI (gp_md s.2.1) := by
        rw [e2.2.1 5 (by omega) (by omega) (by omega) (by omega) (by omega), ← hT1, hg.2.2.2.2.2.1.1, f1.md]
      rw [gp_eL, gp_eL, gp_eL, e1, gp_eB, gp_ckb (show r < 8 by omega) (by omega), nI_clamp (by omega), hm5]
      have all71 : ∀ N2, (if M.1 0 21 = 0 then f12_readChain_71 W (f12_readChain_5 W n) (nI r) (M.1 0 21) (M.1 0 23) (M.1 0 22) N2 else f12_readChain_71 W (f12_readChain_5 W n) (nI r) (M.1 0 21) (M.1 0 23) (M.1 0 22 ||| N2.1 0 22) N2) = f12_readChain_5 W n (nI r) (gz_w (gz_w (gz_w N2 0 22 (if M.1 0 21 = 0 then M.1 0 22 else M.1 0 22 ||| N2.1 0 22)) 0 23 (if N2.1 0 21 = 0 then N2.1 0 23 else M.1 0 23 ||| N2.1 0 23)) 0 21 (if M.1 0 21 = 0 then 0 else if N2.1 0 21 = 0 then 0 else 1)) := fun N2 => by
        by_cases h : M.1 0 21 = 0
        · rw [if_pos h, gp_c71, if_pos h, if_pos h]
        · rw [if_neg h, gp_c71, if_neg h, if_neg h]
      rcases e3 with hb | ⟨p2, s2, P, a1, a2, a3, a4, a5, a6, a7, a8⟩
      · obtain ⟨N2, d1, d2, d3, _⟩ := gp_folG hmd4 (M.1 0 23) (N.1 0 22) N
        have hb2 : gp_bad N2 t := by
          obtain ⟨z, sz, z1, z2, z3, z4, z5⟩ := hb
          exact ⟨z, sz, z1, z2, z3, z4, by rw [d3 0 (by omega)]; exact z5⟩
        rw [d1, gp_eB, all71]
        have hn0 : 0 < n := by
          have : p < t.length := by
            cases e : gp_hr t p with
            | none => rw [e] at hip; cases hip
            | some c => exact (gp_hr_lt g1 e).2.1
          omega
        obtain ⟨n', rfl⟩ : ∃ n', n = n' + 1 := ⟨n - 1, by omega⟩
        have hb3 : gp_bad (gz_w (gz_w (gz_w N2 0 22 (if M.1 0 21 = 0 then M.1 0 22 else M.1 0 22 ||| N2.1 0 22)) 0 23 (if N2.1 0 21 = 0 then N2.1 0 23 else M.1 0 23 ||| N2.1 0 23)) 0 21 (if M.1 0 21 = 0 then 0 else if N2.1 0 21 = 0 then 0 else 1)) t := ((hb2.w (by omega)).w (by omega)).w (by omega)
        obtain ⟨z, z1, z2⟩ := hb3.nf h80
        rw [f12_readChain_5, gp_nfine z2 z1, gp_eB2, if_pos rfl]
        exact ⟨_, rfl, (((e2.trans (gp_rF.of14 d2 d3)).trans (gp_rF.w0 _ (by omega))).trans (gp_rF.w0 _ (by omega))).trans (gp_rF.w0 _ (by omega)), Or.inl hb3⟩
      · obtain ⟨b1, b2, b3, b4, b5, b6, b7⟩ := a1
        have hL2 : s2.2.2.1 = (some q, wh) :: L := by rw [a3, eP1, hq]
        have hcc2 := b2.2.2.1 (by omega)
        have hqok : gp_okP s2.2.1 q := (hcc2.2.2.2.2.1 (some q, wh) (by rw [hL2]; exact List.mem_cons_self ..)).1 q rfl
        obtain ⟨k1, k2, k3, ch1, wh1, L1, m1, m2, m3, m4, m5⟩ := gp_eP_f b2 (by omega)
        rw [hL2] at m1
        cases m1
        rw [a4] at m2 m5
        have m5 : (gp_eP s2).2.1 = gp_lnk s2.2.1 q.2.1 P.1 := m5
        have hmdd : gp_md s2.2.1 = gp_md s.2.1 := by
          have h5 := b6.1
          rw [a6, hm5] at h5
          exact ((nI_eq (by omega) (by have := hcc2.1; omega)).mp h5).symm
        obtain ⟨N2, d1, d2, d3, d4⟩ := gp_folE (a := q.2.1) (f := P.1) b5 hcc2.1 hqok.2
        rw [hmdd] at d1
        have d0 : ∀ i, N2.1 0 i = N.1 0 i := fun i => by rw [d3 0 (by omega)]
        have q2 : M.1 0 23 = nI q.2.1 := hp.2.2
        have q1 : M.1 0 22 = nI q.1 := hp.2.1
        have P1 : N.1 0 22 = nI P.1 := a5.2.1
        rw [q2, P1, d1, gp_eB, ← q2, all71]
        obtain ⟨R, hR⟩ : ∃ R, R = gz_w (gz_w (gz_w N2 0 22 (if M.1 0 21 = 0 then M.1 0 22 else M.1 0 22 ||| N2.1 0 22)) 0 23 (if N2.1 0 21 = 0 then N2.1 0 23 else M.1 0 23 ||| N2.1 0 23)) 0 21 (if M.1 0 21 = 0 then 0 else if N2.1 0 21 = 0 then 0 else 1) := ⟨_, rfl⟩
        have rF : gp_rF N2 R := by rw [hR]; exact ((gp_rF.w0 _ (by omega)).trans (gp_rF.w0 _ (by omega))).trans (gp_rF.w0 _ (by omega))
        have rc : ∀ a, a ≠ 0 → R.1 a = N2.1 a := fun a ha => by rw [hR, gp_wc _ ha, gp_wc _ ha, gp_wc _ ha]
        have ro : ∀ i, i ≠ 21 → i ≠ 22 → i ≠ 23 → R.1 0 i = N.1 0 i := fun i h1 h2 h3 => by rw [hR, gp_gn (by omega), gp_gn (by omega), gp_gn (by omega), d0]
        have nz : ∀ b : Bool, (nI (if b = true then 1 else 0) = 0) ↔ b = false := fun b => by cases b <;> decide
        have pR : gp_pc R (gp_mgP q P) := by
          refine ⟨?_, ?_, ?_⟩
          · rw [hR, gp_gs, d0, hp.1, a5.1]
            show _ = nI (if (q.2.2 && P.2.2) = true then 1 else 0)
            cases q.2.2 <;> cases P.2.2 <;> decide
          · rw [hR, gp_gn (by omega), gp_gn (by omega), gp_gs, hp.1, d0, q1, P1]
            show _ = nI (q.1 ||| if q.2.2 = true then P.1 else 0)
            cases q.2.2 with
            | false => rw [if_pos ((nz false).mpr rfl), if_neg (by decide), Nat.or_zero]
            | true => rw [if_neg (fun h => by cases (nz true).mp h), if_pos rfl, gp_or]
          · rw [hR, gp_gn (by omega), gp_gs, d0, d0, a5.1, q2, a5.2.2]
            show _ = nI (P.2.1 ||| if P.2.2 = true then q.2.1 else 0)
            cases P.2.2 with
            | false => rw [if_pos ((nz false).mpr rfl), if_neg (by decide), Nat.or_zero]
            | true => rw [if_neg (fun h => by cases (nz true).mp h), if_pos rfl, gp_or, Nat.or_comm]
        have gR : gp_good R t p2 s2 (gp_eP s2).2.1 := by
          refine ⟨b1.frF ((gp_rF.of14 d2 d3).trans rF) (ro 8 (by omega) (by omega) (by omega)) (ro 9 (by omega) (by omega) (by omega)), b2, b3, b4, ?_, ?_, by rw [ro 24 (by omega) (by omega) (by omega)]; exact b7⟩
          · rw [m5]; exact d4.fr (fun a h1 h2 => rc a (by omega))
          · have : gp_tc R s2.2.1 := by
              unfold gp_tc
              rw [rc 5 (by omega), rc 6 (by omega), d3 5 (by omega), d3 6 (by omega)]
              exact b6
            exact gp_tc_sm this k1
        obtain ⟨M', c1, c2, c3⟩ := ih p2 s2 R (some q) (gp_mgP q P) (by omega) gR a2 hL2 (by rw [a4]; rfl) pR a6 a8
        rw [← hR]
        refine ⟨M', c1, ((e2.trans (gp_rF.of14 d2 d3)).trans rF).trans c2, c3.imp id ?_⟩
        rintro ⟨p', s', ch', q', r1, r2, r3, r4, r5, r6, r7, r8, r9⟩
        exact ⟨p', s', ch', q', r1, r2, r3, r4, r5, r6, by omega, r8, r9⟩
end
