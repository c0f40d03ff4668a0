/-! rules told as a text: the reference reads a chain and a way -/
section
variable {t : List Nat}
theorem gp_rdChain {r k p : Nat} {s : gp_S} {M : gz_M} {W : Int32 → gz_M → Option gz_M} (hW : k ≤ 6 → gp_wayS t r k W) {wh : Option gp_P} {L : List (Option gp_P × Option gp_P)} (hk : L.length + 1 = k) (hg : gp_good M t p s s.2.1) (h2 : s.1 = 2) (hL : s.2.2.1 = (none, wh) :: L) (hr : s.2.1.1 = r) : ∃ M', f12_readChain W (nI r) M = some M' ∧ gp_rF M M' ∧ (gp_bad M' t ∨ ∃ p' s' ch' q', gp_good M' t p' s' (gp_eP s').2.1 ∧ s'.1 = 3 ∧ s'.2.2.1 = (ch', wh) :: L ∧ gp_mgO ch' s'.2.2.2 = some q' ∧ gp_pc M' q' ∧ s'.2.1.1 = r ∧ p < p' ∧ gp_noSuf t p' ∧ gp_isP (gp_hr t p') = false) := by
  have h80 := hg.1.1
  have hw := hg.2.1
  have hpn := (hw.2.2.2.2 (Or.inr h2)).1
  have eE : gp_eP s = (s.1, s.2.1, (none, wh) :: L, none) := by
    unfold gp_eP
    rw [hL, hpn]
    rfl
  obtain ⟨N, e1, e2, e3⟩ := gp_rdPart hW (s := s) (by rw [eE]; exact hg) (Or.inl h2) (fun h => by omega) hr (by rw [hL, List.length_cons]; exact hk)
  unfold f12_readChain
  rw [e1, gp_eB]
  rcases e3 with hb | ⟨p2, s2, P, a1, a2, a3, a4, a5, a6, a7, a8⟩
  · obtain ⟨z, z1, z2⟩ := hb.nf h80
    rw [show gz_FU = 999999 + 1 from rfl, f12_readChain_5, gp_nfine z2 z1, gp_eB2, if_pos rfl]
    exact ⟨N, rfl, e2, Or.inl hb⟩
  · have hL2 : s2.2.2.1 = (none, wh) :: L := by rw [a3, eE]
    have eE2 : (gp_eP s2).2.1 = s2.2.1 := by
      unfold gp_eP
      rw [hL2]
      rfl
    obtain ⟨M', c1, c2, c3⟩ := gp_chL hW hk gz_FU p2 s2 N none P (by unfold gz_FU; omega) (by rw [eE2]; exact a1) a2 hL2 (by rw [a4]; rfl) a5 a6 a8
    refine ⟨M', c1, e2.trans c2, c3.imp id ?_⟩
    rintro ⟨p', s', ch', q', r1, r2, r3, r4, r5, r6, r7, r8, r9⟩
    exact ⟨p', s', ch', q', r1, r2, r3, r4, r5, r6, by omega, r8, r9⟩
end
