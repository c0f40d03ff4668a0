/-! rules told as a text: the reference reads a way, at every depth -/
theorem gp_way {t : List Nat} {r : Nat} : ∀ (n k : Nat), k + n = 8 → 1 ≤ n → gp_wayS t r k (f12_readWay n)
  | 0, k, _, h => absurd h (by omega)
  | n + 1, k, hn, _ => by
    intro p s M L hg h2 hL hk hr
    have h80 := hg.1.1
    have hW : k + 1 ≤ 6 → gp_wayS t r (k + 1) (f12_readWay n) := fun h => gp_way n (k + 1) (by omega) (by omega)
    show ∃ M', f12_readWay1 (f12_readWay n) (nI r) M = some M' ∧ _
    unfold f12_readWay1
    obtain ⟨N, e1, e2, e3⟩ := gp_rdChain hW (by rw [hk]) hg h2 hL hr
    rw [e1, gp_eB]
    rcases e3 with hb | ⟨p2, s2, ch2, q, a1, a2, a3, a4, a5, a6, a7, a8, a9⟩
    · obtain ⟨z, z1, z2⟩ := hb.nf h80
      rw [show gz_FU = 999999 + 1 from rfl, f12_readWay1_5, gp_passN z2 z1, gp_eB2, if_pos rfl]
      exact ⟨N, rfl, e2, Or.inl hb⟩
    · obtain ⟨M', c1, c2, c3⟩ := gp_wayL hW (by rw [hk]) gz_FU p2 s2 N ch2 none q (by unfold gz_FU; omega) a1 a2 a3 (by rw [a4]; rfl) a5 a6 a8 a9
      refine ⟨M', c1, e2.trans c2, c3.imp id ?_⟩
      rintro ⟨p', s', w', ch', wh', r1, r2, r3, r4, r5, r6, r7, r8⟩
      exact ⟨p', s', w', ch', wh', r1, r2, r3, r4, r5, r6, by omega, r8⟩
