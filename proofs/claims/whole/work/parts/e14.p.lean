/-! the bound of the rows: a right text's letters belong to its rules -/
section
variable {own : Nat → Nat → Nat} {c : Nat} {s s' : gp_S} {t : List Nat}
theorem gq_osuf (h : gq_oS own s) (h1 : 1 ≤ s.1) (c : Nat) : gq_oS own (gp_suf s c) := by
  have hh := h
  obtain ⟨hT, hc⟩ := h
  obtain ⟨c1, c2⟩ := hc h1
  unfold gp_suf
  split
  · exact hh
  · rename_i p e
    rw [e] at c2
    obtain ⟨p1, p2⟩ := c2 p rfl
    have q : gq_oO (own (gp_md s.2.1)) s.2.1.1 (some (p.1, p.2.1, (if c = 43 then p.2.2 else true))) := fun q hq => by cases hq; exact ⟨p1, p2⟩
    split
    · exact ⟨hT, fun _ => ⟨c1, q⟩⟩
    · have e1 : gp_md (gp_lnk s.2.1 p.2.1 p.1) = gp_md s.2.1 := by
        show (if 1 = 10 + gp_md s.2.1 ∧ s.2.1.1 < 10 ∧ p.2.1.testBit s.2.1.1 = true then _ else s.2.1.2.2 1 s.2.1.1) = s.2.1.2.2 1 s.2.1.1
        rw [if_neg (by omega)]
      refine ⟨hT.lnk p2 p1, fun _ => ?_⟩
      show (∀ x, x ∈ s.2.2.1 → gq_oO (own (gp_md (gp_lnk s.2.1 p.2.1 p.1))) s.2.1.1 x.1 ∧ gq_oO (own (gp_md (gp_lnk s.2.1 p.2.1 p.1))) s.2.1.1 x.2) ∧ gq_oO (own (gp_md (gp_lnk s.2.1 p.2.1 p.1))) s.2.1.1 _
      rw [e1]
      exact ⟨c1, q⟩
theorem gq_obar (hw : gp_wS s) (h : gq_oS own s) (h1 : 1 ≤ s.1) : (∀ d, gq_oS own (d, (gp_eCh s).2.1, (gp_eCh s).2.2.1, none)) ∧ gq_oS own (gp_cls s) := by
  obtain ⟨a1, a2⟩ := gq_oeCh hw h h1
  obtain ⟨hsm, _⟩ := gp_eP_f hw h1
  obtain ⟨ch, wh, L, e1, e2⟩ := gp_eCh_f hw h1
  have eT : (gp_eCh s).2.1 = (gp_eP s).2.1 := by rw [e2]
  refine ⟨fun d => ⟨a1, fun _ => ?_⟩, ?_⟩
  · show (∀ x, x ∈ (gp_eCh s).2.2.1 → gq_oO (own (gp_md (gp_eCh s).2.1)) (gp_eCh s).2.1.1 x.1 ∧ gq_oO (own (gp_md (gp_eCh s).2.1)) (gp_eCh s).2.1.1 x.2) ∧ gq_oO (own (gp_md (gp_eCh s).2.1)) (gp_eCh s).2.1.1 none
    rw [eT, hsm.md, hsm.1]
    exact ⟨a2, gq_oO0⟩
  · unfold gp_cls
    split
    · rename_i x w L' e
      rw [e] at a2
      refine ⟨a1, fun _ => ?_⟩
      show (∀ x, x ∈ L' → gq_oO (own (gp_md (gp_eCh s).2.1)) (gp_eCh s).2.1.1 x.1 ∧ gq_oO (own (gp_md (gp_eCh s).2.1)) (gp_eCh s).2.1.1 x.2) ∧ gq_oO (own (gp_md (gp_eCh s).2.1)) (gp_eCh s).2.1.1 w
      rw [eT, hsm.md, hsm.1]
      exact ⟨fun x hx => a2 x (List.mem_cons_of_mem _ hx), (a2 _ List.mem_cons_self).2⟩
    · exact h
theorem gq_oact (h : gq_oS own s) (h1 : 1 ≤ s.1) (d a : Nat) : gq_oS own (gp_act1 s d a) := by
  refine h.tab h1 rfl (fun b hb => funext fun i => ?_) rfl rfl
  show gp_set s.2.1.2.2 3 s.2.1.1 a b i = _
  unfold gp_set
  rw [if_neg (by omega)]
theorem gq_obeg (h : gq_oS own s) (c : Nat) : gq_oS own (gp_beg s c) := by
  obtain ⟨hT, _⟩ := h
  refine ⟨⟨fun m hm x hx => ?_, fun j hj => ?_⟩, fun _ => ⟨fun x hx => ?_, gq_oO0⟩⟩
  · show gq_oB (own m) (gp_set (gp_set (gp_set s.2.1.2.2 1 s.2.1.1 (c - 48)) 2 s.2.1.1 0) 3 s.2.1.1 0 (10 + m) x) (own m x)
    unfold gp_set
    rw [if_neg (by omega), if_neg (by omega), if_neg (by omega)]
    exact hT.1 m hm x hx
  · have hj : j < s.2.1.1 := hj
    have e1 : gp_set (gp_set (gp_set s.2.1.2.2 1 s.2.1.1 (c - 48)) 2 s.2.1.1 0) 3 s.2.1.1 0 1 j = s.2.1.2.2 1 j := by
      unfold gp_set
      rw [if_neg (by omega), if_neg (by omega), if_neg (by omega)]
    have e5 : gp_set (gp_set (gp_set s.2.1.2.2 1 s.2.1.1 (c - 48)) 2 s.2.1.1 0) 3 s.2.1.1 0 5 j = s.2.1.2.2 5 j := by
      unfold gp_set
      rw [if_neg (by omega), if_neg (by omega), if_neg (by omega)]
    show gq_oB (own (gp_set (gp_set (gp_set s.2.1.2.2 1 s.2.1.1 (c - 48)) 2 s.2.1.1 0) 3 s.2.1.1 0 1 j)) (gp_set (gp_set (gp_set s.2.1.2.2 1 s.2.1.1 (c - 48)) 2 s.2.1.1 0) 3 s.2.1.1 0 5 j) j
    rw [e1, e5]
    exact hT.2 j hj
  · have hx : x ∈ [((none : Option gp_P), (none : Option gp_P))] := hx
    rw [List.mem_singleton.mp hx]
    exact ⟨gq_oO0, gq_oO0⟩
theorem gq_ostp (hw : gp_wS s) (h : gq_oS own s) (e : gp_stp s c = some s') : ∃ own', gq_oS own' s' := by
  unfold gp_stp at e
  by_cases h0 : s.1 = 0
  · rw [if_pos h0] at e
    split at e
    · cases e; exact ⟨own, gq_obeg h c⟩
    · cases e
  rw [if_neg h0] at e
  have h1 : 1 ≤ s.1 := by omega
  by_cases g1 : s.1 = 1
  · rw [if_pos g1] at e
    split at e
    · cases e; exact ⟨own, h.tab h1 rfl (fun _ _ => rfl) rfl rfl⟩
    · cases e
  rw [if_neg g1] at e
  by_cases g2 : s.1 = 2
  · rw [if_pos g2] at e
    exact gq_oinP hw h h1 e
  rw [if_neg g2] at e
  by_cases g3 : s.1 = 3
  · rw [if_pos g3] at e
    split at e
    · exact gq_oinP hw h h1 e
    split at e
    · cases e; exact ⟨own, gq_osuf h h1 c⟩
    split at e
    · cases e; exact ⟨own, (gq_obar hw h h1).1 2⟩
    split at e
    · split at e
      · cases e
      · cases e; exact ⟨own, (gq_obar hw h h1).2⟩
    split at e
    · split at e
      · cases e; exact ⟨own, gq_oact h h1 _ _⟩
      split at e
      · cases e; exact ⟨own, gq_oact h h1 _ _⟩
      split at e
      · cases e; exact ⟨own, gq_oact h h1 _ _⟩
      split at e
      · exact ⟨own, gq_onxt hw h (by omega) e⟩
      · cases e
    · cases e
  rw [if_neg g3] at e
  by_cases g4 : s.1 = 4
  · rw [if_pos g4] at e
    split at e
    · cases e; exact ⟨own, h.tab h1 rfl (fun _ _ => rfl) rfl rfl⟩
    · cases e
  rw [if_neg g4] at e
  split at e
  · exact ⟨own, gq_onxt hw h (by omega) e⟩
  · cases e
theorem gq_oitr (ht : ∀ i, i < t.length → t.getD i 0 < 256) : ∀ (n p : Nat) (s s' : gp_S) (own : Nat → Nat → Nat), p + n ≤ t.length → gp_wS s → gq_oS own s → gp_itr t n p s = some s' → ∃ own', gq_oS own' s'
  | 0, p, s, s', own, _, _, h, e => by cases e; exact ⟨own, h⟩
  | n + 1, p, s, s', own, hp, hw, h, e => by
    rw [gp_itr] at e
    cases h1 : gp_stp s (t.getD p 0) with
    | none => rw [h1] at e; cases e
    | some s1 =>
      rw [h1] at e
      obtain ⟨own1, h2⟩ := gq_ostp hw h h1
      exact gq_oitr ht n (p + 1) s1 s' own1 (by omega) (gp_stp_w (ht p (by omega)) hw h1) h2 e
/-- the letters of a right text's table, by their rules -/
theorem gq_own (ht : ∀ i, i < t.length → t.getD i 0 < 256) (h : gp_ok t) : ∃ own, gq_oT own (gp_tab t) := by
  obtain ⟨h1, s, e, hm, hu⟩ := h
  have hw := gp_itr_w ht t.length 0 gp_s0 s (by omega) gp_w0 e
  obtain ⟨own, ho⟩ := gq_oitr ht t.length 0 gp_s0 s (fun _ _ => 0) (by omega) gp_w0 ⟨⟨fun m _ x _ => gq_oB0, fun j hj => absurd hj (Nat.not_lt_zero _)⟩, fun g => absurd g (by decide)⟩ e
  unfold gp_tab
  rw [e]
  dsimp only
  split
  · exact ⟨own, ho.1⟩
  · rename_i h0
    refine ⟨own, gq_oeR hw ho ?_⟩
    rcases hm with hm | hm | hm
    · exact absurd hm h0
    · omega
    · omega
end
