/-! rules told as a text: each step keeps it -/
theorem gp_opn_stp {s s' : gp_S} {c : Nat} (hc : c < 256) (h : gp_opn s) (e : gp_stp s c = some s') : gp_opn s' := (gp_gStep (M := ((fun k i => if k = 3 ∧ i = 0 then nI (s.2.2.1.length - 1) else nI s.2.1.1), fun _ => 0)) hc h ⟨rfl, rfl⟩).2 s' e
theorem gp_aL_7 (T : gp_T) (c m : Nat) : (gp_aL T c).2.2 7 m = T.2.2 7 m + if m = gp_md T then 1 else 0 := by
  show (if (7 : Nat) = 7 ∧ m = gp_md T then _ else _) = _
  by_cases h : m = gp_md T
  · rw [if_pos ⟨rfl, h⟩, if_pos h, h]
  · rw [if_neg (fun h' => h h'.2), if_neg h, if_neg (by omega), if_neg (by omega)]
    rfl
theorem gp_aL_r (T : gp_T) (c a b : Nat) (h7 : a ≠ 7) (h2 : ¬ (a = 2 ∧ b = T.1)) (h15 : a < 15) : (gp_aL T c).2.2 a b = T.2.2 a b := by
  show (if a = 7 ∧ b = gp_md T then _ else _) = _
  rw [if_neg (fun h => h7 h.1), if_neg h2, if_neg (by omega)]
theorem gp_aL_md (T : gp_T) (c : Nat) : gp_md (gp_aL T c) = gp_md T := gp_aL_r T c 1 T.1 (by omega) (by omega) (by omega)
theorem gp_aL_u (T : gp_T) (c m : Nat) : gp_u10 T m ≤ gp_u10 (gp_aL T c) m := by
  unfold gp_u10
  rw [gp_aL_7]
  omega
theorem gp_pw {a b n : Nat} (h : n < 2 ^ a) (hab : a ≤ b) : n < 2 ^ b := Nat.lt_of_lt_of_le h (Nat.pow_le_pow_right (by decide) hab)
theorem gp_aL_ok {T : gp_T} {c : Nat} {o : Option gp_P} (h : gp_okO T o) : gp_okO (gp_aL T c) o := fun p hp => by
  obtain ⟨h1, h2⟩ := h p hp
  unfold gp_okP
  rw [gp_aL_md]
  exact ⟨gp_pw h1 (gp_aL_u _ _ _), gp_pw h2 (gp_aL_u _ _ _)⟩
theorem gp_pL_ok (T : gp_T) (c : Nat) : gp_okP (gp_aL T c) (gp_pL T) := by
  unfold gp_okP gp_pL gp_u10
  rw [gp_aL_md, gp_aL_7, if_pos rfl]
  split
  · rename_i h
    rw [Nat.one_shiftLeft, Nat.min_eq_left (by omega)]
    exact ⟨Nat.pow_lt_pow_right (by decide) (by omega), Nat.pow_lt_pow_right (by decide) (by omega)⟩
  · exact ⟨Nat.two_pow_pos _, Nat.two_pow_pos _⟩
theorem gp_aL_w {T : gp_T} {c : Nat} (h : gp_wTb T) : gp_wTb (gp_aL T c) := by
  refine ⟨fun m hm => ?_, fun j hj => ?_⟩
  · obtain ⟨a1, a2, a3⟩ := h.1 m hm
    have hu := gp_aL_u T c m
    refine ⟨by rw [gp_aL_r _ _ _ _ (by omega) (by omega) (by omega)]; exact gp_pw a1 hu, fun x hx => ?_, fun z hz => ?_⟩
    · rw [gp_aL_r _ _ _ _ (by omega) (by omega) (by omega), gp_aL_7]
      exact ⟨gp_pw (a2 x hx).1 hu, fun hle => (a2 x hx).2 (by omega)⟩
    · show (if 15 + m = 7 ∧ z = gp_md T then _ else if 15 + m = 2 ∧ z = T.1 then _ else if T.2.2 7 (gp_md T) < 10 ∧ 15 + m = 15 + gp_md T ∧ z < 8 ∧ (c = 46 ∨ c = 97 + z) then _ else _) < _
      rw [if_neg (by omega), if_neg (by omega)]
      split
      · rename_i hcnd
        have hmm : m = gp_md T := by omega
        refine Nat.or_lt_two_pow (gp_pw (a3 z hz) hu) ?_
        rw [Nat.one_shiftLeft, hmm]
        refine Nat.pow_lt_pow_right (by decide) ?_
        unfold gp_u10
        rw [gp_aL_7, if_pos rfl]
        omega
      · exact gp_pw (a3 z hz) hu
  · have hj : j < T.1 := hj
    obtain ⟨b1, b2, b3, b4, b5, b6⟩ := h.2 j hj
    rw [gp_aL_r _ _ 1 j (by omega) (by omega) (by omega), gp_aL_r _ _ 2 j (by omega) (by omega) (by omega), gp_aL_r _ _ 3 j (by omega) (by omega) (by omega), gp_aL_r _ _ 5 j (by omega) (by omega) (by omega), gp_aL_r _ _ 6 j (by omega) (by omega) (by omega), gp_aL_7]
    exact ⟨b1, by omega, b3, gp_pw b4 (gp_aL_u _ _ _), b5, b6⟩
theorem gp_inP_w {s s' : gp_S} {c : Nat} (hc : c < 256) (h : gp_wS s) (h1 : s.1 = 2 ∨ s.1 = 3) (e : gp_inP s c = some s') : gp_wS s' := by
  have hw := h
  obtain ⟨ho, hT, hcc, hp, hq⟩ := h
  have hop := (gp_inP_opn ho (by omega) e).1
  obtain ⟨c1, c2, c3, c4, c5, c6⟩ := hcc (by omega)
  obtain ⟨hsm, hT', hlv, ch, wh, L, e1, e2, e3, e4, e5⟩ := gp_eP_f hw (by omega)
  have hmd : gp_md (gp_eP s).2.1 = gp_md s.2.1 := hsm.md
  unfold gp_inP at e
  by_cases hl : gp_isL c = true
  · rw [if_pos hl] at e
    have e := Option.some.inj e
    subst e
    have hT1 : (gp_let s c).2.1.1 = s.2.1.1 := hsm.1
    refine ⟨hop, gp_aL_w hT', fun _ => ⟨?_, ?_, ?_, ?_, ?_, ?_⟩, fun _ => by show some _ ≠ none; simp, fun h => absurd h (by show ¬ ((3 : Nat) = 1 ∨ (3 : Nat) = 2); omega)⟩
    · show gp_md (gp_aL _ c) < 4
      rw [gp_aL_md, hmd]; exact c1
    · show (gp_aL (gp_eP s).2.1 c).2.2 2 (gp_aL (gp_eP s).2.1 c).1 ≤ (gp_aL (gp_eP s).2.1 c).2.2 7 (gp_md (gp_aL (gp_eP s).2.1 c))
      rw [gp_aL_md, gp_aL_7, if_pos rfl]
      have hh : (gp_aL (gp_eP s).2.1 c).2.2 2 (gp_aL (gp_eP s).2.1 c).1 = (gp_eP s).2.1.2.2 2 (gp_eP s).2.1.1 + 1 := by
        unfold gp_aL
        dsimp only
        rw [if_neg (by omega), if_pos ⟨rfl, rfl⟩]
      rw [hh, hmd, hsm.1, hsm.2.2.1 2 (by omega), hsm.2.2.1 7 (by omega)]
      omega
    · show (gp_aL (gp_eP s).2.1 c).2.2 3 (gp_eP s).2.1.1 < 4
      rw [gp_aL_r _ _ _ _ (by omega) (by omega) (by omega), hsm.1, hsm.2.2.1 3 (by omega)]
      exact c3
    · show 2 ≤ (gp_aL (gp_eP s).2.1 c).2.2 3 (gp_eP s).2.1.1 → _ ∨ gp_dg (gp_aL (gp_eP s).2.1 c) (gp_eP s).2.1.1
      rw [gp_aL_r _ _ _ _ (by omega) (by omega) (by omega), hsm.1, hsm.2.2.1 3 (by omega)]
      intro h
      have := (c4 h).resolve_left (by omega)
      right
      show ∃ d, d < 4 ∧ (gp_eP s).2.1.2.1 s.2.1.1 = nI d
      rw [hsm.2.1]
      exact this
    · intro x hx
      have := hlv x hx
      exact ⟨gp_aL_ok this.1, gp_aL_ok this.2⟩
    · intro p hp
      cases hp
      exact gp_pL_ok _ _
  · rw [if_neg hl] at e
    split at e
    · have e := Option.some.inj e
      subst e
      refine ⟨hop, hT', fun _ => ⟨?_, ?_, ?_, ?_, ?_, gp_noneO _⟩, fun h => absurd h (by show ¬ 3 ≤ 2; omega), fun _ => ⟨rfl, fun x L' hx => ?_⟩⟩
      · show gp_md (gp_eP s).2.1 < 4
        rw [hmd]; exact c1
      · show (gp_eP s).2.1.2.2 2 (gp_eP s).2.1.1 ≤ (gp_eP s).2.1.2.2 7 (gp_md (gp_eP s).2.1)
        rw [hmd, hsm.1, hsm.2.2.1 2 (by omega), hsm.2.2.1 7 (by omega)]
        exact c2
      · show (gp_eP s).2.1.2.2 3 (gp_eP s).2.1.1 < 4
        rw [hsm.1, hsm.2.2.1 3 (by omega)]; exact c3
      · show 2 ≤ (gp_eP s).2.1.2.2 3 (gp_eP s).2.1.1 → _ ∨ gp_dg (gp_eP s).2.1 (gp_eP s).2.1.1
        rw [hsm.1, hsm.2.2.1 3 (by omega)]
        intro h
        have := (c4 h).resolve_left (by omega)
        right
        unfold gp_dg at this ⊢
        rw [hsm.2.1]
        exact this
      · intro x hx
        rcases List.mem_cons.mp hx with rfl | hx
        · exact ⟨gp_noneO _, gp_noneO _⟩
        · exact hlv x hx
      · have hx : (none, none) :: (gp_eP s).2.2.1 = x :: L' := hx
        cases hx
        rfl
    · cases e
theorem gp_nxt_w {s s' : gp_S} (h : gp_wS s) (h3 : 3 ≤ s.1) (h4 : s.1 ≠ 4) (e : gp_nxt s = some s') : gp_wS s' := by
  obtain ⟨a1, a2, a3, a4⟩ := gp_nxt_1 e
  obtain ⟨b1, b2⟩ := gp_eR_w h h3 h4
  exact ⟨gp_opn_nxt e, by rw [a4]; exact b1, fun h => by omega, fun h => by omega, fun h => by omega⟩
theorem gp_stp_w {s s' : gp_S} {c : Nat} (hc : c < 256) (h : gp_wS s) (e : gp_stp s c = some s') : gp_wS s' := by
  have hw := h
  have hop' := gp_opn_stp hc h.1 e
  obtain ⟨ho, hT, hcc, hp, hq⟩ := h
  obtain ⟨a1, a2, a3, a4, a5, a6⟩ := ho
  have hcases : s.1 = 0 ∨ s.1 = 1 ∨ s.1 = 2 ∨ s.1 = 3 ∨ s.1 = 4 ∨ s.1 = 5 := by omega
  rcases hcases with h0 | h0 | h0 | h0 | h0 | h0
  · unfold gp_stp at e
    rw [if_pos h0] at e
    split at e
    · rename_i hd
      have e := Option.some.inj e
      subst e
      have hset : ∀ a b, ¬ (b = s.2.1.1) → (gp_beg s c).2.1.2.2 a b = s.2.1.2.2 a b := fun a b hb => by
        show gp_set (gp_set (gp_set _ _ _ _) _ _ _) _ _ _ a b = _
        unfold gp_set
        rw [if_neg (fun h => hb h.2), if_neg (fun h => hb h.2), if_neg (fun h => hb h.2)]
      have hset2 : ∀ a b, 3 < a → (gp_beg s c).2.1.2.2 a b = s.2.1.2.2 a b := fun a b ha => by
        show gp_set (gp_set (gp_set _ _ _ _) _ _ _) _ _ _ a b = _
        unfold gp_set
        rw [if_neg (by omega), if_neg (by omega), if_neg (by omega)]
      have hmd : gp_md (gp_beg s c).2.1 = c - 48 := by
        unfold gp_md gp_beg
        dsimp only [gp_set]
        rw [if_neg (by omega), if_neg (by omega), if_pos ⟨rfl, rfl⟩]
      have hu : ∀ m, gp_u10 (gp_beg s c).2.1 m = gp_u10 s.2.1 m := fun m => by unfold gp_u10; rw [hset2 7 m (by omega)]
      have h2 : (gp_beg s c).2.1.2.2 2 s.2.1.1 = 0 := by
        unfold gp_beg
        dsimp only [gp_set]
        rw [if_neg (by omega), if_pos ⟨rfl, rfl⟩]
      have h3 : (gp_beg s c).2.1.2.2 3 s.2.1.1 = 0 := by
        show gp_set (gp_set (gp_set _ _ _ _) _ _ _) _ _ _ 3 s.2.1.1 = _
        unfold gp_set
        rw [if_pos ⟨rfl, rfl⟩]
      refine ⟨hop', ⟨fun m hm => ?_, fun j hj => ?_⟩, fun _ => ⟨by rw [hmd]; omega, ?_, ?_, ?_, ?_, gp_noneO _⟩, fun h => absurd h (by show ¬ 3 ≤ 1; omega), fun _ => ⟨rfl, fun x L hx => ?_⟩⟩
      · rw [hu, hset2 8 m (by omega), hset2 7 m (by omega)]
        obtain ⟨b1, b2, b3⟩ := hT.1 m hm
        exact ⟨b1, fun x hx => by rw [hset2 _ _ (by omega)]; exact b2 x hx, fun z hz => by rw [hset2 _ _ (by omega)]; exact b3 z hz⟩
      · have hj : j < s.2.1.1 := hj
        have hD : gp_dg s.2.1 j → gp_dg (gp_beg s c).2.1 j := fun h => by
          unfold gp_dg gp_beg at *
          dsimp only [gp_setD]
          rw [if_neg (by omega)]
          exact h
        rw [hset 1 j (by omega), hset 2 j (by omega), hset 3 j (by omega), hset 5 j (by omega), hset 6 j (by omega), hu, hset2 7 _ (by omega)]
        have h1 := hT.2 j hj
        exact ⟨h1.1, h1.2.1, h1.2.2.1, h1.2.2.2.1, h1.2.2.2.2.1, fun h => hD (h1.2.2.2.2.2 h)⟩
      · show (gp_beg s c).2.1.2.2 2 s.2.1.1 ≤ _
        rw [h2]; omega
      · show (gp_beg s c).2.1.2.2 3 s.2.1.1 < 4
        rw [h3]; omega
      · show 2 ≤ (gp_beg s c).2.1.2.2 3 s.2.1.1 → _
        rw [h3]
        exact fun h => absurd h (by omega)
      · intro x hx
        have hx : x ∈ [((none : Option gp_P), (none : Option gp_P))] := hx
        rw [List.mem_singleton] at hx
        subst hx
        exact ⟨gp_noneO _, gp_noneO _⟩
      · have hx : [((none : Option gp_P), (none : Option gp_P))] = x :: L := hx
        cases hx
        rfl
    · cases e
  · unfold gp_stp at e
    rw [if_neg (by omega), if_pos h0] at e
    split at e
    · have e := Option.some.inj e
      subst e
      obtain ⟨c1, c2, c3, c4, c5, c6⟩ := hcc (by omega)
      exact ⟨hop', hT, fun _ => ⟨c1, c2, c3, fun h => Or.inr ((c4 h).resolve_left (by omega)), c5, c6⟩, fun h => absurd h (by show ¬ 3 ≤ 2; omega), fun _ => hq (Or.inl h0)⟩
    · cases e
  · unfold gp_stp at e
    rw [if_neg (by omega), if_neg (by omega), if_pos h0] at e
    exact gp_inP_w hc hw (Or.inl h0) e
  · obtain ⟨c1, c2, c3, c4, c5, c6⟩ := hcc (by omega)
    have hpt := hp (by omega)
    obtain ⟨hsm, hT', hlv, ch, wh, L, e1, e2, e3, e4, e5⟩ := gp_eP_f hw (by omega)
    obtain ⟨ch', wh', L', e1', e6⟩ := gp_eCh_f hw (by omega)
    rw [e1] at e1'
    cases e1'
    have c4' : 2 ≤ s.2.1.2.2 3 s.2.1.1 → gp_dg s.2.1 s.2.1.1 := fun h => (c4 h).resolve_left (by omega)
    have hx := c5 (ch, wh) (by rw [e1]; exact List.mem_cons_self)
    -- the current rule behind the end of a part
    have hcur : gp_md (gp_eP s).2.1 < 4 ∧ (gp_eP s).2.1.2.2 2 (gp_eP s).2.1.1 ≤ (gp_eP s).2.1.2.2 7 (gp_md (gp_eP s).2.1) ∧ (gp_eP s).2.1.2.2 3 (gp_eP s).2.1.1 < 4 ∧ (2 ≤ (gp_eP s).2.1.2.2 3 (gp_eP s).2.1.1 → gp_dg (gp_eP s).2.1 (gp_eP s).2.1.1) := by
      unfold gp_dg at c4' ⊢
      rw [hsm.md, hsm.1, hsm.2.2.1 2 (by omega), hsm.2.2.1 7 (by omega), hsm.2.2.1 3 (by omega), hsm.2.1]
      exact ⟨c1, c2, c3, c4'⟩
    have hun : gp_okO (gp_eP s).2.1 (gp_unO wh (gp_mgO ch s.2.2.2)) := hsm.ok (gp_unO_ok hx.2 (gp_mgO_ok hx.1 c6))
    have hLL : ∀ x, x ∈ L → gp_okO (gp_eP s).2.1 x.1 ∧ gp_okO (gp_eP s).2.1 x.2 := fun x hx => hlv x (by rw [e2]; exact List.mem_cons_of_mem _ hx)
    unfold gp_stp at e
    rw [if_neg (by omega), if_neg (by omega), if_neg (by omega), if_pos h0] at e
    split at e
    · exact gp_inP_w hc hw (Or.inr h0) e
    · split at e
      · have e := Option.some.inj e
        subst e
        unfold gp_suf at hop' ⊢
        cases hpp : s.2.2.2 with
        | none => exact absurd hpp hpt
        | some p =>
          rw [hpp] at hop' c6
          have hpo := c6 p rfl
          have hsm2 : gp_sm1 s.2.1 (if c = 63 then s.2.1 else gp_lnk s.2.1 p.2.1 p.1) := by
            split
            · exact gp_sm1.refl _
            · exact gp_lnk_sm _ _ _ c1
          have hw2 : gp_wTb (if c = 63 then s.2.1 else gp_lnk s.2.1 p.2.1 p.1) := by
            split
            · exact hT
            · exact gp_lnk_w c1 hT hpo.2 hpo.1
          dsimp only at hop' ⊢
          generalize (if c = 63 then s.2.1 else gp_lnk s.2.1 p.2.1 p.1) = T2 at hop' hsm2 hw2 ⊢
          refine ⟨hop', hw2, fun _ => ⟨?_, ?_, ?_, ?_, fun x hx => ⟨hsm2.ok (c5 x hx).1, hsm2.ok (c5 x hx).2⟩, hsm2.ok (fun q hq => ?_)⟩, fun _ => by show some _ ≠ none; simp, fun h => absurd h (by show ¬ ((3 : Nat) = 1 ∨ (3 : Nat) = 2); omega)⟩
          · show gp_md T2 < 4
            rw [hsm2.md]; exact c1
          · show T2.2.2 2 T2.1 ≤ T2.2.2 7 (gp_md T2)
            rw [hsm2.md, hsm2.1, hsm2.2.2.1 2 (by omega), hsm2.2.2.1 7 (by omega)]; exact c2
          · show T2.2.2 3 T2.1 < 4
            rw [hsm2.1, hsm2.2.2.1 3 (by omega)]; exact c3
          · show 2 ≤ T2.2.2 3 T2.1 → _ ∨ gp_dg T2 T2.1
            unfold gp_dg at c4' ⊢
            rw [hsm2.1, hsm2.2.2.1 3 (by omega), hsm2.2.1]
            exact fun h => Or.inr (c4' h)
          · cases hq
            exact hpo
      · split at e
        · have e := Option.some.inj e
          subst e
          rw [e6] at hop' ⊢
          refine ⟨hop', hT', fun _ => ⟨hcur.1, hcur.2.1, hcur.2.2.1, fun h => Or.inr (hcur.2.2.2 h), fun x hx => ?_, gp_noneO _⟩, fun h => absurd h (by show ¬ 3 ≤ 2; omega), fun _ => ⟨rfl, fun x L' hx => ?_⟩⟩
          · have hx : x ∈ (none, gp_unO wh (gp_mgO ch s.2.2.2)) :: L := hx
            rcases List.mem_cons.mp hx with rfl | hx
            · exact ⟨gp_noneO _, hun⟩
            · exact hLL x hx
          · have hx : (none, gp_unO wh (gp_mgO ch s.2.2.2)) :: L = x :: L' := hx
            cases hx
            rfl
        · split at e
          · split at e
            · cases e
            · have e := Option.some.inj e
              subst e
              unfold gp_cls at hop' ⊢
              rw [e6] at hop' ⊢
              dsimp only at hop' ⊢
              refine ⟨hop', hT', fun _ => ⟨hcur.1, hcur.2.1, hcur.2.2.1, fun h => Or.inr (hcur.2.2.2 h), hLL, hun⟩, fun _ => ?_, fun h => absurd h (by show ¬ ((3 : Nat) = 1 ∨ (3 : Nat) = 2); omega)⟩
              obtain ⟨w, hw'⟩ := gp_unO_some (w := wh) (gp_mgO_some (c := ch) hpt)
              show gp_unO wh (gp_mgO ch s.2.2.2) ≠ none
              rw [hw']
              simp
          · split at e
            · -- acts
              have hact : ∀ d a, (d = 5 ∧ a = 1 ∨ d = 4 ∧ (a = 2 ∨ a = 3)) → gp_opn (gp_act1 s d a) → gp_wS (gp_act1 s d a) := by
                intro d a hda hopa
                have hset : ∀ x y, ¬ (x = 3 ∧ y = s.2.1.1) → (gp_act1 s d a).2.1.2.2 x y = s.2.1.2.2 x y := fun x y hxy => by
                  show gp_set _ _ _ _ x y = _
                  unfold gp_set
                  rw [if_neg hxy]
                have h3 : (gp_act1 s d a).2.1.2.2 3 s.2.1.1 = a := by
                  show gp_set _ _ _ _ 3 s.2.1.1 = _
                  unfold gp_set
                  rw [if_pos ⟨rfl, rfl⟩]
                have hmd : gp_md (gp_act1 s d a).2.1 = gp_md s.2.1 := hset 1 _ (by omega)
                have hu : ∀ m, gp_u10 (gp_act1 s d a).2.1 m = gp_u10 s.2.1 m := fun m => by unfold gp_u10; rw [hset 7 m (by omega)]
                have hok : ∀ o, gp_okO s.2.1 o → gp_okO (gp_act1 s d a).2.1 o := fun o ho p hp => by
                  have := ho p hp
                  unfold gp_okP at this ⊢
                  rw [hmd, hu]; exact this
                refine ⟨hopa, ⟨fun m hm => ?_, fun j hj => ?_⟩, fun _ => ⟨by rw [hmd]; exact c1, ?_, ?_, ?_, fun x hx => ⟨hok _ (c5 x hx).1, hok _ (c5 x hx).2⟩, hok _ c6⟩, fun _ => hpt, fun h => absurd h (by show ¬ (d = 1 ∨ d = 2); omega)⟩
                · rw [hu, hset 8 m (by omega), hset 7 m (by omega)]
                  obtain ⟨b1, b2, b3⟩ := hT.1 m hm
                  exact ⟨b1, fun x hx => by rw [hset _ _ (by omega)]; exact b2 x hx, fun z hz => by rw [hset _ _ (by omega)]; exact b3 z hz⟩
                · have hj : j < s.2.1.1 := hj
                  rw [hset 1 j (by omega), hset 2 j (by omega), hset 3 j (by omega), hset 5 j (by omega), hset 6 j (by omega), hu, hset 7 _ (by omega)]
                  exact hT.2 j hj
                · show (gp_act1 s d a).2.1.2.2 2 s.2.1.1 ≤ (gp_act1 s d a).2.1.2.2 7 _
                  rw [hmd, hset 2 _ (by omega), hset 7 _ (by omega)]; exact c2
                · show (gp_act1 s d a).2.1.2.2 3 s.2.1.1 < 4
                  rw [h3]; omega
                · show 2 ≤ (gp_act1 s d a).2.1.2.2 3 s.2.1.1 → d = 4 ∨ _
                  rw [h3]
                  exact fun h => Or.inl (by omega)
              split at e
              · have e := Option.some.inj e; subst e; exact hact 5 1 (by omega) hop'
              · split at e
                · have e := Option.some.inj e; subst e; exact hact 4 2 (by omega) hop'
                · split at e
                  · have e := Option.some.inj e; subst e; exact hact 4 3 (by omega) hop'
                  · split at e
                    · exact gp_nxt_w hw (by omega) (by omega) e
                    · cases e
            · cases e
  · unfold gp_stp at e
    rw [if_neg (by omega), if_neg (by omega), if_neg (by omega), if_neg (by omega), if_pos h0] at e
    obtain ⟨c1, c2, c3, c4, c5, c6⟩ := hcc (by omega)
    split at e
    · rename_i hd
      have e := Option.some.inj e
      subst e
      refine ⟨hop', ⟨hT.1, fun j hj => ?_⟩, fun _ => ⟨c1, c2, c3, fun _ => Or.inr ⟨c - 48, by omega, ?_⟩, c5, c6⟩, fun _ => hp (by omega), fun h => absurd h (by show ¬ ((5 : Nat) = 1 ∨ (5 : Nat) = 2); omega)⟩
      · have hj : j < s.2.1.1 := hj
        obtain ⟨b1, b2, b3, b4, b5, b6⟩ := hT.2 j hj
        refine ⟨b1, b2, b3, b4, b5, ?_⟩
        intro h
        have := b6 h
        unfold gp_dg at this ⊢
        dsimp only [gp_setD]
        rw [if_neg (by omega)]
        exact this
      · dsimp only [gp_setD]
        rw [if_pos rfl]
    · cases e
  · unfold gp_stp at e
    rw [if_neg (by omega), if_neg (by omega), if_neg (by omega), if_neg (by omega), if_neg (by omega)] at e
    split at e
    · exact gp_nxt_w hw (by omega) (by omega) e
    · cases e
theorem gp_w0 : gp_wS gp_s0 := by
  refine ⟨⟨by decide, by decide, by decide, fun _ => rfl, fun h => absurd h (by decide), fun h => absurd h (by decide)⟩, ⟨fun m hm => ⟨Nat.two_pow_pos _, fun x hx => ⟨Nat.two_pow_pos _, fun _ => rfl⟩, fun z hz => Nat.two_pow_pos _⟩, fun j hj => absurd hj (by show ¬ j < 0; omega)⟩, fun h => absurd h (by decide), fun h => absurd h (by decide), fun h => absurd h (by decide)⟩
theorem gp_itr_w {t : List Nat} (ht : ∀ i, i < t.length → t.getD i 0 < 256) : ∀ (n p : Nat) (s s' : gp_S), p + n ≤ t.length → gp_wS s → gp_itr t n p s = some s' → gp_wS s'
  | 0, p, s, s', _, h, e => by cases e; exact h
  | n + 1, p, s, s', hp, h, e => by
    rw [gp_itr] at e
    cases h1 : gp_stp s (t.getD p 0) with
    | none => rw [h1] at e; cases e
    | some s1 =>
      rw [h1] at e
      exact gp_itr_w ht n (p + 1) s1 s' (by omega) (gp_stp_w (ht p (by omega)) h h1) e
/-- the table of right rules is a table -/
theorem gp_tab_w {t : List Nat} (ht : ∀ i, i < t.length → t.getD i 0 < 256) (h : gp_ok t) : gp_wT (gp_tab t) := by
  obtain ⟨h1, s, e, hm, hu⟩ := h
  have hw := gp_itr_w ht t.length 0 gp_s0 s (by omega) gp_w0 e
  have fin : ∀ T : gp_T, gp_wTb T → T.1 ≤ 8 → (∀ m, m < 4 → T.2.2 7 m ≤ 10) → gp_wT T := by
    intro T hT h8 hu
    have hu10 : ∀ m, m < 4 → gp_u10 T m = T.2.2 7 m := fun m hm => by unfold gp_u10; have := hu m hm; omega
    refine ⟨h8, fun j hj => ?_, fun m hm => ?_⟩
    · obtain ⟨b1, b2, b3, b4, b5, b6⟩ := hT.2 j hj
      have := hu _ b1
      rw [hu10 _ b1] at b4
      exact ⟨b1, by omega, b3, b4, b5, b6⟩
    · obtain ⟨b1, b2, b3⟩ := hT.1 m hm
      rw [hu10 m hm] at b1 b2 b3
      exact ⟨hu m hm, b1, fun x hx => (b2 x hx).1, b3⟩
  unfold gp_tab
  rw [e]
  dsimp only
  split
  · rename_i h0
    exact fin _ hw.2.1 (by have := hw.1.2.2.1; omega) hu
  · rename_i h0
    have h35 : 3 ≤ s.1 ∧ s.1 ≠ 4 := by
      rcases hm with hm | hm | hm
      · exact absurd hm h0
      · omega
      · omega
    obtain ⟨b1, b2⟩ := gp_eR_w hw h35.1 h35.2
    exact fin _ b1 (by rw [gp_eR_1]; have := hw.1.2.2.1; omega) (by rw [b2]; exact hu)
