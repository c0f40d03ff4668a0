/-! changes: what is refused, what is done -/
def gq_can (kd : Nat) (l : List Nat) (j z : Nat) : Prop := z < 8 ∧ (kd = 0 → j < l.length ∧ l.getD j 0 ≠ z) ∧ (kd = 1 → j ≤ l.length ∧ l.length < 24) ∧ (kd = 2 → j < l.length)
def gq_chg (kd : Nat) (l : List Nat) (j z : Nat) : List Nat := if kd = 0 then l.set j z else if kd = 1 then gp_ins l j z else gp_del l j
section
variable {M M' N : gz_M} {l : List Nat} {k kd j z : Nat} {q s : Int32}
theorem gq_26b (h : s < 0 ∨ 8 ≤ s) (x1 q s0 : Int32) : f5_refusal_26 k x1 q s s0 M = some (-1, M) := by
  unfold f5_refusal_26
  have e : f5_refusal_43 k x1 q s s0 0 M = some (-1, M) := by
    unfold f5_refusal_43
    split
    · rfl
    · rfl
  by_cases h0 : s < 0
  · rw [if_pos h0, e]
  · rw [if_neg h0, if_pos (h.resolve_left h0), e]
theorem gq_26g (hz : z < 8) (x1 q s0 : Int32) : f5_refusal_26 k x1 q (nI z) s0 M = f5_refusal_43 k x1 q (nI z) s0 1 M := by
  unfold f5_refusal_26
  rw [if_neg (nI_pos (by omega)), if_neg (show ¬ (8 : Int32) ≤ nI z from nI_ge (b := 8) hz (by omega))]
theorem gq_43n (x1 q s : Int32) : f5_refusal_43 k x1 q s 0 1 M = some (-1, M) := by
  unfold f5_refusal_43
  rw [if_pos rfl]
theorem gq_in7 (N : gz_M) : (∀ s : Int32, (s < 0 ∨ 8 ≤ s) → f12_in s 0 7 N = some (0, N)) ∧ ∀ z, z < 8 → f12_in (nI z) 0 7 N = some (1, N) := by
  have e7 : (7 : Int32) = nI 8 - 1 := by decide
  refine ⟨fun s h => ?_, fun z hz => ?_⟩
  · rcases h with h | h
    · exact gp_in0 _ _ h
    · rw [e7]
      exact gp_in0b _ (by omega) (gp_neg_of (n := 8) (by omega) h) h
  · rw [e7]
    exact gp_in1 _ (by omega) hz
theorem gq_ref (hc : gp_lC k M l) (hr : gp_lR N l) (hk : kd < 3) (q s : Int32) (hs : kd = 2 → s = 0) : (∃ v : Int32, ¬ 0 ≤ v ∧ ¬ v = 0 ∧ f5_refusal k (nI kd) q s M = some (v, M) ∧ f12_refuses (nI kd) q s N = some (v, N)) ∨ (∃ j z, q = nI j ∧ s = nI z ∧ gq_can kd l j z ∧ f5_refusal k (nI kd) q s M = some (0, M) ∧ f12_refuses (nI kd) q s N = some (0, N)) := by
  have h24 := hc.1
  have hlr := hr.2.1
  obtain ⟨i7b, i7g⟩ := gq_in7 N
  have nowR : N.1 1 (81 : Int32).toNatClampNeg = nI l.length := hlr
  -- the place
  have pl : (∃ j, j < l.length ∧ q = nI j ∧ f5_has k q M = some (1, M) ∧ f12_in q 0 (nI l.length - 1) N = some (1, N)) ∨ (f5_has k q M = some (0, M) ∧ f12_in q 0 (nI l.length - 1) N = some (0, N)) := by
    rcases gp_has hc q with ⟨a, b⟩ | ⟨a, b, c⟩ | ⟨j, a, b, c⟩
    · exact Or.inr ⟨b, gp_in0 _ _ a⟩
    · exact Or.inr ⟨c, gp_in0b _ (by omega) a b⟩
    · refine Or.inl ⟨j, a, b, c, ?_⟩
      rw [b]
      exact gp_in1 _ (by omega) a
  -- the sign
  have sg : (s < 0 ∨ 8 ≤ s) ∨ ∃ z, z < 8 ∧ s = nI z := by
    rcases pk_ix s (n := 8) (by omega) with h | h | ⟨z, h1, h2⟩
    · exact Or.inl (Or.inl h)
    · exact Or.inl (Or.inr h)
    · exact Or.inr ⟨z, h1, h2⟩
  have neg1 : ¬ (0 : Int32) ≤ -1 ∧ ¬ (-1 : Int32) = 0 := by decide
  have neg2 : ¬ (0 : Int32) ≤ -2 ∧ ¬ (-2 : Int32) = 0 := by decide
  have neg3 : ¬ (0 : Int32) ≤ -3 ∧ ¬ (-3 : Int32) = 0 := by decide
  obtain h | h | h : kd = 0 ∨ kd = 1 ∨ kd = 2 := by omega
  · subst h
    have r0 : f12_refuses (nI 0) q s N = (gz_bd2 (f12_refusesBecome q s N) fun v2 M3 => some (v2, M3)) := by unfold f12_refuses; rw [if_pos (show nI 0 = (0 : Int32) from rfl)]
    rcases pl with ⟨j, hj, rfl, e1, e2⟩ | ⟨e1, e2⟩
    · have c0 : f5_refusal k (nI 0) (nI j) s M = f5_refusal_26 k (nI 0) (nI j) s 1 M := by unfold f5_refusal; rw [e1, gp_eB2, if_neg (by decide)]
      rcases sg with sb | ⟨z, hz, rfl⟩
      · refine Or.inl ⟨-1, neg1.1, neg1.2, by rw [c0, gq_26b sb], ?_⟩
        rw [r0]
        unfold f12_refusesBecome
        rw [gp_c81, nowR, e2, gp_eB2, if_neg (by decide), i7b s sb, gp_eB2, if_pos rfl, gp_eB2]
      · have c1 : f5_refusal k (nI 0) (nI j) (nI z) M = if nI (l.getD j 0) = nI z then some (-2, M) else some (0, M) := by
          rw [c0, gq_26g hz]
          unfold f5_refusal_43
          rw [if_neg (by decide), if_neg (by decide), if_pos (show nI 0 = (0 : Int32) from rfl), gp_lget hc hj, gp_eB2]
          unfold f5_refusal_73
          rw [if_neg (show ¬ nI 0 = (1 : Int32) by decide)]
        have r1 : f12_refuses (nI 0) (nI j) (nI z) N = if nI (l.getD j 0) = nI z then some (-2, N) else some (0, N) := by
          rw [r0]
          unfold f12_refusesBecome
          rw [gp_c81, nowR, e2, gp_eB2, if_neg (by decide), i7g z hz, gp_eB2, if_neg (by decide), show (82 : Int32) = nI 82 from rfl, nI_add, gp_ckb (show 82 + j < 106 by omega) (by omega), nI_clamp (by omega), (hr.2.2 j hj).1]
          split <;> rfl
        have hv := (hr.2.2 j hj).2
        by_cases hz2 : l.getD j 0 = z
        · rw [if_pos (by rw [hz2])] at c1 r1
          exact Or.inl ⟨-2, neg2.1, neg2.2, c1, r1⟩
        · rw [if_neg (fun g => hz2 ((nI_eq (by omega) (by omega)).mp g))] at c1 r1
          exact Or.inr ⟨j, z, rfl, rfl, ⟨hz, fun _ => ⟨hj, hz2⟩, fun h => by omega, fun h => by omega⟩, c1, r1⟩
    · refine Or.inl ⟨-1, neg1.1, neg1.2, ?_, ?_⟩
      · unfold f5_refusal
        rw [e1, gp_eB2, if_pos rfl, if_neg (by decide)]
        rcases sg with sb | ⟨z, hz, rfl⟩
        · exact gq_26b sb _ _ _
        · rw [gq_26g hz, gq_43n]
      · rw [r0]
        unfold f12_refusesBecome
        rw [gp_c81, nowR, e2, gp_eB2, if_pos rfl, gp_eB2]
  · subst h
    have r0 : f12_refuses (nI 1) q s N = (gz_bd2 (f12_refusesCome q s N) fun v2 M3 => some (v2, M3)) := by unfold f12_refuses; rw [if_neg (by decide), if_pos (show nI 1 = (1 : Int32) from rfl)]
    have pl2 : (∃ j, j ≤ l.length ∧ q = nI j ∧ f5_refusal k (nI 1) q s M = f5_refusal_26 k (nI 1) q s 1 M ∧ f12_in q 0 (nI l.length) N = some (1, N)) ∨ (f5_refusal k (nI 1) q s M = f5_refusal_26 k (nI 1) q s 0 M ∧ f12_in q 0 (nI l.length) N = some (0, N)) := by
      unfold f5_refusal
      rcases gp_has hc q with ⟨a, b⟩ | ⟨a, b, c⟩ | ⟨j, a, b, c⟩
      · refine Or.inr ⟨?_, gp_in0 _ _ a⟩
        rw [b, gp_eB2, if_pos rfl, if_pos (show nI 1 = (1 : Int32) from rfl), hc.2.1, if_neg (fun g => by rw [g] at a; exact nI_pos (by omega) a)]
      · by_cases hq : q = nI l.length
        · refine Or.inl ⟨l.length, Nat.le_refl _, hq, ?_, ?_⟩
          · rw [c, gp_eB2, if_pos rfl, if_pos (show nI 1 = (1 : Int32) from rfl), hc.2.1, if_pos hq]
          · unfold f12_in
            rw [if_neg a, hq, if_neg (nI_nlt (Nat.le_refl _) (by omega))]
        · refine Or.inr ⟨?_, ?_⟩
          · rw [c, gp_eB2, if_pos rfl, if_pos (show nI 1 = (1 : Int32) from rfl), hc.2.1, if_neg hq]
          · unfold f12_in
            rw [if_neg a, if_pos]
            apply Int32.lt_iff_toInt_lt.mpr
            have g1 := Int32.le_iff_toInt_le.mp b
            have g2 : (nI l.length).toInt ≠ q.toInt := fun h => hq (Int32.toInt_inj.mp h).symm
            omega
      · refine Or.inl ⟨j, by omega, b, ?_, ?_⟩
        · rw [c, gp_eB2, if_neg (by decide)]
        · unfold f12_in
          rw [b, if_neg (nI_pos (by omega)), if_neg (nI_nlt (by omega) (by omega))]
    rcases pl2 with ⟨j, hj, rfl, c0, e2⟩ | ⟨c0, e2⟩
    · rcases sg with sb | ⟨z, hz, rfl⟩
      · refine Or.inl ⟨-1, neg1.1, neg1.2, by rw [c0, gq_26b sb], ?_⟩
        rw [r0]
        unfold f12_refusesCome
        rw [gp_c81, nowR, e2, gp_eB2, if_neg (by decide), i7b s sb, gp_eB2, if_pos rfl, gp_eB2]
      · have c1 : f5_refusal k (nI 1) (nI j) (nI z) M = if l.length < 24 then some (0, M) else some (-3, M) := by
          rw [c0, gq_26g hz]
          unfold f5_refusal_43 f5_refusal_73
          rw [if_neg (by decide), if_neg (by decide), if_neg (show ¬ nI 1 = (0 : Int32) by decide), if_pos (show nI 1 = (1 : Int32) from rfl), hc.2.1]
          by_cases h : l.length < 24
          · rw [if_pos h, if_pos (show nI l.length < (24 : Int32) from nI_lt (b := 24) h (by omega))]
          · rw [if_neg h, if_neg (show ¬ nI l.length < (24 : Int32) from nI_nlt (b := 24) (by omega) (by omega))]
        have r1 : f12_refuses (nI 1) (nI j) (nI z) N = if l.length < 24 then some (0, N) else some (-3, N) := by
          rw [r0]
          unfold f12_refusesCome
          rw [gp_c81, nowR, e2, gp_eB2, if_neg (by decide), i7g z hz, gp_eB2, if_neg (by decide), gp_c81, nowR]
          by_cases h : l.length < 24
          · rw [if_pos h, if_neg (show ¬ nI l.length = (24 : Int32) from fun g => by have := (nI_eq (b := 24) (by omega) (by omega)).mp g; omega), gp_eB2]
          · rw [if_neg h, if_pos (show nI l.length = (24 : Int32) from by rw [show l.length = 24 by omega]; rfl), gp_eB2]
        by_cases h : l.length < 24
        · rw [if_pos h] at c1 r1
          exact Or.inr ⟨j, z, rfl, rfl, ⟨hz, fun g => by omega, fun _ => ⟨hj, h⟩, fun g => by omega⟩, c1, r1⟩
        · rw [if_neg h] at c1 r1
          exact Or.inl ⟨-3, neg3.1, neg3.2, c1, r1⟩
    · refine Or.inl ⟨-1, neg1.1, neg1.2, ?_, ?_⟩
      · rw [c0]
        rcases sg with sb | ⟨z, hz, rfl⟩
        · exact gq_26b sb _ _ _
        · rw [gq_26g hz, gq_43n]
      · rw [r0]
        unfold f12_refusesCome
        rw [gp_c81, nowR, e2, gp_eB2, if_pos rfl, gp_eB2]
  · subst h
    have hs0 := hs rfl
    subst hs0
    have r0 : f12_refuses (nI 2) q 0 N = (gz_bd2 (f12_in q 0 (nI l.length - 1) N) fun v10 M11 => if v10 = 0 then (some ((-1), M11)) else (some (0, M11))) := by
      unfold f12_refuses
      rw [if_neg (by decide), if_neg (by decide), gp_c81, nowR]
    rcases pl with ⟨j, hj, rfl, e1, e2⟩ | ⟨e1, e2⟩
    · refine Or.inr ⟨j, 0, rfl, rfl, ⟨by omega, fun g => by omega, fun g => by omega, fun _ => hj⟩, ?_, ?_⟩
      · unfold f5_refusal
        rw [e1, gp_eB2, if_neg (by decide), show (0 : Int32) = nI 0 from rfl, gq_26g (by omega)]
        unfold f5_refusal_43 f5_refusal_73
        rw [if_neg (by decide), if_neg (by decide), if_neg (show ¬ nI 2 = (0 : Int32) by decide), if_neg (show ¬ nI 2 = (1 : Int32) by decide)]
        rfl
      · rw [r0, e2, gp_eB2, if_neg (by decide)]
    · refine Or.inl ⟨-1, neg1.1, neg1.2, ?_, ?_⟩
      · unfold f5_refusal
        rw [e1, gp_eB2, if_pos rfl, if_neg (by decide), show (0 : Int32) = nI 0 from rfl, gq_26g (by omega)]
        exact gq_43n _ _ _
      · rw [r0, e2, gp_eB2, if_pos rfl]
theorem gq_chg_len (hk : kd < 3) (h : gq_can kd l j z) (hl : l.length ≤ 24) : (gq_chg kd l j z).length ≤ 24 ∧ (kd = 0 → (gq_chg kd l j z).length = l.length) ∧ (kd = 1 → (gq_chg kd l j z).length = l.length + 1) ∧ (kd = 2 → (gq_chg kd l j z).length + 1 = l.length) := by
  obtain ⟨h1, h2, h3, h4⟩ := h
  obtain h | h | h : kd = 0 ∨ kd = 1 ∨ kd = 2 := by omega
  · subst h
    unfold gq_chg
    rw [if_pos rfl]
    refine ⟨by simpa using hl, fun _ => by simp, fun g => by omega, fun g => by omega⟩
  · subst h
    have := h3 rfl
    unfold gq_chg
    rw [if_neg (by omega), if_pos rfl]
    have e := gp_ins_len (s := z) this.1
    exact ⟨by omega, fun g => by omega, fun _ => e, fun g => by omega⟩
  · subst h
    have := h4 rfl
    unfold gq_chg
    rw [if_neg (by omega), if_neg (by omega)]
    have e := gp_del_len this
    exact ⟨by omega, fun g => by omega, fun g => by omega, fun _ => by omega⟩
theorem gq_doC (hk : kd < 3) (hc : gp_lC k M l) (h : gq_can kd l j z) (hr : f5_refusal k (nI kd) (nI j) (nI z) M = some (0, M)) : ∃ M', f5_change k (nI kd) (nI j) (nI z) M = some M' ∧ gp_lL k M M' ∧ gp_lC k M' (gq_chg kd l j z) := by
  obtain ⟨h1, h2, h3, h4⟩ := h
  unfold f5_change
  rw [hr, gp_eB2, if_pos (by decide)]
  unfold gq_chg
  obtain h | h | h : kd = 0 ∨ kd = 1 ∨ kd = 2 := by omega
  · subst h
    obtain ⟨M', a, b, c⟩ := gp_putC hc (h2 rfl).1 h1
    rw [if_pos (show nI 0 = (0 : Int32) from rfl), a, gp_eB, if_pos rfl]
    exact ⟨M', rfl, b, c⟩
  · subst h
    obtain ⟨M', a, b, c⟩ := gp_insC hc (h3 rfl).1 h1 (h3 rfl).2
    rw [if_neg (by decide), if_pos (show nI 1 = (1 : Int32) from rfl), a, gp_eB, if_neg (by omega), if_pos rfl]
    exact ⟨M', rfl, b, c⟩
  · subst h
    obtain ⟨M', a, b, c⟩ := gp_delC hc (h4 rfl)
    rw [if_neg (by decide), if_neg (by decide), a, gp_eB, if_neg (by omega), if_neg (by omega)]
    exact ⟨M', rfl, b, c⟩
theorem gq_doR (hk : kd < 3) (hr : gp_lR N l) (h : gq_can kd l j z) : ∃ N', f12_doChange (nI kd) (nI j) (nI z) N = some N' ∧ N'.2 = N.2 ∧ (∀ c, c ≠ 1 → N'.1 c = N.1 c) ∧ (∀ i, i < 81 → N'.1 1 i = N.1 1 i) ∧ gp_lR N' (gq_chg kd l j z) := by
  obtain ⟨h1, h2, h3, h4⟩ := h
  have h24 := hr.1
  have e82 : (82 : Int32) + nI j = nI (82 + j) := by rw [show (82 : Int32) = nI 82 from rfl, nI_add]
  unfold f12_doChange gq_chg
  obtain h | h | h : kd = 0 ∨ kd = 1 ∨ kd = 2 := by omega
  · subst h
    have hj := (h2 rfl).1
    rw [if_pos (show nI 0 = (0 : Int32) from rfl), e82, gp_ckb (show 82 + j < 106 by omega) (by omega), nI_clamp (by omega), gp_eL, if_pos rfl]
    unfold f12_doChange_14 f12_doChange_83
    rw [if_neg (by decide), if_neg (by decide)]
    refine ⟨_, rfl, rfl, fun c hc => gp_wc _ hc, fun i hi => gp_gn (by omega), by simpa using h24, by rw [gp_gn (by omega)]; simpa using hr.2.1, fun i hi => ?_⟩
    have hi : i < l.length := by simpa using hi
    rw [gp_set_D hj]
    by_cases e : i = j
    · rw [e, gp_gs, if_pos rfl]
      exact ⟨rfl, h1⟩
    · rw [gp_gn (by omega), if_neg e]
      exact hr.2.2 i hi
  · subst h
    obtain ⟨hj, hl⟩ := h3 rfl
    rw [if_neg (by decide)]
    unfold f12_doChange_14
    rw [if_pos (show nI 1 = (1 : Int32) from rfl), gp_c81, gp_k81, hr.2.1, gp_eL]
    have e := gp_dnL (fun n y M => f12_doChange_28 n (nI 1) (nI j) (nI z) y M) (fun M1 => some (gz_w (gz_w M1 1 (82 + j) (nI z)) 1 81 (nI (l.length + 1)))) N 1 82 j l.length hj (fun n => by
      show f12_doChange_28 (n + 1) _ _ _ _ _ = _
      rw [f12_doChange_28, if_pos (nI_le (Nat.le_refl _) (by omega)), e82, gp_ckb (show 82 + j < 106 by omega) (by omega), nI_clamp (by omega), gp_eL, gp_c81, gp_c81, gp_k81, gp_gn (by omega), gp_shd_i, if_neg (by omega), hr.2.1, nI_1, gp_eL]
      unfold f12_doChange_83
      rw [if_neg (by decide)]) (fun n y g1 g2 => by
      show f12_doChange_28 (n + 1) _ _ _ _ _ = f12_doChange_28 n _ _ _ _ _
      have e1 : (82 : Int32) + nI (y + 1) = nI ((82 + y) + 1) := by rw [show (82 : Int32) = nI 82 from rfl, nI_add]; rfl
      rw [f12_doChange_28, if_neg (nI_ge (by omega) (by omega)), e1, nI_pred, gp_ckb (show 82 + y < 106 by omega) (by omega), gp_ckb (show 82 + y + 1 < 106 by omega) (by omega), nI_clamp (by omega), nI_clamp (by omega), gp_shd_i, if_neg (by omega), gp_eL, gp_eL, gp_addm]
      rfl) (by unfold gz_FU; omega)
    rw [if_neg (by omega), if_pos rfl]
    refine ⟨_, e, rfl, fun c hc => by rw [gp_wc _ hc, gp_wc _ hc, gp_shd_c hc], fun i hi => by rw [gp_gn (by omega), gp_gn (by omega), gp_shd_i, if_neg (by omega)], by rw [gp_ins_len hj]; omega, by rw [gp_gs, gp_ins_len hj], fun i hi => ?_⟩
    rw [gp_ins_len hj] at hi
    rw [gp_gn (by omega), gp_ins_D hj]
    by_cases e1 : i = j
    · rw [e1, gp_gs, if_neg (by omega), if_pos rfl]
      exact ⟨rfl, h1⟩
    · rw [gp_gn (by omega), gp_shd_i]
      by_cases e2 : i < j
      · rw [if_neg (by omega), if_pos e2]
        exact hr.2.2 i (by omega)
      · rw [if_pos (by omega), if_neg e2, if_neg e1, show 82 + i - 1 = 82 + (i - 1) by omega]
        exact hr.2.2 (i - 1) (by omega)
  · subst h
    have hj := h4 rfl
    have hlen : nI l.length - 1 = nI (l.length - 1) := by
      obtain ⟨w, hw⟩ : ∃ w, l.length = w + 1 := ⟨l.length - 1, by omega⟩
      rw [hw, nI_pred]
      rfl
    rw [if_neg (by decide)]
    unfold f12_doChange_14 f12_doChange_83
    rw [if_neg (by decide), if_pos (show nI 2 = (2 : Int32) from rfl)]
    have e := gp_fl_l (M := N) (c := 1) (o := 82 + j) (N := l.length - 1 - j) (v := fun x => N.1 1 (82 + j + x + 1)) (fun n x M => f12_doChange_92 n (nI j + x) M) (fun M1 => some (gz_w (gz_w M1 1 81 (nI (l.length - 1))) 1 (82 + (l.length - 1)) 0)) (fun n => by
      show f12_doChange_92 (n + 1) _ _ = _
      have e81 : (82 : Int32) + nI (l.length - 1) = nI (82 + (l.length - 1)) := by rw [show (82 : Int32) = nI 82 from rfl, nI_add]
      rw [nI_add, f12_doChange_92, gp_c81, gp_k81, gp_fl_n (by omega), hr.2.1, hlen, if_pos (nI_le (by omega) (by omega)), gp_c81, gp_c81, gp_eL, gp_c81, gp_gs, e81, gp_ckb (show 82 + (l.length - 1) < 106 by omega) (by omega), nI_clamp (by omega), gp_eL]) (fun n x hx => by
      show f12_doChange_92 (n + 1) _ _ = f12_doChange_92 n _ _
      have e1 : (82 : Int32) + nI (j + x) = nI (82 + j + x) := by rw [show (82 : Int32) = nI 82 from rfl, nI_add, Nat.add_assoc]
      rw [nI_add, nI_add, f12_doChange_92, gp_c81, gp_k81, gp_fl_n (by omega), hr.2.1, hlen, if_neg (nI_ge (by omega) (by omega)), e1, nI_1, gp_ckb (show 82 + j + x + 1 < 106 by omega) (by omega), gp_ckb (show 82 + j + x < 106 by omega) (by omega), nI_clamp (by omega), nI_clamp (by omega), gp_fl_n (by omega), gp_eL, gp_eL, nI_1]
      rfl) gz_FU (by unfold gz_FU; omega)
    change f12_doChange_92 gz_FU (nI j + nI 0) N = _ at e
    rw [nI_add, Nat.add_zero] at e
    rw [if_neg (by omega), if_neg (by omega)]
    refine ⟨_, e, rfl, fun c hc => by rw [gp_wc _ hc, gp_wc _ hc, gp_fl_c hc], fun i hi => by rw [gp_gn (by omega), gp_gn (by omega), gp_fl_n (by omega)], by rw [gp_del_len hj]; omega, by rw [gp_gn (by omega), gp_gs, gp_del_len hj], fun i hi => ?_⟩
    rw [gp_del_len hj] at hi
    rw [gp_gn (by omega), gp_gn (by omega), gp_del_D hj]
    by_cases e2 : i < j
    · rw [gp_fl_n (by omega), if_pos e2]
      exact hr.2.2 i (by omega)
    · rw [if_neg e2]
      obtain ⟨w, rfl⟩ : ∃ w, i = j + w := ⟨i - j, by omega⟩
      rw [show 82 + (j + w) = 82 + j + w by omega, gp_fl_i (by omega), show 82 + j + w + 1 = 82 + (j + w + 1) by omega]
      exact hr.2.2 (j + w + 1) (by omega)
end
