/-! promises 6, 7, 40, 41: rule, at, count, row -/
section
variable {B : Prop} {M M' Mc Mr Mc' Mr' : gz_M} {cu k : Nat} {T : gp_T} {l : List Nat}
theorem gp_neg_of {a : Int32} {n : Nat} (hn : n < 2 ^ 31) (h : nI n ≤ a) : ¬ a < 0 := by
  intro hlt
  have a1 := Int32.le_iff_toInt_le.mp h
  have a2 := Int32.lt_iff_toInt_lt.mp hlt
  rw [nI_toInt (by omega)] at a1
  rw [show ((0 : Int32)).toInt = 0 by decide] at a2
  omega
theorem gp_nlt_of {a : Int32} {n : Nat} (h : nI n ≤ a) : ¬ a < nI n := by
  intro hlt
  have a1 := Int32.le_iff_toInt_le.mp h
  have a2 := Int32.lt_iff_toInt_lt.mp hlt
  omega
theorem gp_tneg {a : Int32} (h : a < 0) : a.toInt < 0 := by
  have := Int32.lt_iff_toInt_lt.mp h
  rwa [show ((0 : Int32)).toInt = 0 by decide] at this
theorem gp_tge {a : Int32} {n : Nat} (hn : n < 2 ^ 31) (h : nI n ≤ a) : (n : Int) ≤ a.toInt := by
  have := Int32.le_iff_toInt_le.mp h
  rwa [nI_toInt hn] at this
/-- neither told nor changed: a call that throws, or answers -/
theorem gp_ansX0 {V : Type} (h : gp_Q B cu Mc Mr T l) {v : V} {f : Option (Option V × gz_M)} {g : Option (V × gz_M)} (a : (f = some (none, Mc) ∧ g = some (v, gz_w (gz_w Mr 0 5 0) 0 5 1)) ∨ (f = some (some v, Mc) ∧ g = some (v, gz_w Mr 0 5 0))) : gp_ansX B cu Mc Mr f g := by
  have h8 := h.2.2.2.2.2.2.2
  rcases a with ⟨a1, a2⟩ | ⟨a1, a2⟩
  · exact ⟨none, v, Mc, _, a1, a2, Or.inl ⟨rfl, gp_gs _ _ _ _⟩, gp_qC.refl, (gp_thr 0).1.trans (gp_thr 1).1, h8.fr rfl rfl rfl ((gp_gn (by omega)).trans (gp_gn (by omega)))⟩
  · exact ⟨some v, v, Mc, _, a1, a2, Or.inr ⟨rfl, gp_gs _ _ _ _⟩, gp_qC.refl, (gp_thr 0).1, h8.fr rfl rfl rfl (gp_gn (by omega))⟩
theorem gp_a6 (h : gp_Q B cu Mc Mr T l) (a w : Int32) : gp_ansX B cu Mc Mr (f11_rule a w Mc) (f12_rule a w Mr) := by
  have hq := h
  obtain ⟨h1, h2, h3, h4, h5, h6, h7, h8⟩ := h
  have ht := h1.1
  have n0 : (gz_w Mr 0 5 0).1 0 10 = nI T.1 := by rw [gp_gn (by omega)]; exact h3.1
  rcases pk_ix a (n := T.1) (by omega) with ha | ha | ⟨j, hj, rfl⟩
  · refine gp_ansX0 (v := 0) hq (Or.inl ⟨?_, ?_⟩)
    · unfold f11_rule; rw [if_pos ha]; rfl
    · unfold f12_rule; rw [gp_eL, n0, gp_in0 _ _ ha]; rfl
  · have h0 := gp_neg_of (by omega) ha
    refine gp_ansX0 (v := 0) hq (Or.inl ⟨?_, ?_⟩)
    · unfold f11_rule; rw [if_neg h0, h2.1, if_neg (gp_nlt_of ha)]; rfl
    · unfold f12_rule; rw [gp_eL, n0, gp_in0b _ (by omega) h0 ha]; rfl
  · have hv := h2.2.1 j hj
    have hr := h3.2.1 j hj
    have hw := h1.2.1 j hj
    have c0 : f11_rule (nI j) w Mc = (if w.toInt < 0 ∨ 4 < w.toInt then (some (none, Mc)) else if w = 0 then (some (some (nI (T.2.2 1 j)), Mc)) else if w = 1 then (some (some (nI (T.2.2 2 j)), Mc)) else if w = 2 then (some (some (nI (T.2.2 3 j)), Mc)) else if w = 3 then (some (some (T.2.1 j), Mc)) else if w = 4 then (if nI (T.2.2 6 j) = 0 then (some (some 0, Mc)) else (some (some 1, Mc))) else none) := by
      unfold f11_rule
      rw [if_neg (nI_pos (by omega)), h2.1, if_pos (nI_lt hj (by omega)), gp_ckb (by omega) (by omega), gp_ckb (by omega) (by omega), gp_ckb (by omega) (by omega), gp_ckb (by omega) (by omega), gp_ckb (by omega) (by omega), nI_clamp (by omega), hv.1, hv.2.1, hv.2.2.1, hv.2.2.2.1, hv.2.2.2.2.2]
    have r0 : f12_rule (nI j) w Mr = (if w.toInt < 0 ∨ 4 < w.toInt then (some (0, gz_w (gz_w Mr 0 5 0) 0 5 1)) else if w = 0 then (some (nI (T.2.2 1 j), gz_w Mr 0 5 0)) else if w = 1 then (some (nI (T.2.2 2 j), gz_w Mr 0 5 0)) else if w = 2 then (some (nI (T.2.2 3 j), gz_w Mr 0 5 0)) else if w = 3 then (some (T.2.1 j, gz_w Mr 0 5 0)) else if w = 4 then (if nI (T.2.2 6 j) = 0 then (some (0, gz_w Mr 0 5 0)) else (some (1, gz_w Mr 0 5 0))) else none) := by
      unfold f12_rule
      rw [gp_eL, n0, gp_in1 _ (by omega) hj, gp_eB2, if_neg (by decide), gp_ckb (by omega) (by omega), gp_ckb (by omega) (by omega), gp_ckb (by omega) (by omega), gp_ckb (by omega) (by omega), gp_ckb (by omega) (by omega), nI_clamp (by omega), gp_wc _ (by omega), gp_wc _ (by omega), gp_wc _ (by omega), gp_wc _ (by omega), gp_wc _ (by omega), hr.1, hr.2.1, hr.2.2.1, hr.2.2.2.1, hr.2.2.2.2.1]
      rfl
    rcases pk_ix w (n := 5) (by omega) with hw | hw | ⟨i, hi, rfl⟩
    · refine gp_ansX0 (v := 0) hq (Or.inl ⟨?_, ?_⟩)
      · rw [c0, if_pos (Or.inl (gp_tneg hw))]
      · rw [r0, if_pos (Or.inl (gp_tneg hw))]
    · have g := gp_tge (by omega) hw
      refine gp_ansX0 (v := 0) hq (Or.inl ⟨?_, ?_⟩)
      · rw [c0, if_pos (Or.inr (by omega))]
      · rw [r0, if_pos (Or.inr (by omega))]
    · rw [nI_toInt (by omega), if_neg (by omega)] at c0 r0
      have hc : i = 0 ∨ i = 1 ∨ i = 2 ∨ i = 3 ∨ i = 4 := by omega
      rcases hc with rfl | rfl | rfl | rfl | rfl
      · exact gp_ansX0 hq (Or.inr ⟨c0, r0⟩)
      · exact gp_ansX0 hq (Or.inr ⟨c0, r0⟩)
      · exact gp_ansX0 hq (Or.inr ⟨c0, r0⟩)
      · exact gp_ansX0 hq (Or.inr ⟨c0, r0⟩)
      · rw [if_neg (by decide), if_neg (by decide), if_neg (by decide), if_neg (by decide), if_pos (by decide)] at c0 r0
        by_cases h6 : nI (T.2.2 6 j) = 0
        · rw [if_pos h6] at c0 r0
          exact gp_ansX0 hq (Or.inr ⟨c0, r0⟩)
        · rw [if_neg h6] at c0 r0
          exact gp_ansX0 hq (Or.inr ⟨c0, r0⟩)
theorem gp_a7 (h : gp_Q B cu Mc Mr T l) (a : Int32) : gp_ansX B cu Mc Mr (f11_at a Mc) (f12_at a Mr) := by
  have hq := h
  obtain ⟨h1, h2, h3, h4, h5, h6, h7, h8⟩ := h
  have h42 := h4.1
  have n0 : (gz_w Mr 0 5 0).1 1 (81 : Int32).toNatClampNeg = nI l.length := by rw [gp_wc _ (by omega)]; exact h5.2.1
  rcases gp_has h4 a with ⟨h0, e⟩ | ⟨h0, ha, e⟩ | ⟨j, hj, rfl, e⟩
  · refine gp_ansX0 (v := 0) hq (Or.inl ⟨?_, ?_⟩)
    · unfold f11_at; rw [show (7 + 2 : Nat) = 9 from rfl, e, gp_eB2, if_pos rfl]
    · unfold f12_at; rw [gp_eL, gp_c81, n0, gp_in0 _ _ h0]; rfl
  · refine gp_ansX0 (v := 0) hq (Or.inl ⟨?_, ?_⟩)
    · unfold f11_at; rw [show (7 + 2 : Nat) = 9 from rfl, e, gp_eB2, if_pos rfl]
    · unfold f12_at; rw [gp_eL, gp_c81, n0, gp_in0b _ (by omega) h0 ha]; rfl
  · refine gp_ansX0 (v := nI (l.getD j 0)) hq (Or.inr ⟨?_, ?_⟩)
    · unfold f11_at; rw [show (7 + 2 : Nat) = 9 from rfl, e, gp_eB2, if_neg (by decide), gp_lget h4 hj, gp_eB2]
    · unfold f12_at
      rw [gp_eL, gp_c81, n0, gp_in1 _ (by omega) hj, gp_eB2, if_neg (by decide), show (82 : Int32) = nI 82 from rfl, nI_add, gp_ckb (by omega) (by omega), nI_clamp (by omega), gp_wc _ (by omega), (h5.2.2 j hj).1]
theorem gp_a41 (h : gp_Q B cu Mc Mr T l) (hB : B) (a : Int32) : gp_ansX B cu Mc Mr (f11_row a Mc) (f12_row a Mr) := by
  have hq := h
  obtain ⟨h1, h2, h3, h4, h5, h6, h7, r, r', p0, p1, p2, p3, p4⟩ := h
  have hrr := p4 hB
  subst hrr
  have n0 : (gz_w Mr 0 5 0).1 0 4 = nI r.length := by rw [gp_gn (by omega)]; exact p3.1
  rcases pk_ix a (n := r.length) (by omega) with ha | ha | ⟨j, hj, rfl⟩
  · refine gp_ansX0 (v := (0 : Int32).toInt64) hq (Or.inl ⟨?_, ?_⟩)
    · unfold f11_row; rw [if_pos ha]; rfl
    · unfold f12_row; rw [gp_eL, n0, gp_in0 _ _ ha]; rfl
  · have h0 := gp_neg_of (by omega) ha
    refine gp_ansX0 (v := (0 : Int32).toInt64) hq (Or.inl ⟨?_, ?_⟩)
    · unfold f11_row; rw [if_neg h0, p2.1, if_pos ha]; rfl
    · unfold f12_row; rw [gp_eL, n0, gp_in0b _ (by omega) h0 ha]; rfl
  · refine gp_ansX0 (v := r.getD j 0) hq (Or.inr ⟨?_, ?_⟩)
    · unfold f11_row; rw [if_neg (nI_pos (by omega)), p2.1, if_neg (nI_ge hj (by omega)), if_pos (show nI j < (1024 : Int32) from nI_lt (b := 1024) (by omega) (by omega)), gp_ckb (show j < 1024 by omega) (by omega), nI_clamp (by omega), p2.2 j hj]
    · unfold f12_row
      rw [gp_eL, n0, gp_in1 _ (by omega) hj, gp_eB2, if_neg (by decide), gp_ckb (show j < 64 by omega) (by omega), nI_clamp (by omega)]
      show some (Mr.2 j, _) = _
      rw [p3.2 j hj]
/-- sums over rules -/
def gp_ac (f : Int32 → Nat → Int32) : Nat → Int32
  | 0 => 0
  | x + 1 => f (gp_ac f x) x
theorem gp_acL (L : Nat → Int32 → Int32 → gz_M → Option (Int32 × gz_M)) (f : Int32 → Nat → Int32) (N : Nat) (M : gz_M) (hend : ∀ n v, L (n + 1) v (nI N) M = some (v, M)) (hstep : ∀ n v x, x < N → L (n + 1) v (nI x) M = L n (f v x) (nI (x + 1)) M) (hN : N < gz_FU) : L gz_FU 0 (nI 0) M = some (gp_ac f N, M) := by
  have main : ∀ d x n, x + d = N → d < n → L n (gp_ac f x) (nI x) M = some (gp_ac f N, M) := by
    intro d
    induction d with
    | zero =>
      intro x n hx hn
      obtain ⟨n, rfl⟩ : ∃ q, n = q + 1 := ⟨n - 1, by omega⟩
      have : x = N := by omega
      subst this
      exact hend n _
    | succ d ih =>
      intro x n hx hn
      obtain ⟨n, rfl⟩ : ∃ q, n = q + 1 := ⟨n - 1, by omega⟩
      rw [hstep n _ x (by omega)]
      exact ih (x + 1) n (by omega) (by omega)
  exact main N 0 gz_FU (by omega) hN
theorem gp_allL (h : gp_tC k M T) (hw : gp_wT T) : f7_lettersOfAll k M = some (gp_ac (fun v x => v + nI (T.2.2 2 x)) T.1, M) := by
  have ht := hw.1
  refine gp_acL (fun n v x M => f7_lettersOfAll_4 k n v x M) _ T.1 M (fun n v => ?_) (fun n v x hx => ?_) (by unfold gz_FU; omega)
  · show f7_lettersOfAll_4 k (n + 1) _ _ _ = _
    rw [f7_lettersOfAll_4, h.1, if_pos (nI_le (Nat.le_refl _) (by omega))]
  · show f7_lettersOfAll_4 k (n + 1) _ _ _ = f7_lettersOfAll_4 k n _ _ _
    rw [f7_lettersOfAll_4, h.1, if_neg (nI_ge hx (by omega)), gp_ckb (show x < 8 by omega) (by omega), nI_clamp (by omega), (h.2.1 x hx).2.1, gp_eL, gp_eL, nI_1]
theorem gp_allR (h : gp_tR M T) (hw : gp_wT T) : f12_allLetters M = some (gp_ac (fun v x => v + nI (T.2.2 2 x)) T.1, M) := by
  have ht := hw.1
  refine gp_acL (fun n v x M => f12_allLetters_4 n v x M) _ T.1 M (fun n v => ?_) (fun n v x hx => ?_) (by unfold gz_FU; omega)
  · show f12_allLetters_4 (n + 1) _ _ _ = _
    rw [f12_allLetters_4, h.1, if_pos (nI_le (Nat.le_refl _) (by omega))]
  · show f12_allLetters_4 (n + 1) _ _ _ = f12_allLetters_4 n _ _ _
    rw [f12_allLetters_4, h.1, if_neg (nI_ge hx (by omega)), gp_ckb (show x < 8 by omega) (by omega), nI_clamp (by omega), (h.2.1 x hx).2.1, gp_eL, gp_eL, nI_1]
theorem gp_modL (h : gp_tC k M T) (hw : gp_wT T) : f7_modesWithRules k M = some (gp_ac (fun v x => v ||| gz_shl 1 (nI (T.2.2 1 x))) T.1, M) := by
  have ht := hw.1
  refine gp_acL (fun n v x M => f7_modesWithRules_4 k n v x M) _ T.1 M (fun n v => ?_) (fun n v x hx => ?_) (by unfold gz_FU; omega)
  · show f7_modesWithRules_4 k (n + 1) _ _ _ = _
    rw [f7_modesWithRules_4, h.1, if_pos (nI_le (Nat.le_refl _) (by omega))]
  · show f7_modesWithRules_4 k (n + 1) _ _ _ = f7_modesWithRules_4 k n _ _ _
    rw [f7_modesWithRules_4, h.1, if_neg (nI_ge hx (by omega)), gp_ckb (show x < 8 by omega) (by omega), nI_clamp (by omega), (h.2.1 x hx).1, gp_eL, gp_eL, nI_1]
theorem gp_modR (h : gp_tR M T) (hw : gp_wT T) : f12_ruledModes M = some (gp_ac (fun v x => v ||| gz_shl 1 (nI (T.2.2 1 x))) T.1, M) := by
  have ht := hw.1
  refine gp_acL (fun n v x M => f12_ruledModes_4 n v x M) _ T.1 M (fun n v => ?_) (fun n v x hx => ?_) (by unfold gz_FU; omega)
  · show f12_ruledModes_4 (n + 1) _ _ _ = _
    rw [f12_ruledModes_4, h.1, if_pos (nI_le (Nat.le_refl _) (by omega))]
  · show f12_ruledModes_4 (n + 1) _ _ _ = f12_ruledModes_4 n _ _ _
    rw [f12_ruledModes_4, h.1, if_neg (nI_ge hx (by omega)), gp_ckb (show x < 8 by omega) (by omega), nI_clamp (by omega), (h.2.1 x hx).1, gp_eL, gp_eL, nI_1]
end
section
variable {B : Prop} {pf : Nat → Bool} {Mc Mr : gz_M} {cu o : Nat} {x : List Nat} {b : gp_Bk} {us : List gp_Bk} {ks : Nat → Option gp_Bk}
theorem gp_a40 (h : gp_RI B pf cu Mc Mr x b us ks o) (hB : B) (a : Int32) : gp_ans B cu Mc Mr (f11_count a Mc) (f12_count a Mr) := by
  obtain ⟨hq, h2', h3', h4', _, _, _, h8', _, h10', _⟩ := h
  have hQ := hq
  obtain ⟨h1, h2, h3, h4, h5, h6, h7, h8⟩ := hq
  have tR : gp_tR (gz_w Mr 0 5 0) (gp_tab b.1) := h3.fr (fun c c1 c2 => gp_wc _ (by omega)) (gp_gn (by omega))
  obtain ⟨M1, e1, e2, e3, e4, e5, e6, e7, e8, _⟩ := gp_cutT hQ
  rcases pk_ix a (n := 9) (by omega) with ha | ha | ⟨j, hj, rfl⟩
  · refine gp_ansN hQ (-1) ?_ ?_
    · unfold f11_count; rw [if_pos (Or.inl (gp_tneg ha))]
    · unfold f12_count; rw [gp_eL, if_pos (Or.inl (gp_tneg ha))]
  · have g := gp_tge (by omega) ha
    refine gp_ansN hQ (-1) ?_ ?_
    · unfold f11_count; rw [if_pos (Or.inr (by omega))]
    · unfold f12_count; rw [gp_eL, if_pos (Or.inr (by omega))]
  · have hc : j = 0 ∨ j = 1 ∨ j = 2 ∨ j = 3 ∨ j = 4 ∨ j = 5 ∨ j = 6 ∨ j = 7 ∨ j = 8 := by omega
    rcases hc with rfl | rfl | rfl | rfl | rfl | rfl | rfl | rfl | rfl
    · refine gp_ansN hQ (nI (gp_tab b.1).1) ?_ ?_
      · unfold f11_count; rw [if_neg (by decide), if_pos (by decide), h2.1]
      · unfold f12_count; rw [gp_eL, if_neg (by decide), if_pos (by decide), tR.1]
    · refine gp_ansN hQ (nI b.2.length) ?_ ?_
      · unfold f11_count; rw [if_neg (by decide), if_neg (by decide), if_pos (by decide)]; exact congrArg (fun v => some (v, Mc)) h4.2.1
      · unfold f12_count; rw [gp_eL, if_neg (by decide), if_neg (by decide), if_pos (by decide), gp_c81, gp_wc _ (by omega), gp_k81, h5.2.1]
    · refine gp_ansK (v := nI (gp_cut (gp_tab b.1) b.2).length) (Mc' := Mc) (Mr' := M1) ?_ ?_ gp_qC.refl e2 h8 rfl rfl e7 e8
      · unfold f11_count; rw [if_neg (by decide), if_neg (by decide), if_neg (by decide), if_pos (by decide), h6.2.1, h6.2.2.1.1]
      · unfold f12_count; rw [gp_eL, if_neg (by decide), if_neg (by decide), if_neg (by decide), if_pos (by decide), e1, gp_eB, e3.1]
    · refine gp_ansN hQ (nI us.length) ?_ ?_
      · unfold f11_count; rw [if_neg (by decide), if_neg (by decide), if_neg (by decide), if_neg (by decide), if_pos (by decide), h8'.2.2.2.1]
      · unfold f12_count; rw [gp_eL, if_neg (by decide), if_neg (by decide), if_neg (by decide), if_neg (by decide), if_pos (by decide), gp_gn (by omega), h10'.1]
    · obtain ⟨r, r', p0, p1, p2, p3, p4⟩ := h8
      have hrr := p4 hB
      subst hrr
      refine gp_ansN hQ (nI r.length) ?_ ?_
      · unfold f11_count; rw [if_neg (by decide), if_neg (by decide), if_neg (by decide), if_neg (by decide), if_neg (by decide), if_pos (by decide), p2.1]
      · unfold f12_count; rw [gp_eL, if_neg (by decide), if_neg (by decide), if_neg (by decide), if_neg (by decide), if_neg (by decide), if_pos (by decide), gp_gn (by omega), p3.1]
    · refine gp_ansN hQ (nI x.length) ?_ ?_
      · unfold f11_count; rw [if_neg (by decide), if_neg (by decide), if_neg (by decide), if_neg (by decide), if_neg (by decide), if_neg (by decide), if_pos (by decide), h3'.2.1]
      · unfold f12_count; rw [gp_eL, if_neg (by decide), if_neg (by decide), if_neg (by decide), if_neg (by decide), if_neg (by decide), if_neg (by decide), if_pos (by decide), gp_gn (by omega), h4'.2.1]
    · refine gp_ansK (v := nI (gp_most (gp_cut (gp_tab b.1) b.2))) (Mc' := Mc) (Mr' := M1) ?_ ?_ gp_qC.refl e2 h8 rfl rfl e7 e8
      · unfold f11_count; rw [if_neg (by decide), if_neg (by decide), if_neg (by decide), if_neg (by decide), if_neg (by decide), if_neg (by decide), if_neg (by decide), if_pos (by decide), h6.2.1, h6.2.2.1.2.1]
      · unfold f12_count; rw [gp_eL, if_neg (by decide), if_neg (by decide), if_neg (by decide), if_neg (by decide), if_neg (by decide), if_neg (by decide), if_neg (by decide), if_pos (by decide), e1, gp_eB, e3.2.1]
    · refine gp_ansN hQ (gp_ac (fun v x => v + nI ((gp_tab b.1).2.2 2 x)) (gp_tab b.1).1) ?_ ?_
      · unfold f11_count; rw [if_neg (by decide), if_neg (by decide), if_neg (by decide), if_neg (by decide), if_neg (by decide), if_neg (by decide), if_neg (by decide), if_neg (by decide), if_pos (by decide), gp_allL h2 h1, gp_eB2]
      · unfold f12_count; rw [gp_eL, if_neg (by decide), if_neg (by decide), if_neg (by decide), if_neg (by decide), if_neg (by decide), if_neg (by decide), if_neg (by decide), if_neg (by decide), if_pos (by decide), gp_allR tR h1, gp_eB2]
    · refine gp_ansN hQ (gp_ac (fun v x => v ||| gz_shl 1 (nI ((gp_tab b.1).2.2 1 x))) (gp_tab b.1).1) ?_ ?_
      · unfold f11_count; rw [if_neg (by decide), if_neg (by decide), if_neg (by decide), if_neg (by decide), if_neg (by decide), if_neg (by decide), if_neg (by decide), if_neg (by decide), if_neg (by decide), if_pos (by decide), gp_modL h2 h1, gp_eB2]
      · unfold f12_count; rw [gp_eL, if_neg (by decide), if_neg (by decide), if_neg (by decide), if_neg (by decide), if_neg (by decide), if_neg (by decide), if_neg (by decide), if_neg (by decide), if_neg (by decide), if_pos (by decide), gp_modR tR h1, gp_eB2]
end
