theorem wf_RX11_158 : gz_FL RX11 158 RX7 "letters" "[I" := Or.inr ⟨"LongestTokens", gz_inN 223 (by decide +kernel) rfl⟩
theorem wf_RX11_161 : gz_FL RX11 161 RX7 "act" "[I" := Or.inr ⟨"LongestTokens", gz_inN 227 (by decide +kernel) rfl⟩
theorem wf_RX11_164 : gz_FL RX11 164 RX7 "digit" "[I" := Or.inr ⟨"LongestTokens", gz_inN 231 (by decide +kernel) rfl⟩
theorem wf_RX11_167 : gz_FL RX11 167 RX7 "empty" "[Z" := Or.inr ⟨"LongestTokens", gz_inN 237 (by decide +kernel) rfl⟩
theorem wm_RX11_173 : gz_WV RX11 173 RX5 yX5_get cX5_get 2 1 (some (.int)) := ⟨Or.inl (gz_in 1138 (by decide +kernel) rfl), wc_yX5_get⟩
theorem wm_RX11_206 : gz_WV RX11 206 RX2 yX2_reach cX2_reach 2 1 (some (.int)) := ⟨Or.inl (gz_in 1146 (by decide +kernel) rfl), wc_yX2_reach⟩
def f11_rule_15 (M0 : gz_M) : Option (Option Int32 × gz_M) := some (none, M0)
theorem b11_rule_15 {x : gz_X} {pf : Nat → Bool} {l : Launch} {r : Option Int32} {M' : gz_M} (X : gz_Ok x cX11_rule RX11 3 6 gz_cfC pf l) (hc : gx_cells x ≤ (gx_R x).cells ∧ gx_slots x ≤ (gx_R x).slots) (hE : gz_EIX x cX11_rule .int r M') : ∀ (M0 : gz_M), f11_rule_15 M0 = some (r, M') → gz_At x 15 [] [] M0 := by
  intro  M0  hf
  rw [f11_rule_15] at hf
  exact gz_ETu hE hf dX11_rule_15 dX11_rule_18 dX11_rule_19 dX11_rule_22

def f11_rule (a0 : Int32) (a1 : Int32) (M0 : gz_M) : Option (Option Int32 × gz_M) := if a0 < 0 then (f11_rule_15 M0) else (if a0 < (M0.1 11 0) then (if a1.toInt < 0 ∨ 4 < a1.toInt then (some (none, M0)) else if a1 = 0 then (gz_ck (gz_inb a0 8) <| some (some (M0.1 (11 + 1) a0.toNatClampNeg), M0)) else if a1 = 1 then (gz_ck (gz_inb a0 8) <| some (some (M0.1 (11 + 2) a0.toNatClampNeg), M0)) else if a1 = 2 then (gz_ck (gz_inb a0 8) <| some (some (M0.1 (11 + 3) a0.toNatClampNeg), M0)) else if a1 = 3 then (gz_ck (gz_inb a0 8) <| some (some (M0.1 (11 + 4) a0.toNatClampNeg), M0)) else if a1 = 4 then (gz_ck (gz_inb a0 8) <| if (M0.1 (11 + 6) a0.toNatClampNeg) = 0 then (some (some 0, M0)) else (some (some 1, M0))) else none) else (f11_rule_15 M0))
set_option maxRecDepth 100000 in
theorem c11_rule {pf : Nat → Bool} {l : Launch} (hl9 : l.stackTraces = false) {r : Option Int32} {M0 M' : gz_M} {a0 : Int32} {a1 : Int32} (hf : f11_rule a0 a1 M0 = some (r, M')) : gz_CIX l gz_cfC yX11_rule cX11_rule 3 6 .int (fun ad => [.ref (ad 0), .int a0, .int a1]) pf M0 r M' := by
  refine gz_ofIX hl9 (by decide +kernel) rfl (Nat.le_of_ble_eq_true rfl) (fun _ => Nat.le_of_ble_eq_true rfl) (fun x X hc hE => ?_)
  show gz_At x 0 [(0, .ref (gx_ad x 0)), (1, .int a0), (2, .int a1)] [] M0
  unfold f11_rule at hf
  refine gr_iload_n X dX11_rule_0 1 rfl rfl ?_
  refine gr_if_lt 15 X dX11_rule_1 (by decide) (fun h1 => ?_) (fun h1 => ?_)
  · rw [if_pos h1] at hf
    refine gr_sub (lv' := []) [] rfl ?_
    exact b11_rule_15 X hc hE  _ hf
  · rw [if_neg h1] at hf
    refine gr_iload_n X dX11_rule_4 1 rfl rfl ?_
    refine gr_aload_n X dX11_rule_5 0 rfl rfl ?_
    refine gf11_4 X wf_RX11_40 dX11_rule_6 ?_
    refine gf7_0 X (gk_X7o gi_table) wf_RX11_135 dX11_rule_9 ?_
    refine gr_icmp_lt 23 X dX11_rule_12 (by decide) (fun h2 => ?_) (fun h2 => ?_)
    · rw [if_pos h2] at hf
      refine gr_iload_n X dX11_rule_23 2 rfl rfl ?_
      by_cases h3 : a1.toInt < 0 ∨ 4 < a1.toInt
      · rw [if_pos h3] at hf
        refine gr_tsOut 118 X dX11_rule_24 h3 (by decide) ?_
        exact gz_ETu hE hf dX11_rule_118 dX11_rule_121 dX11_rule_122 dX11_rule_125
      rw [if_neg h3] at hf
      by_cases h4 : a1 = 0
      · rw [if_pos h4] at hf
        refine gr_tsIn 0 36 60 X dX11_rule_24 h4 (by decide) (by decide) (by decide) (by decide) ?_
        refine gr_aload_n X dX11_rule_60 0 rfl rfl ?_
        refine gf11_4 X wf_RX11_40 dX11_rule_61 ?_
        refine gf7_1 X (gk_X7o gi_table) wf_RX11_154 dX11_rule_64 ?_
        refine gr_iload_n X dX11_rule_67 1 rfl rfl ?_
        obtain ⟨h5, hf⟩ := gz_cke hf
        refine gr_iaload X (gk_X71 gi_table) (gz_inp h5) dX11_rule_68 ?_
        exact gz_EXu hE hf rfl dX11_rule_69
      rw [if_neg h4] at hf
      by_cases h6 : a1 = 1
      · rw [if_pos h6] at hf
        refine gr_tsIn 1 46 70 X dX11_rule_24 h6 (by decide) (by decide) (by decide) (by decide) ?_
        refine gr_aload_n X dX11_rule_70 0 rfl rfl ?_
        refine gf11_4 X wf_RX11_40 dX11_rule_71 ?_
        refine gf7_2 X (gk_X7o gi_table) wf_RX11_158 dX11_rule_74 ?_
        refine gr_iload_n X dX11_rule_77 1 rfl rfl ?_
        obtain ⟨h7, hf⟩ := gz_cke hf
        refine gr_iaload X (gk_X72 gi_table) (gz_inp h7) dX11_rule_78 ?_
        exact gz_EXu hE hf rfl dX11_rule_79
      rw [if_neg h6] at hf
      by_cases h8 : a1 = 2
      · rw [if_pos h8] at hf
        refine gr_tsIn 2 56 80 X dX11_rule_24 h8 (by decide) (by decide) (by decide) (by decide) ?_
        refine gr_aload_n X dX11_rule_80 0 rfl rfl ?_
        refine gf11_4 X wf_RX11_40 dX11_rule_81 ?_
        refine gf7_3 X (gk_X7o gi_table) wf_RX11_161 dX11_rule_84 ?_
        refine gr_iload_n X dX11_rule_87 1 rfl rfl ?_
        obtain ⟨h9, hf⟩ := gz_cke hf
        refine gr_iaload X (gk_X73 gi_table) (gz_inp h9) dX11_rule_88 ?_
        exact gz_EXu hE hf rfl dX11_rule_89
      rw [if_neg h8] at hf
      by_cases h10 : a1 = 3
      · rw [if_pos h10] at hf
        refine gr_tsIn 3 66 90 X dX11_rule_24 h10 (by decide) (by decide) (by decide) (by decide) ?_
        refine gr_aload_n X dX11_rule_90 0 rfl rfl ?_
        refine gf11_4 X wf_RX11_40 dX11_rule_91 ?_
        refine gf7_4 X (gk_X7o gi_table) wf_RX11_164 dX11_rule_94 ?_
        refine gr_iload_n X dX11_rule_97 1 rfl rfl ?_
        obtain ⟨h11, hf⟩ := gz_cke hf
        refine gr_iaload X (gk_X74 gi_table) (gz_inp h11) dX11_rule_98 ?_
        exact gz_EXu hE hf rfl dX11_rule_99
      rw [if_neg h10] at hf
      by_cases h12 : a1 = 4
      · rw [if_pos h12] at hf
        refine gr_tsIn 4 76 100 X dX11_rule_24 h12 (by decide) (by decide) (by decide) (by decide) ?_
        refine gr_aload_n X dX11_rule_100 0 rfl rfl ?_
        refine gf11_4 X wf_RX11_40 dX11_rule_101 ?_
        refine gf7_6 X (gk_X7o gi_table) wf_RX11_167 dX11_rule_104 ?_
        refine gr_iload_n X dX11_rule_107 1 rfl rfl ?_
        obtain ⟨h13, hf⟩ := gz_cke hf
        refine gr_zaload X (gk_X76 gi_table) (gz_inp h13) dX11_rule_108 ?_
        refine gr_if_eq 116 X dX11_rule_109 (by decide) (fun h14 => ?_) (fun h14 => ?_)
        · rw [if_pos h14] at hf
          refine gr_iconst 0 X dX11_rule_116 (by decide) ?_
          exact gz_EXu hE hf rfl dX11_rule_117
        · rw [if_neg h14] at hf
          refine gr_iconst 1 X dX11_rule_112 (by decide) ?_
          refine gr_goto 117 X dX11_rule_113 (by decide) ?_
          exact gz_EXu hE hf rfl dX11_rule_117
      rw [if_neg h12] at hf
      cases hf
    · rw [if_neg h2] at hf
      refine gr_sub (lv' := []) [] rfl ?_
      exact b11_rule_15 X hc hE  _ hf

def f11_at (a0 : Int32) (M0 : gz_M) : Option (Option Int32 × gz_M) := gz_bd2 (f5_has (7 + 2) a0 M0) fun v1 M2 => if v1 = 0 then (some (none, M2)) else (gz_bd2 (f5_get (7 + 2) a0 M2) fun v5 M6 => some (some v5, M6))
set_option maxRecDepth 100000 in
theorem c11_at {pf : Nat → Bool} {l : Launch} (hl9 : l.stackTraces = false) {r : Option Int32} {M0 M' : gz_M} {a0 : Int32} (hf : f11_at a0 M0 = some (r, M')) : gz_CIX l gz_cfC yX11_at cX11_at 2 6 .int (fun ad => [.ref (ad 0), .int a0]) pf M0 r M' := by
  refine gz_ofIX hl9 (by decide +kernel) rfl (Nat.le_of_ble_eq_true rfl) (fun _ => Nat.le_of_ble_eq_true rfl) (fun x X hc hE => ?_)
  show gz_At x 0 [(0, .ref (gx_ad x 0)), (1, .int a0)] [] M0
  unfold f11_at at hf
  refine gr_aload_n X dX11_at_0 0 rfl rfl ?_
  refine gf11_3 X wf_RX11_33 dX11_at_1 ?_
  refine gf0_2 X (gk_X0o gi_now) wf_RX11_141 dX11_at_4 ?_
  refine gr_iload_n X dX11_at_7 1 rfl rfl ?_
  obtain ⟨v1, M2, q3, hf⟩ := gz_bd2e hf
  refine gr_callI (asF := fun ad => [.ref (ad (7 + 2)), .int a0]) [.int a0] X (c5_has (gi_X0line gi_now) q3) rfl wm_RX11_170 rfl (X.kd (gk_X5o (gi_X0line gi_now))).1 ((X.kd (gk_X5o (gi_X0line gi_now))).2 _ _ _ _) rfl (by decide) (by decide) rfl (Nat.le_of_ble_eq_true rfl) hc dX11_at_8 ?_
  refine gr_if_ne 22 X dX11_at_11 (by decide) (fun h4 => ?_) (fun h4 => ?_)
  · rw [if_pos h4] at hf
    exact gz_ETu hE hf dX11_at_14 dX11_at_17 dX11_at_18 dX11_at_21
  · rw [if_neg h4] at hf
    refine gr_aload_n X dX11_at_22 0 rfl rfl ?_
    refine gf11_3 X wf_RX11_33 dX11_at_23 ?_
    refine gf0_2 X (gk_X0o gi_now) wf_RX11_141 dX11_at_26 ?_
    refine gr_iload_n X dX11_at_29 1 rfl rfl ?_
    obtain ⟨v5, M6, q7, hf⟩ := gz_bd2e hf
    refine gr_callI (asF := fun ad => [.ref (ad (7 + 2)), .int a0]) [.int a0] X (c5_get (gi_X0line gi_now) q7) rfl wm_RX11_173 rfl (X.kd (gk_X5o (gi_X0line gi_now))).1 ((X.kd (gk_X5o (gi_X0line gi_now))).2 _ _ _ _) rfl (by decide) (by decide) rfl (Nat.le_of_ble_eq_true rfl) hc dX11_at_30 ?_
    exact gz_EXu hE hf rfl dX11_at_33

def f11_token_15 (M0 : gz_M) : Option (Option Int32 × gz_M) := some (none, M0)
theorem b11_token_15 {x : gz_X} {pf : Nat → Bool} {l : Launch} {r : Option Int32} {M' : gz_M} (X : gz_Ok x cX11_token RX11 3 6 gz_cfC pf l) (hc : gx_cells x ≤ (gx_R x).cells ∧ gx_slots x ≤ (gx_R x).slots) (hE : gz_EIX x cX11_token .int r M') : ∀ (M0 : gz_M), f11_token_15 M0 = some (r, M') → gz_At x 15 [] [] M0 := by
  intro  M0  hf
  rw [f11_token_15] at hf
  exact gz_ETu hE hf dX11_token_15 dX11_token_18 dX11_token_19 dX11_token_22

def f11_token (a0 : Int32) (a1 : Int32) (M0 : gz_M) : Option (Option Int32 × gz_M) := if a0 < 0 then (f11_token_15 M0) else (if a0 < (M0.1 (gz_cIx (M0.1 0 5)) 0) then (if a1.toInt < 0 ∨ 5 < a1.toInt then (some (none, M0)) else if a1 = 0 then (gz_ck (gz_inb a0 24) <| some (some (M0.1 (gz_cIx (M0.1 0 5) + 1) a0.toNatClampNeg), M0)) else if a1 = 1 then (gz_ck (gz_inb a0 24) <| some (some (M0.1 (gz_cIx (M0.1 0 5) + 2) a0.toNatClampNeg), M0)) else if a1 = 2 then (gz_ck (gz_inb a0 24) <| some (some (M0.1 (gz_cIx (M0.1 0 5) + 3) a0.toNatClampNeg), M0)) else if a1 = 3 then (gz_bd2 (f2_reach (gz_cIx (M0.1 0 5)) a0 M0) fun v11 M12 => some (some v11, M12)) else if a1 = 4 then (gz_ck (gz_inb a0 24) <| some (some (M0.1 (gz_cIx (M0.1 0 5) + 6) a0.toNatClampNeg), M0)) else if a1 = 5 then (gz_ck (gz_inb a0 24) <| some (some (M0.1 (gz_cIx (M0.1 0 5) + 7) a0.toNatClampNeg), M0)) else none) else (f11_token_15 M0))
set_option maxRecDepth 100000 in
theorem c11_token {pf : Nat → Bool} {l : Launch} (hl9 : l.stackTraces = false) {r : Option Int32} {M0 M' : gz_M} {a0 : Int32} {a1 : Int32} (hf : f11_token a0 a1 M0 = some (r, M')) : gz_CIX l gz_cfC yX11_token cX11_token 3 6 .int (fun ad => [.ref (ad 0), .int a0, .int a1]) pf M0 r M' := by
  refine gz_ofIX hl9 (by decide +kernel) rfl (Nat.le_of_ble_eq_true rfl) (fun _ => Nat.le_of_ble_eq_true rfl) (fun x X hc hE => ?_)
  show gz_At x 0 [(0, .ref (gx_ad x 0)), (1, .int a0), (2, .int a1)] [] M0
  unfold f11_token at hf
  refine gr_iload_n X dX11_token_0 1 rfl rfl ?_
  refine gr_if_lt 15 X dX11_token_1 (by decide) (fun h1 => ?_) (fun h1 => ?_)
  · rw [if_pos h1] at hf
    refine gr_sub (lv' := []) [] rfl ?_
    exact b11_token_15 X hc hE  _ hf
  · rw [if_neg h1] at hf
    refine gr_iload_n X dX11_token_4 1 rfl rfl ?_
    refine gr_aload_n X dX11_token_5 0 rfl rfl ?_
    refine gf11_5 X wf_RX11_47 dX11_token_6 ?_
    refine gf2_0 X (gk_X2o (gi_cut _)) wf_RX11_190 dX11_token_9 ?_
    refine gr_icmp_lt 23 X dX11_token_12 (by decide) (fun h2 => ?_) (fun h2 => ?_)
    · rw [if_pos h2] at hf
      refine gr_iload_n X dX11_token_23 2 rfl rfl ?_
      by_cases h3 : a1.toInt < 0 ∨ 5 < a1.toInt
      · rw [if_pos h3] at hf
        refine gr_tsOut 123 X dX11_token_24 h3 (by decide) ?_
        exact gz_ETu hE hf dX11_token_123 dX11_token_126 dX11_token_127 dX11_token_130
      rw [if_neg h3] at hf
      by_cases h4 : a1 = 0
      · rw [if_pos h4] at hf
        refine gr_tsIn 0 40 64 X dX11_token_24 h4 (by decide) (by decide) (by decide) (by decide) ?_
        refine gr_aload_n X dX11_token_64 0 rfl rfl ?_
        refine gf11_5 X wf_RX11_47 dX11_token_65 ?_
        refine gf2_2 X (gk_X2o (gi_cut _)) wf_RX11_200 dX11_token_68 ?_
        refine gr_iload_n X dX11_token_71 1 rfl rfl ?_
        obtain ⟨h5, hf⟩ := gz_cke hf
        refine gr_iaload X (gk_X21 (gi_cut _)) (gz_inp h5) dX11_token_72 ?_
        exact gz_EXu hE hf rfl dX11_token_73
      rw [if_neg h4] at hf
      by_cases h6 : a1 = 1
      · rw [if_pos h6] at hf
        refine gr_tsIn 1 50 74 X dX11_token_24 h6 (by decide) (by decide) (by decide) (by decide) ?_
        refine gr_aload_n X dX11_token_74 0 rfl rfl ?_
        refine gf11_5 X wf_RX11_47 dX11_token_75 ?_
        refine gf2_3 X (gk_X2o (gi_cut _)) wf_RX11_203 dX11_token_78 ?_
        refine gr_iload_n X dX11_token_81 1 rfl rfl ?_
        obtain ⟨h7, hf⟩ := gz_cke hf
        refine gr_iaload X (gk_X22 (gi_cut _)) (gz_inp h7) dX11_token_82 ?_
        exact gz_EXu hE hf rfl dX11_token_83
      rw [if_neg h6] at hf
      by_cases h8 : a1 = 2
      · rw [if_pos h8] at hf
        refine gr_tsIn 2 60 84 X dX11_token_24 h8 (by decide) (by decide) (by decide) (by decide) ?_
        refine gr_aload_n X dX11_token_84 0 rfl rfl ?_
        refine gf11_5 X wf_RX11_47 dX11_token_85 ?_
        refine gf2_4 X (gk_X2o (gi_cut _)) wf_RX11_193 dX11_token_88 ?_
        refine gr_iload_n X dX11_token_91 1 rfl rfl ?_
        obtain ⟨h9, hf⟩ := gz_cke hf
        refine gr_iaload X (gk_X23 (gi_cut _)) (gz_inp h9) dX11_token_92 ?_
        exact gz_EXu hE hf rfl dX11_token_93
      rw [if_neg h8] at hf
      by_cases h10 : a1 = 3
      · rw [if_pos h10] at hf
        refine gr_tsIn 3 70 94 X dX11_token_24 h10 (by decide) (by decide) (by decide) (by decide) ?_
        refine gr_aload_n X dX11_token_94 0 rfl rfl ?_
        refine gf11_5 X wf_RX11_47 dX11_token_95 ?_
        refine gr_iload_n X dX11_token_98 1 rfl rfl ?_
        obtain ⟨v11, M12, q13, hf⟩ := gz_bd2e hf
        refine gr_callI (asF := fun ad => [.ref (ad (gz_cIx (M0.1 0 5))), .int a0]) [.int a0] X (c2_reach (gi_cut _) q13) rfl wm_RX11_206 rfl (X.kd (gk_X2o (gi_cut _))).1 ((X.kd (gk_X2o (gi_cut _))).2 _ _ _ _) rfl (by decide) (by decide) rfl (Nat.le_of_ble_eq_true rfl) hc dX11_token_99 ?_
        exact gz_EXu hE hf rfl dX11_token_102
      rw [if_neg h10] at hf
      by_cases h14 : a1 = 4
      · rw [if_pos h14] at hf
        refine gr_tsIn 4 79 103 X dX11_token_24 h14 (by decide) (by decide) (by decide) (by decide) ?_
        refine gr_aload_n X dX11_token_103 0 rfl rfl ?_
        refine gf11_5 X wf_RX11_47 dX11_token_104 ?_
        refine gf2_7 X (gk_X2o (gi_cut _)) wf_RX11_209 dX11_token_107 ?_
        refine gr_iload_n X dX11_token_110 1 rfl rfl ?_
        obtain ⟨h15, hf⟩ := gz_cke hf
        refine gr_iaload X (gk_X26 (gi_cut _)) (gz_inp h15) dX11_token_111 ?_
        exact gz_EXu hE hf rfl dX11_token_112
      rw [if_neg h14] at hf
      by_cases h16 : a1 = 5
      · rw [if_pos h16] at hf
        refine gr_tsIn 5 89 113 X dX11_token_24 h16 (by decide) (by decide) (by decide) (by decide) ?_
        refine gr_aload_n X dX11_token_113 0 rfl rfl ?_
        refine gf11_5 X wf_RX11_47 dX11_token_114 ?_
        refine gf2_8 X (gk_X2o (gi_cut _)) wf_RX11_210 dX11_token_117 ?_
        refine gr_iload_n X dX11_token_120 1 rfl rfl ?_
        obtain ⟨h17, hf⟩ := gz_cke hf
        refine gr_iaload X (gk_X27 (gi_cut _)) (gz_inp h17) dX11_token_121 ?_
        exact gz_EXu hE hf rfl dX11_token_122
      rw [if_neg h16] at hf
      cases hf
    · rw [if_neg h2] at hf
      refine gr_sub (lv' := []) [] rfl ?_
      exact b11_token_15 X hc hE  _ hf

def f11_row_21 (M0 : gz_M) : Option (Option Int64 × gz_M) := some (none, M0)
theorem b11_row_21 {x : gz_X} {pf : Nat → Bool} {l : Launch} {r : Option Int64} {M' : gz_M} (X : gz_Ok x cX11_row RX11 2 6 gz_cfC pf l) (hc : gx_cells x ≤ (gx_R x).cells ∧ gx_slots x ≤ (gx_R x).slots) (hE : gz_ELX x cX11_row r M') : ∀ (M0 : gz_M), f11_row_21 M0 = some (r, M') → gz_At x 21 [] [] M0 := by
  intro  M0  hf
  rw [f11_row_21] at hf
  exact gz_ETLu hE hf dX11_row_21 dX11_row_24 dX11_row_25 dX11_row_28

def f11_row (a0 : Int32) (M0 : gz_M) : Option (Option Int64 × gz_M) := if a0 < 0 then (f11_row_21 M0) else (if (M0.1 0 15) ≤ a0 then (f11_row_21 M0) else (if a0 < 1024 then (gz_ck (gz_inb a0 1024) <| some (some (M0.2 a0.toNatClampNeg), M0)) else (f11_row_21 M0)))
set_option maxRecDepth 100000 in
theorem c11_row {pf : Nat → Bool} {l : Launch} (hl9 : l.stackTraces = false) {r : Option Int64} {M0 M' : gz_M} {a0 : Int32} (hf : f11_row a0 M0 = some (r, M')) : gz_CLX l gz_cfC yX11_row cX11_row 2 6 .long (fun ad => [.ref (ad 0), .int a0]) pf M0 r M' := by
  refine gz_ofLX hl9 (by decide +kernel) rfl rfl (Nat.le_of_ble_eq_true rfl) (fun _ => Nat.le_of_ble_eq_true rfl) (fun x X hc hE => ?_)
  show gz_At x 0 [(0, .ref (gx_ad x 0)), (1, .int a0)] [] M0
  unfold f11_row at hf
  refine gr_iload_n X dX11_row_0 1 rfl rfl ?_
  refine gr_if_lt 21 X dX11_row_1 (by decide) (fun h1 => ?_) (fun h1 => ?_)
  · rw [if_pos h1] at hf
    refine gr_sub (lv' := []) [] rfl ?_
    exact b11_row_21 X hc hE  _ hf
  · rw [if_neg h1] at hf
    refine gr_iload_n X dX11_row_4 1 rfl rfl ?_
    refine gr_aload_n X dX11_row_5 0 rfl rfl ?_
    refine gf11_15 X wf_RX11_100 dX11_row_6 ?_
    refine gr_icmp_ge 21 X dX11_row_9 (by decide) (fun h2 => ?_) (fun h2 => ?_)
    · rw [if_pos h2] at hf
      refine gr_sub (lv' := []) [] rfl ?_
      exact b11_row_21 X hc hE  _ hf
    · rw [if_neg h2] at hf
      refine gr_iload_n X dX11_row_12 1 rfl rfl ?_
      refine gr_aload_n X dX11_row_13 0 rfl rfl ?_
      refine gf11_14 X wf_RX11_96 dX11_row_14 ?_
      refine gr_arraylengthJ X gk_C134 (1024) (by decide) dX11_row_17 ?_
      refine gr_icmp_lt 29 X dX11_row_18 (by decide) (fun h3 => ?_) (fun h3 => ?_)
      · rw [if_pos h3] at hf
        refine gr_aload_n X dX11_row_29 0 rfl rfl ?_
        refine gf11_14 X wf_RX11_96 dX11_row_30 ?_
        refine gr_iload_n X dX11_row_33 1 rfl rfl ?_
        obtain ⟨h4, hf⟩ := gz_cke hf
        refine gr_laload X gk_C134 (gz_inp h4) dX11_row_34 ?_
        exact gz_EXLu hE hf dX11_row_35
      · rw [if_neg h3] at hf
        refine gr_sub (lv' := []) [] rfl ?_
        exact b11_row_21 X hc hE  _ hf

