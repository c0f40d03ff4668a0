theorem gz_aoS {x x' : gz_X} (h : gc_AO (gx_s x)) (hs : gz_St x x') : gc_AO (gx_s x') := by
  obtain ⟨⟨a, p, c, s, rfl⟩, -⟩ := hs
  exact h
theorem gz_bnot {b : Bool} (h : (!b) = true) : b = false := by simpa using h
theorem gi_pfs {pf : Nat → Bool} {j k : Nat} (h : gz_IsX0 pf k) : gz_IsX0 (gz_pfs pf j) k := by
  rcases h with h | ⟨t, h1, h2, h3⟩
  · exact Or.inl h
  · refine Or.inr ⟨t, h1, ?_, h3⟩
    show (if t = j then true else pf t) = true
    split
    · rfl
    · exact h2
theorem gi_new {pf : Nat → Bool} {j : Nat} (h : j < 12) : gz_IsX0 (gz_pfs pf j) (135 + 4 * j) := Or.inr ⟨j, h, if_pos rfl, rfl⟩
def gz_bd3 {α β γ δ : Type} (a : Option (α × β × γ)) (f : α → β → γ → Option δ) : Option δ := a.bind fun q => f q.1 q.2.1 q.2.2
theorem gz_bd3e {α β γ δ : Type} {a : Option (α × β × γ)} {f : α → β → γ → Option δ} {r : δ} (h : gz_bd3 a f = some r) : ∃ y z w, a = some (y, z, w) ∧ f y z w = some r := by
  obtain ⟨q, h1, h2⟩ := Option.bind_eq_some_iff.mp h
  exact ⟨q.1, q.2.1, q.2.2, h1, h2⟩
theorem gi_st {x x' : gz_X} {cc : ByteArray} {own : String} {nL d k : Nat} {pf pf' : Nat → Bool} {l : Launch} (X : gz_Ok x cc own nL d gz_cfC pf l) (X' : gz_Ok x' cc own nL d gz_cfC pf' l) (hs : gz_St x x') (h : gz_IsX0 pf k) : gz_IsX0 pf' k := by
  rcases h with h | ⟨t, h1, h2, h3⟩
  · exact Or.inl h
  · refine Or.inr ⟨t, h1, ?_, h3⟩
    have h4 := (hs.2 (135 + 4 * t + 0) (by rw [X.hpf]; exact gz_prsB h1 (by decide) h2)).1
    rw [X'.hpf] at h4
    rcases gz_prs h4 with q | ⟨t', d', g1, g2, g3, g4⟩
    · omega
    · rw [show t = t' by omega]; exact g3
theorem wf_RX11_19 : gz_FL RX11 19 RX11 "grammar" "LLongestTokens$Grammar;" := Or.inl (gz_in 430 (by decide +kernel) rfl)
theorem wc_yX3_faultOfRules : Cond.instanceMethod yX3_faultOfRules ∈ gz_TB ∧ Cond.selects RX3 yX3_faultOfRules yX3_faultOfRules ∈ gz_TB ∧ Cond.initialized yX3_faultOfRules.cls ∈ gz_TB ∧ Cond.code yX3_faultOfRules cX3_faultOfRules 4 (some (.int)) ∈ gz_TB ∧ (yX3_faultOfRules.cls ≠ "java/lang/invoke/MethodHandle" ∧ yX3_faultOfRules.cls ≠ "java/lang/invoke/VarHandle" ∧ (parseMethodDescriptor yX3_faultOfRules.desc).map (fun d => d.parameters.length) = some 1) := ⟨gz_in 500 (by decide +kernel) rfl, gz_in 501 (by decide +kernel) rfl, gz_in 87 (by decide +kernel) rfl, gz_in 502 (by decide +kernel) rfl, by decide +kernel⟩
theorem wm_RX11_114 : gz_WV RX11 114 RX3 yX3_faultOfRules cX3_faultOfRules 4 1 (some (.int)) := ⟨Or.inl (gz_in 499 (by decide +kernel) rfl), wc_yX3_faultOfRules⟩
theorem wc_yX3_faultOfLetters : Cond.instanceMethod yX3_faultOfLetters ∈ gz_TB ∧ Cond.selects RX3 yX3_faultOfLetters yX3_faultOfLetters ∈ gz_TB ∧ Cond.initialized yX3_faultOfLetters.cls ∈ gz_TB ∧ Cond.code yX3_faultOfLetters cX3_faultOfLetters 3 (some (.int)) ∈ gz_TB ∧ (yX3_faultOfLetters.cls ≠ "java/lang/invoke/MethodHandle" ∧ yX3_faultOfLetters.cls ≠ "java/lang/invoke/VarHandle" ∧ (parseMethodDescriptor yX3_faultOfLetters.desc).map (fun d => d.parameters.length) = some 1) := ⟨gz_in 533 (by decide +kernel) rfl, gz_in 534 (by decide +kernel) rfl, gz_in 87 (by decide +kernel) rfl, gz_in 535 (by decide +kernel) rfl, by decide +kernel⟩
theorem wm_RX11_118 : gz_WV RX11 118 RX3 yX3_faultOfLetters cX3_faultOfLetters 3 1 (some (.int)) := ⟨Or.inl (gz_in 532 (by decide +kernel) rfl), wc_yX3_faultOfLetters⟩
theorem wc_yX4_push : Cond.instanceMethod yX4_push ∈ gz_TB ∧ Cond.selects RX4 yX4_push yX4_push ∈ gz_TB ∧ Cond.initialized yX4_push.cls ∈ gz_TB ∧ Cond.code yX4_push cX4_push 3 none ∈ gz_TB ∧ (yX4_push.cls ≠ "java/lang/invoke/MethodHandle" ∧ yX4_push.cls ≠ "java/lang/invoke/VarHandle" ∧ (parseMethodDescriptor yX4_push.desc).map (fun d => d.parameters.length) = some 1) := ⟨gz_in 540 (by decide +kernel) rfl, gz_in 541 (by decide +kernel) rfl, gz_in 96 (by decide +kernel) rfl, gz_in 542 (by decide +kernel) rfl, by decide +kernel⟩
theorem wm_RX11_121 : gz_WV RX11 121 RX4 yX4_push cX4_push 3 1 none := ⟨Or.inl (gz_in 539 (by decide +kernel) rfl), wc_yX4_push⟩
theorem wc_yX0_takeRules : Cond.instanceMethod yX0_takeRules ∈ gz_TB ∧ Cond.selects RX0 yX0_takeRules yX0_takeRules ∈ gz_TB ∧ Cond.initialized yX0_takeRules.cls ∈ gz_TB ∧ Cond.code yX0_takeRules cX0_takeRules 2 none ∈ gz_TB ∧ (yX0_takeRules.cls ≠ "java/lang/invoke/MethodHandle" ∧ yX0_takeRules.cls ≠ "java/lang/invoke/VarHandle" ∧ (parseMethodDescriptor yX0_takeRules.desc).map (fun d => d.parameters.length) = some 1) := ⟨gz_in 564 (by decide +kernel) rfl, gz_in 565 (by decide +kernel) rfl, gz_in 89 (by decide +kernel) rfl, gz_in 566 (by decide +kernel) rfl, by decide +kernel⟩
theorem wm_RX11_125 : gz_WV RX11 125 RX0 yX0_takeRules cX0_takeRules 2 1 none := ⟨Or.inl (gz_in 563 (by decide +kernel) rfl), wc_yX0_takeRules⟩
theorem wc_yX10_empty : Cond.instanceMethod yX10_empty ∈ gz_TB ∧ Cond.selects RX10 yX10_empty yX10_empty ∈ gz_TB ∧ Cond.initialized yX10_empty.cls ∈ gz_TB ∧ Cond.code yX10_empty cX10_empty 1 none ∈ gz_TB ∧ (yX10_empty.cls ≠ "java/lang/invoke/MethodHandle" ∧ yX10_empty.cls ≠ "java/lang/invoke/VarHandle" ∧ (parseMethodDescriptor yX10_empty.desc).map (fun d => d.parameters.length) = some 0) := ⟨gz_in 680 (by decide +kernel) rfl, gz_in 681 (by decide +kernel) rfl, gz_in 86 (by decide +kernel) rfl, gz_in 682 (by decide +kernel) rfl, by decide +kernel⟩
theorem wm_RX11_132 : gz_WV RX11 132 RX10 yX10_empty cX10_empty 1 0 none := ⟨Or.inl (gz_in 679 (by decide +kernel) rfl), wc_yX10_empty⟩
theorem wc_yX3_faultOfLine : Cond.instanceMethod yX3_faultOfLine ∈ gz_TB ∧ Cond.selects RX3 yX3_faultOfLine yX3_faultOfLine ∈ gz_TB ∧ Cond.initialized yX3_faultOfLine.cls ∈ gz_TB ∧ Cond.code yX3_faultOfLine cX3_faultOfLine 3 (some (.int)) ∈ gz_TB ∧ (yX3_faultOfLine.cls ≠ "java/lang/invoke/MethodHandle" ∧ yX3_faultOfLine.cls ≠ "java/lang/invoke/VarHandle" ∧ (parseMethodDescriptor yX3_faultOfLine.desc).map (fun d => d.parameters.length) = some 1) := ⟨gz_in 688 (by decide +kernel) rfl, gz_in 689 (by decide +kernel) rfl, gz_in 87 (by decide +kernel) rfl, gz_in 690 (by decide +kernel) rfl, by decide +kernel⟩
theorem wm_RX11_138 : gz_WV RX11 138 RX3 yX3_faultOfLine cX3_faultOfLine 3 1 (some (.int)) := ⟨Or.inl (gz_in 687 (by decide +kernel) rfl), wc_yX3_faultOfLine⟩
theorem wc_yX5_take : Cond.instanceMethod yX5_take ∈ gz_TB ∧ Cond.selects RX5 yX5_take yX5_take ∈ gz_TB ∧ Cond.initialized yX5_take.cls ∈ gz_TB ∧ Cond.code yX5_take cX5_take 3 none ∈ gz_TB ∧ (yX5_take.cls ≠ "java/lang/invoke/MethodHandle" ∧ yX5_take.cls ≠ "java/lang/invoke/VarHandle" ∧ (parseMethodDescriptor yX5_take.desc).map (fun d => d.parameters.length) = some 1) := ⟨gz_in 692 (by decide +kernel) rfl, gz_in 693 (by decide +kernel) rfl, gz_in 90 (by decide +kernel) rfl, gz_in 694 (by decide +kernel) rfl, by decide +kernel⟩
theorem wm_RX11_144 : gz_WV RX11 144 RX5 yX5_take cX5_take 3 1 none := ⟨Or.inl (gz_in 691 (by decide +kernel) rfl), wc_yX5_take⟩
theorem wm_RX11_387 : gz_WV RX11 387 RX5 yX5_refusal cX5_refusal 6 3 (some (.int)) := ⟨Or.inl (gz_in 953 (by decide +kernel) rfl), wc_yX5_refusal⟩
theorem wc_yX11_tellChange : Cond.instanceMethod yX11_tellChange ∈ gz_TB ∧ Cond.selects RX11 yX11_tellChange yX11_tellChange ∈ gz_TB ∧ Cond.initialized yX11_tellChange.cls ∈ gz_TB ∧ Cond.code yX11_tellChange cX11_tellChange 13 none ∈ gz_TB ∧ (yX11_tellChange.cls ≠ "java/lang/invoke/MethodHandle" ∧ yX11_tellChange.cls ≠ "java/lang/invoke/VarHandle" ∧ (parseMethodDescriptor yX11_tellChange.desc).map (fun d => d.parameters.length) = some 2) := ⟨gz_in 974 (by decide +kernel) rfl, gz_in 29 (by decide +kernel) rfl, gz_in 85 (by decide +kernel) rfl, gz_in 975 (by decide +kernel) rfl, by decide +kernel⟩
theorem wm_RX11_390 : gz_WV RX11 390 RX11 yX11_tellChange cX11_tellChange 13 2 none := ⟨Or.inl (gz_in 972 (by decide +kernel) rfl), wc_yX11_tellChange⟩
theorem wc_yX11_change : Cond.instanceMethod yX11_change ∈ gz_TB ∧ Cond.selects RX11 yX11_change yX11_change ∈ gz_TB ∧ Cond.initialized yX11_change.cls ∈ gz_TB ∧ Cond.code yX11_change cX11_change 6 (some (.int)) ∈ gz_TB ∧ (yX11_change.cls ≠ "java/lang/invoke/MethodHandle" ∧ yX11_change.cls ≠ "java/lang/invoke/VarHandle" ∧ (parseMethodDescriptor yX11_change.desc).map (fun d => d.parameters.length) = some 3) := ⟨gz_in 951 (by decide +kernel) rfl, gz_in 27 (by decide +kernel) rfl, gz_in 85 (by decide +kernel) rfl, gz_in 952 (by decide +kernel) rfl, by decide +kernel⟩
theorem wm_RX11_336 : gz_WV RX11 336 RX11 yX11_change cX11_change 6 3 (some (.int)) := ⟨Or.inl (gz_in 949 (by decide +kernel) rfl), wc_yX11_change⟩
theorem wm_RX11_400 : gz_WV RX11 400 RX10 yX10_get cX10_get 2 1 (some (.int)) := ⟨Or.inl (gz_in 1016 (by decide +kernel) rfl), wc_yX10_get⟩
theorem wm_RX11_401 : gz_WS RX11 401 yX3_kindOfChange cX3_kindOfChange 1 1 (some (.int)) := ⟨Or.inl (gz_in 1017 (by decide +kernel) rfl), wc_yX3_kindOfChange⟩
theorem wc_yX3_faultOfDay : Cond.instanceMethod yX3_faultOfDay ∈ gz_TB ∧ Cond.selects RX3 yX3_faultOfDay yX3_faultOfDay ∈ gz_TB ∧ Cond.initialized yX3_faultOfDay.cls ∈ gz_TB ∧ Cond.code yX3_faultOfDay cX3_faultOfDay 8 (some (.int)) ∈ gz_TB ∧ (yX3_faultOfDay.cls ≠ "java/lang/invoke/MethodHandle" ∧ yX3_faultOfDay.cls ≠ "java/lang/invoke/VarHandle" ∧ (parseMethodDescriptor yX3_faultOfDay.desc).map (fun d => d.parameters.length) = some 1) := ⟨gz_in 1003 (by decide +kernel) rfl, gz_in 1004 (by decide +kernel) rfl, gz_in 87 (by decide +kernel) rfl, gz_in 1005 (by decide +kernel) rfl, by decide +kernel⟩
theorem wm_RX11_347 : gz_WV RX11 347 RX3 yX3_faultOfDay cX3_faultOfDay 8 1 (some (.int)) := ⟨Or.inl (gz_in 1002 (by decide +kernel) rfl), wc_yX3_faultOfDay⟩
theorem wc_yX11_changeByText : Cond.instanceMethod yX11_changeByText ∈ gz_TB ∧ Cond.selects RX11 yX11_changeByText yX11_changeByText ∈ gz_TB ∧ Cond.initialized yX11_changeByText.cls ∈ gz_TB ∧ Cond.code yX11_changeByText cX11_changeByText 8 (some (.int)) ∈ gz_TB ∧ (yX11_changeByText.cls ≠ "java/lang/invoke/MethodHandle" ∧ yX11_changeByText.cls ≠ "java/lang/invoke/VarHandle" ∧ (parseMethodDescriptor yX11_changeByText.desc).map (fun d => d.parameters.length) = some 0) := ⟨gz_in 1014 (by decide +kernel) rfl, gz_in 30 (by decide +kernel) rfl, gz_in 85 (by decide +kernel) rfl, gz_in 1015 (by decide +kernel) rfl, by decide +kernel⟩
theorem wm_RX11_350 : gz_WV RX11 350 RX11 yX11_changeByText cX11_changeByText 8 0 (some (.int)) := ⟨Or.inl (gz_in 1012 (by decide +kernel) rfl), wc_yX11_changeByText⟩
def g4_slotAt_34 (x2 : Int32) (M0 : gz_M) (pf : Nat → Bool) (u : Nat) : Option (Nat × gz_M × (Nat → Bool)) := gz_ck (gz_inb x2 10) <| if pf (100 + (0 + x2.toNatClampNeg)) = true then (gz_ck (pf (0 + x2.toNatClampNeg)) <| some (135 + 4 * (0 + x2.toNatClampNeg), M0, pf)) else (none)
theorem be4_slotAt_34 {l : Launch} {r : Nat} {M' : gz_M} {pf' : Nat → Bool} : ∀ (x : gz_X) (pf : Nat → Bool) (u : Nat), gz_Ok x cX4_slotAt RX4 3 3 gz_cfC pf l → gc_AO (gx_s x) → gz_U x u → gz_EAR x cX4_slotAt r M' pf' → ∀ (x2 : Int32) (M0 : gz_M), g4_slotAt_34 x2 M0 pf u = some (r, M', pf') → gz_At x 34 [(0, .ref (gx_ad x 131)), (2, .int x2)] [] M0 := by
  intro x pf u Xz hAO huz hEz x2 M0  hf
  rw [g4_slotAt_34] at hf
  refine gr_aload_n Xz dX4_slotAt_34 0 rfl rfl ?_
  refine gf4_0 Xz wf_RX4_11 dX4_slotAt_35 ?_
  refine gr_iload_n Xz dX4_slotAt_38 1 rfl rfl ?_
  obtain ⟨h1, hf⟩ := gz_cke hf
  refine gr_aaldK Xz gk_C132 (gz_inp h1) dX4_slotAt_39 (fun h2 => ?_) (fun h2 => ?_)
  · rw [if_pos h2] at hf
    obtain ⟨h3, hf⟩ := gz_cke hf
    exact gz_EARu Xz huz hEz hf (gi_bk (b := 0) h3 (gz_inp h1) (by decide)) dX4_slotAt_40
  · rw [if_neg h2] at hf
    cases hf

def g4_slotAt (a0 : Int32) (M0 : gz_M) (pf : Nat → Bool) : Option (Nat × gz_M × (Nat → Bool)) := gz_bd2 (fJ_floorMod ((M0.1 131 1) + a0) 10 M0) fun v1 M2 => gz_ck (gz_inb v1 10) <| if pf (100 + (0 + v1.toNatClampNeg)) = true then (gz_ck (pf (0 + v1.toNatClampNeg)) <| g4_slotAt_34 v1 M2 pf 0) else (gz_ck (decide (0 + 1 ≤ 1)) <| gz_ck (decide (0 + v1.toNatClampNeg < 12)) <| gz_ck (!(pf (0 + v1.toNatClampNeg))) <| gz_ck (!(pf (100 + (0 + v1.toNatClampNeg)))) <| gz_lt (gz_nb M2 (0 + v1.toNatClampNeg)) fun M12 => gz_ck (gz_inb v1 10) <| gz_ck ((gz_pfs pf (0 + v1.toNatClampNeg)) (0 + v1.toNatClampNeg)) <| gz_ck (decide (135 + 4 * (0 + v1.toNatClampNeg) = 135 + 4 * (0 + v1.toNatClampNeg))) <| g4_slotAt_34 v1 M12 (gz_pfs (gz_pfs pf (0 + v1.toNatClampNeg)) (100 + (0 + v1.toNatClampNeg))) (0 + 1))
set_option maxRecDepth 100000 in
theorem ce4_slotAt {pf pf' : Nat → Bool} {l : Launch} {r : Nat} {M0 M' : gz_M} {a0 : Int32} (hf : g4_slotAt a0 M0 pf = some (r, M', pf')) : gz_CAR l yX4_slotAt cX4_slotAt 3 3 (.object "LongestTokens$Book") (fun ad => [.ref (ad 131), .int a0]) pf M0 r M' pf' := by
  refine gz_ofAR (by decide +kernel) (Or.inl ⟨_, rfl⟩) (fun _ => Nat.le_of_ble_eq_true rfl) (fun x Xz hAO huz hEz => ?_)
  show gz_At x 0 [(0, .ref (gx_ad x 131)), (1, .int a0)] [] M0
  unfold g4_slotAt at hf
  refine gr_aload_n Xz dX4_slotAt_0 0 rfl rfl ?_
  refine gf4_1 Xz wf_RX4_17 dX4_slotAt_1 ?_
  refine gr_iload_n Xz dX4_slotAt_4 1 rfl rfl ?_
  refine gr_iadd Xz dX4_slotAt_5 ?_
  refine gr_bipush 10 Xz dX4_slotAt_6 (by decide) ?_
  obtain ⟨v1, M2, q3, hf⟩ := gz_bd2e hf
  refine gr_callSI (asF := fun _ => [.int ((M0.1 131 1) + a0), .int 10]) [.int ((M0.1 131 1) + a0), .int 10] Xz (cJ_floorMod q3) rfl wm_RX4_32 rfl (by decide) (by decide) rfl (Nat.le_of_ble_eq_true rfl) (huz.c) dX4_slotAt_8 ?_
  refine gr_istore_n [(2, .int v1), (0, .ref (gx_ad x 131)), (1, .int a0)] Xz dX4_slotAt_11 rfl rfl (by decide) rfl ?_
  refine gr_aload_n Xz dX4_slotAt_12 1 rfl rfl ?_
  refine gf4_0 Xz wf_RX4_11 dX4_slotAt_13 ?_
  refine gr_iload_n Xz dX4_slotAt_16 0 rfl rfl ?_
  obtain ⟨h4, hf⟩ := gz_cke hf
  refine gr_aaldK Xz gk_C132 (gz_inp h4) dX4_slotAt_17 (fun h5 => ?_) (fun h5 => ?_)
  · rw [if_pos h5] at hf
    obtain ⟨h6, hf⟩ := gz_cke hf
    refine gr_ifnonnull 34 Xz dX4_slotAt_18 (by decide) ?_
    refine gr_sub (lv' := [(0, .ref (gx_ad x 131)), (2, .int v1)]) [1, 0] rfl ?_
    exact be4_slotAt_34 _ _ _ Xz hAO huz hEz _ _ hf
  · rw [if_neg h5] at hf
    refine gr_ifnonnullN Xz dX4_slotAt_18 ?_
    refine gr_aload_n Xz dX4_slotAt_21 1 rfl rfl ?_
    refine gf4_0 Xz wf_RX4_11 dX4_slotAt_22 ?_
    refine gr_iload_n Xz dX4_slotAt_25 0 rfl rfl ?_
    obtain ⟨h8, hf⟩ := gz_cke hf
    obtain ⟨h9, hf⟩ := gz_cke hf
    obtain ⟨h10, hf⟩ := gz_cke hf
    obtain ⟨h11, hf⟩ := gz_cke hf
    obtain ⟨M12, eM12, hf⟩ := gz_lte hf
    refine gr_newB Xz hAO huz (of_decide_eq_true h8) (by decide) (gz_in 416 (by decide +kernel) rfl) (gz_in 172 (by decide +kernel) rfl) (gz_in 89 (by decide +kernel) rfl) (Or.inr ⟨"LongestTokens", gz_inN 550 (by decide +kernel) rfl⟩) (gz_in 174 (by decide +kernel) rfl) (gz_in 175 (by decide +kernel) rfl) (of_decide_eq_true h9) (gz_bnot h10) (gz_bnot h11) eM12 (Nat.le_of_ble_eq_true rfl) dX4_slotAt_26 dX4_slotAt_29 dX4_slotAt_30 (fun xq7 hs7 X7 hu7 => ?_)
    have hE7 := hEz.stp hs7
    rw [← (hs7.2 131 (gz_prsS (by decide))).2]
    rw [← (hs7.2 132 (gz_prsS (by decide))).2]
    have hAO7 : gc_AO (gx_s xq7) := gz_aoS hAO hs7
    obtain ⟨h14, hf⟩ := gz_cke hf
    obtain ⟨h15, hf⟩ := gz_cke hf
    obtain ⟨h16, hf⟩ := gz_cke hf
    refine gr_aastK X7 hu7 gk_C132 (by decide) (gz_inp h14) (of_decide_eq_true h16) (gi_new (of_decide_eq_true h9)) h15 dX4_slotAt_33 (fun xq13 hs13 X13 hu13 => ?_)
    have hE13 := hE7.stp hs13
    rw [← (hs13.2 131 (gz_prsS (by decide))).2]
    have hAO13 : gc_AO (gx_s xq13) := gz_aoS hAO7 hs13
    refine gr_sub (lv' := [(0, .ref (gx_ad xq13 131)), (2, .int v1)]) [1, 0] rfl ?_
    exact be4_slotAt_34 _ _ _ X13 hAO13 hu13 hE13 _ _ hf

def g4_push_18 (k0 : Nat) (s0 : Int32) (M0 : gz_M) (pf : Nat → Bool) (u : Nat) : Option (gz_M × (Nat → Bool)) := gz_ck (decide (u + 1 ≤ 1)) <| gz_bd3 (g4_slotAt s0 M0 pf) fun v6 M3 pf4 => gz_bd (f0_copy v6 k0 M3) fun M7 => if 10 ≤ (M7.1 131 2) then (gz_ck (!decide (10 = 0)) <| gz_lt (gz_w M7 131 1 (gz_rem ((M7.1 131 1) + 1) 10)) fun M11 => some (M11, pf4)) else (gz_lt (gz_w M7 131 2 ((M7.1 131 2) + 1)) fun M12 => some (M12, pf4))
theorem be4_push_18 {l : Launch} {M' : gz_M} {pf' : Nat → Bool} {k0 : Nat} : ∀ (x : gz_X) (pf : Nat → Bool) (u : Nat), gz_Ok x cX4_push RX4 3 4 gz_cfC pf l → gc_AO (gx_s x) → gz_U x u → gz_EAV x cX4_push M' pf' → gz_IsX0 pf k0 → ∀ (s0 : Int32) (M0 : gz_M), g4_push_18 k0 s0 M0 pf u = some (M', pf') → gz_At x 18 [(0, .ref (gx_ad x 131)), (1, .ref (gx_ad x k0))] [.int s0, .ref (gx_ad x 131)] M0 := by
  intro x pf u Xz hAO huz hEz hk0 s0 M0  hf
  rw [g4_push_18] at hf
  obtain ⟨h2, hf⟩ := gz_cke hf
  obtain ⟨v6, M3, pf4, q5, hf⟩ := gz_bd3e hf
  refine gr_callAR (asF := fun ad => [.ref (ad 131), .int s0]) [.int s0] Xz hAO huz (of_decide_eq_true h2) (ce4_slotAt q5) rfl wm_RX4_24 rfl (Xz.kd gk_C131).1 ((Xz.kd gk_C131).2 _ _ _ _) rfl (by decide) (by decide) rfl (Nat.le_of_ble_eq_true rfl) dX4_push_18 (fun xq1 hs1 X1 hu1 hv6 => ?_)
  have hE1 := hEz.stp hs1
  rw [← (hs1.2 131 (gz_prsS (by decide))).2]
  rw [← (hs1.2 k0 (by rw [Xz.hpf]; exact (gk_X0o (pf := pf) hk0).1)).2]
  have hAO1 : gc_AO (gx_s xq1) := gz_aoS hAO hs1
  refine gr_astore_n [(2, .ref (gx_ad xq1 v6)), (0, .ref (gx_ad xq1 131)), (1, .ref (gx_ad xq1 k0))] X1 dX4_push_21 rfl (by decide) rfl ?_
  refine gr_aload_n X1 dX4_push_22 0 rfl rfl ?_
  refine gr_aload_n X1 dX4_push_23 2 rfl rfl ?_
  obtain ⟨M7, q8, hf⟩ := gz_bde hf
  refine gr_callV (asF := fun ad => [.ref (ad v6), .ref (ad k0)]) [.ref (gx_ad xq1 k0)] X1 (c0_copy hv6 (gi_st Xz X1 hs1 hk0) q8) rfl wm_RX4_28 rfl (X1.kd (gk_X0o hv6)).1 ((X1.kd (gk_X0o hv6)).2 _ _ _ _) rfl (by decide) (by decide) rfl (Nat.le_of_ble_eq_true rfl) (hu1.c) dX4_push_24 ?_
  refine gr_aload_n X1 dX4_push_27 1 rfl rfl ?_
  refine gf4_2 X1 wf_RX4_21 dX4_push_28 ?_
  refine gr_bipush 10 X1 dX4_push_31 (by decide) ?_
  refine gr_icmp_ge 49 X1 dX4_push_33 (by decide) (fun h9 => ?_) (fun h9 => ?_)
  · rw [if_pos h9] at hf
    refine gr_aload_n X1 dX4_push_49 1 rfl rfl ?_
    refine gr_aload_n X1 dX4_push_50 1 rfl rfl ?_
    refine gf4_1 X1 wf_RX4_17 dX4_push_51 ?_
    refine gr_iconst 1 X1 dX4_push_54 (by decide) ?_
    refine gr_iadd X1 dX4_push_55 ?_
    refine gr_bipush 10 X1 dX4_push_56 (by decide) ?_
    obtain ⟨h10, hf⟩ := gz_cke hf
    refine gr_irem X1 dX4_push_58 (gz_nei h10) ?_
    obtain ⟨M11, eM11, hf⟩ := gz_lte hf
    refine gp4_1 X1 wf_RX4_17 eM11 dX4_push_59 ?_
    exact gz_EAVu X1 hu1 hE1 hf dX4_push_62
  · rw [if_neg h9] at hf
    refine gr_aload_n X1 dX4_push_36 1 rfl rfl ?_
    refine gr_dup X1 dX4_push_37 rfl ?_
    refine gf4_2 X1 wf_RX4_21 dX4_push_38 ?_
    refine gr_iconst 1 X1 dX4_push_41 (by decide) ?_
    refine gr_iadd X1 dX4_push_42 ?_
    obtain ⟨M12, eM12, hf⟩ := gz_lte hf
    refine gp4_2 X1 wf_RX4_21 eM12 dX4_push_43 ?_
    refine gr_goto 62 X1 dX4_push_46 (by decide) ?_
    exact gz_EAVu X1 hu1 hE1 hf dX4_push_62

def g4_push (k0 : Nat) (M0 : gz_M) (pf : Nat → Bool) : Option (gz_M × (Nat → Bool)) := if 10 ≤ (M0.1 131 2) then (g4_push_18 k0 0 M0 pf 0) else (g4_push_18 k0 (M0.1 131 2) M0 pf 0)
set_option maxRecDepth 100000 in
theorem ce4_push {pf pf' : Nat → Bool} {l : Launch} {M0 M' : gz_M} {k0 : Nat} (hk0 : gz_IsX0 pf k0) (hf : g4_push k0 M0 pf = some (M', pf')) : gz_CAV l yX4_push cX4_push 3 4 (fun ad => [.ref (ad 131), .ref (ad k0)]) pf M0 M' pf' := by
  refine gz_ofAV (by decide +kernel) (fun _ => Nat.le_of_ble_eq_true rfl) (fun x Xz hAO huz hEz => ?_)
  show gz_At x 0 [(0, .ref (gx_ad x 131)), (1, .ref (gx_ad x k0))] [] M0
  unfold g4_push at hf
  refine gr_aload_n Xz dX4_push_0 0 rfl rfl ?_
  refine gr_aload_n Xz dX4_push_1 0 rfl rfl ?_
  refine gf4_2 Xz wf_RX4_21 dX4_push_2 ?_
  refine gr_bipush 10 Xz dX4_push_5 (by decide) ?_
  refine gr_icmp_ge 17 Xz dX4_push_7 (by decide) (fun h1 => ?_) (fun h1 => ?_)
  · rw [if_pos h1] at hf
    refine gr_iconst 0 Xz dX4_push_17 (by decide) ?_
    exact be4_push_18 _ _ _ Xz hAO huz hEz hk0 _ _ hf
  · rw [if_neg h1] at hf
    refine gr_aload_n Xz dX4_push_10 0 rfl rfl ?_
    refine gf4_2 Xz wf_RX4_21 dX4_push_11 ?_
    refine gr_goto 18 Xz dX4_push_14 (by decide) ?_
    exact be4_push_18 _ _ _ Xz hAO huz hEz hk0 _ _ hf

def g11_rules_58 (x1 : Int32) (M0 : gz_M) (pf : Nat → Bool) (u : Nat) : Option (Int32 × gz_M × (Nat → Bool)) := gz_bd (f10_empty M0) fun M1 => if 0 ≤ x1 then (some (M1.1 11 0, M1, pf)) else (some (x1, M1, pf))
theorem be11_rules_58 {l : Launch} {r : Int32} {M' : gz_M} {pf' : Nat → Bool} : ∀ (x : gz_X) (pf : Nat → Bool) (u : Nat), gz_Ok x cX11_rules RX11 2 7 gz_cfC pf l → gc_AO (gx_s x) → gz_U x u → gz_EAI x cX11_rules .int r M' pf' → ∀ (x1 : Int32) (M0 : gz_M), g11_rules_58 x1 M0 pf u = some (r, M', pf') → gz_At x 58 [(0, .ref (gx_ad x 0)), (1, .int x1)] [] M0 := by
  intro x pf u Xz hAO huz hEz x1 M0  hf
  rw [g11_rules_58] at hf
  refine gr_aload_n Xz dX11_rules_58 0 rfl rfl ?_
  refine gf11_0 Xz wf_RX11_12 dX11_rules_59 ?_
  obtain ⟨M1, q2, hf⟩ := gz_bde hf
  refine gr_callV (asF := fun ad => [.ref (ad 1)]) [] Xz (c10_empty q2) rfl wm_RX11_132 rfl (Xz.kd gk_C1).1 ((Xz.kd gk_C1).2 _ _ _ _) rfl (by decide) (by decide) rfl (Nat.le_of_ble_eq_true rfl) (huz.c) dX11_rules_62 ?_
  refine gr_iload_n Xz dX11_rules_65 1 rfl rfl ?_
  refine gr_if_ge 73 Xz dX11_rules_66 (by decide) (fun h3 => ?_) (fun h3 => ?_)
  · rw [if_pos h3] at hf
    refine gr_aload_n Xz dX11_rules_73 0 rfl rfl ?_
    refine gf11_4 Xz wf_RX11_40 dX11_rules_74 ?_
    refine gf7_0 Xz (gk_X7o gi_table) wf_RX11_135 dX11_rules_77 ?_
    exact gz_EAIu Xz huz hEz hf rfl dX11_rules_80
  · rw [if_neg h3] at hf
    refine gr_iload_n Xz dX11_rules_69 1 rfl rfl ?_
    refine gr_goto 80 Xz dX11_rules_70 (by decide) ?_
    exact gz_EAIu Xz huz hEz hf rfl dX11_rules_80

def g11_rules_28 (x1 : Int32) (M0 : gz_M) (pf : Nat → Bool) (u : Nat) : Option (Int32 × gz_M × (Nat → Bool)) := if x1 = 0 then (gz_ck (decide (u + 1 ≤ 1)) <| gz_bd2 (g4_push 7 M0 pf) fun M4 pf5 => gz_bd (f0_takeRules 7 M4) fun M7 => gz_bd (f11_refresh M7) fun M9 => g11_rules_58 x1 M9 pf5 (u + 1)) else (g11_rules_58 x1 M0 pf u)
theorem be11_rules_28 {l : Launch} {r : Int32} {M' : gz_M} {pf' : Nat → Bool} : ∀ (x : gz_X) (pf : Nat → Bool) (u : Nat), gz_Ok x cX11_rules RX11 2 7 gz_cfC pf l → gc_AO (gx_s x) → gz_U x u → gz_EAI x cX11_rules .int r M' pf' → ∀ (x1 : Int32) (M0 : gz_M), g11_rules_28 x1 M0 pf u = some (r, M', pf') → gz_At x 28 [(0, .ref (gx_ad x 0)), (1, .int x1)] [] M0 := by
  intro x pf u Xz hAO huz hEz x1 M0  hf
  rw [g11_rules_28] at hf
  refine gr_iload_n Xz dX11_rules_28 1 rfl rfl ?_
  refine gr_if_ne 58 Xz dX11_rules_29 (by decide) (fun h1 => ?_) (fun h1 => ?_)
  · rw [if_pos h1] at hf
    refine gr_aload_n Xz dX11_rules_32 0 rfl rfl ?_
    refine gf11_12 Xz wf_RX11_88 dX11_rules_33 ?_
    refine gr_aload_n Xz dX11_rules_36 0 rfl rfl ?_
    refine gf11_3 Xz wf_RX11_33 dX11_rules_37 ?_
    obtain ⟨h3, hf⟩ := gz_cke hf
    obtain ⟨M4, pf5, q6, hf⟩ := gz_bd2e hf
    refine gr_callAV (asF := fun ad => [.ref (ad 131), .ref (ad 7)]) [.ref (gx_ad x 7)] Xz hAO huz (of_decide_eq_true h3) (ce4_push gi_now q6) rfl wm_RX11_121 rfl (Xz.kd gk_C131).1 ((Xz.kd gk_C131).2 _ _ _ _) rfl (by decide) (by decide) rfl (Nat.le_of_ble_eq_true rfl) dX11_rules_40 (fun xq2 hs2 X2 hu2 => ?_)
    have hE2 := hEz.stp hs2
    rw [← (hs2.2 0 (gz_prsS (by decide))).2]
    have hAO2 : gc_AO (gx_s xq2) := gz_aoS hAO hs2
    refine gr_aload_n X2 dX11_rules_43 0 rfl rfl ?_
    refine gf11_3 X2 wf_RX11_33 dX11_rules_44 ?_
    refine gr_aload_n X2 dX11_rules_47 0 rfl rfl ?_
    refine gf11_0 X2 wf_RX11_12 dX11_rules_48 ?_
    obtain ⟨M7, q8, hf⟩ := gz_bde hf
    refine gr_callV (asF := fun ad => [.ref (ad 7), .ref (ad 1)]) [.ref (gx_ad xq2 1)] X2 (c0_takeRules gi_now q8) rfl wm_RX11_125 rfl (X2.kd (gk_X0o gi_now)).1 ((X2.kd (gk_X0o gi_now)).2 _ _ _ _) rfl (by decide) (by decide) rfl (Nat.le_of_ble_eq_true rfl) (hu2.c) dX11_rules_51 ?_
    refine gr_aload_n X2 dX11_rules_54 0 rfl rfl ?_
    obtain ⟨M9, q10, hf⟩ := gz_bde hf
    refine gr_callV (asF := fun ad => [.ref (ad 0)]) [] X2 (c11_refresh q10) rfl wm_RX11_129 rfl (X2.kd gk_C0).1 ((X2.kd gk_C0).2 _ _ _ _) rfl (by decide) (by decide) rfl (Nat.le_of_ble_eq_true rfl) (hu2.c) dX11_rules_55 ?_
    exact be11_rules_58 _ _ _ X2 hAO2 hu2 hE2 _ _ hf
  · rw [if_neg h1] at hf
    exact be11_rules_58 _ _ _ Xz hAO huz hEz _ _ hf

def g11_rules (M0 : gz_M) (pf : Nat → Bool) : Option (Int32 × gz_M × (Nat → Bool)) := gz_bd2 (f3_faultOfRules M0) fun v1 M2 => if v1 = 0 then (gz_bd2 (f3_faultOfLetters M2) fun v5 M6 => g11_rules_28 v5 M6 pf 0) else (g11_rules_28 v1 M2 pf 0)
set_option maxRecDepth 100000 in
theorem ce11_rules {pf pf' : Nat → Bool} {l : Launch} {r : Int32} {M0 M' : gz_M} (hf : g11_rules M0 pf = some (r, M', pf')) : gz_CAI l yX11_rules cX11_rules 2 7 .int (fun ad => [.ref (ad 0)]) pf M0 r M' pf' := by
  refine gz_ofAI (by decide +kernel) (fun _ => Nat.le_of_ble_eq_true rfl) (fun x Xz hAO huz hEz => ?_)
  show gz_At x 0 [(0, .ref (gx_ad x 0))] [] M0
  unfold g11_rules at hf
  refine gr_aload_n Xz dX11_rules_0 0 rfl rfl ?_
  refine gf11_1 Xz wf_RX11_19 dX11_rules_1 ?_
  refine gr_aload_n Xz dX11_rules_4 0 rfl rfl ?_
  refine gf11_0 Xz wf_RX11_12 dX11_rules_5 ?_
  obtain ⟨v1, M2, q3, hf⟩ := gz_bd2e hf
  refine gr_callI (asF := fun ad => [.ref (ad 3), .ref (ad 1)]) [.ref (gx_ad x 1)] Xz (c3_faultOfRules q3) rfl wm_RX11_114 rfl (Xz.kd gk_C3).1 ((Xz.kd gk_C3).2 _ _ _ _) rfl (by decide) (by decide) rfl (Nat.le_of_ble_eq_true rfl) (huz.c) dX11_rules_8 ?_
  refine gr_istore_n [(1, .int v1), (0, .ref (gx_ad x 0))] Xz dX11_rules_11 rfl rfl (by decide) rfl ?_
  refine gr_iload_n Xz dX11_rules_12 0 rfl rfl ?_
  refine gr_if_ne 28 Xz dX11_rules_13 (by decide) (fun h4 => ?_) (fun h4 => ?_)
  · rw [if_pos h4] at hf
    refine gr_aload_n Xz dX11_rules_16 1 rfl rfl ?_
    refine gf11_1 Xz wf_RX11_19 dX11_rules_17 ?_
    refine gr_aload_n Xz dX11_rules_20 1 rfl rfl ?_
    refine gf11_0 Xz wf_RX11_12 dX11_rules_21 ?_
    obtain ⟨v5, M6, q7, hf⟩ := gz_bd2e hf
    refine gr_callI (asF := fun ad => [.ref (ad 3), .ref (ad 1)]) [.ref (gx_ad x 1)] Xz (c3_faultOfLetters q7) rfl wm_RX11_118 rfl (Xz.kd gk_C3).1 ((Xz.kd gk_C3).2 _ _ _ _) rfl (by decide) (by decide) rfl (Nat.le_of_ble_eq_true rfl) (huz.c) dX11_rules_24 ?_
    refine gr_istore_n [(1, .int v5), (0, .ref (gx_ad x 0))] Xz dX11_rules_27 rfl rfl (by decide) rfl ?_
    refine gr_sub (lv' := [(0, .ref (gx_ad x 0)), (1, .int v5)]) [1, 0] rfl ?_
    exact be11_rules_28 _ _ _ Xz hAO huz hEz _ _ hf
  · rw [if_neg h4] at hf
    refine gr_sub (lv' := [(0, .ref (gx_ad x 0)), (1, .int v1)]) [1, 0] rfl ?_
    exact be11_rules_28 _ _ _ Xz hAO huz hEz _ _ hf

def g11_line_45 (x1 : Int32) (M0 : gz_M) (pf : Nat → Bool) (u : Nat) : Option (Int32 × gz_M × (Nat → Bool)) := gz_bd (f10_empty M0) fun M1 => if 0 ≤ x1 then (some (M1.1 (7 + 2) 1, M1, pf)) else (some (x1, M1, pf))
theorem be11_line_45 {l : Launch} {r : Int32} {M' : gz_M} {pf' : Nat → Bool} : ∀ (x : gz_X) (pf : Nat → Bool) (u : Nat), gz_Ok x cX11_line RX11 2 6 gz_cfC pf l → gc_AO (gx_s x) → gz_U x u → gz_EAI x cX11_line .int r M' pf' → ∀ (x1 : Int32) (M0 : gz_M), g11_line_45 x1 M0 pf u = some (r, M', pf') → gz_At x 45 [(0, .ref (gx_ad x 0)), (1, .int x1)] [] M0 := by
  intro x pf u Xz hAO huz hEz x1 M0  hf
  rw [g11_line_45] at hf
  refine gr_aload_n Xz dX11_line_45 0 rfl rfl ?_
  refine gf11_0 Xz wf_RX11_12 dX11_line_46 ?_
  obtain ⟨M1, q2, hf⟩ := gz_bde hf
  refine gr_callV (asF := fun ad => [.ref (ad 1)]) [] Xz (c10_empty q2) rfl wm_RX11_132 rfl (Xz.kd gk_C1).1 ((Xz.kd gk_C1).2 _ _ _ _) rfl (by decide) (by decide) rfl (Nat.le_of_ble_eq_true rfl) (huz.c) dX11_line_49 ?_
  refine gr_iload_n Xz dX11_line_52 1 rfl rfl ?_
  refine gr_if_ge 60 Xz dX11_line_53 (by decide) (fun h3 => ?_) (fun h3 => ?_)
  · rw [if_pos h3] at hf
    refine gr_aload_n Xz dX11_line_60 0 rfl rfl ?_
    refine gf11_3 Xz wf_RX11_33 dX11_line_61 ?_
    refine gf0_2 Xz (gk_X0o gi_now) wf_RX11_141 dX11_line_64 ?_
    refine gf5_1 Xz (gk_X5o (gi_X0line gi_now)) wf_RX11_150 dX11_line_67 ?_
    exact gz_EAIu Xz huz hEz hf rfl dX11_line_70
  · rw [if_neg h3] at hf
    refine gr_iload_n Xz dX11_line_56 1 rfl rfl ?_
    refine gr_goto 70 Xz dX11_line_57 (by decide) ?_
    exact gz_EAIu Xz huz hEz hf rfl dX11_line_70

def g11_line (M0 : gz_M) (pf : Nat → Bool) : Option (Int32 × gz_M × (Nat → Bool)) := gz_bd2 (f3_faultOfLine M0) fun v1 M2 => if v1 = 0 then (gz_ck (decide (0 + 1 ≤ 1)) <| gz_bd2 (g4_push 7 M2 pf) fun M7 pf8 => gz_bd (f5_take (7 + 2) M7) fun M10 => gz_bd (f11_recut M10) fun M12 => g11_line_45 v1 M12 pf8 (0 + 1)) else (g11_line_45 v1 M2 pf 0)
set_option maxRecDepth 100000 in
theorem ce11_line {pf pf' : Nat → Bool} {l : Launch} {r : Int32} {M0 M' : gz_M} (hf : g11_line M0 pf = some (r, M', pf')) : gz_CAI l yX11_line cX11_line 2 6 .int (fun ad => [.ref (ad 0)]) pf M0 r M' pf' := by
  refine gz_ofAI (by decide +kernel) (fun _ => Nat.le_of_ble_eq_true rfl) (fun x Xz hAO huz hEz => ?_)
  show gz_At x 0 [(0, .ref (gx_ad x 0))] [] M0
  unfold g11_line at hf
  refine gr_aload_n Xz dX11_line_0 0 rfl rfl ?_
  refine gf11_1 Xz wf_RX11_19 dX11_line_1 ?_
  refine gr_aload_n Xz dX11_line_4 0 rfl rfl ?_
  refine gf11_0 Xz wf_RX11_12 dX11_line_5 ?_
  obtain ⟨v1, M2, q3, hf⟩ := gz_bd2e hf
  refine gr_callI (asF := fun ad => [.ref (ad 3), .ref (ad 1)]) [.ref (gx_ad x 1)] Xz (c3_faultOfLine q3) rfl wm_RX11_138 rfl (Xz.kd gk_C3).1 ((Xz.kd gk_C3).2 _ _ _ _) rfl (by decide) (by decide) rfl (Nat.le_of_ble_eq_true rfl) (huz.c) dX11_line_8 ?_
  refine gr_istore_n [(1, .int v1), (0, .ref (gx_ad x 0))] Xz dX11_line_11 rfl rfl (by decide) rfl ?_
  refine gr_iload_n Xz dX11_line_12 0 rfl rfl ?_
  refine gr_if_ne 45 Xz dX11_line_13 (by decide) (fun h4 => ?_) (fun h4 => ?_)
  · rw [if_pos h4] at hf
    refine gr_aload_n Xz dX11_line_16 1 rfl rfl ?_
    refine gf11_12 Xz wf_RX11_88 dX11_line_17 ?_
    refine gr_aload_n Xz dX11_line_20 1 rfl rfl ?_
    refine gf11_3 Xz wf_RX11_33 dX11_line_21 ?_
    obtain ⟨h6, hf⟩ := gz_cke hf
    obtain ⟨M7, pf8, q9, hf⟩ := gz_bd2e hf
    refine gr_callAV (asF := fun ad => [.ref (ad 131), .ref (ad 7)]) [.ref (gx_ad x 7)] Xz hAO huz (of_decide_eq_true h6) (ce4_push gi_now q9) rfl wm_RX11_121 rfl (Xz.kd gk_C131).1 ((Xz.kd gk_C131).2 _ _ _ _) rfl (by decide) (by decide) rfl (Nat.le_of_ble_eq_true rfl) dX11_line_24 (fun xq5 hs5 X5 hu5 => ?_)
    have hE5 := hEz.stp hs5
    rw [← (hs5.2 0 (gz_prsS (by decide))).2]
    have hAO5 : gc_AO (gx_s xq5) := gz_aoS hAO hs5
    refine gr_aload_n X5 dX11_line_27 1 rfl rfl ?_
    refine gf11_3 X5 wf_RX11_33 dX11_line_28 ?_
    refine gf0_2 X5 (gk_X0o gi_now) wf_RX11_141 dX11_line_31 ?_
    refine gr_aload_n X5 dX11_line_34 1 rfl rfl ?_
    refine gf11_0 X5 wf_RX11_12 dX11_line_35 ?_
    obtain ⟨M10, q11, hf⟩ := gz_bde hf
    refine gr_callV (asF := fun ad => [.ref (ad (7 + 2)), .ref (ad 1)]) [.ref (gx_ad xq5 1)] X5 (c5_take (gi_X0line gi_now) q11) rfl wm_RX11_144 rfl (X5.kd (gk_X5o (gi_X0line gi_now))).1 ((X5.kd (gk_X5o (gi_X0line gi_now))).2 _ _ _ _) rfl (by decide) (by decide) rfl (Nat.le_of_ble_eq_true rfl) (hu5.c) dX11_line_38 ?_
    refine gr_aload_n X5 dX11_line_41 1 rfl rfl ?_
    obtain ⟨M12, q13, hf⟩ := gz_bde hf
    refine gr_callV (asF := fun ad => [.ref (ad 0)]) [] X5 (c11_recut q13) rfl wm_RX11_147 rfl (X5.kd gk_C0).1 ((X5.kd gk_C0).2 _ _ _ _) rfl (by decide) (by decide) rfl (Nat.le_of_ble_eq_true rfl) (hu5.c) dX11_line_42 ?_
    refine gr_sub (lv' := [(0, .ref (gx_ad xq5 0)), (1, .int v1)]) [1, 0] rfl ?_
    exact be11_line_45 _ _ _ X5 hAO5 hu5 hE5 _ _ hf
  · rw [if_neg h4] at hf
    refine gr_sub (lv' := [(0, .ref (gx_ad x 0)), (1, .int v1)]) [1, 0] rfl ?_
    exact be11_line_45 _ _ _ Xz hAO huz hEz _ _ hf

def g11_change (a0 : Int32) (a1 : Int32) (a2 : Int32) (M0 : gz_M) (pf : Nat → Bool) : Option (Int32 × gz_M × (Nat → Bool)) := gz_bd2 (f5_refusal (7 + 2) a0 a1 a2 M0) fun v1 M2 => if 0 ≤ v1 then (gz_ck (decide (0 + 1 ≤ 1)) <| gz_bd2 (g4_push 7 M2 pf) fun M7 pf8 => gz_lt (gz_w M7 0 5 (gz_cOf (gz_cIx (M7.1 0 8)))) fun M10 => gz_lt (gz_w M10 0 8 (gz_cOf (gz_cIx (M7.1 0 5)))) fun M11 => gz_bd (f5_change (7 + 2) a0 a1 a2 M11) fun M12 => gz_bd (f11_recut M12) fun M14 => gz_bd (f11_tellChange a0 a1 M14) fun M16 => some (M16.1 (gz_cIx (M16.1 0 5)) 0, M16, pf8)) else (some (v1, M2, pf))
set_option maxRecDepth 100000 in
theorem ce11_change {pf pf' : Nat → Bool} {l : Launch} {r : Int32} {M0 M' : gz_M} {a0 : Int32} {a1 : Int32} {a2 : Int32} (hf : g11_change a0 a1 a2 M0 pf = some (r, M', pf')) : gz_CAI l yX11_change cX11_change 6 6 .int (fun ad => [.ref (ad 0), .int a0, .int a1, .int a2]) pf M0 r M' pf' := by
  refine gz_ofAI (by decide +kernel) (fun _ => Nat.le_of_ble_eq_true rfl) (fun x Xz hAO huz hEz => ?_)
  show gz_At x 0 [(0, .ref (gx_ad x 0)), (1, .int a0), (2, .int a1), (3, .int a2)] [] M0
  unfold g11_change at hf
  refine gr_aload_n Xz dX11_change_0 0 rfl rfl ?_
  refine gf11_3 Xz wf_RX11_33 dX11_change_1 ?_
  refine gf0_2 Xz (gk_X0o gi_now) wf_RX11_141 dX11_change_4 ?_
  refine gr_iload_n Xz dX11_change_7 1 rfl rfl ?_
  refine gr_iload_n Xz dX11_change_8 2 rfl rfl ?_
  refine gr_iload_n Xz dX11_change_9 3 rfl rfl ?_
  obtain ⟨v1, M2, q3, hf⟩ := gz_bd2e hf
  refine gr_callI (asF := fun ad => [.ref (ad (7 + 2)), .int a0, .int a1, .int a2]) [.int a0, .int a1, .int a2] Xz (c5_refusal (gi_X0line gi_now) q3) rfl wm_RX11_387 rfl (Xz.kd (gk_X5o (gi_X0line gi_now))).1 ((Xz.kd (gk_X5o (gi_X0line gi_now))).2 _ _ _ _) rfl (by decide) (by decide) rfl (Nat.le_of_ble_eq_true rfl) (huz.c) dX11_change_10 ?_
  refine gr_istore [(4, .int v1), (0, .ref (gx_ad x 0)), (1, .int a0), (2, .int a1), (3, .int a2)] Xz dX11_change_13 rfl (by decide) rfl ?_
  refine gr_iload Xz dX11_change_15 0 rfl ?_
  refine gr_if_ge 23 Xz dX11_change_17 (by decide) (fun h4 => ?_) (fun h4 => ?_)
  · rw [if_pos h4] at hf
    refine gr_aload_n Xz dX11_change_23 1 rfl rfl ?_
    refine gf11_12 Xz wf_RX11_88 dX11_change_24 ?_
    refine gr_aload_n Xz dX11_change_27 1 rfl rfl ?_
    refine gf11_3 Xz wf_RX11_33 dX11_change_28 ?_
    obtain ⟨h6, hf⟩ := gz_cke hf
    obtain ⟨M7, pf8, q9, hf⟩ := gz_bd2e hf
    refine gr_callAV (asF := fun ad => [.ref (ad 131), .ref (ad 7)]) [.ref (gx_ad x 7)] Xz hAO huz (of_decide_eq_true h6) (ce4_push gi_now q9) rfl wm_RX11_121 rfl (Xz.kd gk_C131).1 ((Xz.kd gk_C131).2 _ _ _ _) rfl (by decide) (by decide) rfl (Nat.le_of_ble_eq_true rfl) dX11_change_31 (fun xq5 hs5 X5 hu5 => ?_)
    have hE5 := hEz.stp hs5
    rw [← (hs5.2 0 (gz_prsS (by decide))).2]
    have hAO5 : gc_AO (gx_s xq5) := gz_aoS hAO hs5
    refine gr_aload_n X5 dX11_change_34 1 rfl rfl ?_
    refine gf11_5 X5 wf_RX11_47 dX11_change_35 ?_
    refine gr_astore [(5, .ref (gx_ad xq5 (gz_cIx (M7.1 0 5)))), (4, .int v1), (0, .ref (gx_ad xq5 0)), (1, .int a0), (2, .int a1), (3, .int a2)] X5 dX11_change_38 (by decide) rfl ?_
    refine gr_aload_n X5 dX11_change_40 2 rfl rfl ?_
    refine gr_aload_n X5 dX11_change_41 2 rfl rfl ?_
    refine gf11_8 X5 wf_RX11_61 dX11_change_42 ?_
    obtain ⟨M10, eM10, hf⟩ := gz_lte hf
    refine gp11_5 X5 (gi_cut _) wf_RX11_47 eM10 dX11_change_45 ?_
    refine gr_aload_n X5 dX11_change_48 2 rfl rfl ?_
    refine gr_aload X5 dX11_change_49 0 rfl ?_
    obtain ⟨M11, eM11, hf⟩ := gz_lte hf
    refine gp11_8 X5 (gi_cut _) wf_RX11_61 eM11 dX11_change_51 ?_
    refine gr_aload_n X5 dX11_change_54 2 rfl rfl ?_
    refine gf11_3 X5 wf_RX11_33 dX11_change_55 ?_
    refine gf0_2 X5 (gk_X0o gi_now) wf_RX11_141 dX11_change_58 ?_
    refine gr_iload_n X5 dX11_change_61 3 rfl rfl ?_
    refine gr_iload_n X5 dX11_change_62 4 rfl rfl ?_
    refine gr_iload_n X5 dX11_change_63 5 rfl rfl ?_
    obtain ⟨M12, q13, hf⟩ := gz_bde hf
    refine gr_callV (asF := fun ad => [.ref (ad (7 + 2)), .int a0, .int a1, .int a2]) [.int a0, .int a1, .int a2] X5 (c5_change (gi_X0line gi_now) q13) rfl wm_RX11_364 rfl (X5.kd (gk_X5o (gi_X0line gi_now))).1 ((X5.kd (gk_X5o (gi_X0line gi_now))).2 _ _ _ _) rfl (by decide) (by decide) rfl (Nat.le_of_ble_eq_true rfl) (hu5.c) dX11_change_64 ?_
    refine gr_aload_n X5 dX11_change_67 2 rfl rfl ?_
    obtain ⟨M14, q15, hf⟩ := gz_bde hf
    refine gr_callV (asF := fun ad => [.ref (ad 0)]) [] X5 (c11_recut q15) rfl wm_RX11_147 rfl (X5.kd gk_C0).1 ((X5.kd gk_C0).2 _ _ _ _) rfl (by decide) (by decide) rfl (Nat.le_of_ble_eq_true rfl) (hu5.c) dX11_change_68 ?_
    refine gr_aload_n X5 dX11_change_71 2 rfl rfl ?_
    refine gr_iload_n X5 dX11_change_72 3 rfl rfl ?_
    refine gr_iload_n X5 dX11_change_73 4 rfl rfl ?_
    obtain ⟨M16, q17, hf⟩ := gz_bde hf
    refine gr_callV (asF := fun ad => [.ref (ad 0), .int a0, .int a1]) [.int a0, .int a1] X5 (c11_tellChange q17) rfl wm_RX11_390 rfl (X5.kd gk_C0).1 ((X5.kd gk_C0).2 _ _ _ _) rfl (by decide) (by decide) rfl (Nat.le_of_ble_eq_true rfl) (hu5.c) dX11_change_74 ?_
    refine gr_aload_n X5 dX11_change_77 2 rfl rfl ?_
    refine gf11_5 X5 wf_RX11_47 dX11_change_78 ?_
    refine gf2_0 X5 (gk_X2o (gi_cut _)) wf_RX11_190 dX11_change_81 ?_
    exact gz_EAIu X5 hu5 hE5 hf rfl dX11_change_84
  · rw [if_neg h4] at hf
    refine gr_iload Xz dX11_change_20 0 rfl ?_
    exact gz_EAIu Xz huz hEz hf rfl dX11_change_22

def g11_becomes (a0 : Int32) (a1 : Int32) (M0 : gz_M) (pf : Nat → Bool) : Option (Int32 × gz_M × (Nat → Bool)) := gz_ck (decide (0 + 1 ≤ 1)) <| gz_bd3 (g11_change 0 a0 a1 M0 pf) fun v6 M3 pf4 => some (v6, M3, pf4)
set_option maxRecDepth 100000 in
theorem ce11_becomes {pf pf' : Nat → Bool} {l : Launch} {r : Int32} {M0 M' : gz_M} {a0 : Int32} {a1 : Int32} (hf : g11_becomes a0 a1 M0 pf = some (r, M', pf')) : gz_CAI l yX11_becomes cX11_becomes 3 7 .int (fun ad => [.ref (ad 0), .int a0, .int a1]) pf M0 r M' pf' := by
  refine gz_ofAI (by decide +kernel) (fun _ => Nat.le_of_ble_eq_true rfl) (fun x Xz hAO huz hEz => ?_)
  show gz_At x 0 [(0, .ref (gx_ad x 0)), (1, .int a0), (2, .int a1)] [] M0
  unfold g11_becomes at hf
  refine gr_aload_n Xz dX11_becomes_0 0 rfl rfl ?_
  refine gr_iconst 0 Xz dX11_becomes_1 (by decide) ?_
  refine gr_iload_n Xz dX11_becomes_2 1 rfl rfl ?_
  refine gr_iload_n Xz dX11_becomes_3 2 rfl rfl ?_
  obtain ⟨h2, hf⟩ := gz_cke hf
  obtain ⟨v6, M3, pf4, q5, hf⟩ := gz_bd3e hf
  refine gr_callAI (asF := fun ad => [.ref (ad 0), .int 0, .int a0, .int a1]) [.int 0, .int a0, .int a1] Xz hAO huz (of_decide_eq_true h2) (ce11_change q5) rfl wm_RX11_336 rfl (Xz.kd gk_C0).1 ((Xz.kd gk_C0).2 _ _ _ _) rfl (by decide) (by decide) rfl (Nat.le_of_ble_eq_true rfl) dX11_becomes_4 (fun xq1 hs1 X1 hu1 => ?_)
  have hE1 := hEz.stp hs1
  rw [← (hs1.2 0 (gz_prsS (by decide))).2]
  have hAO1 : gc_AO (gx_s xq1) := gz_aoS hAO hs1
  exact gz_EAIu X1 hu1 hE1 hf rfl dX11_becomes_7

def g11_comes (a0 : Int32) (a1 : Int32) (M0 : gz_M) (pf : Nat → Bool) : Option (Int32 × gz_M × (Nat → Bool)) := gz_ck (decide (0 + 1 ≤ 1)) <| gz_bd3 (g11_change 1 a0 a1 M0 pf) fun v6 M3 pf4 => some (v6, M3, pf4)
set_option maxRecDepth 100000 in
theorem ce11_comes {pf pf' : Nat → Bool} {l : Launch} {r : Int32} {M0 M' : gz_M} {a0 : Int32} {a1 : Int32} (hf : g11_comes a0 a1 M0 pf = some (r, M', pf')) : gz_CAI l yX11_comes cX11_comes 3 7 .int (fun ad => [.ref (ad 0), .int a0, .int a1]) pf M0 r M' pf' := by
  refine gz_ofAI (by decide +kernel) (fun _ => Nat.le_of_ble_eq_true rfl) (fun x Xz hAO huz hEz => ?_)
  show gz_At x 0 [(0, .ref (gx_ad x 0)), (1, .int a0), (2, .int a1)] [] M0
  unfold g11_comes at hf
  refine gr_aload_n Xz dX11_comes_0 0 rfl rfl ?_
  refine gr_iconst 1 Xz dX11_comes_1 (by decide) ?_
  refine gr_iload_n Xz dX11_comes_2 1 rfl rfl ?_
  refine gr_iload_n Xz dX11_comes_3 2 rfl rfl ?_
  obtain ⟨h2, hf⟩ := gz_cke hf
  obtain ⟨v6, M3, pf4, q5, hf⟩ := gz_bd3e hf
  refine gr_callAI (asF := fun ad => [.ref (ad 0), .int 1, .int a0, .int a1]) [.int 1, .int a0, .int a1] Xz hAO huz (of_decide_eq_true h2) (ce11_change q5) rfl wm_RX11_336 rfl (Xz.kd gk_C0).1 ((Xz.kd gk_C0).2 _ _ _ _) rfl (by decide) (by decide) rfl (Nat.le_of_ble_eq_true rfl) dX11_comes_4 (fun xq1 hs1 X1 hu1 => ?_)
  have hE1 := hEz.stp hs1
  rw [← (hs1.2 0 (gz_prsS (by decide))).2]
  have hAO1 : gc_AO (gx_s xq1) := gz_aoS hAO hs1
  exact gz_EAIu X1 hu1 hE1 hf rfl dX11_comes_7

def g11_goes (a0 : Int32) (M0 : gz_M) (pf : Nat → Bool) : Option (Int32 × gz_M × (Nat → Bool)) := gz_ck (decide (0 + 1 ≤ 1)) <| gz_bd3 (g11_change 2 a0 0 M0 pf) fun v6 M3 pf4 => some (v6, M3, pf4)
set_option maxRecDepth 100000 in
theorem ce11_goes {pf pf' : Nat → Bool} {l : Launch} {r : Int32} {M0 M' : gz_M} {a0 : Int32} (hf : g11_goes a0 M0 pf = some (r, M', pf')) : gz_CAI l yX11_goes cX11_goes 2 7 .int (fun ad => [.ref (ad 0), .int a0]) pf M0 r M' pf' := by
  refine gz_ofAI (by decide +kernel) (fun _ => Nat.le_of_ble_eq_true rfl) (fun x Xz hAO huz hEz => ?_)
  show gz_At x 0 [(0, .ref (gx_ad x 0)), (1, .int a0)] [] M0
  unfold g11_goes at hf
  refine gr_aload_n Xz dX11_goes_0 0 rfl rfl ?_
  refine gr_iconst 2 Xz dX11_goes_1 (by decide) ?_
  refine gr_iload_n Xz dX11_goes_2 1 rfl rfl ?_
  refine gr_iconst 0 Xz dX11_goes_3 (by decide) ?_
  obtain ⟨h2, hf⟩ := gz_cke hf
  obtain ⟨v6, M3, pf4, q5, hf⟩ := gz_bd3e hf
  refine gr_callAI (asF := fun ad => [.ref (ad 0), .int 2, .int a0, .int 0]) [.int 2, .int a0, .int 0] Xz hAO huz (of_decide_eq_true h2) (ce11_change q5) rfl wm_RX11_336 rfl (Xz.kd gk_C0).1 ((Xz.kd gk_C0).2 _ _ _ _) rfl (by decide) (by decide) rfl (Nat.le_of_ble_eq_true rfl) dX11_goes_4 (fun xq1 hs1 X1 hu1 => ?_)
  have hE1 := hEz.stp hs1
  rw [← (hs1.2 0 (gz_prsS (by decide))).2]
  have hAO1 : gc_AO (gx_s xq1) := gz_aoS hAO hs1
  exact gz_EAIu X1 hu1 hE1 hf rfl dX11_goes_7

def g11_changeByText_203 (x1 : Int32) (s0 : Int64) (M0 : gz_M) (pf : Nat → Bool) (u : Nat) : Option (Int32 × gz_M × (Nat → Bool)) := gz_bd (f11_tell s0 M0) fun M1 => gz_bd (f11_tell ((M1.1 (gz_cIx (M1.1 0 5)) 0).toInt64) M1) fun M3 => some (x1, M3, pf)
theorem be11_changeByText_203 {l : Launch} {r : Int32} {M' : gz_M} {pf' : Nat → Bool} : ∀ (x : gz_X) (pf : Nat → Bool) (u : Nat), gz_Ok x cX11_changeByText RX11 8 6 gz_cfC pf l → gc_AO (gx_s x) → gz_U x u → gz_EAI x cX11_changeByText .int r M' pf' → ∀ (x1 : Int32) (s0 : Int64) (M0 : gz_M), g11_changeByText_203 x1 s0 M0 pf u = some (r, M', pf') → gz_At x 203 [(0, .ref (gx_ad x 0)), (1, .int x1)] [.long s0, .ref (gx_ad x 0)] M0 := by
  intro x pf u Xz hAO huz hEz x1 s0 M0  hf
  rw [g11_changeByText_203] at hf
  obtain ⟨M1, q2, hf⟩ := gz_bde hf
  refine gr_callV (asF := fun ad => [.ref (ad 0), .long s0]) [.long s0] Xz (c11_tell q2) rfl wm_RX11_196 rfl (Xz.kd gk_C0).1 ((Xz.kd gk_C0).2 _ _ _ _) rfl (by decide) (by decide) rfl (Nat.le_of_ble_eq_true rfl) (huz.c) dX11_changeByText_203 ?_
  refine gr_aload_n Xz dX11_changeByText_206 0 rfl rfl ?_
  refine gr_aload_n Xz dX11_changeByText_207 0 rfl rfl ?_
  refine gf11_5 Xz wf_RX11_47 dX11_changeByText_208 ?_
  refine gf2_0 Xz (gk_X2o (gi_cut _)) wf_RX11_190 dX11_changeByText_211 ?_
  refine gr_i2l Xz dX11_changeByText_214 ?_
  obtain ⟨M3, q4, hf⟩ := gz_bde hf
  refine gr_callV (asF := fun ad => [.ref (ad 0), .long ((M1.1 (gz_cIx (M1.1 0 5)) 0).toInt64)]) [.long ((M1.1 (gz_cIx (M1.1 0 5)) 0).toInt64)] Xz (c11_tell q4) rfl wm_RX11_196 rfl (Xz.kd gk_C0).1 ((Xz.kd gk_C0).2 _ _ _ _) rfl (by decide) (by decide) rfl (Nat.le_of_ble_eq_true rfl) (huz.c) dX11_changeByText_215 ?_
  refine gr_iload_n Xz dX11_changeByText_218 1 rfl rfl ?_
  exact gz_EAIu Xz huz hEz hf rfl dX11_changeByText_219

def g11_changeByText_184 (x1 : Int32) (x2 : Int32) (M0 : gz_M) (pf : Nat → Bool) (u : Nat) : Option (Int32 × gz_M × (Nat → Bool)) := gz_bd (f11_recut M0) fun M1 => gz_lt (gz_w M1 0 15 0) fun M3 => if x2 = 0 then (g11_changeByText_203 x1 0 M3 pf u) else (g11_changeByText_203 x1 1 M3 pf u)
theorem be11_changeByText_184 {l : Launch} {r : Int32} {M' : gz_M} {pf' : Nat → Bool} : ∀ (x : gz_X) (pf : Nat → Bool) (u : Nat), gz_Ok x cX11_changeByText RX11 8 6 gz_cfC pf l → gc_AO (gx_s x) → gz_U x u → gz_EAI x cX11_changeByText .int r M' pf' → ∀ (x1 : Int32) (x2 : Int32) (M0 : gz_M), g11_changeByText_184 x1 x2 M0 pf u = some (r, M', pf') → gz_At x 184 [(0, .ref (gx_ad x 0)), (1, .int x1), (2, .int x2)] [] M0 := by
  intro x pf u Xz hAO huz hEz x1 x2 M0  hf
  rw [g11_changeByText_184] at hf
  refine gr_aload_n Xz dX11_changeByText_184 0 rfl rfl ?_
  obtain ⟨M1, q2, hf⟩ := gz_bde hf
  refine gr_callV (asF := fun ad => [.ref (ad 0)]) [] Xz (c11_recut q2) rfl wm_RX11_147 rfl (Xz.kd gk_C0).1 ((Xz.kd gk_C0).2 _ _ _ _) rfl (by decide) (by decide) rfl (Nat.le_of_ble_eq_true rfl) (huz.c) dX11_changeByText_185 ?_
  refine gr_aload_n Xz dX11_changeByText_188 0 rfl rfl ?_
  refine gr_iconst 0 Xz dX11_changeByText_189 (by decide) ?_
  obtain ⟨M3, eM3, hf⟩ := gz_lte hf
  refine gp11_15 Xz wf_RX11_100 eM3 dX11_changeByText_190 ?_
  refine gr_aload_n Xz dX11_changeByText_193 0 rfl rfl ?_
  refine gr_iload_n Xz dX11_changeByText_194 2 rfl rfl ?_
  refine gr_if_eq 202 Xz dX11_changeByText_195 (by decide) (fun h4 => ?_) (fun h4 => ?_)
  · rw [if_pos h4] at hf
    refine gr_lconst 0 Xz dX11_changeByText_202 rfl ?_
    refine gr_sub (lv' := [(0, .ref (gx_ad x 0)), (1, .int x1)]) [0, 1] rfl ?_
    exact be11_changeByText_203 _ _ _ Xz hAO huz hEz _ _ _ hf
  · rw [if_neg h4] at hf
    refine gr_lconst 1 Xz dX11_changeByText_198 rfl ?_
    refine gr_goto 203 Xz dX11_changeByText_199 (by decide) ?_
    refine gr_sub (lv' := [(0, .ref (gx_ad x 0)), (1, .int x1)]) [0, 1] rfl ?_
    exact be11_changeByText_203 _ _ _ Xz hAO huz hEz _ _ _ hf

def g11_changeByText_159 (c9 : Int32 → Int32 → Int32 → Int32 → gz_M → (Nat → Bool) → Nat → Option (Int32 × gz_M × (Nat → Bool))) (x1 : Int32) (x2 : Int32) (x3 : Int32) (x4 : Int32) (x5 : Int32) (x6 : Int32) (x7 : Int32) (M0 : gz_M) (pf : Nat → Bool) (u : Nat) : Option (Int32 × gz_M × (Nat → Bool)) := gz_bd (f5_change (7 + 2) x5 x6 x7 M0) fun M1 => gz_lt (x1 + 1) fun v3 => gz_lt (x4 + 1) fun v4 => c9 v3 x2 x3 v4 M1 pf u
theorem be11_changeByText_159 {l : Launch} {r : Int32} {M' : gz_M} {pf' : Nat → Bool} {c9 : Int32 → Int32 → Int32 → Int32 → gz_M → (Nat → Bool) → Nat → Option (Int32 × gz_M × (Nat → Bool))} (hc9 : ∀ (x : gz_X) (pf : Nat → Bool) (u : Nat), gz_Ok x cX11_changeByText RX11 8 6 gz_cfC pf l → gc_AO (gx_s x) → gz_U x u → gz_EAI x cX11_changeByText .int r M' pf' → ∀ (x1 : Int32) (x2 : Int32) (x3 : Int32) (x4 : Int32) (M0 : gz_M), c9 x1 x2 x3 x4 M0 pf u = some (r, M', pf') → gz_At x 9 [(0, .ref (gx_ad x 0)), (1, .int x1), (2, .int x2), (3, .int x3), (4, .int x4)] [] M0) : ∀ (x : gz_X) (pf : Nat → Bool) (u : Nat), gz_Ok x cX11_changeByText RX11 8 6 gz_cfC pf l → gc_AO (gx_s x) → gz_U x u → gz_EAI x cX11_changeByText .int r M' pf' → ∀ (x1 : Int32) (x2 : Int32) (x3 : Int32) (x4 : Int32) (x5 : Int32) (x6 : Int32) (x7 : Int32) (M0 : gz_M), g11_changeByText_159 c9 x1 x2 x3 x4 x5 x6 x7 M0 pf u = some (r, M', pf') → gz_At x 159 [(0, .ref (gx_ad x 0)), (1, .int x1), (2, .int x2), (3, .int x3), (4, .int x4), (5, .int x5), (6, .int x6), (7, .int x7)] [] M0 := by
  intro x pf u Xz hAO huz hEz x1 x2 x3 x4 x5 x6 x7 M0  hf
  rw [g11_changeByText_159] at hf
  refine gr_aload_n Xz dX11_changeByText_159 0 rfl rfl ?_
  refine gf11_3 Xz wf_RX11_33 dX11_changeByText_160 ?_
  refine gf0_2 Xz (gk_X0o gi_now) wf_RX11_141 dX11_changeByText_163 ?_
  refine gr_iload Xz dX11_changeByText_166 5 rfl ?_
  refine gr_iload Xz dX11_changeByText_168 6 rfl ?_
  refine gr_iload Xz dX11_changeByText_170 7 rfl ?_
  obtain ⟨M1, q2, hf⟩ := gz_bde hf
  refine gr_callV (asF := fun ad => [.ref (ad (7 + 2)), .int x5, .int x6, .int x7]) [.int x5, .int x6, .int x7] Xz (c5_change (gi_X0line gi_now) q2) rfl wm_RX11_364 rfl (Xz.kd (gk_X5o (gi_X0line gi_now))).1 ((Xz.kd (gk_X5o (gi_X0line gi_now))).2 _ _ _ _) rfl (by decide) (by decide) rfl (Nat.le_of_ble_eq_true rfl) (huz.c) dX11_changeByText_172 ?_
  obtain ⟨v3, ev3, hf⟩ := gz_lte hf
  refine gr_iinc 1 [(1, .int v3), (0, .ref (gx_ad x 0)), (2, .int x2), (3, .int x3), (4, .int x4), (5, .int x5), (6, .int x6), (7, .int x7)] Xz dX11_changeByText_175 1 rfl (by decide) ev3 (by decide) rfl ?_
  obtain ⟨v4, ev4, hf⟩ := gz_lte hf
  refine gr_iinc 1 [(4, .int v4), (1, .int v3), (0, .ref (gx_ad x 0)), (2, .int x2), (3, .int x3), (5, .int x5), (6, .int x6), (7, .int x7)] Xz dX11_changeByText_178 4 rfl (by decide) ev4 (by decide) rfl ?_
  refine gr_goto 9 Xz dX11_changeByText_181 (by decide) ?_
  refine gr_sub (lv' := [(0, .ref (gx_ad x 0)), (1, .int v3), (2, .int x2), (3, .int x3), (4, .int v4)]) [2, 1, 3, 4, 0] rfl ?_
  exact hc9 _ _ _ Xz hAO huz hEz _ _ _ _ _ hf

def g11_changeByText_139 (c9 : Int32 → Int32 → Int32 → Int32 → gz_M → (Nat → Bool) → Nat → Option (Int32 × gz_M × (Nat → Bool))) (x1 : Int32) (x3 : Int32) (x4 : Int32) (x5 : Int32) (x6 : Int32) (x7 : Int32) (s0 : Int32) (M0 : gz_M) (pf : Nat → Bool) (u : Nat) : Option (Int32 × gz_M × (Nat → Bool)) := if s0 = 0 then (if x1 = 0 then (gz_ck (decide (u + 1 ≤ 1)) <| gz_bd2 (g4_push 7 M0 pf) fun M5 pf6 => g11_changeByText_159 c9 x1 s0 x3 x4 x5 x6 x7 M5 pf6 (u + 1)) else (g11_changeByText_159 c9 x1 s0 x3 x4 x5 x6 x7 M0 pf u)) else (gz_lt (x4 + 1) fun v8 => c9 x1 s0 x3 v8 M0 pf u)
theorem be11_changeByText_139 {l : Launch} {r : Int32} {M' : gz_M} {pf' : Nat → Bool} {c9 : Int32 → Int32 → Int32 → Int32 → gz_M → (Nat → Bool) → Nat → Option (Int32 × gz_M × (Nat → Bool))} (hc9 : ∀ (x : gz_X) (pf : Nat → Bool) (u : Nat), gz_Ok x cX11_changeByText RX11 8 6 gz_cfC pf l → gc_AO (gx_s x) → gz_U x u → gz_EAI x cX11_changeByText .int r M' pf' → ∀ (x1 : Int32) (x2 : Int32) (x3 : Int32) (x4 : Int32) (M0 : gz_M), c9 x1 x2 x3 x4 M0 pf u = some (r, M', pf') → gz_At x 9 [(0, .ref (gx_ad x 0)), (1, .int x1), (2, .int x2), (3, .int x3), (4, .int x4)] [] M0) : ∀ (x : gz_X) (pf : Nat → Bool) (u : Nat), gz_Ok x cX11_changeByText RX11 8 6 gz_cfC pf l → gc_AO (gx_s x) → gz_U x u → gz_EAI x cX11_changeByText .int r M' pf' → ∀ (x1 : Int32) (x3 : Int32) (x4 : Int32) (x5 : Int32) (x6 : Int32) (x7 : Int32) (s0 : Int32) (M0 : gz_M), g11_changeByText_139 c9 x1 x3 x4 x5 x6 x7 s0 M0 pf u = some (r, M', pf') → gz_At x 139 [(0, .ref (gx_ad x 0)), (1, .int x1), (3, .int x3), (4, .int x4), (5, .int x5), (6, .int x6), (7, .int x7)] [.int s0] M0 := by
  intro x pf u Xz hAO huz hEz x1 x3 x4 x5 x6 x7 s0 M0  hf
  rw [g11_changeByText_139] at hf
  refine gr_istore_n [(2, .int s0), (0, .ref (gx_ad x 0)), (1, .int x1), (3, .int x3), (4, .int x4), (5, .int x5), (6, .int x6), (7, .int x7)] Xz dX11_changeByText_139 rfl rfl (by decide) rfl ?_
  refine gr_iload_n Xz dX11_changeByText_140 0 rfl rfl ?_
  refine gr_if_ne 178 Xz dX11_changeByText_141 (by decide) (fun h1 => ?_) (fun h1 => ?_)
  · rw [if_pos h1] at hf
    refine gr_iload_n Xz dX11_changeByText_144 2 rfl rfl ?_
    refine gr_if_ne 159 Xz dX11_changeByText_145 (by decide) (fun h2 => ?_) (fun h2 => ?_)
    · rw [if_pos h2] at hf
      refine gr_aload_n Xz dX11_changeByText_148 1 rfl rfl ?_
      refine gf11_12 Xz wf_RX11_88 dX11_changeByText_149 ?_
      refine gr_aload_n Xz dX11_changeByText_152 1 rfl rfl ?_
      refine gf11_3 Xz wf_RX11_33 dX11_changeByText_153 ?_
      obtain ⟨h4, hf⟩ := gz_cke hf
      obtain ⟨M5, pf6, q7, hf⟩ := gz_bd2e hf
      refine gr_callAV (asF := fun ad => [.ref (ad 131), .ref (ad 7)]) [.ref (gx_ad x 7)] Xz hAO huz (of_decide_eq_true h4) (ce4_push gi_now q7) rfl wm_RX11_121 rfl (Xz.kd gk_C131).1 ((Xz.kd gk_C131).2 _ _ _ _) rfl (by decide) (by decide) rfl (Nat.le_of_ble_eq_true rfl) dX11_changeByText_156 (fun xq3 hs3 X3 hu3 => ?_)
      have hE3 := hEz.stp hs3
      rw [← (hs3.2 0 (gz_prsS (by decide))).2]
      have hAO3 : gc_AO (gx_s xq3) := gz_aoS hAO hs3
      refine gr_sub (lv' := [(0, .ref (gx_ad xq3 0)), (1, .int x1), (2, .int s0), (3, .int x3), (4, .int x4), (5, .int x5), (6, .int x6), (7, .int x7)]) [1, 2, 0, 3, 4, 5, 6, 7] rfl ?_
      exact be11_changeByText_159 hc9 _ _ _ X3 hAO3 hu3 hE3 _ _ _ _ _ _ _ _ hf
    · rw [if_neg h2] at hf
      refine gr_sub (lv' := [(0, .ref (gx_ad x 0)), (1, .int x1), (2, .int s0), (3, .int x3), (4, .int x4), (5, .int x5), (6, .int x6), (7, .int x7)]) [1, 2, 0, 3, 4, 5, 6, 7] rfl ?_
      exact be11_changeByText_159 hc9 _ _ _ Xz hAO huz hEz _ _ _ _ _ _ _ _ hf
  · rw [if_neg h1] at hf
    obtain ⟨v8, ev8, hf⟩ := gz_lte hf
    refine gr_iinc 1 [(4, .int v8), (2, .int s0), (0, .ref (gx_ad x 0)), (1, .int x1), (3, .int x3), (5, .int x5), (6, .int x6), (7, .int x7)] Xz dX11_changeByText_178 4 rfl (by decide) ev8 (by decide) rfl ?_
    refine gr_goto 9 Xz dX11_changeByText_181 (by decide) ?_
    refine gr_sub (lv' := [(0, .ref (gx_ad x 0)), (1, .int x1), (2, .int s0), (3, .int x3), (4, .int v8)]) [2, 3, 1, 4, 0] rfl ?_
    exact hc9 _ _ _ Xz hAO huz hEz _ _ _ _ _ hf

def g11_changeByText_113 (c9 : Int32 → Int32 → Int32 → Int32 → gz_M → (Nat → Bool) → Nat → Option (Int32 × gz_M × (Nat → Bool))) (x1 : Int32) (x4 : Int32) (x5 : Int32) (x6 : Int32) (x7 : Int32) (s0 : Int32) (s1 : Int32) (M0 : gz_M) (pf : Nat → Bool) (u : Nat) : Option (Int32 × gz_M × (Nat → Bool)) := gz_lt (s1 + s0) fun v1 => gz_bd2 (f5_refusal (7 + 2) x5 x6 x7 M0) fun v2 M3 => if 0 ≤ v2 then (g11_changeByText_139 c9 x1 v1 x4 x5 x6 x7 0 M3 pf u) else (g11_changeByText_139 c9 x1 v1 x4 x5 x6 x7 1 M3 pf u)
theorem be11_changeByText_113 {l : Launch} {r : Int32} {M' : gz_M} {pf' : Nat → Bool} {c9 : Int32 → Int32 → Int32 → Int32 → gz_M → (Nat → Bool) → Nat → Option (Int32 × gz_M × (Nat → Bool))} (hc9 : ∀ (x : gz_X) (pf : Nat → Bool) (u : Nat), gz_Ok x cX11_changeByText RX11 8 6 gz_cfC pf l → gc_AO (gx_s x) → gz_U x u → gz_EAI x cX11_changeByText .int r M' pf' → ∀ (x1 : Int32) (x2 : Int32) (x3 : Int32) (x4 : Int32) (M0 : gz_M), c9 x1 x2 x3 x4 M0 pf u = some (r, M', pf') → gz_At x 9 [(0, .ref (gx_ad x 0)), (1, .int x1), (2, .int x2), (3, .int x3), (4, .int x4)] [] M0) : ∀ (x : gz_X) (pf : Nat → Bool) (u : Nat), gz_Ok x cX11_changeByText RX11 8 6 gz_cfC pf l → gc_AO (gx_s x) → gz_U x u → gz_EAI x cX11_changeByText .int r M' pf' → ∀ (x1 : Int32) (x4 : Int32) (x5 : Int32) (x6 : Int32) (x7 : Int32) (s0 : Int32) (s1 : Int32) (M0 : gz_M), g11_changeByText_113 c9 x1 x4 x5 x6 x7 s0 s1 M0 pf u = some (r, M', pf') → gz_At x 113 [(0, .ref (gx_ad x 0)), (1, .int x1), (4, .int x4), (5, .int x5), (6, .int x6), (7, .int x7)] [.int s0, .int s1] M0 := by
  intro x pf u Xz hAO huz hEz x1 x4 x5 x6 x7 s0 s1 M0  hf
  rw [g11_changeByText_113] at hf
  refine gr_iadd Xz dX11_changeByText_113 ?_
  obtain ⟨v1, ev1, hf⟩ := gz_lte hf
  refine gr_istore_n [(3, .int v1), (0, .ref (gx_ad x 0)), (1, .int x1), (4, .int x4), (5, .int x5), (6, .int x6), (7, .int x7)] Xz dX11_changeByText_114 ev1 rfl (by decide) rfl ?_
  refine gr_aload_n Xz dX11_changeByText_115 1 rfl rfl ?_
  refine gf11_3 Xz wf_RX11_33 dX11_changeByText_116 ?_
  refine gf0_2 Xz (gk_X0o gi_now) wf_RX11_141 dX11_changeByText_119 ?_
  refine gr_iload Xz dX11_changeByText_122 4 rfl ?_
  refine gr_iload Xz dX11_changeByText_124 5 rfl ?_
  refine gr_iload Xz dX11_changeByText_126 6 rfl ?_
  obtain ⟨v2, M3, q4, hf⟩ := gz_bd2e hf
  refine gr_callI (asF := fun ad => [.ref (ad (7 + 2)), .int x5, .int x6, .int x7]) [.int x5, .int x6, .int x7] Xz (c5_refusal (gi_X0line gi_now) q4) rfl wm_RX11_387 rfl (Xz.kd (gk_X5o (gi_X0line gi_now))).1 ((Xz.kd (gk_X5o (gi_X0line gi_now))).2 _ _ _ _) rfl (by decide) (by decide) rfl (Nat.le_of_ble_eq_true rfl) (huz.c) dX11_changeByText_128 ?_
  refine gr_if_ge 138 Xz dX11_changeByText_131 (by decide) (fun h5 => ?_) (fun h5 => ?_)
  · rw [if_pos h5] at hf
    refine gr_iconst 0 Xz dX11_changeByText_138 (by decide) ?_
    refine gr_sub (lv' := [(0, .ref (gx_ad x 0)), (1, .int x1), (3, .int v1), (4, .int x4), (5, .int x5), (6, .int x6), (7, .int x7)]) [1, 2, 0, 3, 4, 5, 6] rfl ?_
    exact be11_changeByText_139 hc9 _ _ _ Xz hAO huz hEz _ _ _ _ _ _ _ _ hf
  · rw [if_neg h5] at hf
    refine gr_iconst 1 Xz dX11_changeByText_134 (by decide) ?_
    refine gr_goto 139 Xz dX11_changeByText_135 (by decide) ?_
    refine gr_sub (lv' := [(0, .ref (gx_ad x 0)), (1, .int x1), (3, .int v1), (4, .int x4), (5, .int x5), (6, .int x6), (7, .int x7)]) [1, 2, 0, 3, 4, 5, 6] rfl ?_
    exact be11_changeByText_139 hc9 _ _ _ Xz hAO huz hEz _ _ _ _ _ _ _ _ hf

def g11_changeByText_99 (c9 : Int32 → Int32 → Int32 → Int32 → gz_M → (Nat → Bool) → Nat → Option (Int32 × gz_M × (Nat → Bool))) (x1 : Int32) (x3 : Int32) (x4 : Int32) (x5 : Int32) (x6 : Int32) (s0 : Int32) (M0 : gz_M) (pf : Nat → Bool) (u : Nat) : Option (Int32 × gz_M × (Nat → Bool)) := if x5 = 2 then (g11_changeByText_113 c9 x1 x4 x5 x6 s0 3 x3 M0 pf u) else (g11_changeByText_113 c9 x1 x4 x5 x6 s0 4 x3 M0 pf u)
theorem be11_changeByText_99 {l : Launch} {r : Int32} {M' : gz_M} {pf' : Nat → Bool} {c9 : Int32 → Int32 → Int32 → Int32 → gz_M → (Nat → Bool) → Nat → Option (Int32 × gz_M × (Nat → Bool))} (hc9 : ∀ (x : gz_X) (pf : Nat → Bool) (u : Nat), gz_Ok x cX11_changeByText RX11 8 6 gz_cfC pf l → gc_AO (gx_s x) → gz_U x u → gz_EAI x cX11_changeByText .int r M' pf' → ∀ (x1 : Int32) (x2 : Int32) (x3 : Int32) (x4 : Int32) (M0 : gz_M), c9 x1 x2 x3 x4 M0 pf u = some (r, M', pf') → gz_At x 9 [(0, .ref (gx_ad x 0)), (1, .int x1), (2, .int x2), (3, .int x3), (4, .int x4)] [] M0) : ∀ (x : gz_X) (pf : Nat → Bool) (u : Nat), gz_Ok x cX11_changeByText RX11 8 6 gz_cfC pf l → gc_AO (gx_s x) → gz_U x u → gz_EAI x cX11_changeByText .int r M' pf' → ∀ (x1 : Int32) (x3 : Int32) (x4 : Int32) (x5 : Int32) (x6 : Int32) (s0 : Int32) (M0 : gz_M), g11_changeByText_99 c9 x1 x3 x4 x5 x6 s0 M0 pf u = some (r, M', pf') → gz_At x 99 [(0, .ref (gx_ad x 0)), (1, .int x1), (3, .int x3), (4, .int x4), (5, .int x5), (6, .int x6)] [.int s0] M0 := by
  intro x pf u Xz hAO huz hEz x1 x3 x4 x5 x6 s0 M0  hf
  rw [g11_changeByText_99] at hf
  refine gr_istore [(7, .int s0), (0, .ref (gx_ad x 0)), (1, .int x1), (3, .int x3), (4, .int x4), (5, .int x5), (6, .int x6)] Xz dX11_changeByText_99 rfl (by decide) rfl ?_
  refine gr_iload_n Xz dX11_changeByText_101 3 rfl rfl ?_
  refine gr_iload Xz dX11_changeByText_102 5 rfl ?_
  refine gr_iconst 2 Xz dX11_changeByText_104 (by decide) ?_
  refine gr_icmp_ne 112 Xz dX11_changeByText_105 (by decide) (fun h1 => ?_) (fun h1 => ?_)
  · rw [if_pos h1] at hf
    refine gr_iconst 3 Xz dX11_changeByText_108 (by decide) ?_
    refine gr_goto 113 Xz dX11_changeByText_109 (by decide) ?_
    refine gr_sub (lv' := [(0, .ref (gx_ad x 0)), (1, .int x1), (4, .int x4), (5, .int x5), (6, .int x6), (7, .int s0)]) [1, 2, 4, 5, 6, 0] rfl ?_
    exact be11_changeByText_113 hc9 _ _ _ Xz hAO huz hEz _ _ _ _ _ _ _ _ hf
  · rw [if_neg h1] at hf
    refine gr_iconst 4 Xz dX11_changeByText_112 (by decide) ?_
    refine gr_sub (lv' := [(0, .ref (gx_ad x 0)), (1, .int x1), (4, .int x4), (5, .int x5), (6, .int x6), (7, .int s0)]) [1, 2, 4, 5, 6, 0] rfl ?_
    exact be11_changeByText_113 hc9 _ _ _ Xz hAO huz hEz _ _ _ _ _ _ _ _ hf

def g11_changeByText_9 : Nat → Int32 → Int32 → Int32 → Int32 → gz_M → (Nat → Bool) → Nat → Option (Int32 × gz_M × (Nat → Bool))
  | 0, _, _, _, _, _, _, _ => none
  | n + 1, x1, x2, x3, x4, M0, pf, u => if 80 ≤ x4 then (g11_changeByText_184 x1 x2 M0 pf u) else (if (M0.1 1 1) ≤ x3 then (g11_changeByText_184 x1 x2 M0 pf u) else (if x2 = 0 then (gz_bd2 (f10_get x3 M0) fun v4 M5 => gz_bd2 (f3_kindOfChange v4 M5) fun v7 M8 => gz_bd2 (f10_get (x3 + 1) M8) fun v10 M11 => gz_bd2 (f10_get (x3 + 2) M11) fun v13 M14 => gz_lt (((v10 - 48) * 10) + (v13 - 48)) fun v16 => if v7 = 2 then (g11_changeByText_99 (g11_changeByText_9 n) x1 x3 x4 v7 v16 0 M14 pf u) else (gz_bd2 (f10_get (x3 + 3) M14) fun v18 M19 => g11_changeByText_99 (g11_changeByText_9 n) x1 x3 x4 v7 v16 (v18 - 97) M19 pf u)) else (g11_changeByText_184 x1 x2 M0 pf u)))
theorem be11_changeByText_9 {l : Launch} {r : Int32} {M' : gz_M} {pf' : Nat → Bool} : ∀ (n : Nat), ∀ (x : gz_X) (pf : Nat → Bool) (u : Nat), gz_Ok x cX11_changeByText RX11 8 6 gz_cfC pf l → gc_AO (gx_s x) → gz_U x u → gz_EAI x cX11_changeByText .int r M' pf' → ∀ (x1 : Int32) (x2 : Int32) (x3 : Int32) (x4 : Int32) (M0 : gz_M), g11_changeByText_9 n x1 x2 x3 x4 M0 pf u = some (r, M', pf') → gz_At x 9 [(0, .ref (gx_ad x 0)), (1, .int x1), (2, .int x2), (3, .int x3), (4, .int x4)] [] M0 := by
  intro n
  induction n with
  | zero =>
    intro x pf u Xz hAO huz hEz x1 x2 x3 x4 M0  hf
    rw [g11_changeByText_9] at hf
    cases hf
  | succ n ih =>
    intro x pf u Xz hAO huz hEz x1 x2 x3 x4 M0  hf
    rw [g11_changeByText_9] at hf
    refine gr_iload Xz dX11_changeByText_9 4 rfl ?_
    refine gr_bipush 80 Xz dX11_changeByText_11 (by decide) ?_
    refine gr_icmp_ge 184 Xz dX11_changeByText_13 (by decide) (fun h1 => ?_) (fun h1 => ?_)
    · rw [if_pos h1] at hf
      refine gr_sub (lv' := [(0, .ref (gx_ad x 0)), (1, .int x1), (2, .int x2)]) [0, 1, 2] rfl ?_
      exact be11_changeByText_184 _ _ _ Xz hAO huz hEz _ _ _ hf
    · rw [if_neg h1] at hf
      refine gr_iload_n Xz dX11_changeByText_16 3 rfl rfl ?_
      refine gr_aload_n Xz dX11_changeByText_17 0 rfl rfl ?_
      refine gf11_0 Xz wf_RX11_12 dX11_changeByText_18 ?_
      refine gf10_1 Xz wf_RX11_108 dX11_changeByText_21 ?_
      refine gr_icmp_ge 184 Xz dX11_changeByText_24 (by decide) (fun h2 => ?_) (fun h2 => ?_)
      · rw [if_pos h2] at hf
        refine gr_sub (lv' := [(0, .ref (gx_ad x 0)), (1, .int x1), (2, .int x2)]) [0, 1, 2] rfl ?_
        exact be11_changeByText_184 _ _ _ Xz hAO huz hEz _ _ _ hf
      · rw [if_neg h2] at hf
        refine gr_iload_n Xz dX11_changeByText_27 2 rfl rfl ?_
        refine gr_if_ne 184 Xz dX11_changeByText_28 (by decide) (fun h3 => ?_) (fun h3 => ?_)
        · rw [if_pos h3] at hf
          refine gr_aload_n Xz dX11_changeByText_31 0 rfl rfl ?_
          refine gf11_0 Xz wf_RX11_12 dX11_changeByText_32 ?_
          refine gr_iload_n Xz dX11_changeByText_35 3 rfl rfl ?_
          obtain ⟨v4, M5, q6, hf⟩ := gz_bd2e hf
          refine gr_callI (asF := fun ad => [.ref (ad 1), .int x3]) [.int x3] Xz (c10_get q6) rfl wm_RX11_400 rfl (Xz.kd gk_C1).1 ((Xz.kd gk_C1).2 _ _ _ _) rfl (by decide) (by decide) rfl (Nat.le_of_ble_eq_true rfl) (huz.c) dX11_changeByText_36 ?_
          obtain ⟨v7, M8, q9, hf⟩ := gz_bd2e hf
          refine gr_callSI (asF := fun _ => [.int v4]) [.int v4] Xz (c3_kindOfChange q9) rfl wm_RX11_401 rfl (by decide) (by decide) rfl (Nat.le_of_ble_eq_true rfl) (huz.c) dX11_changeByText_39 ?_
          refine gr_istore [(5, .int v7), (0, .ref (gx_ad x 0)), (1, .int x1), (2, .int x2), (3, .int x3), (4, .int x4)] Xz dX11_changeByText_42 rfl (by decide) rfl ?_
          refine gr_aload_n Xz dX11_changeByText_44 1 rfl rfl ?_
          refine gf11_0 Xz wf_RX11_12 dX11_changeByText_45 ?_
          refine gr_iload_n Xz dX11_changeByText_48 4 rfl rfl ?_
          refine gr_iconst 1 Xz dX11_changeByText_49 (by decide) ?_
          refine gr_iadd Xz dX11_changeByText_50 ?_
          obtain ⟨v10, M11, q12, hf⟩ := gz_bd2e hf
          refine gr_callI (asF := fun ad => [.ref (ad 1), .int (x3 + 1)]) [.int (x3 + 1)] Xz (c10_get q12) rfl wm_RX11_400 rfl (Xz.kd gk_C1).1 ((Xz.kd gk_C1).2 _ _ _ _) rfl (by decide) (by decide) rfl (Nat.le_of_ble_eq_true rfl) (huz.c) dX11_changeByText_51 ?_
          refine gr_bipush 48 Xz dX11_changeByText_54 (by decide) ?_
          refine gr_isub Xz dX11_changeByText_56 ?_
          refine gr_bipush 10 Xz dX11_changeByText_57 (by decide) ?_
          refine gr_imul Xz dX11_changeByText_59 ?_
          refine gr_aload_n Xz dX11_changeByText_60 1 rfl rfl ?_
          refine gf11_0 Xz wf_RX11_12 dX11_changeByText_61 ?_
          refine gr_iload_n Xz dX11_changeByText_64 4 rfl rfl ?_
          refine gr_iconst 2 Xz dX11_changeByText_65 (by decide) ?_
          refine gr_iadd Xz dX11_changeByText_66 ?_
          obtain ⟨v13, M14, q15, hf⟩ := gz_bd2e hf
          refine gr_callI (asF := fun ad => [.ref (ad 1), .int (x3 + 2)]) [.int (x3 + 2)] Xz (c10_get q15) rfl wm_RX11_400 rfl (Xz.kd gk_C1).1 ((Xz.kd gk_C1).2 _ _ _ _) rfl (by decide) (by decide) rfl (Nat.le_of_ble_eq_true rfl) (huz.c) dX11_changeByText_67 ?_
          refine gr_bipush 48 Xz dX11_changeByText_70 (by decide) ?_
          refine gr_isub Xz dX11_changeByText_72 ?_
          refine gr_iadd Xz dX11_changeByText_73 ?_
          obtain ⟨v16, ev16, hf⟩ := gz_lte hf
          refine gr_istore [(6, .int v16), (5, .int v7), (0, .ref (gx_ad x 0)), (1, .int x1), (2, .int x2), (3, .int x3), (4, .int x4)] Xz dX11_changeByText_74 ev16 (by decide) rfl ?_
          refine gr_iload Xz dX11_changeByText_76 1 rfl ?_
          refine gr_iconst 2 Xz dX11_changeByText_78 (by decide) ?_
          refine gr_icmp_ne 86 Xz dX11_changeByText_79 (by decide) (fun h17 => ?_) (fun h17 => ?_)
          · rw [if_pos h17] at hf
            refine gr_iconst 0 Xz dX11_changeByText_82 (by decide) ?_
            refine gr_goto 99 Xz dX11_changeByText_83 (by decide) ?_
            refine gr_sub (lv' := [(0, .ref (gx_ad x 0)), (1, .int x1), (3, .int x3), (4, .int x4), (5, .int v7), (6, .int v16)]) [2, 3, 5, 6, 1, 0] rfl ?_
            exact be11_changeByText_99 ih _ _ _ Xz hAO huz hEz _ _ _ _ _ _ _ hf
          · rw [if_neg h17] at hf
            refine gr_aload_n Xz dX11_changeByText_86 2 rfl rfl ?_
            refine gf11_0 Xz wf_RX11_12 dX11_changeByText_87 ?_
            refine gr_iload_n Xz dX11_changeByText_90 5 rfl rfl ?_
            refine gr_iconst 3 Xz dX11_changeByText_91 (by decide) ?_
            refine gr_iadd Xz dX11_changeByText_92 ?_
            obtain ⟨v18, M19, q20, hf⟩ := gz_bd2e hf
            refine gr_callI (asF := fun ad => [.ref (ad 1), .int (x3 + 3)]) [.int (x3 + 3)] Xz (c10_get q20) rfl wm_RX11_400 rfl (Xz.kd gk_C1).1 ((Xz.kd gk_C1).2 _ _ _ _) rfl (by decide) (by decide) rfl (Nat.le_of_ble_eq_true rfl) (huz.c) dX11_changeByText_93 ?_
            refine gr_bipush 97 Xz dX11_changeByText_96 (by decide) ?_
            refine gr_isub Xz dX11_changeByText_98 ?_
            refine gr_sub (lv' := [(0, .ref (gx_ad x 0)), (1, .int x1), (3, .int x3), (4, .int x4), (5, .int v7), (6, .int v16)]) [2, 3, 5, 6, 1, 0] rfl ?_
            exact be11_changeByText_99 ih _ _ _ Xz hAO huz hEz _ _ _ _ _ _ _ hf
        · rw [if_neg h3] at hf
          refine gr_sub (lv' := [(0, .ref (gx_ad x 0)), (1, .int x1), (2, .int x2)]) [0, 1, 2] rfl ?_
          exact be11_changeByText_184 _ _ _ Xz hAO huz hEz _ _ _ hf

def g11_changeByText (M0 : gz_M) (pf : Nat → Bool) : Option (Int32 × gz_M × (Nat → Bool)) := g11_changeByText_9 gz_FU 0 0 0 0 M0 pf 0
set_option maxRecDepth 100000 in
theorem ce11_changeByText {pf pf' : Nat → Bool} {l : Launch} {r : Int32} {M0 M' : gz_M} (hf : g11_changeByText M0 pf = some (r, M', pf')) : gz_CAI l yX11_changeByText cX11_changeByText 8 6 .int (fun ad => [.ref (ad 0)]) pf M0 r M' pf' := by
  refine gz_ofAI (by decide +kernel) (fun _ => Nat.le_of_ble_eq_true rfl) (fun x Xz hAO huz hEz => ?_)
  show gz_At x 0 [(0, .ref (gx_ad x 0))] [] M0
  unfold g11_changeByText at hf
  refine gr_iconst 0 Xz dX11_changeByText_0 (by decide) ?_
  refine gr_istore_n [(1, .int 0), (0, .ref (gx_ad x 0))] Xz dX11_changeByText_1 rfl rfl (by decide) rfl ?_
  refine gr_iconst 0 Xz dX11_changeByText_2 (by decide) ?_
  refine gr_istore_n [(2, .int 0), (1, .int 0), (0, .ref (gx_ad x 0))] Xz dX11_changeByText_3 rfl rfl (by decide) rfl ?_
  refine gr_iconst 0 Xz dX11_changeByText_4 (by decide) ?_
  refine gr_istore_n [(3, .int 0), (2, .int 0), (1, .int 0), (0, .ref (gx_ad x 0))] Xz dX11_changeByText_5 rfl rfl (by decide) rfl ?_
  refine gr_iconst 0 Xz dX11_changeByText_6 (by decide) ?_
  refine gr_istore [(4, .int 0), (3, .int 0), (2, .int 0), (1, .int 0), (0, .ref (gx_ad x 0))] Xz dX11_changeByText_7 rfl (by decide) rfl ?_
  refine gr_sub (lv' := [(0, .ref (gx_ad x 0)), (1, .int 0), (2, .int 0), (3, .int 0), (4, .int 0)]) [4, 3, 2, 1, 0] rfl ?_
  exact be11_changeByText_9 _ _ _ _ Xz hAO huz hEz _ _ _ _ _ hf

def g11_day_24 (s0 : Int32) (M0 : gz_M) (pf : Nat → Bool) (u : Nat) : Option (Int32 × gz_M × (Nat → Bool)) := gz_bd (f10_empty M0) fun M1 => some (s0, M1, pf)
theorem be11_day_24 {l : Launch} {r : Int32} {M' : gz_M} {pf' : Nat → Bool} : ∀ (x : gz_X) (pf : Nat → Bool) (u : Nat), gz_Ok x cX11_day RX11 3 7 gz_cfC pf l → gc_AO (gx_s x) → gz_U x u → gz_EAI x cX11_day .int r M' pf' → ∀ (s0 : Int32) (M0 : gz_M), g11_day_24 s0 M0 pf u = some (r, M', pf') → gz_At x 24 [(0, .ref (gx_ad x 0))] [.int s0] M0 := by
  intro x pf u Xz hAO huz hEz s0 M0  hf
  rw [g11_day_24] at hf
  refine gr_istore_n [(2, .int s0), (0, .ref (gx_ad x 0))] Xz dX11_day_24 rfl rfl (by decide) rfl ?_
  refine gr_aload_n Xz dX11_day_25 1 rfl rfl ?_
  refine gf11_0 Xz wf_RX11_12 dX11_day_26 ?_
  obtain ⟨M1, q2, hf⟩ := gz_bde hf
  refine gr_callV (asF := fun ad => [.ref (ad 1)]) [] Xz (c10_empty q2) rfl wm_RX11_132 rfl (Xz.kd gk_C1).1 ((Xz.kd gk_C1).2 _ _ _ _) rfl (by decide) (by decide) rfl (Nat.le_of_ble_eq_true rfl) (huz.c) dX11_day_29 ?_
  refine gr_iload_n Xz dX11_day_32 0 rfl rfl ?_
  exact gz_EAIu Xz huz hEz hf rfl dX11_day_33

def g11_day (M0 : gz_M) (pf : Nat → Bool) : Option (Int32 × gz_M × (Nat → Bool)) := gz_bd2 (f3_faultOfDay M0) fun v1 M2 => if 0 ≤ v1 then (gz_ck (decide (0 + 1 ≤ 1)) <| gz_bd3 (g11_changeByText M2 pf) fun v10 M7 pf8 => g11_day_24 v10 M7 pf8 (0 + 1)) else (g11_day_24 v1 M2 pf 0)
set_option maxRecDepth 100000 in
theorem ce11_day {pf pf' : Nat → Bool} {l : Launch} {r : Int32} {M0 M' : gz_M} (hf : g11_day M0 pf = some (r, M', pf')) : gz_CAI l yX11_day cX11_day 3 7 .int (fun ad => [.ref (ad 0)]) pf M0 r M' pf' := by
  refine gz_ofAI (by decide +kernel) (fun _ => Nat.le_of_ble_eq_true rfl) (fun x Xz hAO huz hEz => ?_)
  show gz_At x 0 [(0, .ref (gx_ad x 0))] [] M0
  unfold g11_day at hf
  refine gr_aload_n Xz dX11_day_0 0 rfl rfl ?_
  refine gf11_1 Xz wf_RX11_19 dX11_day_1 ?_
  refine gr_aload_n Xz dX11_day_4 0 rfl rfl ?_
  refine gf11_0 Xz wf_RX11_12 dX11_day_5 ?_
  obtain ⟨v1, M2, q3, hf⟩ := gz_bd2e hf
  refine gr_callI (asF := fun ad => [.ref (ad 3), .ref (ad 1)]) [.ref (gx_ad x 1)] Xz (c3_faultOfDay q3) rfl wm_RX11_347 rfl (Xz.kd gk_C3).1 ((Xz.kd gk_C3).2 _ _ _ _) rfl (by decide) (by decide) rfl (Nat.le_of_ble_eq_true rfl) (huz.c) dX11_day_8 ?_
  refine gr_istore_n [(1, .int v1), (0, .ref (gx_ad x 0))] Xz dX11_day_11 rfl rfl (by decide) rfl ?_
  refine gr_iload_n Xz dX11_day_12 0 rfl rfl ?_
  refine gr_if_ge 20 Xz dX11_day_13 (by decide) (fun h4 => ?_) (fun h4 => ?_)
  · rw [if_pos h4] at hf
    refine gr_aload_n Xz dX11_day_20 1 rfl rfl ?_
    obtain ⟨h6, hf⟩ := gz_cke hf
    obtain ⟨v10, M7, pf8, q9, hf⟩ := gz_bd3e hf
    refine gr_callAI (asF := fun ad => [.ref (ad 0)]) [] Xz hAO huz (of_decide_eq_true h6) (ce11_changeByText q9) rfl wm_RX11_350 rfl (Xz.kd gk_C0).1 ((Xz.kd gk_C0).2 _ _ _ _) rfl (by decide) (by decide) rfl (Nat.le_of_ble_eq_true rfl) dX11_day_21 (fun xq5 hs5 X5 hu5 => ?_)
    have hE5 := hEz.stp hs5
    rw [← (hs5.2 0 (gz_prsS (by decide))).2]
    have hAO5 : gc_AO (gx_s xq5) := gz_aoS hAO hs5
    refine gr_sub (lv' := [(0, .ref (gx_ad xq5 0))]) [1] rfl ?_
    exact be11_day_24 _ _ _ X5 hAO5 hu5 hE5 _ _ hf
  · rw [if_neg h4] at hf
    refine gr_iload_n Xz dX11_day_16 0 rfl rfl ?_
    refine gr_goto 24 Xz dX11_day_17 (by decide) ?_
    refine gr_sub (lv' := [(0, .ref (gx_ad x 0))]) [1] rfl ?_
    exact be11_day_24 _ _ _ Xz hAO huz hEz _ _ hf

def g11_keep_37 (x2 : Nat) (M0 : gz_M) (pf : Nat → Bool) (u : Nat) : Option (Int32 × gz_M × (Nat → Bool)) := gz_bd (f0_copy x2 7 M0) fun M1 => some (1, M1, pf)
theorem be11_keep_37 {l : Launch} {r : Int32} {M' : gz_M} {pf' : Nat → Bool} : ∀ (x : gz_X) (pf : Nat → Bool) (u : Nat), gz_Ok x cX11_keep RX11 3 3 gz_cfC pf l → gc_AO (gx_s x) → gz_U x u → gz_EAI x cX11_keep .boolean r M' pf' → ∀ (x2 : Nat) (M0 : gz_M), gz_IsX0 pf x2 → g11_keep_37 x2 M0 pf u = some (r, M', pf') → gz_At x 37 [(0, .ref (gx_ad x 0)), (2, .ref (gx_ad x x2))] [] M0 := by
  intro x pf u Xz hAO huz hEz x2 M0 hx2 hf
  rw [g11_keep_37] at hf
  refine gr_aload_n Xz dX11_keep_37 1 rfl rfl ?_
  refine gr_aload_n Xz dX11_keep_38 0 rfl rfl ?_
  refine gf11_3 Xz wf_RX11_33 dX11_keep_39 ?_
  obtain ⟨M1, q2, hf⟩ := gz_bde hf
  refine gr_callV (asF := fun ad => [.ref (ad x2), .ref (ad 7)]) [.ref (gx_ad x 7)] Xz (c0_copy hx2 gi_now q2) rfl wm_RX11_367 rfl (Xz.kd (gk_X0o hx2)).1 ((Xz.kd (gk_X0o hx2)).2 _ _ _ _) rfl (by decide) (by decide) rfl (Nat.le_of_ble_eq_true rfl) (huz.c) dX11_keep_42 ?_
  refine gr_iconst 1 Xz dX11_keep_45 (by decide) ?_
  exact gz_EAIu Xz huz hEz hf rfl dX11_keep_46

def g11_keep (a0 : Int32) (M0 : gz_M) (pf : Nat → Bool) : Option (Int32 × gz_M × (Nat → Bool)) := if a0 < 0 then (some (0, M0, pf)) else (if a0 < 2 then (gz_ck (gz_inb a0 2) <| if pf (100 + (10 + a0.toNatClampNeg)) = true then (gz_ck (pf (10 + a0.toNatClampNeg)) <| g11_keep_37 (135 + 4 * (10 + a0.toNatClampNeg)) M0 pf 0) else (gz_ck (decide (0 + 1 ≤ 1)) <| gz_ck (decide (10 + a0.toNatClampNeg < 12)) <| gz_ck (!(pf (10 + a0.toNatClampNeg))) <| gz_ck (!(pf (100 + (10 + a0.toNatClampNeg)))) <| gz_lt (gz_nb M0 (10 + a0.toNatClampNeg)) fun M11 => gz_ck (gz_inb a0 2) <| gz_ck ((gz_pfs pf (10 + a0.toNatClampNeg)) (10 + a0.toNatClampNeg)) <| gz_ck (decide (135 + 4 * (10 + a0.toNatClampNeg) = 135 + 4 * (10 + a0.toNatClampNeg))) <| g11_keep_37 (135 + 4 * (10 + a0.toNatClampNeg)) M11 (gz_pfs (gz_pfs pf (10 + a0.toNatClampNeg)) (100 + (10 + a0.toNatClampNeg))) (0 + 1))) else (some (0, M0, pf)))
set_option maxRecDepth 100000 in
theorem ce11_keep {pf pf' : Nat → Bool} {l : Launch} {r : Int32} {M0 M' : gz_M} {a0 : Int32} (hf : g11_keep a0 M0 pf = some (r, M', pf')) : gz_CAI l yX11_keep cX11_keep 3 3 .boolean (fun ad => [.ref (ad 0), .int a0]) pf M0 r M' pf' := by
  refine gz_ofAI (by decide +kernel) (fun _ => Nat.le_of_ble_eq_true rfl) (fun x Xz hAO huz hEz => ?_)
  show gz_At x 0 [(0, .ref (gx_ad x 0)), (1, .int a0)] [] M0
  unfold g11_keep at hf
  refine gr_iload_n Xz dX11_keep_0 1 rfl rfl ?_
  refine gr_if_lt 9 Xz dX11_keep_1 (by decide) (fun h1 => ?_) (fun h1 => ?_)
  · rw [if_pos h1] at hf
    refine gr_iconst 0 Xz dX11_keep_9 (by decide) ?_
    exact gz_EAIu Xz huz hEz hf rfl dX11_keep_10
  · rw [if_neg h1] at hf
    refine gr_iload_n Xz dX11_keep_4 1 rfl rfl ?_
    refine gr_iconst 2 Xz dX11_keep_5 (by decide) ?_
    refine gr_icmp_lt 11 Xz dX11_keep_6 (by decide) (fun h2 => ?_) (fun h2 => ?_)
    · rw [if_pos h2] at hf
      refine gr_aload_n Xz dX11_keep_11 0 rfl rfl ?_
      refine gf11_13 Xz wf_RX11_92 dX11_keep_12 ?_
      refine gr_iload_n Xz dX11_keep_15 1 rfl rfl ?_
      obtain ⟨h3, hf⟩ := gz_cke hf
      refine gr_aaldK Xz gk_C133 (gz_inp h3) dX11_keep_16 (fun h4 => ?_) (fun h4 => ?_)
      · rw [if_pos h4] at hf
        obtain ⟨h5, hf⟩ := gz_cke hf
        refine gr_astore_n [(2, .ref (gx_ad x (135 + 4 * (10 + a0.toNatClampNeg)))), (0, .ref (gx_ad x 0)), (1, .int a0)] Xz dX11_keep_17 rfl (by decide) rfl ?_
        refine gr_aload_n Xz dX11_keep_18 0 rfl rfl ?_
        refine gr_ifnonnull 37 Xz dX11_keep_19 (by decide) ?_
        refine gr_sub (lv' := [(0, .ref (gx_ad x 0)), (2, .ref (gx_ad x (135 + 4 * (10 + a0.toNatClampNeg))))]) [1, 0] rfl ?_
        exact be11_keep_37 _ _ _ Xz hAO huz hEz _ _ (gi_bk (b := 10) h5 (gz_inp h3) (by decide)) hf
      · rw [if_neg h4] at hf
        refine gr_astoreN_n [(2, .null), (0, .ref (gx_ad x 0)), (1, .int a0)] Xz dX11_keep_17 rfl (by decide) rfl ?_
        refine gr_aloadN_n Xz dX11_keep_18 0 rfl rfl ?_
        refine gr_ifnonnullN Xz dX11_keep_19 ?_
        obtain ⟨h7, hf⟩ := gz_cke hf
        obtain ⟨h8, hf⟩ := gz_cke hf
        obtain ⟨h9, hf⟩ := gz_cke hf
        obtain ⟨h10, hf⟩ := gz_cke hf
        obtain ⟨M11, eM11, hf⟩ := gz_lte hf
        refine gr_newB Xz hAO huz (of_decide_eq_true h7) (by decide) (gz_in 171 (by decide +kernel) rfl) (gz_in 172 (by decide +kernel) rfl) (gz_in 89 (by decide +kernel) rfl) (Or.inr ⟨"LongestTokens", gz_inN 173 (by decide +kernel) rfl⟩) (gz_in 174 (by decide +kernel) rfl) (gz_in 175 (by decide +kernel) rfl) (of_decide_eq_true h8) (gz_bnot h9) (gz_bnot h10) eM11 (Nat.le_of_ble_eq_true rfl) dX11_keep_22 dX11_keep_25 dX11_keep_26 (fun xq6 hs6 X6 hu6 => ?_)
        have hE6 := hEz.stp hs6
        rw [← (hs6.2 0 (gz_prsS (by decide))).2]
        have hAO6 : gc_AO (gx_s xq6) := gz_aoS hAO hs6
        refine gr_astore_n [(2, .ref (gx_ad xq6 (135 + 4 * (10 + a0.toNatClampNeg)))), (0, .ref (gx_ad xq6 0)), (1, .int a0)] X6 dX11_keep_29 rfl (by decide) rfl ?_
        refine gr_aload_n X6 dX11_keep_30 1 rfl rfl ?_
        refine gf11_13 X6 wf_RX11_92 dX11_keep_31 ?_
        refine gr_iload_n X6 dX11_keep_34 2 rfl rfl ?_
        refine gr_aload_n X6 dX11_keep_35 0 rfl rfl ?_
        obtain ⟨h13, hf⟩ := gz_cke hf
        obtain ⟨h14, hf⟩ := gz_cke hf
        obtain ⟨h15, hf⟩ := gz_cke hf
        refine gr_aastK X6 hu6 gk_C133 (by decide) (gz_inp h13) (of_decide_eq_true h15) (gi_new (of_decide_eq_true h8)) h14 dX11_keep_36 (fun xq12 hs12 X12 hu12 => ?_)
        have hE12 := hE6.stp hs12
        rw [← (hs12.2 (135 + 4 * (10 + a0.toNatClampNeg)) (by rw [X6.hpf]; exact (gk_X0o (pf := gz_pfs pf (10 + a0.toNatClampNeg)) (gi_new (of_decide_eq_true h8))).1)).2]
        rw [← (hs12.2 0 (gz_prsS (by decide))).2]
        have hAO12 : gc_AO (gx_s xq12) := gz_aoS hAO6 hs12
        refine gr_sub (lv' := [(0, .ref (gx_ad xq12 0)), (2, .ref (gx_ad xq12 (135 + 4 * (10 + a0.toNatClampNeg))))]) [1, 0] rfl ?_
        exact be11_keep_37 _ _ _ X12 hAO12 hu12 hE12 _ _ (gi_pfs (gi_new (of_decide_eq_true h8))) hf
    · rw [if_neg h2] at hf
      refine gr_iconst 0 Xz dX11_keep_9 (by decide) ?_
      exact gz_EAIu Xz huz hEz hf rfl dX11_keep_10

