theorem wc_yX11_isMode : Cond.static yX11_isMode ∈ gz_TB ∧ Cond.initialized yX11_isMode.cls ∈ gz_TB ∧ Cond.code yX11_isMode cX11_isMode 1 (some .boolean) ∈ gz_TB ∧ (yX11_isMode.cls ≠ "java/lang/invoke/MethodHandle" ∧ yX11_isMode.cls ≠ "java/lang/invoke/VarHandle" ∧ (parseMethodDescriptor yX11_isMode.desc).map (fun d => d.parameters.length) = some 1) := ⟨gz_in 587 (by decide +kernel) rfl, gz_in 85 (by decide +kernel) rfl, gz_in 588 (by decide +kernel) rfl, by decide +kernel⟩
theorem wm_RX7_55 : gz_WS RX7 55 yX11_isMode cX11_isMode 1 1 (some .boolean) := ⟨Or.inr ⟨"LongestTokens", gz_inN 652 (by decide +kernel) rfl⟩, wc_yX11_isMode⟩
theorem wf_RX7_43 : gz_FL RX7 43 RX7 "follow" "[[I" := Or.inl (gz_in 242 (by decide +kernel) rfl)
theorem wf_RX7_46 : gz_FL RX7 46 RX7 "takers" "[[I" := Or.inl (gz_in 244 (by decide +kernel) rfl)
theorem wf_RX7_38 : gz_FL RX7 38 RX7 "opening" "[I" := Or.inl (gz_in 240 (by decide +kernel) rfl)
def f11_isMode (a0 : Int32) (M0 : gz_M) : Option (Int32 × gz_M) := if a0 < 0 then (some (0, M0)) else (if 4 ≤ a0 then (some (0, M0)) else (some (1, M0)))
set_option maxRecDepth 100000 in
theorem c11_isMode {pf : Nat → Bool} {l : Launch} {r : Int32} {M0 M' : gz_M} {a0 : Int32} (hf : f11_isMode a0 M0 = some (r, M')) : gz_CI l gz_cfC yX11_isMode cX11_isMode 1 1 .boolean (fun _ => [.int a0]) pf M0 r M' := by
  refine gz_ofI (by decide) (fun _ => Nat.le_of_ble_eq_true rfl) (fun x X hc hE => ?_)
  show gz_At x 0 [(0, .int a0)] [] M0
  unfold f11_isMode at hf
  refine gr_iload_n X dX11_isMode_0 0 rfl rfl ?_
  refine gr_if_lt 13 X dX11_isMode_1 (by decide) (fun h1 => ?_) (fun h1 => ?_)
  · rw [if_pos h1] at hf
    refine gr_iconst 0 X dX11_isMode_13 (by decide) ?_
    cases hf
    exact hE _ _ rfl dX11_isMode_14
  · rw [if_neg h1] at hf
    refine gr_iload_n X dX11_isMode_4 0 rfl rfl ?_
    refine gr_iconst 4 X dX11_isMode_5 (by decide) ?_
    refine gr_icmp_ge 13 X dX11_isMode_6 (by decide) (fun h2 => ?_) (fun h2 => ?_)
    · rw [if_pos h2] at hf
      refine gr_iconst 0 X dX11_isMode_13 (by decide) ?_
      cases hf
      exact hE _ _ rfl dX11_isMode_14
    · rw [if_neg h2] at hf
      refine gr_iconst 1 X dX11_isMode_9 (by decide) ?_
      refine gr_goto 14 X dX11_isMode_10 (by decide) ?_
      cases hf
      exact hE _ _ rfl dX11_isMode_14

def f7_after_12 (k : Nat) : Nat → Int32 → Int32 → Int32 → Int32 → gz_M → Option (Int32 × gz_M)
  | 0, _, _, _, _, _ => none
  | n + 1, x1, x2, x3, x4, M0 => if 10 ≤ x4 then (some (x3, M0)) else (if ((gz_shr x2 x4) &&& 1) = 0 then (gz_lt (x3 ||| 0) fun v3 => gz_lt (x4 + 1) fun v4 => f7_after_12 k n x1 x2 v3 v4 M0) else (gz_ck (gz_inb x1 4) <| gz_ck (gz_inb x4 10) <| gz_lt (x3 ||| (M0.1 ((k + 9) + 1 + x1.toNatClampNeg) x4.toNatClampNeg)) fun v7 => gz_lt (x4 + 1) fun v8 => f7_after_12 k n x1 x2 v7 v8 M0))
theorem b7_after_12 {x : gz_X} {pf : Nat → Bool} {l : Launch} {r : Int32} {M' : gz_M} (X : gz_Ok x cX7_after RX7 5 2 gz_cfC pf l) (hc : gx_cells x ≤ (gx_R x).cells ∧ gx_slots x ≤ (gx_R x).slots) (hE : gz_EI x cX7_after .int r M') {k : Nat} (hk : gz_IsX7 pf k) : ∀ (n : Nat) (x1 : Int32) (x2 : Int32) (x3 : Int32) (x4 : Int32) (M0 : gz_M), f7_after_12 k n x1 x2 x3 x4 M0 = some (r, M') → gz_At x 12 [(0, .ref (gx_ad x k)), (1, .int x1), (2, .int x2), (3, .int x3), (4, .int x4)] [] M0 := by
  intro n
  induction n with
  | zero =>
    intro x1 x2 x3 x4 M0  hf
    rw [f7_after_12] at hf
    cases hf
  | succ n ih =>
    intro x1 x2 x3 x4 M0  hf
    rw [f7_after_12] at hf
    refine gr_iload X dX7_after_12 4 rfl ?_
    refine gr_bipush 10 X dX7_after_14 (by decide) ?_
    refine gr_icmp_ge 50 X dX7_after_16 (by decide) (fun h1 => ?_) (fun h1 => ?_)
    · rw [if_pos h1] at hf
      refine gr_iload_n X dX7_after_50 3 rfl rfl ?_
      cases hf
      exact hE _ _ rfl dX7_after_51
    · rw [if_neg h1] at hf
      refine gr_iload_n X dX7_after_19 3 rfl rfl ?_
      refine gr_iload_n X dX7_after_20 2 rfl rfl ?_
      refine gr_iload X dX7_after_21 4 rfl ?_
      refine gr_ishr X dX7_after_23 ?_
      refine gr_iconst 1 X dX7_after_24 (by decide) ?_
      refine gr_iand X dX7_after_25 ?_
      refine gr_if_eq 41 X dX7_after_26 (by decide) (fun h2 => ?_) (fun h2 => ?_)
      · rw [if_pos h2] at hf
        refine gr_iconst 0 X dX7_after_41 (by decide) ?_
        refine gr_ior X dX7_after_42 ?_
        obtain ⟨v3, ev3, hf⟩ := gz_lte hf
        refine gr_istore_n [(3, .int v3), (0, .ref (gx_ad x k)), (1, .int x1), (2, .int x2), (4, .int x4)] X dX7_after_43 ev3 rfl (by decide) rfl ?_
        obtain ⟨v4, ev4, hf⟩ := gz_lte hf
        refine gr_iinc 1 [(4, .int v4), (3, .int v3), (0, .ref (gx_ad x k)), (1, .int x1), (2, .int x2)] X dX7_after_44 4 rfl (by decide) ev4 (by decide) rfl ?_
        refine gr_goto 12 X dX7_after_47 (by decide) ?_
        refine gr_sub (lv' := [(0, .ref (gx_ad x k)), (1, .int x1), (2, .int x2), (3, .int v3), (4, .int v4)]) [2, 3, 4, 1, 0] rfl ?_
        exact ih _ _ _ _ _ hf
      · rw [if_neg h2] at hf
        refine gr_aload_n X dX7_after_29 0 rfl rfl ?_
        refine gf7_9 X (gk_X7o hk) wf_RX7_43 dX7_after_30 ?_
        refine gr_iload_n X dX7_after_33 1 rfl rfl ?_
        obtain ⟨h5, hf⟩ := gz_cke hf
        refine gr_aaload X (gk_X79 hk) (gz_inp h5) dX7_after_34 ?_
        refine gr_iload X dX7_after_35 4 rfl ?_
        obtain ⟨h6, hf⟩ := gz_cke hf
        refine gr_iaload X (gk_X79r hk (gz_inl (gz_inp h5))) (gz_inp h6) dX7_after_37 ?_
        refine gr_goto 42 X dX7_after_38 (by decide) ?_
        refine gr_ior X dX7_after_42 ?_
        obtain ⟨v7, ev7, hf⟩ := gz_lte hf
        refine gr_istore_n [(3, .int v7), (0, .ref (gx_ad x k)), (1, .int x1), (2, .int x2), (4, .int x4)] X dX7_after_43 ev7 rfl (by decide) rfl ?_
        obtain ⟨v8, ev8, hf⟩ := gz_lte hf
        refine gr_iinc 1 [(4, .int v8), (3, .int v7), (0, .ref (gx_ad x k)), (1, .int x1), (2, .int x2)] X dX7_after_44 4 rfl (by decide) ev8 (by decide) rfl ?_
        refine gr_goto 12 X dX7_after_47 (by decide) ?_
        refine gr_sub (lv' := [(0, .ref (gx_ad x k)), (1, .int x1), (2, .int x2), (3, .int v7), (4, .int v8)]) [2, 3, 4, 1, 0] rfl ?_
        exact ih _ _ _ _ _ hf

def f7_after (k : Nat) (a0 : Int32) (a1 : Int32) (M0 : gz_M) : Option (Int32 × gz_M) := gz_bd2 (f11_isMode a0 M0) fun v1 M2 => if v1 = 0 then (some (0, M2)) else (f7_after_12 k gz_FU a0 a1 0 0 M2)
set_option maxRecDepth 100000 in
theorem c7_after {pf : Nat → Bool} {l : Launch} {r : Int32} {M0 M' : gz_M} {k : Nat} {a0 : Int32} {a1 : Int32} (hk : gz_IsX7 pf k) (hf : f7_after k a0 a1 M0 = some (r, M')) : gz_CI l gz_cfC yX7_after cX7_after 5 2 .int (fun ad => [.ref (ad k), .int a0, .int a1]) pf M0 r M' := by
  refine gz_ofI (by decide) (fun _ => Nat.le_of_ble_eq_true rfl) (fun x X hc hE => ?_)
  show gz_At x 0 [(0, .ref (gx_ad x k)), (1, .int a0), (2, .int a1)] [] M0
  unfold f7_after at hf
  refine gr_iconst 0 X dX7_after_0 (by decide) ?_
  refine gr_istore_n [(3, .int 0), (0, .ref (gx_ad x k)), (1, .int a0), (2, .int a1)] X dX7_after_1 rfl rfl (by decide) rfl ?_
  refine gr_iload_n X dX7_after_2 2 rfl rfl ?_
  obtain ⟨v1, M2, q3, hf⟩ := gz_bd2e hf
  refine gr_callSI (asF := fun _ => [.int a0]) [.int a0] X (c11_isMode q3) rfl wm_RX7_55 rfl (by decide) (by decide) rfl (Nat.le_of_ble_eq_true rfl) hc dX7_after_3 ?_
  refine gr_if_eq 50 X dX7_after_6 (by decide) (fun h4 => ?_) (fun h4 => ?_)
  · rw [if_pos h4] at hf
    refine gr_iload_n X dX7_after_50 0 rfl rfl ?_
    cases hf
    exact hE _ _ rfl dX7_after_51
  · rw [if_neg h4] at hf
    refine gr_iconst 0 X dX7_after_9 (by decide) ?_
    refine gr_istore [(4, .int 0), (3, .int 0), (0, .ref (gx_ad x k)), (1, .int a0), (2, .int a1)] X dX7_after_10 rfl (by decide) rfl ?_
    refine gr_sub (lv' := [(0, .ref (gx_ad x k)), (1, .int a0), (2, .int a1), (3, .int 0), (4, .int 0)]) [2, 3, 4, 1, 0] rfl ?_
    exact b7_after_12 X hc hE hk _ _ _ _ _ _ hf

def f7_takersOf (k : Nat) (a0 : Int32) (a1 : Int32) (M0 : gz_M) : Option (Int32 × gz_M) := gz_bd2 (f11_isMode a0 M0) fun v1 M2 => if v1 = 0 then (some (0, M2)) else (if a1 < 0 then (some (0, M2)) else (if 8 ≤ a1 then (some (0, M2)) else (gz_ck (gz_inb a0 4) <| gz_ck (gz_inb a1 8) <| some (M2.1 ((k + 14) + 1 + a0.toNatClampNeg) a1.toNatClampNeg, M2))))
set_option maxRecDepth 100000 in
theorem c7_takersOf {pf : Nat → Bool} {l : Launch} {r : Int32} {M0 M' : gz_M} {k : Nat} {a0 : Int32} {a1 : Int32} (hk : gz_IsX7 pf k) (hf : f7_takersOf k a0 a1 M0 = some (r, M')) : gz_CI l gz_cfC yX7_takersOf cX7_takersOf 3 2 .int (fun ad => [.ref (ad k), .int a0, .int a1]) pf M0 r M' := by
  refine gz_ofI (by decide) (fun _ => Nat.le_of_ble_eq_true rfl) (fun x X hc hE => ?_)
  show gz_At x 0 [(0, .ref (gx_ad x k)), (1, .int a0), (2, .int a1)] [] M0
  unfold f7_takersOf at hf
  refine gr_iload_n X dX7_takersOf_0 1 rfl rfl ?_
  obtain ⟨v1, M2, q3, hf⟩ := gz_bd2e hf
  refine gr_callSI (asF := fun _ => [.int a0]) [.int a0] X (c11_isMode q3) rfl wm_RX7_55 rfl (by decide) (by decide) rfl (Nat.le_of_ble_eq_true rfl) hc dX7_takersOf_1 ?_
  refine gr_if_eq 28 X dX7_takersOf_4 (by decide) (fun h4 => ?_) (fun h4 => ?_)
  · rw [if_pos h4] at hf
    refine gr_iconst 0 X dX7_takersOf_28 (by decide) ?_
    cases hf
    exact hE _ _ rfl dX7_takersOf_29
  · rw [if_neg h4] at hf
    refine gr_iload_n X dX7_takersOf_7 2 rfl rfl ?_
    refine gr_if_lt 28 X dX7_takersOf_8 (by decide) (fun h5 => ?_) (fun h5 => ?_)
    · rw [if_pos h5] at hf
      refine gr_iconst 0 X dX7_takersOf_28 (by decide) ?_
      cases hf
      exact hE _ _ rfl dX7_takersOf_29
    · rw [if_neg h5] at hf
      refine gr_iload_n X dX7_takersOf_11 2 rfl rfl ?_
      refine gr_bipush 8 X dX7_takersOf_12 (by decide) ?_
      refine gr_icmp_ge 28 X dX7_takersOf_14 (by decide) (fun h6 => ?_) (fun h6 => ?_)
      · rw [if_pos h6] at hf
        refine gr_iconst 0 X dX7_takersOf_28 (by decide) ?_
        cases hf
        exact hE _ _ rfl dX7_takersOf_29
      · rw [if_neg h6] at hf
        refine gr_aload_n X dX7_takersOf_17 0 rfl rfl ?_
        refine gf7_10 X (gk_X7o hk) wf_RX7_46 dX7_takersOf_18 ?_
        refine gr_iload_n X dX7_takersOf_21 1 rfl rfl ?_
        obtain ⟨h7, hf⟩ := gz_cke hf
        refine gr_aaload X (gk_X714 hk) (gz_inp h7) dX7_takersOf_22 ?_
        refine gr_iload_n X dX7_takersOf_23 2 rfl rfl ?_
        obtain ⟨h8, hf⟩ := gz_cke hf
        refine gr_iaload X (gk_X714r hk (gz_inl (gz_inp h7))) (gz_inp h8) dX7_takersOf_24 ?_
        refine gr_goto 29 X dX7_takersOf_25 (by decide) ?_
        cases hf
        exact hE _ _ rfl dX7_takersOf_29

def f7_atFirst (k : Nat) (a0 : Int32) (M0 : gz_M) : Option (Int32 × gz_M) := gz_bd2 (f11_isMode a0 M0) fun v1 M2 => if v1 = 0 then (some (0, M2)) else (gz_ck (gz_inb a0 4) <| some (M2.1 (k + 8) a0.toNatClampNeg, M2))
set_option maxRecDepth 100000 in
theorem c7_atFirst {pf : Nat → Bool} {l : Launch} {r : Int32} {M0 M' : gz_M} {k : Nat} {a0 : Int32} (hk : gz_IsX7 pf k) (hf : f7_atFirst k a0 M0 = some (r, M')) : gz_CI l gz_cfC yX7_atFirst cX7_atFirst 2 2 .int (fun ad => [.ref (ad k), .int a0]) pf M0 r M' := by
  refine gz_ofI (by decide) (fun _ => Nat.le_of_ble_eq_true rfl) (fun x X hc hE => ?_)
  show gz_At x 0 [(0, .ref (gx_ad x k)), (1, .int a0)] [] M0
  unfold f7_atFirst at hf
  refine gr_iload_n X dX7_atFirst_0 1 rfl rfl ?_
  obtain ⟨v1, M2, q3, hf⟩ := gz_bd2e hf
  refine gr_callSI (asF := fun _ => [.int a0]) [.int a0] X (c11_isMode q3) rfl wm_RX7_55 rfl (by decide) (by decide) rfl (Nat.le_of_ble_eq_true rfl) hc dX7_atFirst_1 ?_
  refine gr_if_eq 16 X dX7_atFirst_4 (by decide) (fun h4 => ?_) (fun h4 => ?_)
  · rw [if_pos h4] at hf
    refine gr_iconst 0 X dX7_atFirst_16 (by decide) ?_
    cases hf
    exact hE _ _ rfl dX7_atFirst_17
  · rw [if_neg h4] at hf
    refine gr_aload_n X dX7_atFirst_7 0 rfl rfl ?_
    refine gf7_8 X (gk_X7o hk) wf_RX7_38 dX7_atFirst_8 ?_
    refine gr_iload_n X dX7_atFirst_11 1 rfl rfl ?_
    obtain ⟨h5, hf⟩ := gz_cke hf
    refine gr_iaload X (gk_X78 hk) (gz_inp h5) dX7_atFirst_12 ?_
    refine gr_goto 17 X dX7_atFirst_13 (by decide) ?_
    cases hf
    exact hE _ _ rfl dX7_atFirst_17

