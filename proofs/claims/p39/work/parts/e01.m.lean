section
/-! the law's helpers -/
theorem gq_XBc : Cond.castable gz_ES gz_ES ∈ gz_XB := List.mem_filter.mpr (by decide +kernel)
theorem gq_RLk : Cond.classLink RL 13 gz_ES ∈ gz_TB := gz_in 1065 (by decide +kernel) rfl
theorem gk_L0 {pf : Nat → Bool} : gz_KD gz_cfL pf 0 (fun aC ad pf _ g gl => gz_oX11 aC (fun j => ad (3 * j)) pf 0 g (fun i => gl (3 * i))) := ⟨rfl, fun _ _ _ _ => rfl⟩
theorem gk_L1 {pf : Nat → Bool} : gz_KD gz_cfL pf 1 (fun aC ad pf _ g gl => gz_oX12 aC (fun j => ad (3 * j + 1)) pf 0 g (fun i => gl (3 * i + 1))) := ⟨rfl, fun _ _ _ _ => rfl⟩
section
variable {x : gz_X} {cc : ByteArray} {own : String} {nL d pc : Nat} {pf : Nat → Bool} {l : Launch} {lv : List (Nat × Value)} {st : List Value} {M N : gz_M} {a b h9 : Nat}
theorem gq_BXat {cf : gz_CF} (X : gz_Ok x cc own nL d cf pf l) (hX : gz_Xst (gx_s x)) (hT : gz_Th (gx_A x) (gx_s x) (gx_s x).heap) {H : Heap} {locs : List Loc} (h1 : gz_mw (gx_D x) (gx_cl x) (gx_cf x) (gx_aC x) (gx_ad x) (gx_pf x) M H) (h2 : va_S (gx_A x) (gx_s x).heap H locs) {av : List Value} {U : State} (hU : U.heap = H) (hW : (gx_s x).WarmedH U.vm) : va_Pc av (gz_BX (gx_D x) cf (gx_aC x) (gx_ad x) pf M H.size) av.toArray U := by
  have h9 := gz_Bat X h1 (av := av) hU hW
  refine ⟨h9.1, h9.2, hX.warm hW, ?_, ?_⟩
  · rw [hU]; exact ((hT.1.moved hW.alike).kept h2.2.1).narrow (gz_free X h2)
  · rw [hU]; exact ((hT.2.moved hW.alike).kept h2.2.1).narrow (gz_free X h2)
theorem gq_catch {E : String} {ce : Cell} {q9 : Addr} {H1 : Heap} {locs1 : List Loc} {ls : Array Slot} (X : gz_Ok x cc own nL d gz_cfL pf l) (hX : gz_OkH x [(a, b, h9, 13)]) (hlk : Cond.classLink own 13 gz_ES ∈ gz_TB) (hcov : covers ⟨a, b, h9, 13⟩ pc = true) (hE : E = gz_ES) (hB : gz_mw (gx_D x) gz_cls gz_cfL (gx_aC x) (gx_ad x) pf N H1) (hS : va_S (gx_A x) (gx_s x).heap H1 locs1) (hce : H1[q9]? = some ce) (hcv : ce.vm = .none) (hcl : (gx_s x).vm.findClass E = some ce.cls) (h3 : lv_has ls (gx_nL x) lv) {c' s' : Nat} (kx : gz_At (gz_set x (gx_ad x) (gx_pf x) c' s') h9 lv [.ref q9] N) : vx_W (gx_p x) (gx_l x) (gx_e x) (gx_R x) (gx_s x) (gx_m x) (gx_args x) (gx_below x) (gx_meth x) (gx_c x) H1 locs1 c' s' (gx_Q x) (F0 (gx_m x) pc ls st) q9 := by
  subst hE
  exact vx_catch X.1.2.2.2.1 [] ⟨a, b, h9, 13⟩ [] hX.2.2 (fun z hz => nomatch hz) hcov (show (13 : Nat) ≠ 0 by decide) (X.hts _ hlk) (va_Nw.use rfl (hX.1 _ gq_XBc)) hce hcv hcl (kx H1 locs1 ls (gz_toM X hB) hS h3)
theorem gr_callXI {y : MethodName} {cc2 : ByteArray} {nL2 n index kb d2 ci NN : Nat} {C : String} {T : u_T} {rt : FieldType} {r : Option Int32} {asF : (Nat → Nat) → List Value} {fs : List Value} {stk : List Value} (As : List Value) (X : gz_Ok x cc own nL d gz_cfL pf l) (hX : gz_OkH x [(a, b, h9, 13)]) (hlk : Cond.classLink own 13 gz_ES ∈ gz_TB) (hM : gz_CIX l gz_cfL y cc2 nL2 d2 rt asF pf M r N) (has : asF (gx_ad x) = .ref (gx_ad x kb) :: As) (w1 : Cond.methodLink own index y ∈ gz_TB) (w : Cond.instanceMethod y ∈ gz_TB ∧ Cond.selects C y y ∈ gz_TB ∧ Cond.initialized y.cls ∈ gz_TB ∧ Cond.code y cc2 nL2 (some rt) ∈ gz_TB ∧ (y.cls ≠ "java/lang/invoke/MethodHandle" ∧ y.cls ≠ "java/lang/invoke/VarHandle" ∧ (parseMethodDescriptor y.desc).map (fun d => d.parameters.length) = some n)) (hn : As.length = n) (hk : (gx_cf x).1 (gx_pf x) kb = true) (hc2 : (gx_cf x).2 (gx_aC x) (gx_ad x) (gx_pf x) kb (M.1 kb) M.2 = .inr (ci, fs)) (hc : gz_cls[ci]? = some (C, T, NN)) (hd : d2 < d) (hn2 : nL2 ≤ 20) (hst : stk = As.reverse ++ .ref (gx_ad x kb) :: st) (hW : (st.map fun v => v.category).sum ≤ 8) (hf : gx_cells x + 1 ≤ (gx_R x).cells ∧ gx_slots x + 6 ≤ (gx_R x).slots) (dg : decode cc pc = .ok (.invokevirtual index, 3)) (hcov : covers ⟨a, b, h9, 13⟩ pc = true) (kx : ∀ q, r = none → gz_At (gz_set x (gx_ad x) (gx_pf x) (gx_cells x + 1) (gx_slots x + 6)) h9 lv [.ref q] N) (kk : ∀ v, r = some v → gz_At (gz_set x (gx_ad x) (gx_pf x) (gx_cells x + 1) (gx_slots x + 6)) (pc + 3) lv (.int v :: st) N) : gz_At x pc lv stk M := by
  intro H locs ls h1 h2 h3
  have hM1 := hM (gx_D x) (gx_aC x) (gx_ad x) H.size
  rw [has, ← X.hl] at hM1
  obtain ⟨w2, w3, w4, w5, w6⟩ := w
  have hP := gz_one h1 hk hc2
  have hc' : (gx_cl x)[ci]? = some (C, T, NN) := by rw [X.hcl]; exact hc
  have hp : PreV (gx_s x) H C (gx_ad x kb) (va_Pc (Value.ref (gx_ad x kb) :: As) (gz_BX (gx_D x) gz_cfL (gx_aC x) (gx_ad x) pf M H.size)) As := ⟨gz_BXblind, va_recv X.hK hP (ci := ci) (q0 := 0) hc' rfl, fun U hU hW2 => gz_BXat X hX h1 h2 hU hW2⟩
  have hR := gz_room (mc := 1) (ms := 6) X hd hn2
  refine vx_calli (vx_runV X.1 hM1 ⟨callB_of n X.hts (gz_goodIn w5) rfl rfl rfl (X.hts _ w4) (X.hts _ w1) w6 hR, X.hts _ w2, X.hts _ w3⟩ hp rfl hn (h3.1.trans X.hnL) hst (lv_room hW) dg hf) h2 (fun q _ h => gz_free X h2 q h) (gz_free X h2) (fun q _ h => gz_free X h2 q h) (fun E ce q9 u t H1 locs1 ht hvm hpx hB hz hk hS hce hcv hcl => ?_) (fun r' u t H1 locs1 ht hvm hw hB hz hk hS => ?_)
  · obtain ⟨hE, hB⟩ := hB
    rw [ht] at hB
    exact gq_catch X hX hlk hcov hE hB hS hce hcv hcl h3 (kx q9 hpx)
  · rw [ht] at hB
    exact kk r' hw H1 locs1 ls (gz_toM X hB) hS h3
theorem gr_callXL {y : MethodName} {cc2 : ByteArray} {nL2 n index kb d2 ci NN : Nat} {C : String} {T : u_T} {rt : FieldType} {r : Option Int64} {asF : (Nat → Nat) → List Value} {fs : List Value} {stk : List Value} (As : List Value) (X : gz_Ok x cc own nL d gz_cfL pf l) (hX : gz_OkH x [(a, b, h9, 13)]) (hlk : Cond.classLink own 13 gz_ES ∈ gz_TB) (hM : gz_CLX l gz_cfL y cc2 nL2 d2 rt asF pf M r N) (has : asF (gx_ad x) = .ref (gx_ad x kb) :: As) (w1 : Cond.methodLink own index y ∈ gz_TB) (w : Cond.instanceMethod y ∈ gz_TB ∧ Cond.selects C y y ∈ gz_TB ∧ Cond.initialized y.cls ∈ gz_TB ∧ Cond.code y cc2 nL2 (some rt) ∈ gz_TB ∧ (y.cls ≠ "java/lang/invoke/MethodHandle" ∧ y.cls ≠ "java/lang/invoke/VarHandle" ∧ (parseMethodDescriptor y.desc).map (fun d => d.parameters.length) = some n)) (hn : As.length = n) (hk : (gx_cf x).1 (gx_pf x) kb = true) (hc2 : (gx_cf x).2 (gx_aC x) (gx_ad x) (gx_pf x) kb (M.1 kb) M.2 = .inr (ci, fs)) (hc : gz_cls[ci]? = some (C, T, NN)) (hd : d2 < d) (hn2 : nL2 ≤ 20) (hst : stk = As.reverse ++ .ref (gx_ad x kb) :: st) (hW : (st.map fun v => v.category).sum ≤ 8) (hf : gx_cells x + 1 ≤ (gx_R x).cells ∧ gx_slots x + 6 ≤ (gx_R x).slots) (dg : decode cc pc = .ok (.invokevirtual index, 3)) (hcov : covers ⟨a, b, h9, 13⟩ pc = true) (kx : ∀ q, r = none → gz_At (gz_set x (gx_ad x) (gx_pf x) (gx_cells x + 1) (gx_slots x + 6)) h9 lv [.ref q] N) (kk : ∀ v, r = some v → gz_At (gz_set x (gx_ad x) (gx_pf x) (gx_cells x + 1) (gx_slots x + 6)) (pc + 3) lv (.long v :: st) N) : gz_At x pc lv stk M := by
  intro H locs ls h1 h2 h3
  have hM1 := hM (gx_D x) (gx_aC x) (gx_ad x) H.size
  rw [has, ← X.hl] at hM1
  obtain ⟨w2, w3, w4, w5, w6⟩ := w
  have hP := gz_one h1 hk hc2
  have hc' : (gx_cl x)[ci]? = some (C, T, NN) := by rw [X.hcl]; exact hc
  have hp : PreV (gx_s x) H C (gx_ad x kb) (va_Pc (Value.ref (gx_ad x kb) :: As) (gz_BX (gx_D x) gz_cfL (gx_aC x) (gx_ad x) pf M H.size)) As := ⟨gz_BXblind, va_recv X.hK hP (ci := ci) (q0 := 0) hc' rfl, fun U hU hW2 => gz_BXat X hX h1 h2 hU hW2⟩
  have hR := gz_room (mc := 1) (ms := 6) X hd hn2
  refine vx_calll (vx_runV X.1 hM1 ⟨callB_of n X.hts (gz_goodIn w5) rfl rfl rfl (X.hts _ w4) (X.hts _ w1) w6 hR, X.hts _ w2, X.hts _ w3⟩ hp rfl hn (h3.1.trans X.hnL) hst (lv_room hW) dg hf) h2 (fun q _ h => gz_free X h2 q h) (gz_free X h2) (fun q _ h => gz_free X h2 q h) (fun E ce q9 u t H1 locs1 ht hvm hpx hB hz hk hS hce hcv hcl => ?_) (fun r' u t H1 locs1 ht hvm hw hB hz hk hS => ?_)
  · obtain ⟨hE, hB⟩ := hB
    rw [ht] at hB
    exact gq_catch X hX hlk hcov hE hB hS hce hcv hcl h3 (kx q9 hpx)
  · rw [ht] at hB
    exact kk r' hw H1 locs1 ls (gz_toM X hB) hS h3
end
/-- what a helper leaves -/
def gq_hM (M N : gz_M) : Option Int64 → gz_M
  | none => gz_pC M N
  | some v => gz_wl (gz_pC M N) 2 v
def gq_hv : Option Int64 → Int32
  | none => 1
  | some _ => 0
section
variable {pf : Nat → Bool} {l : Launch} {M N : gz_M} {p0 p1 : Int32}
theorem gq_Xs {x : gz_X} {cc : ByteArray} {own : String} {nL d : Nat} (X : gz_Ok x cc own nL d gz_cfL pf l) (c' s' : Nat) : gz_Ok (gz_set x (gx_ad x) (gx_pf x) c' s') cc own nL d gz_cfL pf l := by
  have h := gz_okSetL (ad' := gx_ad x) (pf' := pf) (c' := c') (s' := s') X (by have := X.hinj; rw [X.hcf, X.hpf] at this; exact this) (fun k hk => X.hA k (by rw [X.hcf, X.hpf]; exact hk))
  rw [X.hpf]
  exact h
theorem cL_rule_ok (hl9 : l.stackTraces = false) {r : Option Int32} (hf : f11_rule p0 p1 (gz_sC M) = some (r, N)) : gz_CH l yL_rule cL_rule 5 7 [(0, 10, 13, 13)] (fun ad => [.ref (ad 0), .int p0, .int p1, .ref (ad 2)]) pf M (gq_hv (r.map Int32.toInt64)) (gq_hM M N (r.map Int32.toInt64)) := by
  refine gz_ofH (by decide +kernel) (fun _ => Nat.le_of_ble_eq_true rfl) (fun x X hX h0 hE => ?_)
  show gz_At x 0 [(0, .ref (gx_ad x 0)), (1, .int p0), (2, .int p1), (3, .ref (gx_ad x 2))] [] M
  obtain ⟨h01, h02, h03, h04⟩ := h0
  have hE1 := hE _ (Or.inr rfl)
  have X1 := gq_Xs X 1 6
  refine gr_aload_n X dL_rule_0 3 rfl rfl ?_
  refine gr_iconst 0 X dL_rule_1 rfl ?_
  refine gr_aload_n X dL_rule_2 0 rfl rfl ?_
  refine gr_iload_n X dL_rule_3 1 rfl rfl ?_
  refine gr_iload_n X dL_rule_4 2 rfl rfl ?_
  refine gr_callXI (st := [.int 0, .ref (gx_ad x 2)]) [.int p0, .int p1] X hX gq_RLk (gz_liftXI (asF := fun ad => [.ref (ad 0), .int p0, .int p1]) (c11_rule hl9 hf)) rfl (gz_in 1066 (by decide +kernel) rfl) wc_yX11_rule rfl (X.kd gk_L0).1 ((X.kd gk_L0).2 _ _ _ _) rfl (by decide) (by decide) rfl (Nat.le_of_ble_eq_true rfl) (by omega) dL_rule_5 rfl (fun q hr => ?_) (fun v hr => ?_)
  · rw [h01, h02]
    subst hr
    refine gr_astore _ X1 dL_rule_13 (by decide) rfl ?_
    refine gr_iconst 1 X1 dL_rule_15 rfl ?_
    exact hE1 _ _ rfl dL_rule_16
  · rw [h01, h02]
    subst hr
    refine gr_i2l X1 dL_rule_8 ?_
    refine gr_outst (x := gz_set x (gx_ad x) (gx_pf x) 1 6) X1 dL_rule_9 ?_
    refine gr_goto 17 X1 dL_rule_10 (by decide) ?_
    refine gr_iconst 0 X1 dL_rule_17 rfl ?_
    exact hE1 _ _ rfl dL_rule_18
theorem cL_token_ok (hl9 : l.stackTraces = false) {r : Option Int32} (hf : f11_token p0 p1 (gz_sC M) = some (r, N)) : gz_CH l yL_token cL_token 5 7 [(0, 10, 13, 13)] (fun ad => [.ref (ad 0), .int p0, .int p1, .ref (ad 2)]) pf M (gq_hv (r.map Int32.toInt64)) (gq_hM M N (r.map Int32.toInt64)) := by
  refine gz_ofH (by decide +kernel) (fun _ => Nat.le_of_ble_eq_true rfl) (fun x X hX h0 hE => ?_)
  show gz_At x 0 [(0, .ref (gx_ad x 0)), (1, .int p0), (2, .int p1), (3, .ref (gx_ad x 2))] [] M
  obtain ⟨h01, h02, h03, h04⟩ := h0
  have hE1 := hE _ (Or.inr rfl)
  have X1 := gq_Xs X 1 6
  refine gr_aload_n X dL_token_0 3 rfl rfl ?_
  refine gr_iconst 0 X dL_token_1 rfl ?_
  refine gr_aload_n X dL_token_2 0 rfl rfl ?_
  refine gr_iload_n X dL_token_3 1 rfl rfl ?_
  refine gr_iload_n X dL_token_4 2 rfl rfl ?_
  refine gr_callXI (st := [.int 0, .ref (gx_ad x 2)]) [.int p0, .int p1] X hX gq_RLk (gz_liftXI (asF := fun ad => [.ref (ad 0), .int p0, .int p1]) (c11_token hl9 hf)) rfl (gz_in 1142 (by decide +kernel) rfl) wc_yX11_token rfl (X.kd gk_L0).1 ((X.kd gk_L0).2 _ _ _ _) rfl (by decide) (by decide) rfl (Nat.le_of_ble_eq_true rfl) (by omega) dL_token_5 rfl (fun q hr => ?_) (fun v hr => ?_)
  · rw [h01, h02]
    subst hr
    refine gr_astore _ X1 dL_token_13 (by decide) rfl ?_
    refine gr_iconst 1 X1 dL_token_15 rfl ?_
    exact hE1 _ _ rfl dL_token_16
  · rw [h01, h02]
    subst hr
    refine gr_i2l X1 dL_token_8 ?_
    refine gr_outst (x := gz_set x (gx_ad x) (gx_pf x) 1 6) X1 dL_token_9 ?_
    refine gr_goto 17 X1 dL_token_10 (by decide) ?_
    refine gr_iconst 0 X1 dL_token_17 rfl ?_
    exact hE1 _ _ rfl dL_token_18
theorem cL_at_ok (hl9 : l.stackTraces = false) {r : Option Int32} (hf : f11_at p0 (gz_sC M) = some (r, N)) : gz_CH l yL_at cL_at 4 7 [(0, 9, 12, 13)] (fun ad => [.ref (ad 0), .int p0, .ref (ad 2)]) pf M (gq_hv (r.map Int32.toInt64)) (gq_hM M N (r.map Int32.toInt64)) := by
  refine gz_ofH (by decide +kernel) (fun _ => Nat.le_of_ble_eq_true rfl) (fun x X hX h0 hE => ?_)
  show gz_At x 0 [(0, .ref (gx_ad x 0)), (1, .int p0), (2, .ref (gx_ad x 2))] [] M
  obtain ⟨h01, h02, h03, h04⟩ := h0
  have hE1 := hE _ (Or.inr rfl)
  have X1 := gq_Xs X 1 6
  refine gr_aload_n X dL_at_0 2 rfl rfl ?_
  refine gr_iconst 0 X dL_at_1 rfl ?_
  refine gr_aload_n X dL_at_2 0 rfl rfl ?_
  refine gr_iload_n X dL_at_3 1 rfl rfl ?_
  refine gr_callXI (st := [.int 0, .ref (gx_ad x 2)]) [.int p0] X hX gq_RLk (gz_liftXI (asF := fun ad => [.ref (ad 0), .int p0]) (c11_at hl9 hf)) rfl (gz_in 1134 (by decide +kernel) rfl) wc_yX11_at rfl (X.kd gk_L0).1 ((X.kd gk_L0).2 _ _ _ _) rfl (by decide) (by decide) rfl (Nat.le_of_ble_eq_true rfl) (by omega) dL_at_4 rfl (fun q hr => ?_) (fun v hr => ?_)
  · rw [h01, h02]
    subst hr
    refine gr_astore_n _ X1 dL_at_12 rfl (by decide) rfl ?_
    refine gr_iconst 1 X1 dL_at_13 rfl ?_
    exact hE1 _ _ rfl dL_at_14
  · rw [h01, h02]
    subst hr
    refine gr_i2l X1 dL_at_7 ?_
    refine gr_outst (x := gz_set x (gx_ad x) (gx_pf x) 1 6) X1 dL_at_8 ?_
    refine gr_goto 15 X1 dL_at_9 (by decide) ?_
    refine gr_iconst 0 X1 dL_at_15 rfl ?_
    exact hE1 _ _ rfl dL_at_16
theorem cL_row_ok (hl9 : l.stackTraces = false) {r : Option Int64} (hf : f11_row p0 (gz_sC M) = some (r, N)) : gz_CH l yL_row cL_row 4 7 [(0, 8, 11, 13)] (fun ad => [.ref (ad 0), .int p0, .ref (ad 2)]) pf M (gq_hv r) (gq_hM M N r) := by
  refine gz_ofH (by decide +kernel) (fun _ => Nat.le_of_ble_eq_true rfl) (fun x X hX h0 hE => ?_)
  show gz_At x 0 [(0, .ref (gx_ad x 0)), (1, .int p0), (2, .ref (gx_ad x 2))] [] M
  obtain ⟨h01, h02, h03, h04⟩ := h0
  have hE1 := hE _ (Or.inr rfl)
  have X1 := gq_Xs X 1 6
  refine gr_aload_n X dL_row_0 2 rfl rfl ?_
  refine gr_iconst 0 X dL_row_1 rfl ?_
  refine gr_aload_n X dL_row_2 0 rfl rfl ?_
  refine gr_iload_n X dL_row_3 1 rfl rfl ?_
  refine gr_callXL (st := [.int 0, .ref (gx_ad x 2)]) [.int p0] X hX gq_RLk (gz_liftXL (asF := fun ad => [.ref (ad 0), .int p0]) (c11_row hl9 hf)) rfl (gz_in 1150 (by decide +kernel) rfl) wc_yX11_row rfl (X.kd gk_L0).1 ((X.kd gk_L0).2 _ _ _ _) rfl (by decide) (by decide) rfl (Nat.le_of_ble_eq_true rfl) (by omega) dL_row_4 rfl (fun q hr => ?_) (fun v hr => ?_)
  · rw [h01, h02]
    subst hr
    refine gr_astore_n _ X1 dL_row_11 rfl (by decide) rfl ?_
    refine gr_iconst 1 X1 dL_row_12 rfl ?_
    exact hE1 _ _ rfl dL_row_13
  · rw [h01, h02]
    subst hr
    refine gr_outst (x := gz_set x (gx_ad x) (gx_pf x) 1 6) X1 dL_row_7 ?_
    refine gr_goto 14 X1 dL_row_8 (by decide) ?_
    refine gr_iconst 0 X1 dL_row_14 rfl ?_
    exact hE1 _ _ rfl dL_row_15
end
end
section
/-! the law's frame -/
def gq_LF (x : gz_X) (pf : Nat → Bool) (l : Launch) (b L : Nat) (xs : Nat → Int32) : Prop := gz_Ok x cL_law RL 8 60 gz_cfL pf l ∧ gz_Xst (gx_s x) ∧ gz_Th (gx_A x) (gx_s x) (gx_s x).heap ∧ gc_AO (gx_s x) ∧ va_X b L xs (gx_s x) (gx_s x).heap ∧ b < (gx_s x).heap.size ∧ ¬ gx_A x b
def gq_lv (x : gz_X) (b i : Nat) : List (Nat × Value) := [(0, .ref b), (1, .ref (gx_ad x 0)), (2, .ref (gx_ad x 1)), (3, .ref (gx_ad x 2)), (4, .int (nI i))]
def gq_K (B : Prop) (x : gz_X) (l : Launch) (b L : Nat) (xs : Nat → Int32) (i k : Nat) : Prop := ∀ x' pf' M', gz_StL x x' → gq_LF x' pf' l b L xs → gz_UL x' k → gp_R B pf' (gz_sC M') (gz_sR M') → gz_At x' 1348 (gq_lv x' b i) [] M'
section
variable {x x' : gz_X} {pf pf' : Nat → Bool} {l : Launch} {b L i k pc : Nat} {xs : Nat → Int32} {lv : List (Nat × Value)} {st : List Value} {M M' : gz_M}
theorem gq_LF.of (F : gq_LF x pf l b L xs) (h : gz_StL x x') (X' : gz_Ok x' cL_law RL 8 60 gz_cfL pf' l) : gq_LF x' pf' l b L xs := by
  obtain ⟨⟨a1, p1, c1, s1, rfl⟩, _⟩ := h
  exact ⟨X', F.2⟩
theorem gq_lv_st (h : gz_StL x x') : gq_lv x b i = gq_lv x' b i := by
  unfold gq_lv
  rw [(h.2 0 rfl).2, (h.2 1 rfl).2, (h.2 2 rfl).2]
theorem gr_sld (F : gq_LF x pf l b L xs) {v : Nat} (hv : v < L) (hL : L ≤ 3072) (dg : decode cL_law pc = .ok (.iaload, 1)) (kk : gz_At x (pc + 1) lv (.int (xs v) :: st) M) : gz_At x pc lv (.int (nI v) :: .ref b :: st) M := by
  intro H locs ls h1 h2 h3
  refine va_sld F.1.hx F.1.hb F.2.2.2.2.1 F.2.2.2.2.2.1 F.2.2.2.2.2.2 h2 (i := nI v) (fun h => ?_) dg ?_
  · rcases h with h | h
    · exact absurd h (nI_nlt (b := 0) (by omega) (by omega))
    · rw [nI_clamp (by omega)] at h; omega
  · rw [nI_clamp (by omega)]
    exact kk H locs ls h1 h2 h3
theorem gr_slen (F : gq_LF x pf l b L xs) (dg : decode cL_law pc = .ok (.arraylength, 1)) (kk : gz_At x (pc + 1) lv (.int (nI L) :: st) M) : gz_At x pc lv (.ref b :: st) M := fun H locs ls h1 h2 h3 => va_slen F.1.hx F.1.hb F.2.2.2.2.1 F.2.2.2.2.2.1 F.2.2.2.2.2.2 h2 dg (kk H locs ls h1 h2 h3)
theorem gq_arg (F : gq_LF x pf l b L xs) (hL : L ≤ 3072) {z : Int} {q : Nat} (hz : Int32.ofInt z = nI q) (hq : i + q < L) (p0 p4 : Nat) (h0 : lv[p0]? = some (0, .ref b)) (h4 : lv[p4]? = some (4, .int (nI i))) (d0 : decode cL_law pc = .ok (.aload_n 0, 1)) (d1 : decode cL_law (pc + 1) = .ok (.iload 4, 2)) (d2 : decode cL_law (pc + 3) = .ok (.iconst z, 1)) (d3 : decode cL_law (pc + 4) = .ok (.iadd, 1)) (d4 : decode cL_law (pc + 5) = .ok (.iaload, 1)) (kk : gz_At x (pc + 6) lv (.int (xs (i + q)) :: st) M) : gz_At x pc lv st M := by
  refine gr_aload_n F.1 d0 p0 rfl h0 ?_
  refine gr_iload F.1 d1 p4 h4 ?_
  refine gr_iconst (nI q) F.1 d2 hz ?_
  refine gr_iadd F.1 d3 ?_
  rw [nI_add]
  exact gr_sld F hq hL d4 kk
theorem gr_callH {y : MethodName} {cc2 : ByteArray} {nL2 n index d2 : Nat} {hh : List (Nat × Nat × Nat × Nat)} {v : Int32} {asF : (Nat → Nat) → List Value} {stk : List Value} (As : List Value) (F : gq_LF x pf l b L xs) (hf : gx_cells x + 1 ≤ (gx_R x).cells ∧ gx_slots x + 6 ≤ (gx_R x).slots) (hM : gz_CH l y cc2 nL2 d2 hh asF pf M v M') (has : asF (gx_ad x) = As) (w1 : Cond.methodLink RL index y ∈ gz_TB) (w2 : Cond.static y ∈ gz_TB) (w3 : Cond.initialized y.cls ∈ gz_TB) (w4 : Cond.codeWith y cc2 nL2 (some .int) hh ∈ gz_TB) (w5 : y.cls ≠ "java/lang/invoke/MethodHandle" ∧ y.cls ≠ "java/lang/invoke/VarHandle" ∧ (parseMethodDescriptor y.desc).map (fun d => d.parameters.length) = some n) (hn : As.length = n) (hd : d2 < 60) (hn2 : nL2 ≤ 20) (hst : stk = As.reverse ++ st) (hW : (st.map fun v => v.category).sum ≤ 8) (dg : decode cL_law pc = .ok (.invokestatic index, 3)) (kk : gz_At (gz_set x (gx_ad x) (gx_pf x) (gx_cells x + 1) (gx_slots x + 6)) (pc + 3) lv (.int v :: st) M') : gz_At x pc lv stk M := by
  intro H locs ls h1 h2 h3
  have X := F.1
  have hM1 := hM (gx_D x) (gx_aC x) (gx_ad x) H.size
  rw [has, ← X.hl] at hM1
  have hp : PreS (gx_s x) H (va_Pc As (gz_BX (gx_D x) gz_cfL (gx_aC x) (gx_ad x) pf M H.size)) As := ⟨gz_BXblind, fun U hU hW2 => gq_BXat X F.2.1 F.2.2.1 h1 h2 hU hW2⟩
  have hR := gz_room (mc := 1) (ms := 6) X hd hn2
  have hG : GoodIn gz_TB (va_wsS RL index y (Cond.codeWith y cc2 nL2 (some .int) hh :: gz_TB)) := by
    intro w hw
    unfold va_wsS at hw
    have hw' : w ∈ gz_TB := by
      simp only [List.cons_append, List.nil_append, List.mem_cons] at hw
      rcases hw with h | h | h | h | h
      · rw [h]; exact w1
      · rw [h]; exact w2
      · rw [h]; exact w3
      · rw [h]; exact w4
      · exact h
    exact ⟨hw', good_of_word (gz_good hw')⟩
  refine va_calli (vx_runSW X.1 hM1 (vx_cwSW n X.hts hG rfl rfl rfl w5 hR) hp rfl hn (h3.1.trans X.hnL) hst (lv_room hW) dg hf) h2 (fun q _ h => gz_free X h2 q h) (gz_free X h2) (fun r u t H1 locs1 ht hvm hw hB hz hk hS => ?_)
  subst hw
  rw [ht] at hB
  exact kk H1 locs1 ls (gz_toM X hB) hS h3
theorem gr_lcmpE {cc : ByteArray} {own : String} {nL d : Nat} {cf : gz_CF} {a : Int64} (X : gz_Ok x cc own nL d cf pf l) (dg : decode cc pc = .ok (.lcmp, 1)) (kk : gz_At x (pc + 1) lv (.int 0 :: st) M) : gz_At x pc lv (.long a :: .long a :: st) M := by
  intro H locs ls h1 h2 h3 T hT Y
  obtain ⟨t, a1, b1⟩ := kk H locs ls h1 h2 h3 T hT Y
  refine ⟨t, ?_, b1⟩
  have hx := X.hx
  have hb := X.hb
  jvm_step Y.here [Y.here.top, hx, hb, dg]
  simpa using a1
theorem gr_lload {cc : ByteArray} {own : String} {nL d : Nat} {cf : gz_CF} {j : Nat} {v : Int64} (X : gz_Ok x cc own nL d cf pf l) (dg : decode cc pc = .ok (.lload j, 2)) (pl : Nat) (hl : lv[pl]? = some (j, .long v)) (kk : gz_At x (pc + 2) lv (.long v :: st) M) : gz_At x pc lv st M := fun H locs ls h1 h2 h3 => lv_lload X.hx X.hb dg (lv_at h3 pl hl) (kk H locs ls h1 h2 h3)
theorem gr_lstore {cc : ByteArray} {own : String} {nL d : Nat} {cf : gz_CF} {j : Nat} {v : Int64} (lv' : List (Nat × Value)) (X : gz_Ok x cc own nL d cf pf l) (dg : decode cc pc = .ok (.lstore j, 2)) (hn : j + 1 < nL) (hl : (j, Value.long v) :: lv.filter (fun q => !(q.1 == j) && (!(q.1 == j + 1) && !(q.1 + 1 == j && q.2.category == 2))) = lv') (kk : gz_At x (pc + 2) lv' st M) : gz_At x pc lv (.long v :: st) M := fun H locs ls h1 h2 h3 => lv_lstore X.hx X.hb dg h3 (by rw [X.hnL]; exact hn) hl (fun ls hl => kk H locs ls h1 h2 hl)
theorem gr_outld {cc : ByteArray} {own : String} {nL d : Nat} (X : gz_Ok x cc own nL d gz_cfL pf l) (dg : decode cc pc = .ok (.laload, 1)) (kk : gz_At x (pc + 1) lv (.long (M.2 2) :: st) M) : gz_At x pc lv (.int 0 :: .ref (gx_ad x 2) :: st) M := by
  have hk := X.kd (gz_kdO pf)
  intro H locs ls h1 h2 h3
  exact va_lald X.hx X.hb X.hK (gz_one h1 hk.1 (hk.2 _ _ _ _)) 0 2 rfl rfl (by unfold vp_in; decide) dg (kk H locs ls h1 h2 h3)
end
end
