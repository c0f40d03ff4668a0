/-! contracts, calls, ends -/
section GC
def gz_rm (d mc ms : Nat) : Room := { frames := d, cells := mc, slots := ms, locals := 40 * d }
def gz_B (D : va_G) (cf : gz_CF) (aC : Nat → ClassId) (ad : Nat → Nat) (pf : Nat → Bool) (M : gz_M) (sz : Nat) : State → Prop := fun U => U.heap.size = sz ∧ gz_mw D gz_cls cf aC ad pf M U.heap ∧ va_K D gz_cls (gz_tys aC) U ∧ gz_inj cf ad pf ∧ gz_Nst U
def gz_CI (l : Launch) (cf : gz_CF) (y : MethodName) (cc : ByteArray) (nL d : Nat) (rt : FieldType) (asF : (Nat → Nat) → List Value) (pf : Nat → Bool) (M : gz_M) (r : Int32) (M' : gz_M) : Prop := ∀ D aC ad sz, Met l y (Cond.code y cc nL (some rt) :: gz_TB) (gz_rm d 0 0) (va_Pc (asF ad) (gz_B D cf aC ad pf M sz)) (va_Qi (fun r' (_ : Unit) => r' = r) (fun _ t => gz_mw D gz_cls cf aC ad pf M' t.heap) (gz_A cf ad pf sz)) 0 0 (gz_A cf ad pf sz)
def gz_CL (l : Launch) (cf : gz_CF) (y : MethodName) (cc : ByteArray) (nL d : Nat) (rt : FieldType) (asF : (Nat → Nat) → List Value) (pf : Nat → Bool) (M : gz_M) (r : Int64) (M' : gz_M) : Prop := ∀ D aC ad sz, Met l y (Cond.code y cc nL (some rt) :: gz_TB) (gz_rm d 0 0) (va_Pc (asF ad) (gz_B D cf aC ad pf M sz)) (va_Ql (fun r' (_ : Unit) => r' = r) (fun _ t => gz_mw D gz_cls cf aC ad pf M' t.heap) (gz_A cf ad pf sz)) 0 0 (gz_A cf ad pf sz)
def gz_CV (l : Launch) (cf : gz_CF) (y : MethodName) (cc : ByteArray) (nL d : Nat) (asF : (Nat → Nat) → List Value) (pf : Nat → Bool) (M : gz_M) (M' : gz_M) : Prop := ∀ D aC ad sz, Met l y (Cond.code y cc nL none :: gz_TB) (gz_rm d 0 0) (va_Pc (asF ad) (gz_B D cf aC ad pf M sz)) (va_Qv (fun (_ : Unit) => True) (fun _ t => gz_mw D gz_cls cf aC ad pf M' t.heap) (gz_A cf ad pf sz)) 0 0 (gz_A cf ad pf sz)
theorem gz_Bblind {av : List Value} {D : va_G} {cf : gz_CF} {aC : Nat → ClassId} {ad : Nat → Nat} {pf : Nat → Bool} {M : gz_M} {sz : Nat} : FrameBlind (va_Pc av (gz_B D cf aC ad pf M sz)) := by
  intro a U g mk q
  obtain ⟨q0, q1, q2, q3, q4, q5⟩ := q
  exact ⟨q0, q1, q2, va_K.moved (u := U) (U := U.calling g mk a) (Vm.Alike.refl U.vm) q3, q4, gz_Nst.same (u := U) (U := U.calling g mk a) rfl q5⟩
variable {x : gz_X} {cc : ByteArray} {own : String} {nL d pc : Nat} {cf : gz_CF} {pf : Nat → Bool} {l : Launch} {lv lv' : List (Nat × Value)} {st : List Value} {M : gz_M}
theorem gz_Bat (X : gz_Ok x cc own nL d cf pf l) {H : Heap} (h1 : gz_mw (gx_D x) (gx_cl x) (gx_cf x) (gx_aC x) (gx_ad x) (gx_pf x) M H) {av : List Value} {U : State} (hU : U.heap = H) (hW : (gx_s x).WarmedH U.vm) : va_Pc av (gz_B (gx_D x) cf (gx_aC x) (gx_ad x) pf M H.size) av.toArray U := by
  refine ⟨rfl, by rw [hU], ?_, ?_, ?_, X.hN.warm hW⟩
  · rw [hU, ← X.hcf, ← X.hpf, ← X.hcl]; exact h1
  · rw [← X.hcl]; exact va_K.moved hW.alike X.hK
  · rw [← X.hcf, ← X.hpf]; exact X.hinj
theorem gz_free (X : gz_Ok x cc own nL d cf pf l) {H : Heap} {locs : List Loc} (h2 : va_S (gx_A x) (gx_s x).heap H locs) : ∀ q, gz_A cf (gx_ad x) pf H.size q → gx_A x q := by
  intro q h
  rcases h with ⟨k, hk, rfl⟩ | h
  · exact X.hA k (by rw [X.hcf, X.hpf]; exact hk)
  · exact X.hA2 q (Nat.le_trans h2.1 h)
theorem gz_toM (X : gz_Ok x cc own nL d cf pf l) {H : Heap} (h : gz_mw (gx_D x) gz_cls cf (gx_aC x) (gx_ad x) pf M H) : gz_mw (gx_D x) (gx_cl x) (gx_cf x) (gx_aC x) (gx_ad x) (gx_pf x) M H := by
  rw [X.hcf, X.hpf, X.hcl]; exact h
/-- what a call's words say: an instance method (C the receiver's class, of kind ci), and a static one -/
def gz_WV (own : String) (index : Nat) (C : String) (y : MethodName) (cc : ByteArray) (nL n : Nat) (rt : Option FieldType) : Prop := gz_ML own index y ∧ Cond.instanceMethod y ∈ gz_TB ∧ Cond.selects C y y ∈ gz_TB ∧ Cond.initialized y.cls ∈ gz_TB ∧ Cond.code y cc nL rt ∈ gz_TB ∧ (y.cls ≠ "java/lang/invoke/MethodHandle" ∧ y.cls ≠ "java/lang/invoke/VarHandle" ∧ (parseMethodDescriptor y.desc).map (fun d => d.parameters.length) = some n)
def gz_WS (own : String) (index : Nat) (y : MethodName) (cc : ByteArray) (nL n : Nat) (rt : Option FieldType) : Prop := gz_ML own index y ∧ Cond.static y ∈ gz_TB ∧ Cond.initialized y.cls ∈ gz_TB ∧ Cond.code y cc nL rt ∈ gz_TB ∧ (y.cls ≠ "java/lang/invoke/MethodHandle" ∧ y.cls ≠ "java/lang/invoke/VarHandle" ∧ (parseMethodDescriptor y.desc).map (fun d => d.parameters.length) = some n)
theorem gz_goodIn {y : MethodName} {cc2 : ByteArray} {nL2 : Nat} {rt : Option FieldType} (hc : Cond.code y cc2 nL2 rt ∈ gz_TB) : GoodIn gz_TB (Cond.code y cc2 nL2 rt :: gz_TB) := by
  intro w hw
  rcases List.mem_cons.mp hw with h | h
  · rw [h]; exact ⟨hc, good_of_word (gz_good hc)⟩
  · exact ⟨h, good_of_word (gz_good h)⟩
theorem gz_room {D : Nat} (X : gz_Ok x cc own nL D cf pf l) {d2 nL2 mc ms : Nat} (hd : d2 < D) (hn : nL2 ≤ 20) : (gz_rm d2 mc ms).frames + 1 ≤ (gx_R x).frames ∧ 8 + (nL2 + 11) + (gz_rm d2 mc ms).locals ≤ (gx_R x).locals := by
  have h1 := X.hfr
  have h2 := X.hlo
  refine ⟨Nat.le_trans hd h1, ?_⟩
  show 8 + (nL2 + 11) + 40 * d2 ≤ _
  omega
theorem gz_runV {y : MethodName} {cc2 : ByteArray} {nL2 n index kb d2 ci N mc ms : Nat} {C : String} {T : u_T} {rt : Option FieldType} {Qc : Array Value → State → Outcome → State → Prop} {free : Addr → Prop} {As : List Value} {fs : List Value} {H : Heap} {locs : List Loc} {ls : Array Slot} {stk : List Value} (X : gz_Ok x cc own nL d cf pf l) (h1 : gz_mw (gx_D x) (gx_cl x) (gx_cf x) (gx_aC x) (gx_ad x) (gx_pf x) M H) (h3 : ls.size = nL) (hM : Met (gx_l x) y (Cond.code y cc2 nL2 rt :: gz_TB) (gz_rm d2 mc ms) (va_Pc (Value.ref (gx_ad x kb) :: As) (gz_B (gx_D x) cf (gx_aC x) (gx_ad x) pf M H.size)) Qc mc ms free) (w : gz_WV own index C y cc2 nL2 n rt) (hn : As.length = n) (hk : (gx_cf x).1 (gx_pf x) kb = true) (hc2 : (gx_cf x).2 (gx_aC x) (gx_ad x) (gx_pf x) kb (M.1 kb) M.2 = .inr (ci, fs)) (hc : gz_cls[ci]? = some (C, T, N)) (hd : d2 < d) (hn2 : nL2 ≤ 20) (hst : stk = As.reverse ++ .ref (gx_ad x kb) :: st) (hW : (st.map fun v => v.category).sum ≤ 8) (hf : gx_cells x + mc ≤ (gx_R x).cells ∧ gx_slots x + ms ≤ (gx_R x).slots) (dg : decode cc pc = .ok (.invokevirtual index, 3)) : va_Run (gx_p x) (gx_l x) (gx_e x) (gx_R x) (gx_s x) (gx_m x) (gx_args x) (gx_below x) (gx_meth x) (gx_c x) H locs (gx_cells x) (gx_slots x) mc ms (F0 (gx_m x) pc ls stk) st (Qc (Value.ref (gx_ad x kb) :: As).toArray) free := by
  obtain ⟨w1, w2, w3, w4, w5, w6⟩ := w
  have hP := gz_one h1 hk hc2
  have hc' : (gx_cl x)[ci]? = some (C, T, N) := by rw [X.hcl]; exact hc
  have hp : PreV (gx_s x) H C (gx_ad x kb) (va_Pc (Value.ref (gx_ad x kb) :: As) (gz_B (gx_D x) cf (gx_aC x) (gx_ad x) pf M H.size)) As := ⟨gz_Bblind, va_recv X.hK hP (ci := ci) (q0 := 0) hc' rfl, fun U hU hW2 => gz_Bat X h1 hU hW2⟩
  have hR := gz_room (mc := mc) (ms := ms) X hd hn2
  rcases w1 with w1 | ⟨host, w1⟩
  · exact va_runV X.1 hM ⟨callB_of n X.hts (gz_goodIn w5) rfl rfl rfl (X.hts _ w4) (X.hts _ w1) w6 hR, X.hts _ w2, X.hts _ w3⟩ hp rfl hn h3 hst (lv_room hW) dg hf
  · exact va_runVN X.1 hM ⟨va_cnB n X.hts (gz_goodIn w5) rfl rfl rfl (X.hN _ w1) (X.hts _ w4) w6 hR, X.hts _ w2, X.hts _ w3⟩ hp rfl hn h3 hst (lv_room hW) dg hf
theorem gz_runS {y : MethodName} {cc2 : ByteArray} {nL2 n index d2 mc ms : Nat} {rt : Option FieldType} {Qc : Array Value → State → Outcome → State → Prop} {free : Addr → Prop} {As : List Value} {H : Heap} {locs : List Loc} {ls : Array Slot} {stk : List Value} (X : gz_Ok x cc own nL d cf pf l) (h1 : gz_mw (gx_D x) (gx_cl x) (gx_cf x) (gx_aC x) (gx_ad x) (gx_pf x) M H) (h3 : ls.size = nL) (hM : Met (gx_l x) y (Cond.code y cc2 nL2 rt :: gz_TB) (gz_rm d2 mc ms) (va_Pc As (gz_B (gx_D x) cf (gx_aC x) (gx_ad x) pf M H.size)) Qc mc ms free) (w : gz_WS own index y cc2 nL2 n rt) (hn : As.length = n) (hd : d2 < d) (hn2 : nL2 ≤ 20) (hst : stk = As.reverse ++ st) (hW : (st.map fun v => v.category).sum ≤ 8) (hf : gx_cells x + mc ≤ (gx_R x).cells ∧ gx_slots x + ms ≤ (gx_R x).slots) (dg : decode cc pc = .ok (.invokestatic index, 3)) : va_Run (gx_p x) (gx_l x) (gx_e x) (gx_R x) (gx_s x) (gx_m x) (gx_args x) (gx_below x) (gx_meth x) (gx_c x) H locs (gx_cells x) (gx_slots x) mc ms (F0 (gx_m x) pc ls stk) st (Qc As.toArray) free := by
  obtain ⟨w1, w2, w4, w5, w6⟩ := w
  have hp : PreS (gx_s x) H (va_Pc As (gz_B (gx_D x) cf (gx_aC x) (gx_ad x) pf M H.size)) As := ⟨gz_Bblind, fun U hU hW2 => gz_Bat X h1 hU hW2⟩
  have hR := gz_room (mc := mc) (ms := ms) X hd hn2
  rcases w1 with w1 | ⟨host, w1⟩
  · exact va_runS X.1 hM ⟨callB_of n X.hts (gz_goodIn w5) rfl rfl rfl (X.hts _ w4) (X.hts _ w1) w6 hR, X.hts _ w2⟩ hp rfl hn h3 hst (lv_room hW) dg hf
  · exact va_runSN X.1 hM ⟨va_cnB n X.hts (gz_goodIn w5) rfl rfl rfl (X.hN _ w1) (X.hts _ w4) w6 hR, X.hts _ w2, trivial⟩ hp rfl hn h3 hst (lv_room hW) dg hf
theorem gr_callI {y : MethodName} {cc2 : ByteArray} {nL2 n index kb d2 ci N : Nat} {C : String} {T : u_T} {rt : FieldType} {r : Int32} {asF : (Nat → Nat) → List Value} {M' : gz_M} {fs : List Value} {stk : List Value} (As : List Value) (X : gz_Ok x cc own nL d cf pf l) (hM : gz_CI l cf y cc2 nL2 d2 rt asF pf M r M') (has : asF (gx_ad x) = .ref (gx_ad x kb) :: As) (w : gz_WV own index C y cc2 nL2 n (some rt)) (hn : As.length = n) (hk : (gx_cf x).1 (gx_pf x) kb = true) (hc2 : (gx_cf x).2 (gx_aC x) (gx_ad x) (gx_pf x) kb (M.1 kb) M.2 = .inr (ci, fs)) (hc : gz_cls[ci]? = some (C, T, N)) (hd : d2 < d) (hn2 : nL2 ≤ 20) (hst : stk = As.reverse ++ .ref (gx_ad x kb) :: st) (hW : (st.map fun v => v.category).sum ≤ 8) (hf : gx_cells x ≤ (gx_R x).cells ∧ gx_slots x ≤ (gx_R x).slots) (dg : decode cc pc = .ok (.invokevirtual index, 3)) (kk : gz_At x (pc + 3) lv (.int r :: st) M') : gz_At x pc lv stk M := by
  intro H locs ls h1 h2 h3
  have hM1 := hM (gx_D x) (gx_aC x) (gx_ad x) H.size
  rw [has, ← X.hl] at hM1
  refine va_calli (gz_runV (locs := locs) X h1 (h3.1.trans X.hnL) hM1 w hn hk hc2 hc hd hn2 hst hW hf dg) h2 (fun q _ h => gz_free X h2 q h) (gz_free X h2) (fun r u t H1 locs1 ht hvm hw hB hz hk hS => ?_)
  subst hw
  rw [ht] at hB
  exact kk H1 locs1 ls (gz_toM X hB) hS h3
theorem gr_callSI {y : MethodName} {cc2 : ByteArray} {nL2 n index d2 : Nat} {rt : FieldType} {r : Int32} {asF : (Nat → Nat) → List Value} {M' : gz_M} {stk : List Value} (As : List Value) (X : gz_Ok x cc own nL d cf pf l) (hM : gz_CI l cf y cc2 nL2 d2 rt asF pf M r M') (has : asF (gx_ad x) = As) (w : gz_WS own index y cc2 nL2 n (some rt)) (hn : As.length = n) (hd : d2 < d) (hn2 : nL2 ≤ 20) (hst : stk = As.reverse ++ st) (hW : (st.map fun v => v.category).sum ≤ 8) (hf : gx_cells x ≤ (gx_R x).cells ∧ gx_slots x ≤ (gx_R x).slots) (dg : decode cc pc = .ok (.invokestatic index, 3)) (kk : gz_At x (pc + 3) lv (.int r :: st) M') : gz_At x pc lv stk M := by
  intro H locs ls h1 h2 h3
  have hM1 := hM (gx_D x) (gx_aC x) (gx_ad x) H.size
  rw [has, ← X.hl] at hM1
  refine va_calli (gz_runS (locs := locs) X h1 (h3.1.trans X.hnL) hM1 w hn hd hn2 hst hW hf dg) h2 (fun q _ h => gz_free X h2 q h) (gz_free X h2) (fun r u t H1 locs1 ht hvm hw hB hz hk hS => ?_)
  subst hw
  rw [ht] at hB
  exact kk H1 locs1 ls (gz_toM X hB) hS h3
theorem gr_callL {y : MethodName} {cc2 : ByteArray} {nL2 n index kb d2 ci N : Nat} {C : String} {T : u_T} {rt : FieldType} {r : Int64} {asF : (Nat → Nat) → List Value} {M' : gz_M} {fs : List Value} {stk : List Value} (As : List Value) (X : gz_Ok x cc own nL d cf pf l) (hM : gz_CL l cf y cc2 nL2 d2 rt asF pf M r M') (has : asF (gx_ad x) = .ref (gx_ad x kb) :: As) (w : gz_WV own index C y cc2 nL2 n (some rt)) (hn : As.length = n) (hk : (gx_cf x).1 (gx_pf x) kb = true) (hc2 : (gx_cf x).2 (gx_aC x) (gx_ad x) (gx_pf x) kb (M.1 kb) M.2 = .inr (ci, fs)) (hc : gz_cls[ci]? = some (C, T, N)) (hd : d2 < d) (hn2 : nL2 ≤ 20) (hst : stk = As.reverse ++ .ref (gx_ad x kb) :: st) (hW : (st.map fun v => v.category).sum ≤ 8) (hf : gx_cells x ≤ (gx_R x).cells ∧ gx_slots x ≤ (gx_R x).slots) (dg : decode cc pc = .ok (.invokevirtual index, 3)) (kk : gz_At x (pc + 3) lv (.long r :: st) M') : gz_At x pc lv stk M := by
  intro H locs ls h1 h2 h3
  have hM1 := hM (gx_D x) (gx_aC x) (gx_ad x) H.size
  rw [has, ← X.hl] at hM1
  refine va_calll (gz_runV (locs := locs) X h1 (h3.1.trans X.hnL) hM1 w hn hk hc2 hc hd hn2 hst hW hf dg) h2 (fun q _ h => gz_free X h2 q h) (gz_free X h2) (fun r u t H1 locs1 ht hvm hw hB hz hk hS => ?_)
  subst hw
  rw [ht] at hB
  exact kk H1 locs1 ls (gz_toM X hB) hS h3
theorem gr_callSL {y : MethodName} {cc2 : ByteArray} {nL2 n index d2 : Nat} {rt : FieldType} {r : Int64} {asF : (Nat → Nat) → List Value} {M' : gz_M} {stk : List Value} (As : List Value) (X : gz_Ok x cc own nL d cf pf l) (hM : gz_CL l cf y cc2 nL2 d2 rt asF pf M r M') (has : asF (gx_ad x) = As) (w : gz_WS own index y cc2 nL2 n (some rt)) (hn : As.length = n) (hd : d2 < d) (hn2 : nL2 ≤ 20) (hst : stk = As.reverse ++ st) (hW : (st.map fun v => v.category).sum ≤ 8) (hf : gx_cells x ≤ (gx_R x).cells ∧ gx_slots x ≤ (gx_R x).slots) (dg : decode cc pc = .ok (.invokestatic index, 3)) (kk : gz_At x (pc + 3) lv (.long r :: st) M') : gz_At x pc lv stk M := by
  intro H locs ls h1 h2 h3
  have hM1 := hM (gx_D x) (gx_aC x) (gx_ad x) H.size
  rw [has, ← X.hl] at hM1
  refine va_calll (gz_runS (locs := locs) X h1 (h3.1.trans X.hnL) hM1 w hn hd hn2 hst hW hf dg) h2 (fun q _ h => gz_free X h2 q h) (gz_free X h2) (fun r u t H1 locs1 ht hvm hw hB hz hk hS => ?_)
  subst hw
  rw [ht] at hB
  exact kk H1 locs1 ls (gz_toM X hB) hS h3
theorem gr_callV {y : MethodName} {cc2 : ByteArray} {nL2 n index kb d2 ci N : Nat} {C : String} {T : u_T} {asF : (Nat → Nat) → List Value} {M' : gz_M} {fs : List Value} {stk : List Value} (As : List Value) (X : gz_Ok x cc own nL d cf pf l) (hM : gz_CV l cf y cc2 nL2 d2 asF pf M M') (has : asF (gx_ad x) = .ref (gx_ad x kb) :: As) (w : gz_WV own index C y cc2 nL2 n (none)) (hn : As.length = n) (hk : (gx_cf x).1 (gx_pf x) kb = true) (hc2 : (gx_cf x).2 (gx_aC x) (gx_ad x) (gx_pf x) kb (M.1 kb) M.2 = .inr (ci, fs)) (hc : gz_cls[ci]? = some (C, T, N)) (hd : d2 < d) (hn2 : nL2 ≤ 20) (hst : stk = As.reverse ++ .ref (gx_ad x kb) :: st) (hW : (st.map fun v => v.category).sum ≤ 8) (hf : gx_cells x ≤ (gx_R x).cells ∧ gx_slots x ≤ (gx_R x).slots) (dg : decode cc pc = .ok (.invokevirtual index, 3)) (kk : gz_At x (pc + 3) lv (st) M') : gz_At x pc lv stk M := by
  intro H locs ls h1 h2 h3
  have hM1 := hM (gx_D x) (gx_aC x) (gx_ad x) H.size
  rw [has, ← X.hl] at hM1
  refine va_callv (gz_runV (locs := locs) X h1 (h3.1.trans X.hnL) hM1 w hn hk hc2 hc hd hn2 hst hW hf dg) h2 (fun q _ h => gz_free X h2 q h) (gz_free X h2) (fun u t H1 locs1 ht hvm hw hB hz hk hS => ?_)
  skip
  rw [ht] at hB
  exact kk H1 locs1 ls (gz_toM X hB) hS h3
theorem gr_callSV {y : MethodName} {cc2 : ByteArray} {nL2 n index d2 : Nat} {asF : (Nat → Nat) → List Value} {M' : gz_M} {stk : List Value} (As : List Value) (X : gz_Ok x cc own nL d cf pf l) (hM : gz_CV l cf y cc2 nL2 d2 asF pf M M') (has : asF (gx_ad x) = As) (w : gz_WS own index y cc2 nL2 n (none)) (hn : As.length = n) (hd : d2 < d) (hn2 : nL2 ≤ 20) (hst : stk = As.reverse ++ st) (hW : (st.map fun v => v.category).sum ≤ 8) (hf : gx_cells x ≤ (gx_R x).cells ∧ gx_slots x ≤ (gx_R x).slots) (dg : decode cc pc = .ok (.invokestatic index, 3)) (kk : gz_At x (pc + 3) lv (st) M') : gz_At x pc lv stk M := by
  intro H locs ls h1 h2 h3
  have hM1 := hM (gx_D x) (gx_aC x) (gx_ad x) H.size
  rw [has, ← X.hl] at hM1
  refine va_callv (gz_runS (locs := locs) X h1 (h3.1.trans X.hnL) hM1 w hn hd hn2 hst hW hf dg) h2 (fun q _ h => gz_free X h2 q h) (gz_free X h2) (fun u t H1 locs1 ht hvm hw hB hz hk hS => ?_)
  skip
  rw [ht] at hB
  exact kk H1 locs1 ls (gz_toM X hB) hS h3
theorem gz_MetF {y : MethodName} {ws ws' : List Cond} {rm : Room} {Pc : Array Value → State → Prop} {Qc : Array Value → State → Outcome → State → Prop} {mc ms : Nat} {free : Addr → Prop} {cc : ByteArray} {maxL : Nat} {ret : Option FieldType} (hy : plainFor y = true) (hw : ws = Cond.code y cc maxL ret :: ws') (body : ∀ p e s m args below meth c s₁, BodyLoose p l y (headSpec ws rm) cc maxL ret e s m args below meth c s₁ → c.maxLocals = maxL → Pc args s → W p l e (headSpec ws rm).room s m args below meth c s.heap [] 0 0 (MQ below Qc args s mc ms free) (entryFrame m args maxL)) : Met l y ws rm Pc Qc mc ms free := by
  refine MetFree.of_bodySF (code := cc) (maxLocals := maxL) (ret := ret) hy ?_ ?_
  · intro args s m h hn
    obtain ⟨meth, c, h1, h2, h3, h4, h5, h6, -, -⟩ := Cond.code_spec hn (atoms_spec (ws := ws) h _ (by rw [hw]; exact List.mem_cons_self))
    exact ⟨meth, c, h1, h2, h3, h4, h5, h6⟩
  · intro p e s m args below meth c s₁ B hml hP _
    have hh0 : s₁.heap = s.heap := by rw [B.state]; rfl
    obtain ⟨t, a1, o, b1, b2, b3⟩ := body p e s m args below meth c s₁ B hml hP s₁ hh0 (Stand.of_body B)
    exact ⟨t, o, a1, b1, b2, ⟨b3.1, b3.2⟩⟩
def gz_EI (x : gz_X) (cc : ByteArray) (rt : FieldType) (r : Int32) (M' : gz_M) : Prop := (∀ pc lv, narrow rt (.int r) = .int r → decode cc pc = .ok (.ireturn, 1) → gz_At x pc lv [.int r] M')
theorem gz_ofI {y : MethodName} {rt : FieldType} {r : Int32} {asF : (Nat → Nat) → List Value} {M' : gz_M} (hy : plainFor y = true) (hlen : ∀ ad, (lg_sl (asF ad)).length ≤ nL) (body : ∀ x, gz_Ok x cc y.cls nL d cf pf l → (gx_cells x ≤ (gx_R x).cells ∧ gx_slots x ≤ (gx_R x).slots) → gz_EI x cc rt r M' → gz_At x 0 (lv_args 0 (asF (gx_ad x))) [] M) : gz_CI l cf y cc nL d rt asF pf M r M' := by
  intro D aC ad sz
  refine gz_MetF (cc := cc) (maxL := nL) (ret := some rt) hy rfl ?_
  intro p e s m args below meth c s₁ B hml hv
  obtain ⟨rfl, hsz, hP, hK, hI, hN⟩ := hv
  subst hsz
  have hl := lv_entry (asF ad) (n := nL) (hlen ad)
  rw [lg_entry_eq]
  generalize (lg_sl (asF ad) ++ List.replicate (nL - (lg_sl (asF ad)).length) Slot.unset).toArray = ls at hl ⊢
  let x : gz_X := (p, l, e, (gz_rm d 0 0), s, m, (asF ad).toArray, below, meth, c, MQ below (va_Qi (fun r' (_ : Unit) => r' = r) (fun _ t => gz_mw D gz_cls cf aC ad pf M' t.heap) (gz_A cf ad pf s.heap.size)) (asF ad).toArray s 0 0 (gz_A cf ad pf s.heap.size), gz_A cf ad pf s.heap.size, D, aC, cf, ad, pf, nL, 0, 0, gz_cls)
  have X : gz_Ok x cc y.cls nL d cf pf l := ⟨⟨B.exec, B.bytes, hml, findClass_of_methodNamed B.named, fun w hw => atoms_spec (ws := Cond.code y cc nL (some rt) :: gz_TB) B.pre w (List.mem_cons_of_mem _ hw)⟩, rfl, hK, hI, fun k hk => Or.inl ⟨k, hk, rfl⟩, fun q hq => Or.inr hq, B.notSynchronized, Nat.le_refl _, Nat.le_refl _, hN, rfl, rfl, rfl, rfl⟩
  refine body x X ⟨Nat.le_refl _, Nat.le_refl _⟩ (fun pc lv hnr dg H locs ls h1 h2 h3 => ?_) s.heap [] ls hP va_S.rf hl
  exact W.zret B.exec B.bytes B.returns hnr (fun t ht hW => ⟨⟨r, (), rfl, rfl, by dsimp only; rw [ht]; exact h1⟩, h2.F ht⟩) h2.2.2 dg
def gz_EL (x : gz_X) (cc : ByteArray) (r : Int64) (M' : gz_M) : Prop := (∀ pc lv, decode cc pc = .ok (.lreturn, 1) → gz_At x pc lv [.long r] M')
theorem gz_ofL {y : MethodName} {rt : FieldType} {r : Int64} {asF : (Nat → Nat) → List Value} {M' : gz_M} (hy : plainFor y = true) (hrt : rt = .long) (hlen : ∀ ad, (lg_sl (asF ad)).length ≤ nL) (body : ∀ x, gz_Ok x cc y.cls nL d cf pf l → (gx_cells x ≤ (gx_R x).cells ∧ gx_slots x ≤ (gx_R x).slots) → gz_EL x cc r M' → gz_At x 0 (lv_args 0 (asF (gx_ad x))) [] M) : gz_CL l cf y cc nL d rt asF pf M r M' := by
  intro D aC ad sz
  refine gz_MetF (cc := cc) (maxL := nL) (ret := some rt) hy rfl ?_
  intro p e s m args below meth c s₁ B hml hv
  obtain ⟨rfl, hsz, hP, hK, hI, hN⟩ := hv
  subst hsz
  have hl := lv_entry (asF ad) (n := nL) (hlen ad)
  rw [lg_entry_eq]
  generalize (lg_sl (asF ad) ++ List.replicate (nL - (lg_sl (asF ad)).length) Slot.unset).toArray = ls at hl ⊢
  let x : gz_X := (p, l, e, (gz_rm d 0 0), s, m, (asF ad).toArray, below, meth, c, MQ below (va_Ql (fun r' (_ : Unit) => r' = r) (fun _ t => gz_mw D gz_cls cf aC ad pf M' t.heap) (gz_A cf ad pf s.heap.size)) (asF ad).toArray s 0 0 (gz_A cf ad pf s.heap.size), gz_A cf ad pf s.heap.size, D, aC, cf, ad, pf, nL, 0, 0, gz_cls)
  have X : gz_Ok x cc y.cls nL d cf pf l := ⟨⟨B.exec, B.bytes, hml, findClass_of_methodNamed B.named, fun w hw => atoms_spec (ws := Cond.code y cc nL (some rt) :: gz_TB) B.pre w (List.mem_cons_of_mem _ hw)⟩, rfl, hK, hI, fun k hk => Or.inl ⟨k, hk, rfl⟩, fun q hq => Or.inr hq, B.notSynchronized, Nat.le_refl _, Nat.le_refl _, hN, rfl, rfl, rfl, rfl⟩
  refine body x X ⟨Nat.le_refl _, Nat.le_refl _⟩ (fun pc lv dg H locs ls h1 h2 h3 => ?_) s.heap [] ls hP va_S.rf hl
  exact W.lret B.exec B.bytes (by rw [B.returns, hrt]) (fun t ht hW => ⟨⟨r, (), rfl, rfl, by dsimp only; rw [ht]; exact h1⟩, h2.F ht⟩) h2.2.2 dg
def gz_EV (x : gz_X) (cc : ByteArray) (M' : gz_M) : Prop := (∀ pc lv, decode cc pc = .ok (.return_, 1) → gz_At x pc lv [] M')
theorem gz_ofV {y : MethodName} {asF : (Nat → Nat) → List Value} {M' : gz_M} (hy : plainFor y = true) (hlen : ∀ ad, (lg_sl (asF ad)).length ≤ nL) (body : ∀ x, gz_Ok x cc y.cls nL d cf pf l → (gx_cells x ≤ (gx_R x).cells ∧ gx_slots x ≤ (gx_R x).slots) → gz_EV x cc M' → gz_At x 0 (lv_args 0 (asF (gx_ad x))) [] M) : gz_CV l cf y cc nL d asF pf M M' := by
  intro D aC ad sz
  refine gz_MetF (cc := cc) (maxL := nL) (ret := none) hy rfl ?_
  intro p e s m args below meth c s₁ B hml hv
  obtain ⟨rfl, hsz, hP, hK, hI, hN⟩ := hv
  subst hsz
  have hl := lv_entry (asF ad) (n := nL) (hlen ad)
  rw [lg_entry_eq]
  generalize (lg_sl (asF ad) ++ List.replicate (nL - (lg_sl (asF ad)).length) Slot.unset).toArray = ls at hl ⊢
  let x : gz_X := (p, l, e, (gz_rm d 0 0), s, m, (asF ad).toArray, below, meth, c, MQ below (va_Qv (fun (_ : Unit) => True) (fun _ t => gz_mw D gz_cls cf aC ad pf M' t.heap) (gz_A cf ad pf s.heap.size)) (asF ad).toArray s 0 0 (gz_A cf ad pf s.heap.size), gz_A cf ad pf s.heap.size, D, aC, cf, ad, pf, nL, 0, 0, gz_cls)
  have X : gz_Ok x cc y.cls nL d cf pf l := ⟨⟨B.exec, B.bytes, hml, findClass_of_methodNamed B.named, fun w hw => atoms_spec (ws := Cond.code y cc nL (none) :: gz_TB) B.pre w (List.mem_cons_of_mem _ hw)⟩, rfl, hK, hI, fun k hk => Or.inl ⟨k, hk, rfl⟩, fun q hq => Or.inr hq, B.notSynchronized, Nat.le_refl _, Nat.le_refl _, hN, rfl, rfl, rfl, rfl⟩
  refine body x X ⟨Nat.le_refl _, Nat.le_refl _⟩ (fun pc lv dg H locs ls h1 h2 h3 => ?_) s.heap [] ls hP va_S.rf hl
  exact W.vret B.exec B.bytes B.returns (fun t ht hW => ⟨⟨(), rfl, trivial, by dsimp only; rw [ht]; exact h1⟩, h2.F ht⟩) h2.2.2 dg
theorem gz_EIu {rt : FieldType} {r e : Int32} {M M' : gz_M} {pc : Nat} {lv : List (Nat × Value)} (hE : gz_EI x cc rt r M') (hf : some (e, M) = some (r, M')) (hn : narrow rt (.int e) = .int e) (dg : decode cc pc = .ok (.ireturn, 1)) : gz_At x pc lv [.int e] M := by
  have h := Option.some.inj hf
  have h1 : e = r := congrArg Prod.fst h
  have h2 : M = M' := congrArg Prod.snd h
  subst h1; subst h2
  exact hE _ _ hn dg
theorem gz_ELu {r e : Int64} {M M' : gz_M} {pc : Nat} {lv : List (Nat × Value)} (hE : gz_EL x cc r M') (hf : some (e, M) = some (r, M')) (dg : decode cc pc = .ok (.lreturn, 1)) : gz_At x pc lv [.long e] M := by
  have h := Option.some.inj hf
  have h1 : e = r := congrArg Prod.fst h
  have h2 : M = M' := congrArg Prod.snd h
  subst h1; subst h2
  exact hE _ _ dg
theorem gz_EVu {M M' : gz_M} {pc : Nat} {lv : List (Nat × Value)} (hE : gz_EV x cc M') (hf : some M = some M') (dg : decode cc pc = .ok (.return_, 1)) : gz_At x pc lv [] M := by
  have h := Option.some.inj hf
  subst h
  exact hE _ _ dg
end GC
