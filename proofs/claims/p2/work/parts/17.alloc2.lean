section GA2
def gz_set (x : gz_X) (ad' : Nat → Nat) (pf' : Nat → Bool) (c' s' : Nat) : gz_X := (gx_p x, gx_l x, gx_e x, gx_R x, gx_s x, gx_m x, gx_args x, gx_below x, gx_meth x, gx_c x, gx_Q x, gx_A x, gx_D x, gx_aC x, gx_cf x, ad', pf', gx_nL x, c', s', gx_cl x)
def gz_U (x : gz_X) (u : Nat) : Prop := gx_cells x = 4 * u ∧ gx_slots x = 109 * u ∧ u ≤ 1 ∧ 4 ≤ (gx_R x).cells ∧ 109 ≤ (gx_R x).slots
def gz_St (x x' : gz_X) : Prop := (∃ ad' pf' c' s', x' = gz_set x ad' pf' c' s') ∧ ∀ k, gz_cfC.1 (gx_pf x) k = true → gz_cfC.1 (gx_pf x') k = true ∧ gx_ad x' k = gx_ad x k
theorem gz_U.c {x : gz_X} {u : Nat} (h : gz_U x u) : gx_cells x ≤ (gx_R x).cells ∧ gx_slots x ≤ (gx_R x).slots := by
  obtain ⟨h1, h2, h3, h4, h5⟩ := h
  exact ⟨by omega, by omega⟩
theorem gz_St.rf {x : gz_X} : gz_St x x := ⟨⟨gx_ad x, gx_pf x, gx_cells x, gx_slots x, rfl⟩, fun k h => ⟨h, rfl⟩⟩
theorem gz_St.tr {x y z : gz_X} (h1 : gz_St x y) (h2 : gz_St y z) : gz_St x z := by
  obtain ⟨⟨a1, p1, c1, s1, rfl⟩, h1⟩ := h1
  obtain ⟨⟨a2, p2, c2, s2, rfl⟩, h2⟩ := h2
  exact ⟨⟨a2, p2, c2, s2, rfl⟩, fun k h => ⟨(h2 k (h1 k h).1).1, ((h2 k (h1 k h).1).2).trans (h1 k h).2⟩⟩
variable {x : gz_X} {cc : ByteArray} {own : String} {nL d pc u : Nat} {pf pf' : Nat → Bool} {l : Launch} {lv lv' : List (Nat × Value)} {st : List Value} {M M' : gz_M}
theorem gz_okSet {ad' : Nat → Nat} {c' s' : Nat} (X : gz_Ok x cc own nL d gz_cfC pf l) (h1 : gz_inj gz_cfC ad' pf') (h2 : ∀ k, gz_cfC.1 pf' k = true → gx_A x (ad' k)) : gz_Ok (gz_set x ad' pf' c' s') cc own nL d gz_cfC pf' l := ⟨X.1, X.2.1, X.2.2.1, by show gz_inj (gx_cf x) ad' pf'; rw [X.hcf]; exact h1, by show ∀ k, (gx_cf x).1 pf' k = true → gx_A x (ad' k); rw [X.hcf]; exact h2, X.hA2, X.hlk, X.hfr, X.hlo, X.hN, X.hcf, rfl, X.hl, X.hcl⟩
def gz_BA (D : va_G) (aC : Nat → ClassId) (ad : Nat → Nat) (pf : Nat → Bool) (M : gz_M) (sz : Nat) : State → Prop := fun U => gz_B D gz_cfC aC ad pf M sz U ∧ gc_AO U
def gz_PA (D : va_G) (aC : Nat → ClassId) (ad : Nat → Nat) (pf : Nat → Bool) (sz : Nat) (M' : gz_M) (pf' : Nat → Bool) : (Nat → Nat) → State → Prop := fun ad' t => (∀ k, gz_cfC.1 pf k = true → gz_cfC.1 pf' k = true ∧ ad' k = ad k) ∧ gz_mw D gz_cls gz_cfC aC ad' pf' M' t.heap ∧ gz_inj gz_cfC ad' pf' ∧ ∀ k, gz_cfC.1 pf' k = true → gz_A gz_cfC ad pf sz (ad' k)
def gz_CAI (l : Launch) (y : MethodName) (cc : ByteArray) (nL d : Nat) (rt : FieldType) (asF : (Nat → Nat) → List Value) (pf : Nat → Bool) (M : gz_M) (r : Int32) (M' : gz_M) (pf' : Nat → Bool) : Prop := ∀ D aC ad sz, Met l y (Cond.code y cc nL (some rt) :: gz_TB) (gz_rm d 4 109) (va_Pc (asF ad) (gz_BA D aC ad pf M sz)) (va_Qi (fun r' (_ : Nat → Nat) => r' = r) (gz_PA D aC ad pf sz M' pf') (gz_A gz_cfC ad pf sz)) 4 109 (gz_A gz_cfC ad pf sz)
def gz_CAV (l : Launch) (y : MethodName) (cc : ByteArray) (nL d : Nat) (asF : (Nat → Nat) → List Value) (pf : Nat → Bool) (M : gz_M) (M' : gz_M) (pf' : Nat → Bool) : Prop := ∀ D aC ad sz, Met l y (Cond.code y cc nL none :: gz_TB) (gz_rm d 4 109) (va_Pc (asF ad) (gz_BA D aC ad pf M sz)) (va_Qv (fun (_ : Nat → Nat) => True) (gz_PA D aC ad pf sz M' pf') (gz_A gz_cfC ad pf sz)) 4 109 (gz_A gz_cfC ad pf sz)
def gz_CAR (l : Launch) (y : MethodName) (cc : ByteArray) (nL d : Nat) (rt : FieldType) (asF : (Nat → Nat) → List Value) (pf : Nat → Bool) (M : gz_M) (r : Nat) (M' : gz_M) (pf' : Nat → Bool) : Prop := ∀ D aC ad sz, Met l y (Cond.code y cc nL (some rt) :: gz_TB) (gz_rm d 4 109) (va_Pc (asF ad) (gz_BA D aC ad pf M sz)) (va_Qr (fun (_ : Nat → Nat) => gz_IsX0 pf' r) (fun ad' a t => a = ad' r ∧ gz_PA D aC ad pf sz M' pf' ad' t) (gz_A gz_cfC ad pf sz)) 4 109 (gz_A gz_cfC ad pf sz)
theorem gz_BAblind {av : List Value} {D : va_G} {aC : Nat → ClassId} {ad : Nat → Nat} {sz : Nat} : FrameBlind (va_Pc av (gz_BA D aC ad pf M sz)) := by
  intro a U g mk q
  obtain ⟨q0, ⟨q1, q2, q3, q4, q5⟩, q6⟩ := q
  exact ⟨q0, ⟨q1, q2, va_K.moved (u := U) (U := U.calling g mk a) (Vm.Alike.refl U.vm) q3, q4, gz_Nst.same (u := U) (U := U.calling g mk a) rfl q5⟩, gc_AO.same (u := U) (U := U.calling g mk a) rfl q6⟩
theorem gz_runVA {y : MethodName} {cc2 : ByteArray} {nL2 n index kb d2 ci N mc ms : Nat} {C : String} {T : u_T} {rt : Option FieldType} {Qc : Array Value → State → Outcome → State → Prop} {free : Addr → Prop} {As : List Value} {fs : List Value} {H : Heap} {locs : List Loc} {ls : Array Slot} {stk : List Value} (X : gz_Ok x cc own nL d gz_cfC pf l) (hAO : gc_AO (gx_s x)) (h1 : gz_mw (gx_D x) (gx_cl x) (gx_cf x) (gx_aC x) (gx_ad x) (gx_pf x) M H) (h3 : ls.size = nL) (hM : Met (gx_l x) y (Cond.code y cc2 nL2 rt :: gz_TB) (gz_rm d2 mc ms) (va_Pc (Value.ref (gx_ad x kb) :: As) (gz_BA (gx_D x) (gx_aC x) (gx_ad x) pf M H.size)) Qc mc ms free) (w : gz_WV own index C y cc2 nL2 n rt) (hn : As.length = n) (hk : (gx_cf x).1 (gx_pf x) kb = true) (hc2 : (gx_cf x).2 (gx_aC x) (gx_ad x) (gx_pf x) kb (M.1 kb) M.2 = .inr (ci, fs)) (hc : gz_cls[ci]? = some (C, T, N)) (hd : d2 < d) (hn2 : nL2 ≤ 20) (hst : stk = As.reverse ++ .ref (gx_ad x kb) :: st) (hW : (st.map fun v => v.category).sum ≤ 8) (hf : gx_cells x + mc ≤ (gx_R x).cells ∧ gx_slots x + ms ≤ (gx_R x).slots) (dg : decode cc pc = .ok (.invokevirtual index, 3)) : va_Run (gx_p x) (gx_l x) (gx_e x) (gx_R x) (gx_s x) (gx_m x) (gx_args x) (gx_below x) (gx_meth x) (gx_c x) H locs (gx_cells x) (gx_slots x) mc ms (F0 (gx_m x) pc ls stk) st (Qc (Value.ref (gx_ad x kb) :: As).toArray) free := by
  obtain ⟨w1, w2, w3, w4, w5, w6⟩ := w
  have hP := gz_one h1 hk hc2
  have hc' : (gx_cl x)[ci]? = some (C, T, N) := by rw [X.hcl]; exact hc
  have hp : PreV (gx_s x) H C (gx_ad x kb) (va_Pc (Value.ref (gx_ad x kb) :: As) (gz_BA (gx_D x) (gx_aC x) (gx_ad x) pf M H.size)) As := ⟨gz_BAblind, va_recv X.hK hP (ci := ci) (q0 := 0) hc' rfl, fun U hU hW2 => by
    have h9 := gz_Bat X h1 (av := Value.ref (gx_ad x kb) :: As) hU hW2
    exact ⟨h9.1, h9.2, hAO.warm hW2⟩⟩
  have hR := gz_room (mc := mc) (ms := ms) X hd hn2
  rcases w1 with w1 | ⟨host, w1⟩
  · exact va_runV X.1 hM ⟨callB_of n X.hts (gz_goodIn w5) rfl rfl rfl (X.hts _ w4) (X.hts _ w1) w6 hR, X.hts _ w2, X.hts _ w3⟩ hp rfl hn h3 hst (lv_room hW) dg hf
  · exact va_runVN X.1 hM ⟨va_cnB n X.hts (gz_goodIn w5) rfl rfl rfl (X.hN _ w1) (X.hts _ w4) w6 hR, X.hts _ w2, X.hts _ w3⟩ hp rfl hn h3 hst (lv_room hW) dg hf
theorem gz_step {ad' : Nat → Nat} {H1 : Heap} {sz : Nat} {t : State} (X : gz_Ok x cc own nL d gz_cfC pf l) (hu : gz_U x u) (hu1 : u + 1 ≤ 1) (hA : ∀ q, gz_A gz_cfC (gx_ad x) pf sz q → gx_A x q) (hB : gz_PA (gx_D x) (gx_aC x) (gx_ad x) pf sz M' pf' ad' t) (ht : t.heap = H1) : gz_St x (gz_set x ad' pf' (gx_cells x + 4) (gx_slots x + 109)) ∧ gz_Ok (gz_set x ad' pf' (gx_cells x + 4) (gx_slots x + 109)) cc own nL d gz_cfC pf' l ∧ gz_U (gz_set x ad' pf' (gx_cells x + 4) (gx_slots x + 109)) (u + 1) ∧ gz_mw (gx_D x) (gx_cl x) (gx_cf x) (gx_aC x) ad' pf' M' H1 := by
  obtain ⟨p1, p2, p3, p4⟩ := hB
  obtain ⟨u1, u2, u3, u4, u5⟩ := hu
  refine ⟨⟨⟨ad', pf', _, _, rfl⟩, fun k hk => p1 k (by rw [← X.hpf]; exact hk)⟩, gz_okSet X p3 (fun k hk => hA _ (p4 k hk)), ⟨?_, ?_, hu1, u4, u5⟩, ?_⟩
  · show gx_cells x + 4 = 4 * (u + 1)
    omega
  · show gx_slots x + 109 = 109 * (u + 1)
    omega
  · rw [X.hcl, X.hcf, ← ht]; exact p2
theorem gz_uf (hu : gz_U x u) (hu1 : u + 1 ≤ 1) : gx_cells x + 4 ≤ (gx_R x).cells ∧ gx_slots x + 109 ≤ (gx_R x).slots := by
  obtain ⟨u1, u2, u3, u4, u5⟩ := hu
  exact ⟨by omega, by omega⟩
theorem gr_callAI {y : MethodName} {cc2 : ByteArray} {nL2 n index kb d2 ci N : Nat} {C : String} {T : u_T} {rt : FieldType} {r : Int32} {asF : (Nat → Nat) → List Value} {fs : List Value} {stk : List Value} (As : List Value) (X : gz_Ok x cc own nL d gz_cfC pf l) (hAO : gc_AO (gx_s x)) (hu : gz_U x u) (hu1 : u + 1 ≤ 1) (hM : gz_CAI l y cc2 nL2 d2 rt asF pf M r M' pf') (has : asF (gx_ad x) = .ref (gx_ad x kb) :: As) (w : gz_WV own index C y cc2 nL2 n (some rt)) (hn : As.length = n) (hk : (gx_cf x).1 (gx_pf x) kb = true) (hc2 : (gx_cf x).2 (gx_aC x) (gx_ad x) (gx_pf x) kb (M.1 kb) M.2 = .inr (ci, fs)) (hc : gz_cls[ci]? = some (C, T, N)) (hd : d2 < d) (hn2 : nL2 ≤ 20) (hst : stk = As.reverse ++ .ref (gx_ad x kb) :: st) (hW : (st.map fun v => v.category).sum ≤ 8) (dg : decode cc pc = .ok (.invokevirtual index, 3)) (kk : ∀ x', gz_St x x' → gz_Ok x' cc own nL d gz_cfC pf' l → gz_U x' (u + 1) → gz_At x' (pc + 3) lv (.int r :: st) M') : gz_At x pc lv stk M := by
  intro H locs ls h1 h2 h3
  have hM1 := hM (gx_D x) (gx_aC x) (gx_ad x) H.size
  rw [has, ← X.hl] at hM1
  refine va_calli (gz_runVA (locs := locs) X hAO h1 (h3.1.trans X.hnL) hM1 w hn hk hc2 hc hd hn2 hst hW (gz_uf hu hu1) dg) h2 (fun q _ h => gz_free X h2 q h) (gz_free X h2) (fun r u9 t H1 locs1 ht hvm hw hB hz hk hS => ?_)
  subst hw
  obtain ⟨g1, g2, g3, g4⟩ := gz_step X hu hu1 (gz_free X h2) hB ht
  exact kk _ g1 g2 g3 H1 locs1 ls g4 hS h3
theorem gr_callAV {y : MethodName} {cc2 : ByteArray} {nL2 n index kb d2 ci N : Nat} {C : String} {T : u_T} {asF : (Nat → Nat) → List Value} {fs : List Value} {stk : List Value} (As : List Value) (X : gz_Ok x cc own nL d gz_cfC pf l) (hAO : gc_AO (gx_s x)) (hu : gz_U x u) (hu1 : u + 1 ≤ 1) (hM : gz_CAV l y cc2 nL2 d2 asF pf M M' pf') (has : asF (gx_ad x) = .ref (gx_ad x kb) :: As) (w : gz_WV own index C y cc2 nL2 n (none)) (hn : As.length = n) (hk : (gx_cf x).1 (gx_pf x) kb = true) (hc2 : (gx_cf x).2 (gx_aC x) (gx_ad x) (gx_pf x) kb (M.1 kb) M.2 = .inr (ci, fs)) (hc : gz_cls[ci]? = some (C, T, N)) (hd : d2 < d) (hn2 : nL2 ≤ 20) (hst : stk = As.reverse ++ .ref (gx_ad x kb) :: st) (hW : (st.map fun v => v.category).sum ≤ 8) (dg : decode cc pc = .ok (.invokevirtual index, 3)) (kk : ∀ x', gz_St x x' → gz_Ok x' cc own nL d gz_cfC pf' l → gz_U x' (u + 1) → gz_At x' (pc + 3) lv (st) M') : gz_At x pc lv stk M := by
  intro H locs ls h1 h2 h3
  have hM1 := hM (gx_D x) (gx_aC x) (gx_ad x) H.size
  rw [has, ← X.hl] at hM1
  refine va_callv (gz_runVA (locs := locs) X hAO h1 (h3.1.trans X.hnL) hM1 w hn hk hc2 hc hd hn2 hst hW (gz_uf hu hu1) dg) h2 (fun q _ h => gz_free X h2 q h) (gz_free X h2) (fun u9 t H1 locs1 ht hvm hw hB hz hk hS => ?_)
  obtain ⟨g1, g2, g3, g4⟩ := gz_step X hu hu1 (gz_free X h2) hB ht
  exact kk _ g1 g2 g3 H1 locs1 ls g4 hS h3
theorem gr_callAR {y : MethodName} {cc2 : ByteArray} {nL2 n index kb d2 ci N : Nat} {C : String} {T : u_T} {rt : FieldType} {r : Nat} {asF : (Nat → Nat) → List Value} {fs : List Value} {stk : List Value} (As : List Value) (X : gz_Ok x cc own nL d gz_cfC pf l) (hAO : gc_AO (gx_s x)) (hu : gz_U x u) (hu1 : u + 1 ≤ 1) (hM : gz_CAR l y cc2 nL2 d2 rt asF pf M r M' pf') (has : asF (gx_ad x) = .ref (gx_ad x kb) :: As) (w : gz_WV own index C y cc2 nL2 n (some rt)) (hn : As.length = n) (hk : (gx_cf x).1 (gx_pf x) kb = true) (hc2 : (gx_cf x).2 (gx_aC x) (gx_ad x) (gx_pf x) kb (M.1 kb) M.2 = .inr (ci, fs)) (hc : gz_cls[ci]? = some (C, T, N)) (hd : d2 < d) (hn2 : nL2 ≤ 20) (hst : stk = As.reverse ++ .ref (gx_ad x kb) :: st) (hW : (st.map fun v => v.category).sum ≤ 8) (dg : decode cc pc = .ok (.invokevirtual index, 3)) (kk : ∀ x', gz_St x x' → gz_Ok x' cc own nL d gz_cfC pf' l → gz_U x' (u + 1) → gz_IsX0 pf' r → gz_At x' (pc + 3) lv (.ref (gx_ad x' r) :: st) M') : gz_At x pc lv stk M := by
  intro H locs ls h1 h2 h3
  have hM1 := hM (gx_D x) (gx_aC x) (gx_ad x) H.size
  rw [has, ← X.hl] at hM1
  refine va_callr (gz_runVA (locs := locs) X hAO h1 (h3.1.trans X.hnL) hM1 w hn hk hc2 hc hd hn2 hst hW (gz_uf hu hu1) dg) h2 (fun q _ h => gz_free X h2 q h) (gz_free X h2) (fun u9 ra t H1 locs1 ht hvm hw hB hz hk hS => ?_)
  obtain ⟨rfl, hB⟩ := hB
  obtain ⟨g1, g2, g3, g4⟩ := gz_step X hu hu1 (gz_free X h2) hB ht
  exact kk _ g1 g2 g3 hw H1 locs1 ls g4 hS h3
def gz_EAI (x : gz_X) (cc : ByteArray) (rt : FieldType) (r : Int32) (M' : gz_M) (pf' : Nat → Bool) : Prop := ∀ x' u own nL d l pc lv, gz_St x x' → gz_Ok x' cc own nL d gz_cfC pf' l → gz_U x' u → narrow rt (.int r) = .int r → decode cc pc = .ok (.ireturn, 1) → gz_At x' pc lv [.int r] M'
theorem gz_EAI.stp {x1 : gz_X} {rt : FieldType} {r : Int32} (hE : gz_EAI x cc rt r M' pf') (h : gz_St x x1) : gz_EAI x1 cc rt r M' pf' := fun x' u own nL d l pc lv h' => hE x' u own nL d l pc lv (h.tr h')
theorem gz_EAIu {rt : FieldType} {r e : Int32} (X : gz_Ok x cc own nL d gz_cfC pf l) (hu : gz_U x u) (hE : gz_EAI x cc rt r M' pf') (hf : some (e, M, pf) = some (r, M', pf')) (hn : narrow rt (.int e) = .int e) (dg : decode cc pc = .ok (.ireturn, 1)) : gz_At x pc lv [.int e] M := by
  have h := Option.some.inj hf
  have h1 : e = r := congrArg Prod.fst h
  have h2 : M = M' := congrArg (fun q => q.2.1) h
  have h3 : pf = pf' := congrArg (fun q => q.2.2) h
  subst h1; subst h2; subst h3
  exact hE x u _ _ _ _ _ _ gz_St.rf X hu hn dg
theorem gz_ofAI {y : MethodName} {rt : FieldType} {r : Int32} {asF : (Nat → Nat) → List Value} (hy : plainFor y = true) (hlen : ∀ ad, (lg_sl (asF ad)).length ≤ nL) (body : ∀ x, gz_Ok x cc y.cls nL d gz_cfC pf l → gc_AO (gx_s x) → gz_U x 0 → gz_EAI x cc rt r M' pf' → gz_At x 0 (lv_args 0 (asF (gx_ad x))) [] M) : gz_CAI l y cc nL d rt asF pf M r M' pf' := by
  intro D aC ad sz
  refine gz_MetF (cc := cc) (maxL := nL) (ret := some rt) hy rfl ?_
  intro p e s9 m args below meth c s₁ B hml hv
  obtain ⟨rfl, ⟨hsz, hP, hK, hI, hN⟩, hAO⟩ := hv
  subst hsz
  have hl := lv_entry (asF ad) (n := nL) (hlen ad)
  rw [lg_entry_eq]
  generalize (lg_sl (asF ad) ++ List.replicate (nL - (lg_sl (asF ad)).length) Slot.unset).toArray = ls at hl ⊢
  let x : gz_X := (p, l, e, (gz_rm d 4 109), s9, m, (asF ad).toArray, below, meth, c, MQ below (va_Qi (fun r' (_ : Nat → Nat) => r' = r) (gz_PA D aC ad pf s9.heap.size M' pf') (gz_A gz_cfC ad pf s9.heap.size)) (asF ad).toArray s9 4 109 (gz_A gz_cfC ad pf s9.heap.size), gz_A gz_cfC ad pf s9.heap.size, D, aC, gz_cfC, ad, pf, nL, 0, 0, gz_cls)
  have X : gz_Ok x cc y.cls nL d gz_cfC pf l := ⟨⟨B.exec, B.bytes, hml, findClass_of_methodNamed B.named, fun w hw => atoms_spec (ws := Cond.code y cc nL (some rt) :: gz_TB) B.pre w (List.mem_cons_of_mem _ hw)⟩, rfl, hK, hI, fun k hk => Or.inl ⟨k, hk, rfl⟩, fun q hq => Or.inr hq, B.notSynchronized, Nat.le_refl _, Nat.le_refl _, hN, rfl, rfl, rfl, rfl⟩
  refine body x X hAO ⟨rfl, rfl, by decide, Nat.le_refl _, Nat.le_refl _⟩ (fun x' u own nL d l' pc lv hst hok hu hn dg H locs ls h1 h2 h3 => ?_) s9.heap [] ls hP va_S.rf hl
  obtain ⟨⟨ad', pf1, c', s', rfl⟩, hst⟩ := hst
  obtain rfl : pf1 = pf' := hok.hpf
  obtain ⟨u1, u2, u3, -, -⟩ := hu
  have u1 : c' = 4 * u := u1
  have u2 : s' = 109 * u := u2
  have hpa : ∀ t : State, t.heap = H → gz_PA D aC ad pf s9.heap.size M' pf1 ad' t := fun t ht => ⟨hst, by rw [ht]; exact h1, hok.hinj, hok.hA⟩
  exact W.widen (k := 4) (n := 109) (by show c' ≤ 4; omega) (by show s' ≤ 109; omega) (W.zret B.exec B.bytes B.returns hn (fun t ht hW => ⟨⟨r, ad', rfl, rfl, hpa t ht⟩, h2.F ht⟩) h2.2.2 dg)
def gz_EAV (x : gz_X) (cc : ByteArray) (M' : gz_M) (pf' : Nat → Bool) : Prop := ∀ x' u own nL d l pc lv, gz_St x x' → gz_Ok x' cc own nL d gz_cfC pf' l → gz_U x' u → decode cc pc = .ok (.return_, 1) → gz_At x' pc lv [] M'
theorem gz_EAV.stp {x1 : gz_X} (hE : gz_EAV x cc M' pf') (h : gz_St x x1) : gz_EAV x1 cc M' pf' := fun x' u own nL d l pc lv h' => hE x' u own nL d l pc lv (h.tr h')
theorem gz_EAVu (X : gz_Ok x cc own nL d gz_cfC pf l) (hu : gz_U x u) (hE : gz_EAV x cc M' pf') (hf : some (M, pf) = some (M', pf')) (dg : decode cc pc = .ok (.return_, 1)) : gz_At x pc lv [] M := by
  have h := Option.some.inj hf
  have h2 : M = M' := congrArg Prod.fst h
  have h3 : pf = pf' := congrArg Prod.snd h
  subst h2; subst h3
  exact hE x u _ _ _ _ _ _ gz_St.rf X hu dg
theorem gz_ofAV {y : MethodName} {asF : (Nat → Nat) → List Value} (hy : plainFor y = true) (hlen : ∀ ad, (lg_sl (asF ad)).length ≤ nL) (body : ∀ x, gz_Ok x cc y.cls nL d gz_cfC pf l → gc_AO (gx_s x) → gz_U x 0 → gz_EAV x cc M' pf' → gz_At x 0 (lv_args 0 (asF (gx_ad x))) [] M) : gz_CAV l y cc nL d asF pf M M' pf' := by
  intro D aC ad sz
  refine gz_MetF (cc := cc) (maxL := nL) (ret := none) hy rfl ?_
  intro p e s9 m args below meth c s₁ B hml hv
  obtain ⟨rfl, ⟨hsz, hP, hK, hI, hN⟩, hAO⟩ := hv
  subst hsz
  have hl := lv_entry (asF ad) (n := nL) (hlen ad)
  rw [lg_entry_eq]
  generalize (lg_sl (asF ad) ++ List.replicate (nL - (lg_sl (asF ad)).length) Slot.unset).toArray = ls at hl ⊢
  let x : gz_X := (p, l, e, (gz_rm d 4 109), s9, m, (asF ad).toArray, below, meth, c, MQ below (va_Qv (fun (_ : Nat → Nat) => True) (gz_PA D aC ad pf s9.heap.size M' pf') (gz_A gz_cfC ad pf s9.heap.size)) (asF ad).toArray s9 4 109 (gz_A gz_cfC ad pf s9.heap.size), gz_A gz_cfC ad pf s9.heap.size, D, aC, gz_cfC, ad, pf, nL, 0, 0, gz_cls)
  have X : gz_Ok x cc y.cls nL d gz_cfC pf l := ⟨⟨B.exec, B.bytes, hml, findClass_of_methodNamed B.named, fun w hw => atoms_spec (ws := Cond.code y cc nL (none) :: gz_TB) B.pre w (List.mem_cons_of_mem _ hw)⟩, rfl, hK, hI, fun k hk => Or.inl ⟨k, hk, rfl⟩, fun q hq => Or.inr hq, B.notSynchronized, Nat.le_refl _, Nat.le_refl _, hN, rfl, rfl, rfl, rfl⟩
  refine body x X hAO ⟨rfl, rfl, by decide, Nat.le_refl _, Nat.le_refl _⟩ (fun x' u own nL d l' pc lv hst hok hu dg H locs ls h1 h2 h3 => ?_) s9.heap [] ls hP va_S.rf hl
  obtain ⟨⟨ad', pf1, c', s', rfl⟩, hst⟩ := hst
  obtain rfl : pf1 = pf' := hok.hpf
  obtain ⟨u1, u2, u3, -, -⟩ := hu
  have u1 : c' = 4 * u := u1
  have u2 : s' = 109 * u := u2
  have hpa : ∀ t : State, t.heap = H → gz_PA D aC ad pf s9.heap.size M' pf1 ad' t := fun t ht => ⟨hst, by rw [ht]; exact h1, hok.hinj, hok.hA⟩
  exact W.widen (k := 4) (n := 109) (by show c' ≤ 4; omega) (by show s' ≤ 109; omega) (W.vret B.exec B.bytes B.returns (fun t ht hW => ⟨⟨ad', rfl, trivial, hpa t ht⟩, h2.F ht⟩) h2.2.2 dg)
def gz_EAR (x : gz_X) (cc : ByteArray) (r : Nat) (M' : gz_M) (pf' : Nat → Bool) : Prop := ∀ x' u own nL d l pc lv, gz_St x x' → gz_Ok x' cc own nL d gz_cfC pf' l → gz_U x' u → gz_IsX0 pf' r → decode cc pc = .ok (.areturn, 1) → gz_At x' pc lv [.ref (gx_ad x' r)] M'
theorem gz_EAR.stp {x1 : gz_X} {r : Nat} (hE : gz_EAR x cc r M' pf') (h : gz_St x x1) : gz_EAR x1 cc r M' pf' := fun x' u own nL d l pc lv h' => hE x' u own nL d l pc lv (h.tr h')
theorem gz_EARu {r e : Nat} (X : gz_Ok x cc own nL d gz_cfC pf l) (hu : gz_U x u) (hE : gz_EAR x cc r M' pf') (hf : some (e, M, pf) = some (r, M', pf')) (hi : gz_IsX0 pf e) (dg : decode cc pc = .ok (.areturn, 1)) : gz_At x pc lv [.ref (gx_ad x e)] M := by
  have h := Option.some.inj hf
  have h1 : e = r := congrArg Prod.fst h
  have h2 : M = M' := congrArg (fun q => q.2.1) h
  have h3 : pf = pf' := congrArg (fun q => q.2.2) h
  subst h1; subst h2; subst h3
  exact hE x u _ _ _ _ _ _ gz_St.rf X hu hi dg
theorem gz_ofAR {y : MethodName} {rt : FieldType} {r : Nat} {asF : (Nat → Nat) → List Value} (hy : plainFor y = true) (hrt : (∃ n, rt = .object n) ∨ ∃ t, rt = .array t) (hlen : ∀ ad, (lg_sl (asF ad)).length ≤ nL) (body : ∀ x, gz_Ok x cc y.cls nL d gz_cfC pf l → gc_AO (gx_s x) → gz_U x 0 → gz_EAR x cc r M' pf' → gz_At x 0 (lv_args 0 (asF (gx_ad x))) [] M) : gz_CAR l y cc nL d rt asF pf M r M' pf' := by
  intro D aC ad sz
  refine gz_MetF (cc := cc) (maxL := nL) (ret := some rt) hy rfl ?_
  intro p e s9 m args below meth c s₁ B hml hv
  obtain ⟨rfl, ⟨hsz, hP, hK, hI, hN⟩, hAO⟩ := hv
  subst hsz
  have hl := lv_entry (asF ad) (n := nL) (hlen ad)
  rw [lg_entry_eq]
  generalize (lg_sl (asF ad) ++ List.replicate (nL - (lg_sl (asF ad)).length) Slot.unset).toArray = ls at hl ⊢
  let x : gz_X := (p, l, e, (gz_rm d 4 109), s9, m, (asF ad).toArray, below, meth, c, MQ below (va_Qr (fun (_ : Nat → Nat) => gz_IsX0 pf' r) (fun ad' a t => a = ad' r ∧ gz_PA D aC ad pf s9.heap.size M' pf' ad' t) (gz_A gz_cfC ad pf s9.heap.size)) (asF ad).toArray s9 4 109 (gz_A gz_cfC ad pf s9.heap.size), gz_A gz_cfC ad pf s9.heap.size, D, aC, gz_cfC, ad, pf, nL, 0, 0, gz_cls)
  have X : gz_Ok x cc y.cls nL d gz_cfC pf l := ⟨⟨B.exec, B.bytes, hml, findClass_of_methodNamed B.named, fun w hw => atoms_spec (ws := Cond.code y cc nL (some rt) :: gz_TB) B.pre w (List.mem_cons_of_mem _ hw)⟩, rfl, hK, hI, fun k hk => Or.inl ⟨k, hk, rfl⟩, fun q hq => Or.inr hq, B.notSynchronized, Nat.le_refl _, Nat.le_refl _, hN, rfl, rfl, rfl, rfl⟩
  refine body x X hAO ⟨rfl, rfl, by decide, Nat.le_refl _, Nat.le_refl _⟩ (fun x' u own nL d l' pc lv hst hok hu hi dg H locs ls h1 h2 h3 => ?_) s9.heap [] ls hP va_S.rf hl
  obtain ⟨⟨ad', pf1, c', s', rfl⟩, hst⟩ := hst
  obtain rfl : pf1 = pf' := hok.hpf
  obtain ⟨u1, u2, u3, -, -⟩ := hu
  have u1 : c' = 4 * u := u1
  have u2 : s' = 109 * u := u2
  have hpa : ∀ t : State, t.heap = H → gz_PA D aC ad pf s9.heap.size M' pf1 ad' t := fun t ht => ⟨hst, by rw [ht]; exact h1, hok.hinj, hok.hA⟩
  exact W.widen (k := 4) (n := 109) (by show c' ≤ 4; omega) (by show s' ≤ 109; omega) (W.aret B.exec B.bytes B.returns hrt (Or.inr ⟨_, rfl⟩) (fun t ht hW => ⟨⟨ad', ad' r, rfl, hi, rfl, hpa t ht⟩, h2.F ht⟩) h2.2.2 dg)
end GA2
