abbrev gz_ES : String := "java/util/NoSuchElementException"
abbrev gz_EN : List String := ["java/lang/RuntimeException", "java/lang/Exception"]
def gz_at0 : List Cond := vx_at0 "LongestTokens" 153 gz_ES gz_EN
def gz_XB : List Cond := gz_at0.filter fun w => !goodWord w
theorem gz_XBis : gz_XB.all (fun w => match w with | .castable _ _ => true | .declares _ => true | _ => false) = true := by decide +kernel
theorem gz_hat : gz_at0.all (fun w => decide (w ∈ gz_TB) || !goodWord w) = true := by decide +kernel
theorem gz_hat3 : (Cond.classLink "LongestTokens" 151 gz_ES :: Cond.initialized gz_ES :: gz_at0).all vx_ot = true := by decide +kernel
theorem gz_hk : Cond.classLink "LongestTokens" 151 gz_ES ∈ gz_TB := List.mem_filter.mpr (by decide +kernel)
theorem gz_hi : Cond.initialized gz_ES ∈ gz_TB := List.mem_filter.mpr (by decide +kernel)
def gz_Xst (U : State) : Prop := ∀ w ∈ gz_XB, va_Nw w U
theorem gz_XBot {w : Cond} (hw : w ∈ gz_XB) : w.onTables = true := by
  have h := List.all_eq_true.mp gz_XBis w hw
  cases w <;> first | rfl | cases h
theorem gz_Xst.warm {s U : State} (hW : s.WarmedH U.vm) (h : gz_Xst s) : gz_Xst U := by
  intro w hw
  have h0 := h w hw
  have h1 := List.all_eq_true.mp gz_XBis w hw
  cases w <;> first | exact va_Nw.warmD hW h0 | exact va_Nw.warmC hW h0 | cases h1
theorem gz_Xst.same {u U : State} (hv : u.vm = U.vm) (h : gz_Xst u) : gz_Xst U := fun w hw => va_Nw.same (gz_XBot hw) hv (h w hw)
/-- the two rows of Throwable's own that a new thing takes -/
def gz_Th (A : Nat → Prop) (U : State) (H : Heap) : Prop := vx_Zq Bundle.tN "UNASSIGNED_STACK" Bundle.steD A U H ∧ vx_Zq Bundle.tN "SUPPRESSED_SENTINEL" Bundle.listD A U H
def gz_BX (D : va_G) (cf : gz_CF) (aC : Nat → ClassId) (ad : Nat → Nat) (pf : Nat → Bool) (M : gz_M) (sz : Nat) : State → Prop := fun U => gz_B D cf aC ad pf M sz U ∧ gz_Xst U ∧ gz_Th (gz_A cf ad pf sz) U U.heap
def gz_CIX (l : Launch) (cf : gz_CF) (y : MethodName) (cc : ByteArray) (nL d : Nat) (rt : FieldType) (asF : (Nat → Nat) → List Value) (pf : Nat → Bool) (M : gz_M) (r : Option Int32) (M' : gz_M) : Prop := ∀ D aC ad sz, vx_Met l y (Cond.code y cc nL (some rt) :: gz_TB) (gz_rm d 1 6) (va_Pc (asF ad) (gz_BX D cf aC ad pf M sz)) (va_Qi (fun r' (_ : Unit) => r = some r') (fun _ t => gz_mw D gz_cls cf aC ad pf M' t.heap) (gz_A cf ad pf sz)) (vx_X (fun (_ : Unit) => r = none) (fun E _ t => E = gz_ES ∧ gz_mw D gz_cls cf aC ad pf M' t.heap) (gz_A cf ad pf sz)) 1 6 (gz_A cf ad pf sz)
def gz_CLX (l : Launch) (cf : gz_CF) (y : MethodName) (cc : ByteArray) (nL d : Nat) (rt : FieldType) (asF : (Nat → Nat) → List Value) (pf : Nat → Bool) (M : gz_M) (r : Option Int64) (M' : gz_M) : Prop := ∀ D aC ad sz, vx_Met l y (Cond.code y cc nL (some rt) :: gz_TB) (gz_rm d 1 6) (va_Pc (asF ad) (gz_BX D cf aC ad pf M sz)) (va_Ql (fun r' (_ : Unit) => r = some r') (fun _ t => gz_mw D gz_cls cf aC ad pf M' t.heap) (gz_A cf ad pf sz)) (vx_X (fun (_ : Unit) => r = none) (fun E _ t => E = gz_ES ∧ gz_mw D gz_cls cf aC ad pf M' t.heap) (gz_A cf ad pf sz)) 1 6 (gz_A cf ad pf sz)
section GX
variable {x : gz_X} {cc : ByteArray} {own : String} {nL d : Nat} {cf : gz_CF} {pf : Nat → Bool} {l : Launch} {M : gz_M} {pc : Nat} {lv : List (Nat × Value)}
def gz_ET (x : gz_X) (cc : ByteArray) (M' : gz_M) : Prop := ∀ pc lv, decode cc pc = .ok (.new 151, 3) → decode cc (pc + 3) = .ok (.dup, 1) → decode cc (pc + 4) = .ok (.invokespecial 153, 3) → decode cc (pc + 7) = .ok (.athrow, 1) → gz_At x pc lv [] M'
def gz_EIX (x : gz_X) (cc : ByteArray) (rt : FieldType) (r : Option Int32) (M' : gz_M) : Prop := (∀ v, r = some v → gz_EI x cc rt v M') ∧ (r = none → gz_ET x cc M')
def gz_ELX (x : gz_X) (cc : ByteArray) (r : Option Int64) (M' : gz_M) : Prop := (∀ v, r = some v → gz_EL x cc v M') ∧ (r = none → gz_ET x cc M')
theorem gz_EXu {rt : FieldType} {r : Option Int32} {e : Int32} {M M' : gz_M} {pc : Nat} {lv : List (Nat × Value)} (hE : gz_EIX x cc rt r M') (hf : some (some e, M) = some (r, M')) (hn : narrow rt (.int e) = .int e) (dg : decode cc pc = .ok (.ireturn, 1)) : gz_At x pc lv [.int e] M := by
  have h := Option.some.inj hf
  have h1 : some e = r := congrArg Prod.fst h
  have h2 : M = M' := congrArg Prod.snd h
  subst h2
  exact hE.1 e h1.symm _ _ hn dg
theorem gz_EXLu {r : Option Int64} {e : Int64} {M M' : gz_M} {pc : Nat} {lv : List (Nat × Value)} (hE : gz_ELX x cc r M') (hf : some (some e, M) = some (r, M')) (dg : decode cc pc = .ok (.lreturn, 1)) : gz_At x pc lv [.long e] M := by
  have h := Option.some.inj hf
  have h1 : some e = r := congrArg Prod.fst h
  have h2 : M = M' := congrArg Prod.snd h
  subst h2
  exact hE.1 e h1.symm _ _ dg
theorem gz_ETu {rt : FieldType} {r : Option Int32} {M M' : gz_M} {pc : Nat} {lv : List (Nat × Value)} (hE : gz_EIX x cc rt r M') (hf : some ((none : Option Int32), M) = some (r, M')) (d0 : decode cc pc = .ok (.new 151, 3)) (d3 : decode cc (pc + 3) = .ok (.dup, 1)) (d4 : decode cc (pc + 4) = .ok (.invokespecial 153, 3)) (d7 : decode cc (pc + 7) = .ok (.athrow, 1)) : gz_At x pc lv [] M := by
  have h := Option.some.inj hf
  have h1 : none = r := congrArg Prod.fst h
  have h2 : M = M' := congrArg Prod.snd h
  subst h2
  exact hE.2 h1.symm _ _ d0 d3 d4 d7
theorem gz_ETLu {r : Option Int64} {M M' : gz_M} {pc : Nat} {lv : List (Nat × Value)} (hE : gz_ELX x cc r M') (hf : some ((none : Option Int64), M) = some (r, M')) (d0 : decode cc pc = .ok (.new 151, 3)) (d3 : decode cc (pc + 3) = .ok (.dup, 1)) (d4 : decode cc (pc + 4) = .ok (.invokespecial 153, 3)) (d7 : decode cc (pc + 7) = .ok (.athrow, 1)) : gz_At x pc lv [] M := by
  have h := Option.some.inj hf
  have h1 : none = r := congrArg Prod.fst h
  have h2 : M = M' := congrArg Prod.snd h
  subst h2
  exact hE.2 h1.symm _ _ d0 d3 d4 d7
theorem gz_hatAt {s : State} {args : Array Value} (hT : ∀ w ∈ gz_TB, w.before args s = true) (hX : gz_Xst s) : ∀ w ∈ gz_at0, w.before args s = true := by
  intro w hw
  by_cases g : goodWord w = true
  · have h := List.all_eq_true.mp gz_hat w hw
    rw [g] at h
    exact hT w (by simpa using h)
  · have hx : w ∈ gz_XB := List.mem_filter.mpr ⟨hw, by simpa using g⟩
    exact va_Nw.use (gz_XBot hx) (hX w hx)
theorem gz_ofIX {y : MethodName} {rt : FieldType} {r : Option Int32} {asF : (Nat → Nat) → List Value} {M' : gz_M} (hl9 : l.stackTraces = false) (hy : plainName y.cls = true) (hown : y.cls = "LongestTokens") (hd : 6 ≤ d) (hlen : ∀ ad, (lg_sl (asF ad)).length ≤ nL) (body : ∀ x, gz_Ok x cc y.cls nL d cf pf l → (gx_cells x ≤ (gx_R x).cells ∧ gx_slots x ≤ (gx_R x).slots) → gz_EIX x cc rt r M' → gz_At x 0 (lv_args 0 (asF (gx_ad x))) [] M) : gz_CIX l cf y cc nL d rt asF pf M r M' := by
  intro D aC ad sz
  refine vx_ofW (cc := cc) (maxL := nL) (ret := some rt) hy rfl ?_
  intro p e s m args below meth c s₁ B hml htb hv
  obtain ⟨rfl, ⟨hsz, hP, hK, hI, hN⟩, hXs, hTh⟩ := hv
  subst hsz
  have hl := lv_entry (asF ad) (n := nL) (hlen ad)
  rw [lg_entry_eq]
  generalize (lg_sl (asF ad) ++ List.replicate (nL - (lg_sl (asF ad)).length) Slot.unset).toArray = ls at hl ⊢
  let x : gz_X := (p, l, e, (gz_rm d 1 6), s, m, (asF ad).toArray, below, meth, c, vx_MQ below (va_Qi (fun r' (_ : Unit) => r = some r') (fun _ t => gz_mw D gz_cls cf aC ad pf M' t.heap) (gz_A cf ad pf s.heap.size)) (vx_X (fun (_ : Unit) => r = none) (fun E _ t => E = gz_ES ∧ gz_mw D gz_cls cf aC ad pf M' t.heap) (gz_A cf ad pf s.heap.size)) (asF ad).toArray s 1 6 (gz_A cf ad pf s.heap.size), gz_A cf ad pf s.heap.size, D, aC, cf, ad, pf, nL, 0, 0, gz_cls)
  have hts : ∀ w ∈ gz_TB, w.before (asF ad).toArray s = true := fun w hw => atoms_spec (ws := Cond.code y cc nL (some rt) :: gz_TB) B.pre w (List.mem_cons_of_mem _ hw)
  have hfc : s.vm.findClass y.cls = some m.cls := findClass_of_methodNamed B.named
  have X : gz_Ok x cc y.cls nL d cf pf l := ⟨⟨B.exec, B.bytes, hml, hfc, hts⟩, rfl, hK, hI, fun k hk => Or.inl ⟨k, hk, rfl⟩, fun q hq => Or.inr hq, B.notSynchronized, Nat.le_refl _, Nat.le_refl _, hN, rfl, rfl, rfl, rfl⟩
  refine body x X ⟨Nat.zero_le _, Nat.zero_le _⟩ ⟨fun v hv pc lv hnr dg H locs ls h1 h2 h3 => ?_, fun hr pc lv d0 d3 d4 d7 H locs ls h1 h2 h3 => ?_⟩ s.heap [] ls hP va_S.rf hl
  · refine vx_ret ?_
    exact W.widen (k := 1) (n := 6) (Nat.zero_le _) (Nat.zero_le _) (W.zret B.exec B.bytes B.returns hnr (fun t ht hW => ⟨⟨v, (), rfl, hv, by dsimp only; rw [ht]; exact h1⟩, h2.F ht⟩) h2.2.2 dg)
  · refine vx_throw0 (A := gz_A cf ad pf s.heap.size) (own := "LongestTokens") (cls := gz_ES) (names := gz_EN) (ik := 151) (ic := 153) B.exec B.bytes hl9 (by rw [← hown]; exact hfc) (by decide +kernel) (by decide +kernel) (hts _ gz_hk) (hts _ gz_hi) (gz_hatAt hts hXs) (List.all_eq_true.mp gz_hat3) hTh.1 hTh.2 h2 (h3.1.trans hml.symm) d0 d3 d4 d7 (fun z hz => absurd hz (htb z)) ?_ ?_ (Nat.le_refl _) (Nat.le_refl _) B.notSynchronized (fun t hal hsz hkp => ⟨(), hr, ⟨rfl, ?_⟩, ?_⟩) h2.2.2 (Nat.le_refl _) (Nat.le_refl _)
    · show 2 + 3 < d; omega
    · show 0 + (13 * (2 + 1) + 42) ≤ 40 * d; omega
    · exact fun k hk => (h1 k hk).kept (hkp _ (h1 k hk).lt)
    · exact ⟨Nat.le_trans h2.1 hsz, fun q hq hA => (hkp q (Nat.lt_of_lt_of_le hq h2.1)).trans (h2.2.1 q hq hA)⟩
theorem gz_ofLX {y : MethodName} {rt : FieldType} {r : Option Int64} {asF : (Nat → Nat) → List Value} {M' : gz_M} (hl9 : l.stackTraces = false) (hy : plainName y.cls = true) (hown : y.cls = "LongestTokens") (hrt : rt = .long) (hd : 6 ≤ d) (hlen : ∀ ad, (lg_sl (asF ad)).length ≤ nL) (body : ∀ x, gz_Ok x cc y.cls nL d cf pf l → (gx_cells x ≤ (gx_R x).cells ∧ gx_slots x ≤ (gx_R x).slots) → gz_ELX x cc r M' → gz_At x 0 (lv_args 0 (asF (gx_ad x))) [] M) : gz_CLX l cf y cc nL d rt asF pf M r M' := by
  intro D aC ad sz
  refine vx_ofW (cc := cc) (maxL := nL) (ret := some rt) hy rfl ?_
  intro p e s m args below meth c s₁ B hml htb hv
  obtain ⟨rfl, ⟨hsz, hP, hK, hI, hN⟩, hXs, hTh⟩ := hv
  subst hsz
  have hl := lv_entry (asF ad) (n := nL) (hlen ad)
  rw [lg_entry_eq]
  generalize (lg_sl (asF ad) ++ List.replicate (nL - (lg_sl (asF ad)).length) Slot.unset).toArray = ls at hl ⊢
  let x : gz_X := (p, l, e, (gz_rm d 1 6), s, m, (asF ad).toArray, below, meth, c, vx_MQ below (va_Ql (fun r' (_ : Unit) => r = some r') (fun _ t => gz_mw D gz_cls cf aC ad pf M' t.heap) (gz_A cf ad pf s.heap.size)) (vx_X (fun (_ : Unit) => r = none) (fun E _ t => E = gz_ES ∧ gz_mw D gz_cls cf aC ad pf M' t.heap) (gz_A cf ad pf s.heap.size)) (asF ad).toArray s 1 6 (gz_A cf ad pf s.heap.size), gz_A cf ad pf s.heap.size, D, aC, cf, ad, pf, nL, 0, 0, gz_cls)
  have hts : ∀ w ∈ gz_TB, w.before (asF ad).toArray s = true := fun w hw => atoms_spec (ws := Cond.code y cc nL (some rt) :: gz_TB) B.pre w (List.mem_cons_of_mem _ hw)
  have hfc : s.vm.findClass y.cls = some m.cls := findClass_of_methodNamed B.named
  have X : gz_Ok x cc y.cls nL d cf pf l := ⟨⟨B.exec, B.bytes, hml, hfc, hts⟩, rfl, hK, hI, fun k hk => Or.inl ⟨k, hk, rfl⟩, fun q hq => Or.inr hq, B.notSynchronized, Nat.le_refl _, Nat.le_refl _, hN, rfl, rfl, rfl, rfl⟩
  refine body x X ⟨Nat.zero_le _, Nat.zero_le _⟩ ⟨fun v hv pc lv dg H locs ls h1 h2 h3 => ?_, fun hr pc lv d0 d3 d4 d7 H locs ls h1 h2 h3 => ?_⟩ s.heap [] ls hP va_S.rf hl
  · refine vx_ret ?_
    exact W.widen (k := 1) (n := 6) (Nat.zero_le _) (Nat.zero_le _) (W.lret B.exec B.bytes (by rw [B.returns, hrt]) (fun t ht hW => ⟨⟨v, (), rfl, hv, by dsimp only; rw [ht]; exact h1⟩, h2.F ht⟩) h2.2.2 dg)
  · refine vx_throw0 (A := gz_A cf ad pf s.heap.size) (own := "LongestTokens") (cls := gz_ES) (names := gz_EN) (ik := 151) (ic := 153) B.exec B.bytes hl9 (by rw [← hown]; exact hfc) (by decide +kernel) (by decide +kernel) (hts _ gz_hk) (hts _ gz_hi) (gz_hatAt hts hXs) (List.all_eq_true.mp gz_hat3) hTh.1 hTh.2 h2 (h3.1.trans hml.symm) d0 d3 d4 d7 (fun z hz => absurd hz (htb z)) ?_ ?_ (Nat.le_refl _) (Nat.le_refl _) B.notSynchronized (fun t hal hsz hkp => ⟨(), hr, ⟨rfl, ?_⟩, ?_⟩) h2.2.2 (Nat.le_refl _) (Nat.le_refl _)
    · show 2 + 3 < d; omega
    · show 0 + (13 * (2 + 1) + 42) ≤ 40 * d; omega
    · exact fun k hk => (h1 k hk).kept (hkp _ (h1 k hk).lt)
    · exact ⟨Nat.le_trans h2.1 hsz, fun q hq hA => (hkp q (Nat.lt_of_lt_of_le hq h2.1)).trans (h2.2.1 q hq hA)⟩
end GX
