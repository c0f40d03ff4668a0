section
/-! constructors: the object's cell at q, its parts behind it, one by one -/
section GK
/-- what the fields hold that do not begin with 0, by the cell's code -/
def gc_g (c : Nat) : Nat → Int32 := fun j => if c = 4 then (if j = 3 then -1 else 0) else if c = 16 then (if j = 1 then 1 else if j = 10 then 1 else if j = 12 then -1 else if j = 15 then -1 else 0) else if c = 0 then (if j = 8 then 1 else 0) else 0
def gc_ct (aC : Nat → ClassId) (codes : List Nat) (q i : Nat) : va_E := gz_kc (codes.getD i 0) aC (fun k => q + k) (fun _ => false) i (gc_g (codes.getD i 0)) (fun _ => 0)
/-- the tables' words of arrays over arrays and Books: they go from state to state -/
def gc_AO (U : State) : Prop := (Cond.arrayOver (.array .int)).before #[] U = true ∧ (Cond.arrayOver (.object "LongestTokens$Book")).before #[] U = true
theorem gc_aoW {s U : State} {ty : FieldType} (hW : s.WarmedH U.vm) (h : (Cond.arrayOver ty).before #[] s = true) : (Cond.arrayOver ty).before #[] U = true := by
  have h2 : (Cond.arrayOver ty).before #[] (s.setVm U.vm) = true := by rw [Cond.arrayOver_setVmC hW.alike]; exact h
  exact h2
theorem gc_aoS {u U : State} {ty : FieldType} (hv : u.vm = U.vm) (h : (Cond.arrayOver ty).before #[] u = true) : (Cond.arrayOver ty).before #[] U = true := by
  have h2 : (Cond.arrayOver ty).before #[] (u.setVm u.vm) = true := h
  rw [hv] at h2
  exact h2
theorem gc_AO.warm {s U : State} (hW : s.WarmedH U.vm) (h : gc_AO s) : gc_AO U := ⟨gc_aoW hW h.1, gc_aoW hW h.2⟩
theorem gc_AO.same {u U : State} (hv : u.vm = U.vm) (h : gc_AO u) : gc_AO U := ⟨gc_aoS hv h.1, gc_aoS hv h.2⟩
def gc_At (x : gz_X) (ci : Nat) (codes : List Nat) (q pc : Nat) (lv : List (Nat × Value)) (st : List Value) (fs : List Value) (n c s : Nat) : Prop := ∀ (H : Heap) (locs : List Loc) (ls : Array Slot), H.size = q + n → va_at (gx_D x) gz_cls (q, .inr (ci, fs)) H → (∀ i, 1 ≤ i → i < n → va_at (gx_D x) gz_cls (q + i, gc_ct (gx_aC x) codes q i) H) → va_S (gx_A x) (gx_s x).heap H locs → lv_has ls (gx_nL x) lv → W (gx_p x) (gx_l x) (gx_e x) (gx_R x) (gx_s x) (gx_m x) (gx_args x) (gx_below x) (gx_meth x) (gx_c x) H locs c s (gx_Q x) (F0 (gx_m x) pc ls st)
def gc_Ok (x : gz_X) (cc : ByteArray) (own : String) (nL d q : Nat) (l : Launch) : Prop := CallFix (gx_p x) (gx_m x) (gx_c x) cc nL (gx_s x) (gx_args x) gz_TB own ∧ gx_nL x = nL ∧ va_K (gx_D x) gz_cls (gz_tys (gx_aC x)) (gx_s x) ∧ (∀ k, q ≤ k → gx_A x k) ∧ (gx_s x).heap.size = q + 1 ∧ (gx_meth x).locks = false ∧ d ≤ (gx_R x).frames ∧ 40 * d ≤ (gx_R x).locals ∧ gz_Nst (gx_s x) ∧ gx_l x = l ∧ (gx_meth x).name = "<init>" ∧ gc_AO (gx_s x)
variable {x : gz_X} {cc : ByteArray} {own : String} {nL d q ci pc n c s : Nat} {codes : List Nat} {l : Launch} {lv : List (Nat × Value)} {st fs : List Value}
theorem gc_iconst {k : Int} (v : Int32) (X : gc_Ok x cc own nL d q l) (dg : decode cc pc = .ok (.iconst k, 1)) (hv : Int32.ofInt k = v) (kk : gc_At x ci codes q (pc + 1) lv (.int v :: st) fs n c s) : gc_At x ci codes q pc lv st fs n c s := fun H locs ls h0 h1 h2 h3 h4 => lv_iconst X.1.1 X.1.2.1 dg hv (kk H locs ls h0 h1 h2 h3 h4)
theorem gc_bipush {k : Int} (v : Int32) (X : gc_Ok x cc own nL d q l) (dg : decode cc pc = .ok (.bipush k, 2)) (hv : (Int8.ofInt k).toInt32 = v) (kk : gc_At x ci codes q (pc + 2) lv (.int v :: st) fs n c s) : gc_At x ci codes q pc lv st fs n c s := fun H locs ls h0 h1 h2 h3 h4 => lv_bipush X.1.1 X.1.2.1 dg hv (kk H locs ls h0 h1 h2 h3 h4)
theorem gc_sipush {k : Int} (v : Int32) (X : gc_Ok x cc own nL d q l) (dg : decode cc pc = .ok (.sipush k, 3)) (hv : (Int16.ofInt k).toInt32 = v) (kk : gc_At x ci codes q (pc + 3) lv (.int v :: st) fs n c s) : gc_At x ci codes q pc lv st fs n c s := fun H locs ls h0 h1 h2 h3 h4 => lv_sipush X.1.1 X.1.2.1 dg hv (kk H locs ls h0 h1 h2 h3 h4)
theorem gc_ldc {index : Nat} (v : Int32) (X : gc_Ok x cc own nL d q l) (dg : decode cc pc = .ok (.ldc index, 2)) (hc : Cond.constant own index v ∈ gz_TB) (kk : gc_At x ci codes q (pc + 2) lv (.int v :: st) fs n c s) : gc_At x ci codes q pc lv st fs n c s := fun H locs ls h0 h1 h2 h3 h4 => lv_ldc X.1.1 X.1.2.1 X.1.2.2.2.1 (X.1.2.2.2.2 _ hc) dg (kk H locs ls h0 h1 h2 h3 h4)
theorem gc_aload_n {k : Fin 4} {i v : Nat} (X : gc_Ok x cc own nL d q l) (dg : decode cc pc = .ok (.aload_n k, 1)) (pl : Nat) (hi : (k : Nat) = i) (hl : lv[pl]? = some (i, .ref v)) (kk : gc_At x ci codes q (pc + 1) lv (.ref v :: st) fs n c s) : gc_At x ci codes q pc lv st fs n c s := fun H locs ls h0 h1 h2 h3 h4 => lv_aload_n X.1.1 X.1.2.1 dg hi (lv_at h4 pl hl) (kk H locs ls h0 h1 h2 h3 h4)
theorem gc_dup {va : Value} (X : gc_Ok x cc own nL d q l) (dg : decode cc pc = .ok (.dup, 1)) (hva : va.category = 1) (kk : gc_At x ci codes q (pc + 1) lv (va :: va :: st) fs n c s) : gc_At x ci codes q pc lv (va :: st) fs n c s := fun H locs ls h0 h1 h2 h3 h4 => lv_dup X.1.1 X.1.2.1 dg hva (kk H locs ls h0 h1 h2 h3 h4)
theorem gc_keep {H H' : Heap} {D : va_G} {aC : Nat → ClassId} (h0 : H.size = q + n) (hn : 1 ≤ n) (h1 : va_at D gz_cls (q, .inr (ci, fs)) H) (h2 : ∀ i, 1 ≤ i → i < n → va_at D gz_cls (q + i, gc_ct aC codes q i) H) (hq : ∀ a, a < H.size → H'[a]? = H[a]?) : va_at D gz_cls (q, .inr (ci, fs)) H' ∧ ∀ i, 1 ≤ i → i < n → va_at D gz_cls (q + i, gc_ct aC codes q i) H' :=
  ⟨h1.kept (hq q (by omega)), fun i a b => (h2 i a b).kept (hq _ (by show q + i < H.size; omega))⟩
theorem gc_objInit {index v : Nat} (X : gc_Ok x cc own nL d q l) (hd : 1 ≤ d) (hl : Cond.methodLink own index Lib.objectInit ∈ gz_TB) (h1 : Cond.instanceMethod Lib.objectInit ∈ gz_TB) (h2 : Cond.code Lib.objectInit ⟨#[0xb1]⟩ 1 none ∈ gz_TB) (hW : (st.map fun v => v.category).sum ≤ 8) (dg : decode cc pc = .ok (.invokespecial index, 3)) (kk : gc_At x ci codes q (pc + 3) lv st fs n c s) : gc_At x ci codes q pc lv (.ref v :: st) fs n c s := by
  intro H locs ls g0 g1 g2 g3 g4
  have f1 := X.2.2.2.2.2.2.1
  have f2 := X.2.2.2.2.2.2.2.1
  exact W.objInit X.1.1 X.1.2.1 X.1.2.2.2.1 (X.1.2.2.2.2 _ hl) (X.1.2.2.2.2 _ h1) (X.1.2.2.2.2 _ h2) rfl (by show ls.size = _; rw [g4.1, X.2.1, X.1.2.2.1]) rfl dg (by omega) (by show 2 * 0 + _ + 12 ≤ _; omega) (kk H locs ls g0 g1 g2 g3 g4)
/-- a new row, its type's class as the tables have it -/
theorem gc_newa {atype : ArrayType} {v : Int32} {N t : Nat} {ty : FieldType} (X : gc_Ok x cc own nL d q l) (hn1 : 1 ≤ n) (hty : newarray.typeOf atype = ty) (ht : (gz_tys (gx_aC x))[t]? = some (gx_aC x t, ty)) (hra : ∀ U cA, va_RA U cA ty → U.vm.findClass ("[" ++ ty.toString) = some cA) (harr : Cond.arrayClass ty ∈ gz_TB) (hn : ¬ v < 0) (hN : v.toNatClampNeg = N) (hbytes : N * componentBytes ty ≤ 536870912) (hcells : c + 1 ≤ (gx_R x).cells) (hslots : s + N ≤ (gx_R x).slots) (hct : ∀ cA, gx_aC x t = cA → ∀ H : Heap, H[q + n]? = some (arrV cA N (fun _ => defaultValue ty)) → va_at (gx_D x) gz_cls (q + n, gc_ct (gx_aC x) codes q n) H) (dg : decode cc pc = .ok (.newarray atype, 2)) (kk : gc_At x ci codes q (pc + 2) lv (.ref (q + n) :: st) fs (n + 1) (c + 1) (s + N)) : gc_At x ci codes q pc lv (.int v :: st) fs n c s := by
  intro H locs ls h0 h1 h2 h3 h4
  subst hty
  refine va_newaK X.1.1 X.1.2.1 (X.1.2.2.2.2 _ harr) rfl dg rfl hn hN hbytes hcells hslots h0 fun H1 cA e1 z1 o1 hAr hNm => ?_
  have hc : gx_aC x t = cA := Option.some.inj ((hra _ _ (X.2.2.1.2 t _ ht).2).symm.trans hNm)
  obtain ⟨k1, k2⟩ := gc_keep h0 hn1 h1 h2 (fun a ha => o1 a (by omega))
  refine kk H1 locs ls z1 k1 (fun i a b => ?_) ⟨by have := h3.1; omega, fun y e2 e3 => (o1 y (by have := h3.1; omega)).trans (h3.2.1 y e2 e3), h3.2.2⟩ h4
  rcases Nat.lt_or_ge i n with g | g
  · exact k2 i a g
  · rw [show i = n by omega]
    exact hct cA hc H1 e1
/-- a new object (its fields' defaults), to be made by its own constructor -/
theorem gc_new {C : String} {T : u_T} {N cj index : Nat} {fs2 : List Value} (ty : Nat → FieldType) (X : gc_Ok x cc own nL d q l) (hn1 : 1 ≤ n) (hin : ∀ w ∈ u_ws C T N, w ∈ gz_TB) (hty : ∀ k, k < N → parseFieldDescriptor (T k).2.2.1 = some (ty k)) (hcl : Cond.classLink own index C ∈ gz_TB) (hinst : Cond.instantiable C N ∈ gz_TB) (hini : Cond.initialized C ∈ gz_TB) (hc : gz_cls[cj]? = some (C, T, N)) (hfs : ∀ j, j < N → defaultValue (ty j) = vp_V fs2 j) (hcells : c + 1 ≤ (gx_R x).cells) (hslots : s + N ≤ (gx_R x).slots) (dg : decode cc pc = .ok (.new index, 3)) (kk : ∀ (H : Heap) (locs : List Loc) (ls : Array Slot), H.size = q + n + 1 → va_at (gx_D x) gz_cls (q, .inr (ci, fs)) H → (∀ i, 1 ≤ i → i < n → va_at (gx_D x) gz_cls (q + i, gc_ct (gx_aC x) codes q i) H) → va_at (gx_D x) gz_cls (q + n, .inr (cj, fs2)) H → va_S (gx_A x) (gx_s x).heap H locs → lv_has ls (gx_nL x) lv → W (gx_p x) (gx_l x) (gx_e x) (gx_R x) (gx_s x) (gx_m x) (gx_args x) (gx_below x) (gx_meth x) (gx_c x) H locs (c + 1) (s + N) (gx_Q x) (F0 (gx_m x) (pc + 3) ls (.ref (q + n) :: st))) : gc_At x ci codes q pc lv st fs n c s := by
  intro H locs ls h0 h1 h2 h3 h4
  have hKn := X.2.2.1.1 cj _ hc
  refine W.newcK X.1.1 X.1.2.1 X.1.2.2.2.1 (X.1.2.2.2.2 _ hcl) (X.1.2.2.2.2 _ hinst) (X.1.2.2.2.2 _ hini) rfl dg hcells hslots hKn.2.1 h0 fun H1 kC hkC e1 z1 o1 => ?_
  obtain ⟨k1, k2⟩ := gc_keep h0 hn1 h1 h2 (fun a ha => o1 a (by omega))
  exact kk H1 locs ls z1 k1 k2 ⟨_, hc, (u_born ty X.1.2.2.2.2 hin hKn hkC e1 hty).to hfs⟩ ⟨by have := h3.1; omega, fun y e2 e3 => (o1 y (by have := h3.1; omega)).trans (h3.2.1 y e2 e3), h3.2.2⟩ h4
/-- a field of the object itself -/
theorem gc_put {index j N : Nat} {C : String} {T : u_T} {ty : FieldType} {w : Value} (X : gc_Ok x cc own nL d q l) (hC : C = own) (hn1 : 1 ≤ n) (hc : gz_cls[ci]? = some (C, T, N)) (hin : ∀ w ∈ u_ws C T N, w ∈ gz_TB) (ty0 : Nat → FieldType) (hty : ∀ k, k < N → parseFieldDescriptor (T k).2.2.1 = some (ty0 k)) (hnm : ∀ a, a < N → ∀ b, b < N → a ≠ b → (T a).2.1 ≠ (T b).2.1) (j0 : j < N) (hT : (T j).1 = C) (hl : Cond.fieldLink own index C (T j).2.1 (T j).2.2.1 ∈ gz_TB) (hd : parseFieldDescriptor (T j).2.2.1 = some ty) (hn : narrow ty w = w) (hfit : fits ty w = true) (hlen : j < fs.length) (dg : decode cc pc = .ok (.putfield index, 3)) (kk : gc_At x ci codes q (pc + 3) lv st (fs.set j w) n c s) : gc_At x ci codes q pc lv (w :: .ref q :: st) fs n c s := by
  intro H locs ls h0 h1 h2 h3 h4
  have hP : va_P (gx_D x) gz_cls [(q, .inr (ci, fs))] H := by
    intro i z hz
    match i, hz with
    | 0, hz => cases hz; exact h1
    | i + 1, hz => simp at hz
  have hD : va_D (fun a => a = q) [(q, .inr (ci, fs))] := ⟨fun i j a b ha hb _ => by
      have ea := (List.getElem?_eq_some_iff.mp ha).1
      have eb := (List.getElem?_eq_some_iff.mp hb).1
      simp at ea eb
      omega, fun k z hz => by
      match k, hz with
      | 0, hz => cases hz; rfl
      | k + 1, hz => simp at hz⟩
  have hsame : ∀ z, (gx_s x).fieldFound? (T j).1 (T j).2.1 (T j).2.2.1 = some z → (gx_s x).fieldFound? C (T j).2.1 (T j).2.2.1 = some z := by rw [hT]; exact fun _ h => h
  have hap := va_apart (own := own) X.1.2.2.2.2 hin ty0 hty hnm X.2.2.1 hc
  obtain ⟨r, e1, cell, q1, q2, q3, q4⟩ := h1
  have hr : r = (C, T, N) := Option.some.inj (e1.symm.trans hc)
  subst hr
  obtain ⟨hS, hfc, kC, hkC, hkind⟩ := X.2.2.1.1 ci _ hc
  obtain ⟨cf, kf, fi, f, hi, hsl⟩ := hS j j0
  have hst := (u_facts hfc hkC (u_lays X.1.2.2.2.2 hin j0) hi).1
  have fin : ∀ H' : Heap, H'[q]? = some (cell.setSlot f.slot w) → H'.size = H.size → (∀ a, a ≠ q → H'[a]? = H[a]?) → W (gx_p x) (gx_l x) (gx_e x) (gx_R x) (gx_s x) (gx_m x) (gx_args x) (gx_below x) (gx_meth x) (gx_c x) H' (locs ++ [⟨q, f.slot⟩]) c s (gx_Q x) (F0 (gx_m x) (pc + 3) ls st) := by
    intro H' e1 e2 e3
    rw [hsl] at e1 ⊢
    exact kk H' _ ls (by rw [e2]; exact h0) ⟨_, hc, t_OB.to (V := updV (vp_V fs) j w) ⟨_, e1, q2, q3, t_set q4 hap j0 w⟩ (fun j' _ => vp_updV_set hlen w j')⟩ (fun i a b => (h2 i a b).kept (e3 _ (by show q + i ≠ q; omega))) (h3.put e2 e3 (X.2.2.2.1 q (Nat.le_refl q))) h4
  have hlay := X.1.2.2.2.2 _ (hin _ (u_in_lay j0))
  unfold u_lay at hlay
  by_cases hfin : (T j).2.2.2 = true
  · rw [if_pos hfin] at hlay
    have hcf : (gx_m x).cls = cf := by
      obtain ⟨_, _, c', _, _, _, -, -, hf', -, -, -, hown2, -⟩ := Cond.laysFinal_spec hlay
      have e1 : c' = cf := by have := hi.symm.trans hf'; simp at this; exact this.1.symm
      rw [hT, hC] at hown2
      rw [← e1]; exact Option.some.inj (X.1.2.2.2.1.symm.trans hown2)
    have h6 := u_fits hfc hkC hkind (Or.inr hlay) hi hd hn hfit
    exact W.putFinK X.1.1 X.1.2.1 X.1.2.2.2.1 (X.1.2.2.2.2 _ hl) (hsame _ hi) hst hcf X.2.2.2.2.2.2.2.2.2.2.1 (by rw [q2]; exact h6) q1 q3 (by rw [hsl]; exact k2_hasslot (q4 j j0)) rfl rfl dg fin
  · rw [if_neg hfin] at hlay
    have h6 := u_store hfc hkC hkind hlay hi hd hn hfit
    exact W.putK X.1.1 X.1.2.1 (f := f) ⟨X.1.2.2.2.1, X.1.2.2.2.2 _ hl, ⟨_, _, _, hsame _ hi⟩, hst⟩ (by rw [q2]; exact h6) q1 q3 (by rw [hsl]; exact k2_hasslot (q4 j j0)) rfl rfl dg fin
/-- the contract of a constructor without arguments -/
def gc_C (l : Launch) (y : MethodName) (cc : ByteArray) (nL d ci : Nat) (codes : List Nat) (fs0 : List Value) (mc ms : Nat) : Prop := ∀ D aC q, Met l y (Cond.code y cc nL none :: gz_TB) (gz_rm d mc ms) (va_Pc [.ref q] (fun U => U.heap.size = q + 1 ∧ va_at D gz_cls (q, .inr (ci, fs0)) U.heap ∧ va_K D gz_cls (gz_tys aC) U ∧ gz_Nst U ∧ gc_AO U)) (va_Qv (fun (_ : Unit) => True) (fun _ t => t.heap.size = q + codes.length ∧ ∀ i, i < codes.length → va_at D gz_cls (q + i, gc_ct aC codes q i) t.heap) (fun a => q ≤ a)) mc ms (fun a => q ≤ a)
theorem gc_of {y : MethodName} {mc ms : Nat} {fs0 : List Value} (hy : plainFor y = true) (hname : y.name = "<init>") (hnL : 1 ≤ nL) (body : ∀ x q, gc_Ok x cc y.cls nL d q l → (gx_R x).cells = mc → (gx_R x).slots = ms → (∀ pc lv fs', (∀ aC, gc_ct aC codes q 0 = .inr (ci, fs')) → decode cc pc = .ok (.return_, 1) → gc_At x ci codes q pc lv [] fs' codes.length mc ms) → gc_At x ci codes q 0 [(0, .ref q)] [] fs0 1 0 0) : gc_C l y cc nL d ci codes fs0 mc ms := by
  intro D aC q
  refine gz_MetF (cc := cc) (maxL := nL) (ret := none) hy rfl ?_
  intro p e s m args below meth c s₁ B hml hv
  obtain ⟨rfl, hsz, hP, hK, hN, hAO⟩ := hv
  have hl := lv_entry ([.ref q]) (n := nL) hnL
  rw [lg_entry_eq]
  generalize (lg_sl [.ref q] ++ List.replicate (nL - (lg_sl [.ref q]).length) Slot.unset).toArray = ls at hl ⊢
  let x : gz_X := (p, l, e, (gz_rm d mc ms), s, m, [Value.ref q].toArray, below, meth, c, MQ below (va_Qv (fun (_ : Unit) => True) (fun _ t => t.heap.size = q + codes.length ∧ ∀ i, i < codes.length → va_at D gz_cls (q + i, gc_ct aC codes q i) t.heap) (fun a => q ≤ a)) [Value.ref q].toArray s mc ms (fun a => q ≤ a), (fun a => q ≤ a), D, aC, gz_cfC, fun k => q + k, fun _ => false, nL, 0, 0, gz_cls)
  have X : gc_Ok x cc y.cls nL d q l := ⟨⟨B.exec, B.bytes, hml, findClass_of_methodNamed B.named, fun w hw => atoms_spec (ws := Cond.code y cc nL none :: gz_TB) B.pre w (List.mem_cons_of_mem _ hw)⟩, rfl, hK, fun k hk => hk, hsz, B.notSynchronized, Nat.le_refl _, Nat.le_refl _, hN, rfl, (name_of_methodNamed B.named B.method).1.trans hname, hAO⟩
  refine body x q X rfl rfl (fun pc lv fs' hfs dg H locs ls h0 h1 h2 h3 h4 => ?_) s.heap [] ls hsz hP (fun i a b => by omega) va_S.rf hl
  refine W.vret B.exec B.bytes B.returns (fun t ht hW => ⟨⟨(), rfl, trivial, by rw [ht]; exact h0, fun i hi => ?_⟩, h3.F ht⟩) h3.2.2 dg
  rw [ht]
  rcases Nat.eq_zero_or_pos i with rfl | h
  · rw [hfs aC]; exact h1
  · exact h2 i h hi
theorem gc_shift {cd : Nat} {aC : Nat → ClassId} {q i : Nat} {g : Nat → Int32} {gl : Nat → Int64} (hc : cd ≠ 0 ∧ cd ≠ 27) : gz_kc cd aC (fun k => q + n + k) (fun _ => false) i g gl = gz_kc cd aC (fun k => q + k) (fun _ => false) (n + i) g gl := by
  unfold gz_kc
  split <;> first | rfl | (simp only [gz_oX0, gz_oX1, gz_oX2, gz_oX3, gz_oX4, gz_oX5, gz_oX6, gz_oX7, gz_oX8, gz_oX9, gz_oX10, gz_oI, gz_oZ, gz_oJ, gz_oB, gz_oG, gz_oK, Nat.add_assoc, Bool.false_eq_true, if_false]; done) | exact absurd rfl hc.1 | exact absurd rfl hc.2
theorem gc_ctShift {codes2 : List Nat} {aC : Nat → ClassId} {i : Nat} (hi : i < codes2.length) (hc : ∀ i, i < codes2.length → codes.getD (n + i) 0 = codes2.getD i 0 ∧ codes2.getD i 0 ≠ 0 ∧ codes2.getD i 0 ≠ 27) : gc_ct aC codes2 (q + n) i = gc_ct aC codes q (n + i) := by
  obtain ⟨h1, h2⟩ := hc i hi
  show gz_kc (codes2.getD i 0) _ _ _ _ (gc_g (codes2.getD i 0)) _ = gz_kc (codes.getD (n + i) 0) _ _ _ _ (gc_g (codes.getD (n + i) 0)) _
  rw [h1]
  exact gc_shift h2
theorem gc_blind {av : List Value} {D : va_G} {aC : Nat → ClassId} {q : Nat} {fs0 : List Value} : FrameBlind (va_Pc av (fun U => U.heap.size = q + 1 ∧ va_at D gz_cls (q, .inr (ci, fs0)) U.heap ∧ va_K D gz_cls (gz_tys aC) U ∧ gz_Nst U ∧ gc_AO U)) := by
  intro a U g mk z
  obtain ⟨q0, q1, q2, q3, q4, q5⟩ := z
  exact ⟨q0, q1, q2, va_K.moved (u := U) (U := U.calling g mk a) (Vm.Alike.refl U.vm) q3, gz_Nst.same (u := U) (U := U.calling g mk a) rfl q4, gc_AO.same (u := U) (U := U.calling g mk a) rfl q5⟩
/-- new X(): new, dup, invokespecial -/
theorem gc_newC {y : MethodName} {cc2 : ByteArray} {nL2 d2 cj N iN iI mc ms : Nat} {C : String} {T : u_T} {codes2 : List Nat} {fs2 : List Value} (ty : Nat → FieldType) (X : gc_Ok x cc own nL d q l) (hM : gc_C l y cc2 nL2 d2 cj codes2 fs2 mc ms) (hn1 : 1 ≤ n) (hin : ∀ w ∈ u_ws C T N, w ∈ gz_TB) (hty : ∀ k, k < N → parseFieldDescriptor (T k).2.2.1 = some (ty k)) (hcl : Cond.classLink own iN C ∈ gz_TB) (hinst : Cond.instantiable C N ∈ gz_TB) (hini : Cond.initialized C ∈ gz_TB) (hc : gz_cls[cj]? = some (C, T, N)) (hfs : ∀ j, j < N → defaultValue (ty j) = vp_V fs2 j) (hl : gz_ML own iI y) (hinm : Cond.instanceMethod y ∈ gz_TB) (hyi : Cond.initialized y.cls ∈ gz_TB) (hcode : Cond.code y cc2 nL2 none ∈ gz_TB) (hname : y.name = "<init>") (hw6 : y.cls ≠ "java/lang/invoke/MethodHandle" ∧ y.cls ≠ "java/lang/invoke/VarHandle" ∧ (parseMethodDescriptor y.desc).map (fun d => d.parameters.length) = some 0) (hd : d2 < d) (hn2 : nL2 ≤ 20) (hcells : c + 1 + mc ≤ (gx_R x).cells) (hslots : s + N + ms ≤ (gx_R x).slots) (hcs : ∀ i, i < codes2.length → codes.getD (n + i) 0 = codes2.getD i 0 ∧ codes2.getD i 0 ≠ 0 ∧ codes2.getD i 0 ≠ 27) (hW : ((Value.ref (q + n) :: st).map fun v => v.category).sum ≤ 8) (dg1 : decode cc pc = .ok (.new iN, 3)) (dg2 : decode cc (pc + 3) = .ok (.dup, 1)) (dg3 : decode cc (pc + 3 + 1) = .ok (.invokespecial iI, 3)) (kk : gc_At x ci codes q (pc + 3 + 1 + 3) lv (.ref (q + n) :: st) fs (n + codes2.length) (c + 1 + mc) (s + N + ms)) : gc_At x ci codes q pc lv st fs n c s := by
  refine gc_new ty X hn1 hin hty hcl hinst hini hc hfs (by omega) (by omega) dg1 (fun H locs ls h0 h1 h2 h2n h3 h4 => ?_)
  refine lv_dup X.1.1 X.1.2.1 dg2 rfl ?_
  have f1 := X.2.2.2.2.2.2.1
  have f2 := X.2.2.2.2.2.2.2.1
  have hR : (gz_rm d2 mc ms).frames + 1 ≤ (gx_R x).frames ∧ 8 + (nL2 + 11) + (gz_rm d2 mc ms).locals ≤ (gx_R x).locals := ⟨Nat.le_trans hd f1, by show 8 + (nL2 + 11) + 40 * d2 ≤ _; omega⟩
  have hp : PreS (gx_s x) H (va_Pc [.ref (q + n)] (fun U => U.heap.size = q + n + 1 ∧ va_at (gx_D x) gz_cls (q + n, .inr (cj, fs2)) U.heap ∧ va_K (gx_D x) gz_cls (gz_tys (gx_aC x)) U ∧ gz_Nst U ∧ gc_AO U)) [.ref (q + n)] := ⟨gc_blind, fun U hU hW2 => ⟨rfl, by rw [hU]; exact h0, by rw [hU]; exact h2n, va_K.moved hW2.alike X.2.2.1, X.2.2.2.2.2.2.2.2.1.warm hW2, X.2.2.2.2.2.2.2.2.2.2.2.warm hW2⟩⟩
  have hM1 := hM (gx_D x) (gx_aC x) (q + n)
  rw [← X.2.2.2.2.2.2.2.2.2.1] at hM1
  have hfree : ∀ a, q + n ≤ a → gx_A x a := fun a h => X.2.2.2.1 a (by omega)
  have hrun : va_Run (gx_p x) (gx_l x) (gx_e x) (gx_R x) (gx_s x) (gx_m x) (gx_args x) (gx_below x) (gx_meth x) (gx_c x) H locs (c + 1) (s + N) mc ms (F0 (gx_m x) (pc + 3 + 1) ls (.ref (q + n) :: .ref (q + n) :: st)) (.ref (q + n) :: st) (va_Qv (fun (_ : Unit) => True) (fun _ t => t.heap.size = q + n + codes2.length ∧ ∀ i, i < codes2.length → va_at (gx_D x) gz_cls (q + n + i, gc_ct (gx_aC x) codes2 (q + n) i) t.heap) (fun a => q + n ≤ a) (Value.ref (q + n) :: []).toArray) (fun a => q + n ≤ a) := by
    rcases hl with hl | ⟨host, hl⟩
    · exact va_runI (As := []) X.1 hM1 (cwI 0 X.1.2.2.2.2 (gz_goodIn hcode) rfl rfl rfl (X.1.2.2.2.2 _ hyi) (X.1.2.2.2.2 _ hl) (X.1.2.2.2.2 _ hinm) hname hw6 hR) hp rfl rfl (h4.1.trans X.2.1) rfl (lv_room hW) dg3 ⟨hcells, hslots⟩
    · exact va_runIN (As := []) X.1 hM1 ⟨va_cnB 0 X.1.2.2.2.2 (gz_goodIn hcode) rfl rfl rfl (X.2.2.2.2.2.2.2.2.1 _ hl) (X.1.2.2.2.2 _ hyi) hw6 hR, hname, X.1.2.2.2.2 _ hinm⟩ hp rfl rfl (h4.1.trans X.2.1) rfl (lv_room hW) dg3 ⟨hcells, hslots⟩
  refine va_callv hrun h3 (fun a _ h => hfree a h) hfree (fun u t H1 locs1 ht hvm hw hB hz hk hS => ?_)
  obtain ⟨b1, b2⟩ := hB
  rw [ht] at b1 b2
  have old : ∀ a, a < q + n → H1[a]? = H[a]? := fun a ha => hk a (by omega) (by omega)
  refine kk H1 locs1 ls (by omega) (h1.kept (old q (by omega))) (fun i a b => ?_) hS h4
  rcases Nat.lt_or_ge i n with g | g
  · exact (h2 i a g).kept (old _ (by show q + i < q + n; omega))
  · have h9 := b2 (i - n) (by omega)
    rw [gc_ctShift (by omega) hcs, show n + (i - n) = i by omega, show q + n + (i - n) = q + i by omega] at h9
    exact h9
end GK
end
section
section GK2
variable {x : gz_X} {cc : ByteArray} {own : String} {nL d q ci pc n c s : Nat} {codes : List Nat} {l : Launch} {lv : List (Nat × Value)} {st fs : List Value}
theorem gc_arrExt {cA : ClassId} {N : Nat} {f g : Nat → Value} (h : ∀ j, j < N → f j = g j) : arrV cA N f = arrV cA N g := by
  unfold arrV
  congr 1
  congr 1
  funext j
  exact h j.val j.isLt
theorem gc_anew {index N b : Nat} {v : Int32} (X : gc_Ok x cc own nL d q l) (hn1 : 1 ≤ n) (hcl : Cond.classLink own index "LongestTokens$Book" ∈ gz_TB) (hn : ¬ v < 0) (hN : v.toNatClampNeg = N) (hbytes : N * 4 ≤ 536870912) (hcells : c + 1 ≤ (gx_R x).cells) (hslots : s + N ≤ (gx_R x).slots) (hct : ∀ aC, gc_ct aC codes q n = gz_oK N b aC (fun k => q + k) (fun _ => false) n (fun _ => 0) (fun _ => 0)) (dg : decode cc pc = .ok (.anewarray index, 3)) (kk : gc_At x ci codes q (pc + 3) lv (.ref (q + n) :: st) fs (n + 1) (c + 1) (s + N)) : gc_At x ci codes q pc lv (.int v :: st) fs n c s := by
  intro H locs ls h0 h1 h2 h3 h4
  subst hN
  refine W.anew X.1.1 X.1.2.1 X.1.2.2.2.1 (X.1.2.2.2.2 _ hcl) X.2.2.2.2.2.2.2.2.2.2.2.2 rfl dg rfl hn hbytes hcells hslots fun cA kA comp f1 f2 f3 f4 => ?_
  rw [h0]
  generalize hH1 : H.push ({ cls := cA, slots := Array.replicate v.toNatClampNeg .null, vm := .none } : Cell) = H1
  have z1 : H1.size = H.size + 1 := by rw [← hH1, Array.size_push]
  have e1 : H1[H.size]? = some (arrV cA v.toNatClampNeg (fun _ => .null)) := by rw [← hH1, Array.getElem?_push_size, ← arrV_new]
  have o1 : ∀ a : Nat, a < H.size → H1[a]? = H[a]? := fun a ha => by rw [← hH1, Array.getElem?_push, if_neg (Nat.ne_of_lt ha)]
  have hra := (X.2.2.1.2 5 _ rfl).2
  obtain ⟨kA', comp', -, -, -, g4⟩ := hra
  have hc : gx_aC x 5 = cA := Option.some.inj (g4.symm.trans f1)
  obtain ⟨k1, k2⟩ := gc_keep h0 hn1 h1 h2 o1
  refine kk H1 locs ls (by omega) k1 (fun i a b => ?_) ⟨Nat.le_trans h3.1 (by omega), fun y e2 e3 => (o1 y (Nat.lt_of_lt_of_le e2 h3.1)).trans (h3.2.1 y e2 e3), h3.2.2⟩ h4
  rcases Nat.lt_or_ge i n with g | g
  · exact k2 i a g
  · rw [show i = n by omega, hct]
    show H1[q + n]? = some (vp_cell _ _)
    rw [← h0, e1, vp_cell_q, hc]
    exact congrArg some (gc_arrExt fun j _ => rfl)
theorem gc_outer (c : ClassId) (N h0 : Nat) : ∀ i : Nat, Jvm.Free.Multi.outerC c N h0 i = arrV c N (fun j => va_rf (if j < i then some (h0 + 1 + j) else none))
  | 0 => by
    show ({ cls := c, slots := Array.replicate N .null, vm := .none } : Cell) = _
    rw [arrV_new]
    refine congrArg (arrV c N) (funext fun j => ?_)
    simp [va_rf]
  | i + 1 => by
    show (Jvm.Free.Multi.outerC c N h0 i).setSlot i (.ref (h0 + 1 + i)) = _
    rw [gc_outer c N h0 i, arrV_store]
    refine congrArg (arrV c N) (funext fun j => ?_)
    by_cases e : j = i
    · subst e
      simp [updV, va_rf]
    · by_cases h : j < i
      · simp [updV, e, h, Nat.lt_succ_of_lt h]
      · simp [updV, e, h, show ¬ j < i + 1 by omega]
theorem gc_multi {index N K : Nat} {v w : Int32} (X : gc_Ok x cc own nL d q l) (hn1 : 1 ≤ n) (hcl : Cond.classLink own index "[[I" ∈ gz_TB) (harr : Cond.arrayClass .int ∈ gz_TB) (hn : ¬ v < 0) (hk : ¬ w < 0) (hN : v.toNatClampNeg = N) (hK : w.toNatClampNeg = K) (hb1 : N * 4 ≤ 536870912) (hb2 : K * 4 ≤ 536870912) (hcells : c + (1 + N) ≤ (gx_R x).cells) (hslots : s + (N + N * K) ≤ (gx_R x).slots) (hct : ∀ aC, gc_ct aC codes q n = gz_oG N aC (fun k => q + k) (fun _ => false) n (fun _ => 0) (fun _ => 0)) (hct2 : ∀ aC j, j < N → gc_ct aC codes q (n + 1 + j) = gz_oI K aC (fun k => q + k) (fun _ => false) (n + 1 + j) (fun _ => 0) (fun _ => 0)) (dg : decode cc pc = .ok (.multianewarray index 2, 4)) (kk : gc_At x ci codes q (pc + 4) lv (.ref (q + n) :: st) fs (n + 1 + N) (c + 1 + N) (s + N + N * K)) : gc_At x ci codes q pc lv (.int w :: .int v :: st) fs n c s := by
  intro H locs ls h0 h1 h2 h3 h4 T hT Xs
  subst hN
  subst hK
  obtain ⟨vm₁, cA, comp, -, fA, fC, hO, -, X', step⟩ := Xs.multianewarray2F X.1.1 X.1.2.2.2.1 (ty := .int) (X.1.2.2.2.2 _ hcl) X.2.2.2.2.2.2.2.2.2.2.2.1 (X.1.2.2.2.2 _ harr) (g := F0 (gx_m x) pc ls (.int w :: .int v :: st)) rfl (by rw [X.1.2.1]; exact dg) rfl hn hk hb1 hb2 (by omega) rfl rfl hcells hslots
  have hcA : gx_aC x 4 = cA := Option.some.inj ((X.2.2.1.2 4 _ rfl).2.symm.trans fA)
  have hcI : gx_aC x 0 = comp := Option.some.inj ((X.2.2.1.2 0 _ rfl).2.symm.trans fC)
  generalize hF : Jvm.Free.Multi.fill (T.setVm vm₁) cA comp v.toNatClampNeg w.toNatClampNeg (defaultValue .int) v.toNatClampNeg = F at X' step
  have hTh : (T.setVm vm₁).heap = H := hT
  obtain ⟨f1, f2, -, -⟩ := Jvm.Free.Multi.fill_facts (T.setVm vm₁) cA comp v.toNatClampNeg w.toNatClampNeg (defaultValue .int) v.toNatClampNeg
  rw [hF, hTh] at f1 f2
  have hold : ∀ y : Nat, y < H.size → F.heap[y]? = H[y]? := fun y hy => by
    have := Jvm.Free.Multi.fill_old (T.setVm vm₁) cA comp v.toNatClampNeg w.toNatClampNeg (defaultValue .int) (a := y) (by rw [hTh]; exact hy) v.toNatClampNeg
    rw [hF, hTh] at this
    exact this
  have hrow : ∀ j : Nat, j < v.toNatClampNeg → F.heap[H.size + 1 + j]? = some (Jvm.Free.Multi.innerC comp w.toNatClampNeg (defaultValue .int)) := fun j hj => by
    have := Jvm.Free.Multi.fill_inner (T.setVm vm₁) cA comp v.toNatClampNeg w.toNatClampNeg (defaultValue .int) v.toNatClampNeg j hj
    rw [hF, hTh] at this
    exact this
  obtain ⟨k1, k2⟩ := gc_keep h0 hn1 h1 h2 hold
  obtain ⟨t, a1, b1⟩ := kk F.heap locs ls (by omega) k1 (fun i a b => by
    rcases Nat.lt_or_ge i n with g | g
    · exact k2 i a g
    · rcases Nat.eq_or_lt_of_le g with rfl | g
      · rw [hct]
        show F.heap[q + n]? = some (vp_cell _ _)
        rw [← h0, f2, gc_outer, vp_cell_q, hcA]
        refine congrArg some (gc_arrExt fun j hj => ?_)
        show va_rf (if j < v.toNatClampNeg then some (H.size + 1 + j) else none) = va_rf (some (q + (n + 1 + j)))
        rw [if_pos hj, h0, show q + n + 1 + j = q + (n + 1 + j) by omega]
      · obtain ⟨j, rfl⟩ : ∃ j, i = n + 1 + j := ⟨i - (n + 1), by omega⟩
        rw [hct2 _ j (by omega)]
        show F.heap[q + (n + 1 + j)]? = some (vp_cell _ _)
        rw [show q + (n + 1 + j) = H.size + 1 + j by omega, hrow j (by omega), vp_cell_i, hcI]
        exact congrArg some (arrV_new comp w.toNatClampNeg (.int 0))) ⟨by rw [f1]; have := h3.1; omega, fun y e2 e3 => (hold y (Nat.lt_of_lt_of_le e2 h3.1)).trans (h3.2.1 y e2 e3), h3.2.2⟩ h4 F rfl X'
  refine ⟨t, step t ?_, b1⟩
  rw [show T.heap.size = q + n by rw [hT]; exact h0]
  exact a1
end GK2
end
section
theorem gc_rowK {aC : Nat → ClassId} {codes : List Nat} {q b N c j : Nat} {o : gz_Lay} (hc : ∀ j, j < N → codes.getD (b + j) 0 = c) (ho : gz_kc c = o) (hg : gc_g c = fun _ => 0) (hj : j < N) : gc_ct aC codes q (b + j) = o aC (fun k => q + k) (fun _ => false) (b + j) (fun _ => 0) (fun _ => 0) := by
  show gz_kc (codes.getD (b + j) 0) _ _ _ _ (gc_g (codes.getD (b + j) 0)) _ = _
  rw [hc j hj, ho, hg]
def gc_codes10 : List Nat := [1, 2]
theorem gc_dflt10 : ∀ j, j < 2 → defaultValue (tyX10 j) = vp_V [.null, .int 0] j
  | 0, _ => rfl
  | 1, _ => rfl
  | j + 2, h => by omega
set_option maxRecDepth 100000 in
theorem gc_init10 {l : Launch} : gc_C l yX10_init cX10_init 1 1 10 gc_codes10 [.null, .int 0] 1 80 := by
  refine gc_of (by decide +kernel) rfl (by decide) (fun x q X hRc hRs hE => ?_)
  refine gc_aload_n X dX10_init_0 0 rfl rfl ?_
  refine gc_objInit X (by decide) (gz_in 119 (by decide +kernel) rfl) (gz_in 112 (by decide +kernel) rfl) (gz_in 113 (by decide +kernel) rfl) (Nat.le_of_ble_eq_true rfl) dX10_init_1 ?_
  refine gc_aload_n X dX10_init_4 0 rfl rfl ?_
  refine gc_bipush 80 X dX10_init_5 (by decide) ?_
  refine gc_newa (N := 80) (t := 0) (ty := .int) X (Nat.le_of_ble_eq_true rfl) rfl rfl (fun _ _ h => h) (gz_in 132 (by decide +kernel) rfl) (by decide) (by decide) (Nat.le_of_ble_eq_true rfl) (by rw [hRc]; exact Nat.le_of_ble_eq_true rfl) (by rw [hRs]; exact Nat.le_of_ble_eq_true rfl) (fun cA hc H h => by subst hc; exact h) dX10_init_7 ?_
  refine gc_put X rfl (Nat.le_of_ble_eq_true rfl) rfl gw_X10 tyX10 tyX10_ok nmX10 (j := 0) (ty := (.array .int)) (by decide) rfl (gz_in 120 (by decide +kernel) rfl) (by decide +kernel) rfl rfl (Nat.le_of_ble_eq_true rfl) dX10_init_9 ?_
  show gc_At x 10 gc_codes10 q 12 _ _ [.ref (q + 1), .int 0] 2 1 80
  refine gc_aload_n X dX10_init_12 0 rfl rfl ?_
  refine gc_iconst 0 X dX10_init_13 (by decide) ?_
  refine gc_put X rfl (Nat.le_of_ble_eq_true rfl) rfl gw_X10 tyX10 tyX10_ok nmX10 (j := 1) (ty := .int) (by decide) rfl (gz_in 122 (by decide +kernel) rfl) (by decide +kernel) rfl rfl (Nat.le_of_ble_eq_true rfl) dX10_init_14 ?_
  show gc_At x 10 gc_codes10 q 17 _ _ [.ref (q + 1), .int 0] 2 1 80
  exact hE _ _ _ (fun _ => rfl) dX10_init_17

def gc_codes3 : List Nat := [3]
theorem gc_dflt3 : ∀ j, j < 2 → defaultValue (tyX3 j) = vp_V [.int 0, .int 0] j
  | 0, _ => rfl
  | 1, _ => rfl
  | j + 2, h => by omega
set_option maxRecDepth 100000 in
theorem gc_init3 {l : Launch} : gc_C l yX3_init cX3_init 1 1 3 gc_codes3 [.int 0, .int 0] 0 0 := by
  refine gc_of (by decide +kernel) rfl (by decide) (fun x q X hRc hRs hE => ?_)
  refine gc_aload_n X dX3_init_0 0 rfl rfl ?_
  refine gc_objInit X (by decide) (gz_in 138 (by decide +kernel) rfl) (gz_in 112 (by decide +kernel) rfl) (gz_in 113 (by decide +kernel) rfl) (Nat.le_of_ble_eq_true rfl) dX3_init_1 ?_
  refine gc_aload_n X dX3_init_4 0 rfl rfl ?_
  refine gc_iconst 0 X dX3_init_5 (by decide) ?_
  refine gc_put X rfl (Nat.le_of_ble_eq_true rfl) rfl gw_X3 tyX3 tyX3_ok nmX3 (j := 0) (ty := .int) (by decide) rfl (gz_in 139 (by decide +kernel) rfl) (by decide +kernel) rfl rfl (Nat.le_of_ble_eq_true rfl) dX3_init_6 ?_
  show gc_At x 3 gc_codes3 q 9 _ _ [.int 0, .int 0] 1 0 0
  refine gc_aload_n X dX3_init_9 0 rfl rfl ?_
  refine gc_iconst 0 X dX3_init_10 (by decide) ?_
  refine gc_put X rfl (Nat.le_of_ble_eq_true rfl) rfl gw_X3 tyX3 tyX3_ok nmX3 (j := 1) (ty := .int) (by decide) rfl (gz_in 140 (by decide +kernel) rfl) (by decide +kernel) rfl rfl (Nat.le_of_ble_eq_true rfl) dX3_init_11 ?_
  show gc_At x 3 gc_codes3 q 14 _ _ [.int 0, .int 0] 1 0 0
  exact hE _ _ _ (fun _ => rfl) dX3_init_14

def gc_codes1 : List Nat := [4, 5, 5]
theorem gc_dflt1 : ∀ j, j < 6 → defaultValue (tyX1 j) = vp_V [.null, .null, .int 0, .int 0, .int 0, .int 0] j
  | 0, _ => rfl
  | 1, _ => rfl
  | 2, _ => rfl
  | 3, _ => rfl
  | 4, _ => rfl
  | 5, _ => rfl
  | j + 6, h => by omega
set_option maxRecDepth 100000 in
theorem gc_init1 {l : Launch} : gc_C l yX1_init cX1_init 1 1 1 gc_codes1 [.null, .null, .int 0, .int 0, .int 0, .int 0] 2 14 := by
  refine gc_of (by decide +kernel) rfl (by decide) (fun x q X hRc hRs hE => ?_)
  refine gc_aload_n X dX1_init_0 0 rfl rfl ?_
  refine gc_objInit X (by decide) (gz_in 151 (by decide +kernel) rfl) (gz_in 112 (by decide +kernel) rfl) (gz_in 113 (by decide +kernel) rfl) (Nat.le_of_ble_eq_true rfl) dX1_init_1 ?_
  refine gc_aload_n X dX1_init_4 0 rfl rfl ?_
  refine gc_bipush 7 X dX1_init_5 (by decide) ?_
  refine gc_newa (N := 7) (t := 0) (ty := .int) X (Nat.le_of_ble_eq_true rfl) rfl rfl (fun _ _ h => h) (gz_in 132 (by decide +kernel) rfl) (by decide) (by decide) (Nat.le_of_ble_eq_true rfl) (by rw [hRc]; exact Nat.le_of_ble_eq_true rfl) (by rw [hRs]; exact Nat.le_of_ble_eq_true rfl) (fun cA hc H h => by subst hc; exact h) dX1_init_7 ?_
  refine gc_put X rfl (Nat.le_of_ble_eq_true rfl) rfl gw_X1 tyX1 tyX1_ok nmX1 (j := 0) (ty := (.array .int)) (by decide) rfl (gz_in 152 (by decide +kernel) rfl) (by decide +kernel) rfl rfl (Nat.le_of_ble_eq_true rfl) dX1_init_9 ?_
  show gc_At x 1 gc_codes1 q 12 _ _ [.ref (q + 1), .null, .int 0, .int 0, .int 0, .int 0] 2 1 7
  refine gc_aload_n X dX1_init_12 0 rfl rfl ?_
  refine gc_bipush 7 X dX1_init_13 (by decide) ?_
  refine gc_newa (N := 7) (t := 0) (ty := .int) X (Nat.le_of_ble_eq_true rfl) rfl rfl (fun _ _ h => h) (gz_in 132 (by decide +kernel) rfl) (by decide) (by decide) (Nat.le_of_ble_eq_true rfl) (by rw [hRc]; exact Nat.le_of_ble_eq_true rfl) (by rw [hRs]; exact Nat.le_of_ble_eq_true rfl) (fun cA hc H h => by subst hc; exact h) dX1_init_15 ?_
  refine gc_put X rfl (Nat.le_of_ble_eq_true rfl) rfl gw_X1 tyX1 tyX1_ok nmX1 (j := 1) (ty := (.array .int)) (by decide) rfl (gz_in 153 (by decide +kernel) rfl) (by decide +kernel) rfl rfl (Nat.le_of_ble_eq_true rfl) dX1_init_17 ?_
  show gc_At x 1 gc_codes1 q 20 _ _ [.ref (q + 1), .ref (q + 2), .int 0, .int 0, .int 0, .int 0] 3 2 14
  refine gc_aload_n X dX1_init_20 0 rfl rfl ?_
  refine gc_iconst 0 X dX1_init_21 (by decide) ?_
  refine gc_put X rfl (Nat.le_of_ble_eq_true rfl) rfl gw_X1 tyX1 tyX1_ok nmX1 (j := 2) (ty := .int) (by decide) rfl (gz_in 154 (by decide +kernel) rfl) (by decide +kernel) rfl rfl (Nat.le_of_ble_eq_true rfl) dX1_init_22 ?_
  show gc_At x 1 gc_codes1 q 25 _ _ [.ref (q + 1), .ref (q + 2), .int 0, .int 0, .int 0, .int 0] 3 2 14
  refine gc_aload_n X dX1_init_25 0 rfl rfl ?_
  refine gc_iconst (-1) X dX1_init_26 (by decide) ?_
  refine gc_put X rfl (Nat.le_of_ble_eq_true rfl) rfl gw_X1 tyX1 tyX1_ok nmX1 (j := 3) (ty := .int) (by decide) rfl (gz_in 155 (by decide +kernel) rfl) (by decide +kernel) rfl rfl (Nat.le_of_ble_eq_true rfl) dX1_init_27 ?_
  show gc_At x 1 gc_codes1 q 30 _ _ [.ref (q + 1), .ref (q + 2), .int 0, .int (-1), .int 0, .int 0] 3 2 14
  refine gc_aload_n X dX1_init_30 0 rfl rfl ?_
  refine gc_iconst 0 X dX1_init_31 (by decide) ?_
  refine gc_put X rfl (Nat.le_of_ble_eq_true rfl) rfl gw_X1 tyX1 tyX1_ok nmX1 (j := 4) (ty := .int) (by decide) rfl (gz_in 156 (by decide +kernel) rfl) (by decide +kernel) rfl rfl (Nat.le_of_ble_eq_true rfl) dX1_init_32 ?_
  show gc_At x 1 gc_codes1 q 35 _ _ [.ref (q + 1), .ref (q + 2), .int 0, .int (-1), .int 0, .int 0] 3 2 14
  refine gc_aload_n X dX1_init_35 0 rfl rfl ?_
  refine gc_iconst 0 X dX1_init_36 (by decide) ?_
  refine gc_put X rfl (Nat.le_of_ble_eq_true rfl) rfl gw_X1 tyX1 tyX1_ok nmX1 (j := 5) (ty := .int) (by decide) rfl (gz_in 157 (by decide +kernel) rfl) (by decide +kernel) rfl rfl (Nat.le_of_ble_eq_true rfl) dX1_init_37 ?_
  show gc_At x 1 gc_codes1 q 40 _ _ [.ref (q + 1), .ref (q + 2), .int 0, .int (-1), .int 0, .int 0] 3 2 14
  exact hE _ _ _ (fun _ => rfl) dX1_init_40

def gc_codes5 : List Nat := [7, 8]
theorem gc_dflt5 : ∀ j, j < 2 → defaultValue (tyX5 j) = vp_V [.null, .int 0] j
  | 0, _ => rfl
  | 1, _ => rfl
  | j + 2, h => by omega
set_option maxRecDepth 100000 in
theorem gc_init5 {l : Launch} : gc_C l yX5_init cX5_init 1 1 5 gc_codes5 [.null, .int 0] 1 24 := by
  refine gc_of (by decide +kernel) rfl (by decide) (fun x q X hRc hRs hE => ?_)
  refine gc_aload_n X dX5_init_0 0 rfl rfl ?_
  refine gc_objInit X (by decide) (gz_in 182 (by decide +kernel) rfl) (gz_in 112 (by decide +kernel) rfl) (gz_in 113 (by decide +kernel) rfl) (Nat.le_of_ble_eq_true rfl) dX5_init_1 ?_
  refine gc_aload_n X dX5_init_4 0 rfl rfl ?_
  refine gc_bipush 24 X dX5_init_5 (by decide) ?_
  refine gc_newa (N := 24) (t := 0) (ty := .int) X (Nat.le_of_ble_eq_true rfl) rfl rfl (fun _ _ h => h) (gz_in 132 (by decide +kernel) rfl) (by decide) (by decide) (Nat.le_of_ble_eq_true rfl) (by rw [hRc]; exact Nat.le_of_ble_eq_true rfl) (by rw [hRs]; exact Nat.le_of_ble_eq_true rfl) (fun cA hc H h => by subst hc; exact h) dX5_init_7 ?_
  refine gc_put X rfl (Nat.le_of_ble_eq_true rfl) rfl gw_X5 tyX5 tyX5_ok nmX5 (j := 0) (ty := (.array .int)) (by decide) rfl (gz_in 183 (by decide +kernel) rfl) (by decide +kernel) rfl rfl (Nat.le_of_ble_eq_true rfl) dX5_init_9 ?_
  show gc_At x 5 gc_codes5 q 12 _ _ [.ref (q + 1), .int 0] 2 1 24
  refine gc_aload_n X dX5_init_12 0 rfl rfl ?_
  refine gc_iconst 0 X dX5_init_13 (by decide) ?_
  refine gc_put X rfl (Nat.le_of_ble_eq_true rfl) rfl gw_X5 tyX5 tyX5_ok nmX5 (j := 1) (ty := .int) (by decide) rfl (gz_in 184 (by decide +kernel) rfl) (by decide +kernel) rfl rfl (Nat.le_of_ble_eq_true rfl) dX5_init_14 ?_
  show gc_At x 5 gc_codes5 q 17 _ _ [.ref (q + 1), .int 0] 2 1 24
  exact hE _ _ _ (fun _ => rfl) dX5_init_17

def gc_codes0 : List Nat := [6, 2, 7, 8]
theorem gc_dflt0 : ∀ j, j < 3 → defaultValue (tyX0 j) = vp_V [.null, .int 0, .null] j
  | 0, _ => rfl
  | 1, _ => rfl
  | 2, _ => rfl
  | j + 3, h => by omega
set_option maxRecDepth 100000 in
theorem gc_init0 {l : Launch} : gc_C l yX0_init cX0_init 1 2 0 gc_codes0 [.null, .int 0, .null] 3 106 := by
  refine gc_of (by decide +kernel) rfl (by decide) (fun x q X hRc hRs hE => ?_)
  refine gc_aload_n X dX0_init_0 0 rfl rfl ?_
  refine gc_objInit X (by decide) (gz_in 176 (by decide +kernel) rfl) (gz_in 112 (by decide +kernel) rfl) (gz_in 113 (by decide +kernel) rfl) (Nat.le_of_ble_eq_true rfl) dX0_init_1 ?_
  refine gc_aload_n X dX0_init_4 0 rfl rfl ?_
  refine gc_bipush 80 X dX0_init_5 (by decide) ?_
  refine gc_newa (N := 80) (t := 0) (ty := .int) X (Nat.le_of_ble_eq_true rfl) rfl rfl (fun _ _ h => h) (gz_in 132 (by decide +kernel) rfl) (by decide) (by decide) (Nat.le_of_ble_eq_true rfl) (by rw [hRc]; exact Nat.le_of_ble_eq_true rfl) (by rw [hRs]; exact Nat.le_of_ble_eq_true rfl) (fun cA hc H h => by subst hc; exact h) dX0_init_7 ?_
  refine gc_put X rfl (Nat.le_of_ble_eq_true rfl) rfl gw_X0 tyX0 tyX0_ok nmX0 (j := 0) (ty := (.array .int)) (by decide) rfl (gz_in 193 (by decide +kernel) rfl) (by decide +kernel) rfl rfl (Nat.le_of_ble_eq_true rfl) dX0_init_9 ?_
  show gc_At x 0 gc_codes0 q 12 _ _ [.ref (q + 1), .int 0, .null] 2 1 80
  refine gc_aload_n X dX0_init_12 0 rfl rfl ?_
  refine gc_iconst 0 X dX0_init_13 (by decide) ?_
  refine gc_put X rfl (Nat.le_of_ble_eq_true rfl) rfl gw_X0 tyX0 tyX0_ok nmX0 (j := 1) (ty := .int) (by decide) rfl (gz_in 195 (by decide +kernel) rfl) (by decide +kernel) rfl rfl (Nat.le_of_ble_eq_true rfl) dX0_init_14 ?_
  show gc_At x 0 gc_codes0 q 17 _ _ [.ref (q + 1), .int 0, .null] 2 1 80
  refine gc_aload_n X dX0_init_17 0 rfl rfl ?_
  refine gc_newC (cj := 5) (N := 2) (fs2 := [.null, .int 0]) (codes2 := gc_codes5) tyX5 X gc_init5 (Nat.le_of_ble_eq_true rfl) gw_X5 tyX5_ok (gz_in 177 (by decide +kernel) rfl) (gz_in 178 (by decide +kernel) rfl) (gz_in 90 (by decide +kernel) rfl) rfl gc_dflt5 (Or.inr ⟨"LongestTokens", gz_inN 179 (by decide +kernel) rfl⟩) (gz_in 180 (by decide +kernel) rfl) (gz_in 90 (by decide +kernel) rfl) (gz_in 181 (by decide +kernel) rfl) rfl (by decide +kernel) (by decide) (by decide) (by rw [hRc]; exact Nat.le_of_ble_eq_true rfl) (by rw [hRs]; exact Nat.le_of_ble_eq_true rfl) (by decide +kernel) (Nat.le_of_ble_eq_true rfl) dX0_init_18 dX0_init_21 dX0_init_22 ?_
  refine gc_put X rfl (Nat.le_of_ble_eq_true rfl) rfl gw_X0 tyX0 tyX0_ok nmX0 (j := 2) (ty := (.object "LongestTokens$Line")) (by decide) rfl (gz_in 197 (by decide +kernel) rfl) (by decide +kernel) rfl rfl (Nat.le_of_ble_eq_true rfl) dX0_init_25 ?_
  show gc_At x 0 gc_codes0 q 28 _ _ [.ref (q + 1), .int 0, .ref (q + 2)] 4 3 106
  exact hE _ _ _ (fun _ => rfl) dX0_init_28

def gc_codes7 : List Nat := [9, 10, 10, 10, 10, 10, 11, 12, 12, 13, 14, 14, 14, 14, 15, 10, 10, 10, 10]
theorem gc_dflt7 : ∀ j, j < 11 → defaultValue (tyX7 j) = vp_V [.int 0, .null, .null, .null, .null, .null, .null, .null, .null, .null, .null] j
  | 0, _ => rfl
  | 1, _ => rfl
  | 2, _ => rfl
  | 3, _ => rfl
  | 4, _ => rfl
  | 5, _ => rfl
  | 6, _ => rfl
  | 7, _ => rfl
  | 8, _ => rfl
  | 9, _ => rfl
  | 10, _ => rfl
  | j + 11, h => by omega
set_option maxRecDepth 100000 in
theorem gc_init7 {l : Launch} : gc_C l yX7_init cX7_init 1 1 7 gc_codes7 [.int 0, .null, .null, .null, .null, .null, .null, .null, .null, .null, .null] 18 136 := by
  refine gc_of (by decide +kernel) rfl (by decide) (fun x q X hRc hRs hE => ?_)
  refine gc_aload_n X dX7_init_0 0 rfl rfl ?_
  refine gc_objInit X (by decide) (gz_in 211 (by decide +kernel) rfl) (gz_in 112 (by decide +kernel) rfl) (gz_in 113 (by decide +kernel) rfl) (Nat.le_of_ble_eq_true rfl) dX7_init_1 ?_
  refine gc_aload_n X dX7_init_4 0 rfl rfl ?_
  refine gc_iconst 0 X dX7_init_5 (by decide) ?_
  refine gc_put X rfl (Nat.le_of_ble_eq_true rfl) rfl gw_X7 tyX7 tyX7_ok nmX7 (j := 0) (ty := .int) (by decide) rfl (gz_in 214 (by decide +kernel) rfl) (by decide +kernel) rfl rfl (Nat.le_of_ble_eq_true rfl) dX7_init_6 ?_
  show gc_At x 7 gc_codes7 q 9 _ _ [.int 0, .null, .null, .null, .null, .null, .null, .null, .null, .null, .null] 1 0 0
  refine gc_aload_n X dX7_init_9 0 rfl rfl ?_
  refine gc_bipush 8 X dX7_init_10 (by decide) ?_
  refine gc_newa (N := 8) (t := 0) (ty := .int) X (Nat.le_of_ble_eq_true rfl) rfl rfl (fun _ _ h => h) (gz_in 132 (by decide +kernel) rfl) (by decide) (by decide) (Nat.le_of_ble_eq_true rfl) (by rw [hRc]; exact Nat.le_of_ble_eq_true rfl) (by rw [hRs]; exact Nat.le_of_ble_eq_true rfl) (fun cA hc H h => by subst hc; exact h) dX7_init_12 ?_
  refine gc_put X rfl (Nat.le_of_ble_eq_true rfl) rfl gw_X7 tyX7 tyX7_ok nmX7 (j := 1) (ty := (.array .int)) (by decide) rfl (gz_in 218 (by decide +kernel) rfl) (by decide +kernel) rfl rfl (Nat.le_of_ble_eq_true rfl) dX7_init_14 ?_
  show gc_At x 7 gc_codes7 q 17 _ _ [.int 0, .ref (q + 1), .null, .null, .null, .null, .null, .null, .null, .null, .null] 2 1 8
  refine gc_aload_n X dX7_init_17 0 rfl rfl ?_
  refine gc_bipush 8 X dX7_init_18 (by decide) ?_
  refine gc_newa (N := 8) (t := 0) (ty := .int) X (Nat.le_of_ble_eq_true rfl) rfl rfl (fun _ _ h => h) (gz_in 132 (by decide +kernel) rfl) (by decide) (by decide) (Nat.le_of_ble_eq_true rfl) (by rw [hRc]; exact Nat.le_of_ble_eq_true rfl) (by rw [hRs]; exact Nat.le_of_ble_eq_true rfl) (fun cA hc H h => by subst hc; exact h) dX7_init_20 ?_
  refine gc_put X rfl (Nat.le_of_ble_eq_true rfl) rfl gw_X7 tyX7 tyX7_ok nmX7 (j := 2) (ty := (.array .int)) (by decide) rfl (gz_in 221 (by decide +kernel) rfl) (by decide +kernel) rfl rfl (Nat.le_of_ble_eq_true rfl) dX7_init_22 ?_
  show gc_At x 7 gc_codes7 q 25 _ _ [.int 0, .ref (q + 1), .ref (q + 2), .null, .null, .null, .null, .null, .null, .null, .null] 3 2 16
  refine gc_aload_n X dX7_init_25 0 rfl rfl ?_
  refine gc_bipush 8 X dX7_init_26 (by decide) ?_
  refine gc_newa (N := 8) (t := 0) (ty := .int) X (Nat.le_of_ble_eq_true rfl) rfl rfl (fun _ _ h => h) (gz_in 132 (by decide +kernel) rfl) (by decide) (by decide) (Nat.le_of_ble_eq_true rfl) (by rw [hRc]; exact Nat.le_of_ble_eq_true rfl) (by rw [hRs]; exact Nat.le_of_ble_eq_true rfl) (fun cA hc H h => by subst hc; exact h) dX7_init_28 ?_
  refine gc_put X rfl (Nat.le_of_ble_eq_true rfl) rfl gw_X7 tyX7 tyX7_ok nmX7 (j := 3) (ty := (.array .int)) (by decide) rfl (gz_in 224 (by decide +kernel) rfl) (by decide +kernel) rfl rfl (Nat.le_of_ble_eq_true rfl) dX7_init_30 ?_
  show gc_At x 7 gc_codes7 q 33 _ _ [.int 0, .ref (q + 1), .ref (q + 2), .ref (q + 3), .null, .null, .null, .null, .null, .null, .null] 4 3 24
  refine gc_aload_n X dX7_init_33 0 rfl rfl ?_
  refine gc_bipush 8 X dX7_init_34 (by decide) ?_
  refine gc_newa (N := 8) (t := 0) (ty := .int) X (Nat.le_of_ble_eq_true rfl) rfl rfl (fun _ _ h => h) (gz_in 132 (by decide +kernel) rfl) (by decide) (by decide) (Nat.le_of_ble_eq_true rfl) (by rw [hRc]; exact Nat.le_of_ble_eq_true rfl) (by rw [hRs]; exact Nat.le_of_ble_eq_true rfl) (fun cA hc H h => by subst hc; exact h) dX7_init_36 ?_
  refine gc_put X rfl (Nat.le_of_ble_eq_true rfl) rfl gw_X7 tyX7 tyX7_ok nmX7 (j := 4) (ty := (.array .int)) (by decide) rfl (gz_in 228 (by decide +kernel) rfl) (by decide +kernel) rfl rfl (Nat.le_of_ble_eq_true rfl) dX7_init_38 ?_
  show gc_At x 7 gc_codes7 q 41 _ _ [.int 0, .ref (q + 1), .ref (q + 2), .ref (q + 3), .ref (q + 4), .null, .null, .null, .null, .null, .null] 5 4 32
  refine gc_aload_n X dX7_init_41 0 rfl rfl ?_
  refine gc_bipush 8 X dX7_init_42 (by decide) ?_
  refine gc_newa (N := 8) (t := 0) (ty := .int) X (Nat.le_of_ble_eq_true rfl) rfl rfl (fun _ _ h => h) (gz_in 132 (by decide +kernel) rfl) (by decide) (by decide) (Nat.le_of_ble_eq_true rfl) (by rw [hRc]; exact Nat.le_of_ble_eq_true rfl) (by rw [hRs]; exact Nat.le_of_ble_eq_true rfl) (fun cA hc H h => by subst hc; exact h) dX7_init_44 ?_
  refine gc_put X rfl (Nat.le_of_ble_eq_true rfl) rfl gw_X7 tyX7 tyX7_ok nmX7 (j := 5) (ty := (.array .int)) (by decide) rfl (gz_in 232 (by decide +kernel) rfl) (by decide +kernel) rfl rfl (Nat.le_of_ble_eq_true rfl) dX7_init_46 ?_
  show gc_At x 7 gc_codes7 q 49 _ _ [.int 0, .ref (q + 1), .ref (q + 2), .ref (q + 3), .ref (q + 4), .ref (q + 5), .null, .null, .null, .null, .null] 6 5 40
  refine gc_aload_n X dX7_init_49 0 rfl rfl ?_
  refine gc_bipush 8 X dX7_init_50 (by decide) ?_
  refine gc_newa (N := 8) (t := 1) (ty := .boolean) X (Nat.le_of_ble_eq_true rfl) rfl rfl (fun _ _ h => h) (gz_in 269 (by decide +kernel) rfl) (by decide) (by decide) (Nat.le_of_ble_eq_true rfl) (by rw [hRc]; exact Nat.le_of_ble_eq_true rfl) (by rw [hRs]; exact Nat.le_of_ble_eq_true rfl) (fun cA hc H h => by subst hc; exact h) dX7_init_52 ?_
  refine gc_put X rfl (Nat.le_of_ble_eq_true rfl) rfl gw_X7 tyX7 tyX7_ok nmX7 (j := 6) (ty := (.array .boolean)) (by decide) rfl (gz_in 235 (by decide +kernel) rfl) (by decide +kernel) rfl rfl (Nat.le_of_ble_eq_true rfl) dX7_init_54 ?_
  show gc_At x 7 gc_codes7 q 57 _ _ [.int 0, .ref (q + 1), .ref (q + 2), .ref (q + 3), .ref (q + 4), .ref (q + 5), .ref (q + 6), .null, .null, .null, .null] 7 6 48
  refine gc_aload_n X dX7_init_57 0 rfl rfl ?_
  refine gc_iconst 4 X dX7_init_58 (by decide) ?_
  refine gc_newa (N := 4) (t := 0) (ty := .int) X (Nat.le_of_ble_eq_true rfl) rfl rfl (fun _ _ h => h) (gz_in 132 (by decide +kernel) rfl) (by decide) (by decide) (Nat.le_of_ble_eq_true rfl) (by rw [hRc]; exact Nat.le_of_ble_eq_true rfl) (by rw [hRs]; exact Nat.le_of_ble_eq_true rfl) (fun cA hc H h => by subst hc; exact h) dX7_init_59 ?_
  refine gc_put X rfl (Nat.le_of_ble_eq_true rfl) rfl gw_X7 tyX7 tyX7_ok nmX7 (j := 7) (ty := (.array .int)) (by decide) rfl (gz_in 238 (by decide +kernel) rfl) (by decide +kernel) rfl rfl (Nat.le_of_ble_eq_true rfl) dX7_init_61 ?_
  show gc_At x 7 gc_codes7 q 64 _ _ [.int 0, .ref (q + 1), .ref (q + 2), .ref (q + 3), .ref (q + 4), .ref (q + 5), .ref (q + 6), .ref (q + 7), .null, .null, .null] 8 7 52
  refine gc_aload_n X dX7_init_64 0 rfl rfl ?_
  refine gc_iconst 4 X dX7_init_65 (by decide) ?_
  refine gc_newa (N := 4) (t := 0) (ty := .int) X (Nat.le_of_ble_eq_true rfl) rfl rfl (fun _ _ h => h) (gz_in 132 (by decide +kernel) rfl) (by decide) (by decide) (Nat.le_of_ble_eq_true rfl) (by rw [hRc]; exact Nat.le_of_ble_eq_true rfl) (by rw [hRs]; exact Nat.le_of_ble_eq_true rfl) (fun cA hc H h => by subst hc; exact h) dX7_init_66 ?_
  refine gc_put X rfl (Nat.le_of_ble_eq_true rfl) rfl gw_X7 tyX7 tyX7_ok nmX7 (j := 8) (ty := (.array .int)) (by decide) rfl (gz_in 240 (by decide +kernel) rfl) (by decide +kernel) rfl rfl (Nat.le_of_ble_eq_true rfl) dX7_init_68 ?_
  show gc_At x 7 gc_codes7 q 71 _ _ [.int 0, .ref (q + 1), .ref (q + 2), .ref (q + 3), .ref (q + 4), .ref (q + 5), .ref (q + 6), .ref (q + 7), .ref (q + 8), .null, .null] 9 8 56
  refine gc_aload_n X dX7_init_71 0 rfl rfl ?_
  refine gc_iconst 4 X dX7_init_72 (by decide) ?_
  refine gc_bipush 10 X dX7_init_73 (by decide) ?_
  refine gc_multi (N := 4) (K := 10) X (Nat.le_of_ble_eq_true rfl) (gz_in 212 (by decide +kernel) rfl) (gz_in 132 (by decide +kernel) rfl) (by decide) (by decide) (by decide) (by decide) (Nat.le_of_ble_eq_true rfl) (Nat.le_of_ble_eq_true rfl) (by rw [hRc]; exact Nat.le_of_ble_eq_true rfl) (by rw [hRs]; exact Nat.le_of_ble_eq_true rfl) (fun _ => rfl) (fun aC j hj => gc_rowK (c := 14) (by decide +kernel) rfl rfl hj) dX7_init_75 ?_
  refine gc_put X rfl (Nat.le_of_ble_eq_true rfl) rfl gw_X7 tyX7 tyX7_ok nmX7 (j := 9) (ty := (.array (.array .int))) (by decide) rfl (gz_in 242 (by decide +kernel) rfl) (by decide +kernel) rfl rfl (Nat.le_of_ble_eq_true rfl) dX7_init_79 ?_
  show gc_At x 7 gc_codes7 q 82 _ _ [.int 0, .ref (q + 1), .ref (q + 2), .ref (q + 3), .ref (q + 4), .ref (q + 5), .ref (q + 6), .ref (q + 7), .ref (q + 8), .ref (q + 9), .null] 14 13 100
  refine gc_aload_n X dX7_init_82 0 rfl rfl ?_
  refine gc_iconst 4 X dX7_init_83 (by decide) ?_
  refine gc_bipush 8 X dX7_init_84 (by decide) ?_
  refine gc_multi (N := 4) (K := 8) X (Nat.le_of_ble_eq_true rfl) (gz_in 212 (by decide +kernel) rfl) (gz_in 132 (by decide +kernel) rfl) (by decide) (by decide) (by decide) (by decide) (Nat.le_of_ble_eq_true rfl) (Nat.le_of_ble_eq_true rfl) (by rw [hRc]; exact Nat.le_of_ble_eq_true rfl) (by rw [hRs]; exact Nat.le_of_ble_eq_true rfl) (fun _ => rfl) (fun aC j hj => gc_rowK (c := 10) (by decide +kernel) rfl rfl hj) dX7_init_86 ?_
  refine gc_put X rfl (Nat.le_of_ble_eq_true rfl) rfl gw_X7 tyX7 tyX7_ok nmX7 (j := 10) (ty := (.array (.array .int))) (by decide) rfl (gz_in 244 (by decide +kernel) rfl) (by decide +kernel) rfl rfl (Nat.le_of_ble_eq_true rfl) dX7_init_90 ?_
  show gc_At x 7 gc_codes7 q 93 _ _ [.int 0, .ref (q + 1), .ref (q + 2), .ref (q + 3), .ref (q + 4), .ref (q + 5), .ref (q + 6), .ref (q + 7), .ref (q + 8), .ref (q + 9), .ref (q + 14)] 19 18 136
  exact hE _ _ _ (fun _ => rfl) dX7_init_93

def gc_codes2 : List Nat := [16, 8, 8, 8, 8, 8, 8, 8, 8]
theorem gc_dflt2 : ∀ j, j < 16 → defaultValue (tyX2 j) = vp_V [.int 0, .int 0, .null, .null, .null, .null, .null, .null, .null, .null, .int 0, .int 0, .int 0, .int 0, .int 0, .int 0] j
  | 0, _ => rfl
  | 1, _ => rfl
  | 2, _ => rfl
  | 3, _ => rfl
  | 4, _ => rfl
  | 5, _ => rfl
  | 6, _ => rfl
  | 7, _ => rfl
  | 8, _ => rfl
  | 9, _ => rfl
  | 10, _ => rfl
  | 11, _ => rfl
  | 12, _ => rfl
  | 13, _ => rfl
  | 14, _ => rfl
  | 15, _ => rfl
  | j + 16, h => by omega
set_option maxRecDepth 100000 in
theorem gc_init2 {l : Launch} : gc_C l yX2_init cX2_init 1 1 2 gc_codes2 [.int 0, .int 0, .null, .null, .null, .null, .null, .null, .null, .null, .int 0, .int 0, .int 0, .int 0, .int 0, .int 0] 8 192 := by
  refine gc_of (by decide +kernel) rfl (by decide) (fun x q X hRc hRs hE => ?_)
  refine gc_aload_n X dX2_init_0 0 rfl rfl ?_
  refine gc_objInit X (by decide) (gz_in 275 (by decide +kernel) rfl) (gz_in 112 (by decide +kernel) rfl) (gz_in 113 (by decide +kernel) rfl) (Nat.le_of_ble_eq_true rfl) dX2_init_1 ?_
  refine gc_aload_n X dX2_init_4 0 rfl rfl ?_
  refine gc_iconst 0 X dX2_init_5 (by decide) ?_
  refine gc_put X rfl (Nat.le_of_ble_eq_true rfl) rfl gw_X2 tyX2 tyX2_ok nmX2 (j := 0) (ty := .int) (by decide) rfl (gz_in 276 (by decide +kernel) rfl) (by decide +kernel) rfl rfl (Nat.le_of_ble_eq_true rfl) dX2_init_6 ?_
  show gc_At x 2 gc_codes2 q 9 _ _ [.int 0, .int 0, .null, .null, .null, .null, .null, .null, .null, .null, .int 0, .int 0, .int 0, .int 0, .int 0, .int 0] 1 0 0
  refine gc_aload_n X dX2_init_9 0 rfl rfl ?_
  refine gc_iconst 1 X dX2_init_10 (by decide) ?_
  refine gc_put X rfl (Nat.le_of_ble_eq_true rfl) rfl gw_X2 tyX2 tyX2_ok nmX2 (j := 1) (ty := .int) (by decide) rfl (gz_in 279 (by decide +kernel) rfl) (by decide +kernel) rfl rfl (Nat.le_of_ble_eq_true rfl) dX2_init_11 ?_
  show gc_At x 2 gc_codes2 q 14 _ _ [.int 0, .int 1, .null, .null, .null, .null, .null, .null, .null, .null, .int 0, .int 0, .int 0, .int 0, .int 0, .int 0] 1 0 0
  refine gc_aload_n X dX2_init_14 0 rfl rfl ?_
  refine gc_bipush 24 X dX2_init_15 (by decide) ?_
  refine gc_newa (N := 24) (t := 0) (ty := .int) X (Nat.le_of_ble_eq_true rfl) rfl rfl (fun _ _ h => h) (gz_in 132 (by decide +kernel) rfl) (by decide) (by decide) (Nat.le_of_ble_eq_true rfl) (by rw [hRc]; exact Nat.le_of_ble_eq_true rfl) (by rw [hRs]; exact Nat.le_of_ble_eq_true rfl) (fun cA hc H h => by subst hc; exact h) dX2_init_17 ?_
  refine gc_put X rfl (Nat.le_of_ble_eq_true rfl) rfl gw_X2 tyX2 tyX2_ok nmX2 (j := 2) (ty := (.array .int)) (by decide) rfl (gz_in 281 (by decide +kernel) rfl) (by decide +kernel) rfl rfl (Nat.le_of_ble_eq_true rfl) dX2_init_19 ?_
  show gc_At x 2 gc_codes2 q 22 _ _ [.int 0, .int 1, .ref (q + 1), .null, .null, .null, .null, .null, .null, .null, .int 0, .int 0, .int 0, .int 0, .int 0, .int 0] 2 1 24
  refine gc_aload_n X dX2_init_22 0 rfl rfl ?_
  refine gc_bipush 24 X dX2_init_23 (by decide) ?_
  refine gc_newa (N := 24) (t := 0) (ty := .int) X (Nat.le_of_ble_eq_true rfl) rfl rfl (fun _ _ h => h) (gz_in 132 (by decide +kernel) rfl) (by decide) (by decide) (Nat.le_of_ble_eq_true rfl) (by rw [hRc]; exact Nat.le_of_ble_eq_true rfl) (by rw [hRs]; exact Nat.le_of_ble_eq_true rfl) (fun cA hc H h => by subst hc; exact h) dX2_init_25 ?_
  refine gc_put X rfl (Nat.le_of_ble_eq_true rfl) rfl gw_X2 tyX2 tyX2_ok nmX2 (j := 3) (ty := (.array .int)) (by decide) rfl (gz_in 284 (by decide +kernel) rfl) (by decide +kernel) rfl rfl (Nat.le_of_ble_eq_true rfl) dX2_init_27 ?_
  show gc_At x 2 gc_codes2 q 30 _ _ [.int 0, .int 1, .ref (q + 1), .ref (q + 2), .null, .null, .null, .null, .null, .null, .int 0, .int 0, .int 0, .int 0, .int 0, .int 0] 3 2 48
  refine gc_aload_n X dX2_init_30 0 rfl rfl ?_
  refine gc_bipush 24 X dX2_init_31 (by decide) ?_
  refine gc_newa (N := 24) (t := 0) (ty := .int) X (Nat.le_of_ble_eq_true rfl) rfl rfl (fun _ _ h => h) (gz_in 132 (by decide +kernel) rfl) (by decide) (by decide) (Nat.le_of_ble_eq_true rfl) (by rw [hRc]; exact Nat.le_of_ble_eq_true rfl) (by rw [hRs]; exact Nat.le_of_ble_eq_true rfl) (fun cA hc H h => by subst hc; exact h) dX2_init_33 ?_
  refine gc_put X rfl (Nat.le_of_ble_eq_true rfl) rfl gw_X2 tyX2 tyX2_ok nmX2 (j := 4) (ty := (.array .int)) (by decide) rfl (gz_in 287 (by decide +kernel) rfl) (by decide +kernel) rfl rfl (Nat.le_of_ble_eq_true rfl) dX2_init_35 ?_
  show gc_At x 2 gc_codes2 q 38 _ _ [.int 0, .int 1, .ref (q + 1), .ref (q + 2), .ref (q + 3), .null, .null, .null, .null, .null, .int 0, .int 0, .int 0, .int 0, .int 0, .int 0] 4 3 72
  refine gc_aload_n X dX2_init_38 0 rfl rfl ?_
  refine gc_bipush 24 X dX2_init_39 (by decide) ?_
  refine gc_newa (N := 24) (t := 0) (ty := .int) X (Nat.le_of_ble_eq_true rfl) rfl rfl (fun _ _ h => h) (gz_in 132 (by decide +kernel) rfl) (by decide) (by decide) (Nat.le_of_ble_eq_true rfl) (by rw [hRc]; exact Nat.le_of_ble_eq_true rfl) (by rw [hRs]; exact Nat.le_of_ble_eq_true rfl) (fun cA hc H h => by subst hc; exact h) dX2_init_41 ?_
  refine gc_put X rfl (Nat.le_of_ble_eq_true rfl) rfl gw_X2 tyX2 tyX2_ok nmX2 (j := 5) (ty := (.array .int)) (by decide) rfl (gz_in 290 (by decide +kernel) rfl) (by decide +kernel) rfl rfl (Nat.le_of_ble_eq_true rfl) dX2_init_43 ?_
  show gc_At x 2 gc_codes2 q 46 _ _ [.int 0, .int 1, .ref (q + 1), .ref (q + 2), .ref (q + 3), .ref (q + 4), .null, .null, .null, .null, .int 0, .int 0, .int 0, .int 0, .int 0, .int 0] 5 4 96
  refine gc_aload_n X dX2_init_46 0 rfl rfl ?_
  refine gc_bipush 24 X dX2_init_47 (by decide) ?_
  refine gc_newa (N := 24) (t := 0) (ty := .int) X (Nat.le_of_ble_eq_true rfl) rfl rfl (fun _ _ h => h) (gz_in 132 (by decide +kernel) rfl) (by decide) (by decide) (Nat.le_of_ble_eq_true rfl) (by rw [hRc]; exact Nat.le_of_ble_eq_true rfl) (by rw [hRs]; exact Nat.le_of_ble_eq_true rfl) (fun cA hc H h => by subst hc; exact h) dX2_init_49 ?_
  refine gc_put X rfl (Nat.le_of_ble_eq_true rfl) rfl gw_X2 tyX2 tyX2_ok nmX2 (j := 6) (ty := (.array .int)) (by decide) rfl (gz_in 293 (by decide +kernel) rfl) (by decide +kernel) rfl rfl (Nat.le_of_ble_eq_true rfl) dX2_init_51 ?_
  show gc_At x 2 gc_codes2 q 54 _ _ [.int 0, .int 1, .ref (q + 1), .ref (q + 2), .ref (q + 3), .ref (q + 4), .ref (q + 5), .null, .null, .null, .int 0, .int 0, .int 0, .int 0, .int 0, .int 0] 6 5 120
  refine gc_aload_n X dX2_init_54 0 rfl rfl ?_
  refine gc_bipush 24 X dX2_init_55 (by decide) ?_
  refine gc_newa (N := 24) (t := 0) (ty := .int) X (Nat.le_of_ble_eq_true rfl) rfl rfl (fun _ _ h => h) (gz_in 132 (by decide +kernel) rfl) (by decide) (by decide) (Nat.le_of_ble_eq_true rfl) (by rw [hRc]; exact Nat.le_of_ble_eq_true rfl) (by rw [hRs]; exact Nat.le_of_ble_eq_true rfl) (fun cA hc H h => by subst hc; exact h) dX2_init_57 ?_
  refine gc_put X rfl (Nat.le_of_ble_eq_true rfl) rfl gw_X2 tyX2 tyX2_ok nmX2 (j := 7) (ty := (.array .int)) (by decide) rfl (gz_in 295 (by decide +kernel) rfl) (by decide +kernel) rfl rfl (Nat.le_of_ble_eq_true rfl) dX2_init_59 ?_
  show gc_At x 2 gc_codes2 q 62 _ _ [.int 0, .int 1, .ref (q + 1), .ref (q + 2), .ref (q + 3), .ref (q + 4), .ref (q + 5), .ref (q + 6), .null, .null, .int 0, .int 0, .int 0, .int 0, .int 0, .int 0] 7 6 144
  refine gc_aload_n X dX2_init_62 0 rfl rfl ?_
  refine gc_bipush 24 X dX2_init_63 (by decide) ?_
  refine gc_newa (N := 24) (t := 0) (ty := .int) X (Nat.le_of_ble_eq_true rfl) rfl rfl (fun _ _ h => h) (gz_in 132 (by decide +kernel) rfl) (by decide) (by decide) (Nat.le_of_ble_eq_true rfl) (by rw [hRc]; exact Nat.le_of_ble_eq_true rfl) (by rw [hRs]; exact Nat.le_of_ble_eq_true rfl) (fun cA hc H h => by subst hc; exact h) dX2_init_65 ?_
  refine gc_put X rfl (Nat.le_of_ble_eq_true rfl) rfl gw_X2 tyX2 tyX2_ok nmX2 (j := 8) (ty := (.array .int)) (by decide) rfl (gz_in 298 (by decide +kernel) rfl) (by decide +kernel) rfl rfl (Nat.le_of_ble_eq_true rfl) dX2_init_67 ?_
  show gc_At x 2 gc_codes2 q 70 _ _ [.int 0, .int 1, .ref (q + 1), .ref (q + 2), .ref (q + 3), .ref (q + 4), .ref (q + 5), .ref (q + 6), .ref (q + 7), .null, .int 0, .int 0, .int 0, .int 0, .int 0, .int 0] 8 7 168
  refine gc_aload_n X dX2_init_70 0 rfl rfl ?_
  refine gc_bipush 24 X dX2_init_71 (by decide) ?_
  refine gc_newa (N := 24) (t := 0) (ty := .int) X (Nat.le_of_ble_eq_true rfl) rfl rfl (fun _ _ h => h) (gz_in 132 (by decide +kernel) rfl) (by decide) (by decide) (Nat.le_of_ble_eq_true rfl) (by rw [hRc]; exact Nat.le_of_ble_eq_true rfl) (by rw [hRs]; exact Nat.le_of_ble_eq_true rfl) (fun cA hc H h => by subst hc; exact h) dX2_init_73 ?_
  refine gc_put X rfl (Nat.le_of_ble_eq_true rfl) rfl gw_X2 tyX2 tyX2_ok nmX2 (j := 9) (ty := (.array .int)) (by decide) rfl (gz_in 300 (by decide +kernel) rfl) (by decide +kernel) rfl rfl (Nat.le_of_ble_eq_true rfl) dX2_init_75 ?_
  show gc_At x 2 gc_codes2 q 78 _ _ [.int 0, .int 1, .ref (q + 1), .ref (q + 2), .ref (q + 3), .ref (q + 4), .ref (q + 5), .ref (q + 6), .ref (q + 7), .ref (q + 8), .int 0, .int 0, .int 0, .int 0, .int 0, .int 0] 9 8 192
  refine gc_aload_n X dX2_init_78 0 rfl rfl ?_
  refine gc_iconst 1 X dX2_init_79 (by decide) ?_
  refine gc_put X rfl (Nat.le_of_ble_eq_true rfl) rfl gw_X2 tyX2 tyX2_ok nmX2 (j := 10) (ty := .int) (by decide) rfl (gz_in 302 (by decide +kernel) rfl) (by decide +kernel) rfl rfl (Nat.le_of_ble_eq_true rfl) dX2_init_80 ?_
  show gc_At x 2 gc_codes2 q 83 _ _ [.int 0, .int 1, .ref (q + 1), .ref (q + 2), .ref (q + 3), .ref (q + 4), .ref (q + 5), .ref (q + 6), .ref (q + 7), .ref (q + 8), .int 1, .int 0, .int 0, .int 0, .int 0, .int 0] 9 8 192
  refine gc_aload_n X dX2_init_83 0 rfl rfl ?_
  refine gc_iconst 0 X dX2_init_84 (by decide) ?_
  refine gc_put X rfl (Nat.le_of_ble_eq_true rfl) rfl gw_X2 tyX2 tyX2_ok nmX2 (j := 11) (ty := .int) (by decide) rfl (gz_in 303 (by decide +kernel) rfl) (by decide +kernel) rfl rfl (Nat.le_of_ble_eq_true rfl) dX2_init_85 ?_
  show gc_At x 2 gc_codes2 q 88 _ _ [.int 0, .int 1, .ref (q + 1), .ref (q + 2), .ref (q + 3), .ref (q + 4), .ref (q + 5), .ref (q + 6), .ref (q + 7), .ref (q + 8), .int 1, .int 0, .int 0, .int 0, .int 0, .int 0] 9 8 192
  refine gc_aload_n X dX2_init_88 0 rfl rfl ?_
  refine gc_iconst (-1) X dX2_init_89 (by decide) ?_
  refine gc_put X rfl (Nat.le_of_ble_eq_true rfl) rfl gw_X2 tyX2 tyX2_ok nmX2 (j := 12) (ty := .int) (by decide) rfl (gz_in 304 (by decide +kernel) rfl) (by decide +kernel) rfl rfl (Nat.le_of_ble_eq_true rfl) dX2_init_90 ?_
  show gc_At x 2 gc_codes2 q 93 _ _ [.int 0, .int 1, .ref (q + 1), .ref (q + 2), .ref (q + 3), .ref (q + 4), .ref (q + 5), .ref (q + 6), .ref (q + 7), .ref (q + 8), .int 1, .int 0, .int (-1), .int 0, .int 0, .int 0] 9 8 192
  refine gc_aload_n X dX2_init_93 0 rfl rfl ?_
  refine gc_iconst 0 X dX2_init_94 (by decide) ?_
  refine gc_put X rfl (Nat.le_of_ble_eq_true rfl) rfl gw_X2 tyX2 tyX2_ok nmX2 (j := 13) (ty := .int) (by decide) rfl (gz_in 306 (by decide +kernel) rfl) (by decide +kernel) rfl rfl (Nat.le_of_ble_eq_true rfl) dX2_init_95 ?_
  show gc_At x 2 gc_codes2 q 98 _ _ [.int 0, .int 1, .ref (q + 1), .ref (q + 2), .ref (q + 3), .ref (q + 4), .ref (q + 5), .ref (q + 6), .ref (q + 7), .ref (q + 8), .int 1, .int 0, .int (-1), .int 0, .int 0, .int 0] 9 8 192
  refine gc_aload_n X dX2_init_98 0 rfl rfl ?_
  refine gc_iconst 0 X dX2_init_99 (by decide) ?_
  refine gc_put X rfl (Nat.le_of_ble_eq_true rfl) rfl gw_X2 tyX2 tyX2_ok nmX2 (j := 14) (ty := .int) (by decide) rfl (gz_in 308 (by decide +kernel) rfl) (by decide +kernel) rfl rfl (Nat.le_of_ble_eq_true rfl) dX2_init_100 ?_
  show gc_At x 2 gc_codes2 q 103 _ _ [.int 0, .int 1, .ref (q + 1), .ref (q + 2), .ref (q + 3), .ref (q + 4), .ref (q + 5), .ref (q + 6), .ref (q + 7), .ref (q + 8), .int 1, .int 0, .int (-1), .int 0, .int 0, .int 0] 9 8 192
  refine gc_aload_n X dX2_init_103 0 rfl rfl ?_
  refine gc_iconst (-1) X dX2_init_104 (by decide) ?_
  refine gc_put X rfl (Nat.le_of_ble_eq_true rfl) rfl gw_X2 tyX2 tyX2_ok nmX2 (j := 15) (ty := .int) (by decide) rfl (gz_in 309 (by decide +kernel) rfl) (by decide +kernel) rfl rfl (Nat.le_of_ble_eq_true rfl) dX2_init_105 ?_
  show gc_At x 2 gc_codes2 q 108 _ _ [.int 0, .int 1, .ref (q + 1), .ref (q + 2), .ref (q + 3), .ref (q + 4), .ref (q + 5), .ref (q + 6), .ref (q + 7), .ref (q + 8), .int 1, .int 0, .int (-1), .int 0, .int 0, .int (-1)] 9 8 192
  exact hE _ _ _ (fun _ => rfl) dX2_init_108

def gc_codes6 : List Nat := [17, 18, 8, 8, 8, 8, 8, 8, 8, 8, 8, 8, 8, 8, 8, 8, 8, 8, 8, 8, 8, 8, 8, 8, 8, 8, 8, 18, 8, 8, 8, 8, 8, 8, 8, 8, 8, 8, 8, 8, 8, 8, 8, 8, 8, 8, 8, 8, 8, 8, 8, 8, 8, 19]
theorem gc_dflt6 : ∀ j, j < 5 → defaultValue (tyX6 j) = vp_V [.null, .null, .null, .int 0, .int 0] j
  | 0, _ => rfl
  | 1, _ => rfl
  | 2, _ => rfl
  | 3, _ => rfl
  | 4, _ => rfl
  | j + 5, h => by omega
set_option maxRecDepth 100000 in
theorem gc_init6 {l : Launch} : gc_C l yX6_init cX6_init 1 1 6 gc_codes6 [.null, .null, .null, .int 0, .int 0] 53 1275 := by
  refine gc_of (by decide +kernel) rfl (by decide) (fun x q X hRc hRs hE => ?_)
  refine gc_aload_n X dX6_init_0 0 rfl rfl ?_
  refine gc_objInit X (by decide) (gz_in 350 (by decide +kernel) rfl) (gz_in 112 (by decide +kernel) rfl) (gz_in 113 (by decide +kernel) rfl) (Nat.le_of_ble_eq_true rfl) dX6_init_1 ?_
  refine gc_aload_n X dX6_init_4 0 rfl rfl ?_
  refine gc_bipush 25 X dX6_init_5 (by decide) ?_
  refine gc_bipush 24 X dX6_init_7 (by decide) ?_
  refine gc_multi (N := 25) (K := 24) X (Nat.le_of_ble_eq_true rfl) (gz_in 351 (by decide +kernel) rfl) (gz_in 132 (by decide +kernel) rfl) (by decide) (by decide) (by decide) (by decide) (Nat.le_of_ble_eq_true rfl) (Nat.le_of_ble_eq_true rfl) (by rw [hRc]; exact Nat.le_of_ble_eq_true rfl) (by rw [hRs]; exact Nat.le_of_ble_eq_true rfl) (fun _ => rfl) (fun aC j hj => gc_rowK (c := 8) (by decide +kernel) rfl rfl hj) dX6_init_9 ?_
  refine gc_put X rfl (Nat.le_of_ble_eq_true rfl) rfl gw_X6 tyX6 tyX6_ok nmX6 (j := 0) (ty := (.array (.array .int))) (by decide) rfl (gz_in 352 (by decide +kernel) rfl) (by decide +kernel) rfl rfl (Nat.le_of_ble_eq_true rfl) dX6_init_13 ?_
  show gc_At x 6 gc_codes6 q 16 _ _ [.ref (q + 1), .null, .null, .int 0, .int 0] 27 26 625
  refine gc_aload_n X dX6_init_16 0 rfl rfl ?_
  refine gc_bipush 25 X dX6_init_17 (by decide) ?_
  refine gc_bipush 24 X dX6_init_19 (by decide) ?_
  refine gc_multi (N := 25) (K := 24) X (Nat.le_of_ble_eq_true rfl) (gz_in 351 (by decide +kernel) rfl) (gz_in 132 (by decide +kernel) rfl) (by decide) (by decide) (by decide) (by decide) (Nat.le_of_ble_eq_true rfl) (Nat.le_of_ble_eq_true rfl) (by rw [hRc]; exact Nat.le_of_ble_eq_true rfl) (by rw [hRs]; exact Nat.le_of_ble_eq_true rfl) (fun _ => rfl) (fun aC j hj => gc_rowK (c := 8) (by decide +kernel) rfl rfl hj) dX6_init_21 ?_
  refine gc_put X rfl (Nat.le_of_ble_eq_true rfl) rfl gw_X6 tyX6 tyX6_ok nmX6 (j := 1) (ty := (.array (.array .int))) (by decide) rfl (gz_in 353 (by decide +kernel) rfl) (by decide +kernel) rfl rfl (Nat.le_of_ble_eq_true rfl) dX6_init_25 ?_
  show gc_At x 6 gc_codes6 q 28 _ _ [.ref (q + 1), .ref (q + 27), .null, .int 0, .int 0] 53 52 1250
  refine gc_aload_n X dX6_init_28 0 rfl rfl ?_
  refine gc_bipush 25 X dX6_init_29 (by decide) ?_
  refine gc_newa (N := 25) (t := 0) (ty := .int) X (Nat.le_of_ble_eq_true rfl) rfl rfl (fun _ _ h => h) (gz_in 132 (by decide +kernel) rfl) (by decide) (by decide) (Nat.le_of_ble_eq_true rfl) (by rw [hRc]; exact Nat.le_of_ble_eq_true rfl) (by rw [hRs]; exact Nat.le_of_ble_eq_true rfl) (fun cA hc H h => by subst hc; exact h) dX6_init_31 ?_
  refine gc_put X rfl (Nat.le_of_ble_eq_true rfl) rfl gw_X6 tyX6 tyX6_ok nmX6 (j := 2) (ty := (.array .int)) (by decide) rfl (gz_in 354 (by decide +kernel) rfl) (by decide +kernel) rfl rfl (Nat.le_of_ble_eq_true rfl) dX6_init_33 ?_
  show gc_At x 6 gc_codes6 q 36 _ _ [.ref (q + 1), .ref (q + 27), .ref (q + 53), .int 0, .int 0] 54 53 1275
  refine gc_aload_n X dX6_init_36 0 rfl rfl ?_
  refine gc_iconst 0 X dX6_init_37 (by decide) ?_
  refine gc_put X rfl (Nat.le_of_ble_eq_true rfl) rfl gw_X6 tyX6 tyX6_ok nmX6 (j := 3) (ty := .int) (by decide) rfl (gz_in 355 (by decide +kernel) rfl) (by decide +kernel) rfl rfl (Nat.le_of_ble_eq_true rfl) dX6_init_38 ?_
  show gc_At x 6 gc_codes6 q 41 _ _ [.ref (q + 1), .ref (q + 27), .ref (q + 53), .int 0, .int 0] 54 53 1275
  refine gc_aload_n X dX6_init_41 0 rfl rfl ?_
  refine gc_iconst 0 X dX6_init_42 (by decide) ?_
  refine gc_put X rfl (Nat.le_of_ble_eq_true rfl) rfl gw_X6 tyX6 tyX6_ok nmX6 (j := 4) (ty := .int) (by decide) rfl (gz_in 357 (by decide +kernel) rfl) (by decide +kernel) rfl rfl (Nat.le_of_ble_eq_true rfl) dX6_init_43 ?_
  show gc_At x 6 gc_codes6 q 46 _ _ [.ref (q + 1), .ref (q + 27), .ref (q + 53), .int 0, .int 0] 54 53 1275
  exact hE _ _ _ (fun _ => rfl) dX6_init_46

def gc_codes8 : List Nat := [20, 21, 21, 21]
theorem gc_dflt8 : ∀ j, j < 4 → defaultValue (tyX8 j) = vp_V [.null, .null, .null, .int 0] j
  | 0, _ => rfl
  | 1, _ => rfl
  | 2, _ => rfl
  | 3, _ => rfl
  | j + 4, h => by omega
set_option maxRecDepth 100000 in
theorem gc_init8 {l : Launch} : gc_C l yX8_init cX8_init 1 1 8 gc_codes8 [.null, .null, .null, .int 0] 3 3072 := by
  refine gc_of (by decide +kernel) rfl (by decide) (fun x q X hRc hRs hE => ?_)
  refine gc_aload_n X dX8_init_0 0 rfl rfl ?_
  refine gc_objInit X (by decide) (gz_in 375 (by decide +kernel) rfl) (gz_in 112 (by decide +kernel) rfl) (gz_in 113 (by decide +kernel) rfl) (Nat.le_of_ble_eq_true rfl) dX8_init_1 ?_
  refine gc_aload_n X dX8_init_4 0 rfl rfl ?_
  refine gc_sipush 1024 X dX8_init_5 (by decide) ?_
  refine gc_newa (N := 1024) (t := 0) (ty := .int) X (Nat.le_of_ble_eq_true rfl) rfl rfl (fun _ _ h => h) (gz_in 132 (by decide +kernel) rfl) (by decide) (by decide) (Nat.le_of_ble_eq_true rfl) (by rw [hRc]; exact Nat.le_of_ble_eq_true rfl) (by rw [hRs]; exact Nat.le_of_ble_eq_true rfl) (fun cA hc H h => by subst hc; exact h) dX8_init_8 ?_
  refine gc_put X rfl (Nat.le_of_ble_eq_true rfl) rfl gw_X8 tyX8 tyX8_ok nmX8 (j := 0) (ty := (.array .int)) (by decide) rfl (gz_in 376 (by decide +kernel) rfl) (by decide +kernel) rfl rfl (Nat.le_of_ble_eq_true rfl) dX8_init_10 ?_
  show gc_At x 8 gc_codes8 q 13 _ _ [.ref (q + 1), .null, .null, .int 0] 2 1 1024
  refine gc_aload_n X dX8_init_13 0 rfl rfl ?_
  refine gc_sipush 1024 X dX8_init_14 (by decide) ?_
  refine gc_newa (N := 1024) (t := 0) (ty := .int) X (Nat.le_of_ble_eq_true rfl) rfl rfl (fun _ _ h => h) (gz_in 132 (by decide +kernel) rfl) (by decide) (by decide) (Nat.le_of_ble_eq_true rfl) (by rw [hRc]; exact Nat.le_of_ble_eq_true rfl) (by rw [hRs]; exact Nat.le_of_ble_eq_true rfl) (fun cA hc H h => by subst hc; exact h) dX8_init_17 ?_
  refine gc_put X rfl (Nat.le_of_ble_eq_true rfl) rfl gw_X8 tyX8 tyX8_ok nmX8 (j := 1) (ty := (.array .int)) (by decide) rfl (gz_in 378 (by decide +kernel) rfl) (by decide +kernel) rfl rfl (Nat.le_of_ble_eq_true rfl) dX8_init_19 ?_
  show gc_At x 8 gc_codes8 q 22 _ _ [.ref (q + 1), .ref (q + 2), .null, .int 0] 3 2 2048
  refine gc_aload_n X dX8_init_22 0 rfl rfl ?_
  refine gc_sipush 1024 X dX8_init_23 (by decide) ?_
  refine gc_newa (N := 1024) (t := 0) (ty := .int) X (Nat.le_of_ble_eq_true rfl) rfl rfl (fun _ _ h => h) (gz_in 132 (by decide +kernel) rfl) (by decide) (by decide) (Nat.le_of_ble_eq_true rfl) (by rw [hRc]; exact Nat.le_of_ble_eq_true rfl) (by rw [hRs]; exact Nat.le_of_ble_eq_true rfl) (fun cA hc H h => by subst hc; exact h) dX8_init_26 ?_
  refine gc_put X rfl (Nat.le_of_ble_eq_true rfl) rfl gw_X8 tyX8 tyX8_ok nmX8 (j := 2) (ty := (.array .int)) (by decide) rfl (gz_in 379 (by decide +kernel) rfl) (by decide +kernel) rfl rfl (Nat.le_of_ble_eq_true rfl) dX8_init_28 ?_
  show gc_At x 8 gc_codes8 q 31 _ _ [.ref (q + 1), .ref (q + 2), .ref (q + 3), .int 0] 4 3 3072
  refine gc_aload_n X dX8_init_31 0 rfl rfl ?_
  refine gc_iconst 0 X dX8_init_32 (by decide) ?_
  refine gc_put X rfl (Nat.le_of_ble_eq_true rfl) rfl gw_X8 tyX8 tyX8_ok nmX8 (j := 3) (ty := .int) (by decide) rfl (gz_in 381 (by decide +kernel) rfl) (by decide +kernel) rfl rfl (Nat.le_of_ble_eq_true rfl) dX8_init_33 ?_
  show gc_At x 8 gc_codes8 q 36 _ _ [.ref (q + 1), .ref (q + 2), .ref (q + 3), .int 0] 4 3 3072
  exact hE _ _ _ (fun _ => rfl) dX8_init_36

def gc_codes9 : List Nat := [22, 19, 19, 19]
theorem gc_dflt9 : ∀ j, j < 3 → defaultValue (tyX9 j) = vp_V [.null, .null, .null] j
  | 0, _ => rfl
  | 1, _ => rfl
  | 2, _ => rfl
  | j + 3, h => by omega
set_option maxRecDepth 100000 in
theorem gc_init9 {l : Launch} : gc_C l yX9_init cX9_init 1 1 9 gc_codes9 [.null, .null, .null] 3 75 := by
  refine gc_of (by decide +kernel) rfl (by decide) (fun x q X hRc hRs hE => ?_)
  refine gc_aload_n X dX9_init_0 0 rfl rfl ?_
  refine gc_objInit X (by decide) (gz_in 397 (by decide +kernel) rfl) (gz_in 112 (by decide +kernel) rfl) (gz_in 113 (by decide +kernel) rfl) (Nat.le_of_ble_eq_true rfl) dX9_init_1 ?_
  refine gc_aload_n X dX9_init_4 0 rfl rfl ?_
  refine gc_bipush 25 X dX9_init_5 (by decide) ?_
  refine gc_newa (N := 25) (t := 0) (ty := .int) X (Nat.le_of_ble_eq_true rfl) rfl rfl (fun _ _ h => h) (gz_in 132 (by decide +kernel) rfl) (by decide) (by decide) (Nat.le_of_ble_eq_true rfl) (by rw [hRc]; exact Nat.le_of_ble_eq_true rfl) (by rw [hRs]; exact Nat.le_of_ble_eq_true rfl) (fun cA hc H h => by subst hc; exact h) dX9_init_7 ?_
  refine gc_put X rfl (Nat.le_of_ble_eq_true rfl) rfl gw_X9 tyX9 tyX9_ok nmX9 (j := 0) (ty := (.array .int)) (by decide) rfl (gz_in 398 (by decide +kernel) rfl) (by decide +kernel) rfl rfl (Nat.le_of_ble_eq_true rfl) dX9_init_9 ?_
  show gc_At x 9 gc_codes9 q 12 _ _ [.ref (q + 1), .null, .null] 2 1 25
  refine gc_aload_n X dX9_init_12 0 rfl rfl ?_
  refine gc_bipush 25 X dX9_init_13 (by decide) ?_
  refine gc_newa (N := 25) (t := 0) (ty := .int) X (Nat.le_of_ble_eq_true rfl) rfl rfl (fun _ _ h => h) (gz_in 132 (by decide +kernel) rfl) (by decide) (by decide) (Nat.le_of_ble_eq_true rfl) (by rw [hRc]; exact Nat.le_of_ble_eq_true rfl) (by rw [hRs]; exact Nat.le_of_ble_eq_true rfl) (fun cA hc H h => by subst hc; exact h) dX9_init_15 ?_
  refine gc_put X rfl (Nat.le_of_ble_eq_true rfl) rfl gw_X9 tyX9 tyX9_ok nmX9 (j := 1) (ty := (.array .int)) (by decide) rfl (gz_in 399 (by decide +kernel) rfl) (by decide +kernel) rfl rfl (Nat.le_of_ble_eq_true rfl) dX9_init_17 ?_
  show gc_At x 9 gc_codes9 q 20 _ _ [.ref (q + 1), .ref (q + 2), .null] 3 2 50
  refine gc_aload_n X dX9_init_20 0 rfl rfl ?_
  refine gc_bipush 25 X dX9_init_21 (by decide) ?_
  refine gc_newa (N := 25) (t := 0) (ty := .int) X (Nat.le_of_ble_eq_true rfl) rfl rfl (fun _ _ h => h) (gz_in 132 (by decide +kernel) rfl) (by decide) (by decide) (Nat.le_of_ble_eq_true rfl) (by rw [hRc]; exact Nat.le_of_ble_eq_true rfl) (by rw [hRs]; exact Nat.le_of_ble_eq_true rfl) (fun cA hc H h => by subst hc; exact h) dX9_init_23 ?_
  refine gc_put X rfl (Nat.le_of_ble_eq_true rfl) rfl gw_X9 tyX9 tyX9_ok nmX9 (j := 2) (ty := (.array .int)) (by decide) rfl (gz_in 401 (by decide +kernel) rfl) (by decide +kernel) rfl rfl (Nat.le_of_ble_eq_true rfl) dX9_init_25 ?_
  show gc_At x 9 gc_codes9 q 28 _ _ [.ref (q + 1), .ref (q + 2), .ref (q + 3)] 4 3 75
  exact hE _ _ _ (fun _ => rfl) dX9_init_28

def gc_codes4 : List Nat := [23, 24]
theorem gc_dflt4 : ∀ j, j < 3 → defaultValue (tyX4 j) = vp_V [.null, .int 0, .int 0] j
  | 0, _ => rfl
  | 1, _ => rfl
  | 2, _ => rfl
  | j + 3, h => by omega
set_option maxRecDepth 100000 in
theorem gc_init4 {l : Launch} : gc_C l yX4_init cX4_init 1 1 4 gc_codes4 [.null, .int 0, .int 0] 1 10 := by
  refine gc_of (by decide +kernel) rfl (by decide) (fun x q X hRc hRs hE => ?_)
  refine gc_aload_n X dX4_init_0 0 rfl rfl ?_
  refine gc_objInit X (by decide) (gz_in 415 (by decide +kernel) rfl) (gz_in 112 (by decide +kernel) rfl) (gz_in 113 (by decide +kernel) rfl) (Nat.le_of_ble_eq_true rfl) dX4_init_1 ?_
  refine gc_aload_n X dX4_init_4 0 rfl rfl ?_
  refine gc_bipush 10 X dX4_init_5 (by decide) ?_
  refine gc_anew (N := 10) (b := 0) X (Nat.le_of_ble_eq_true rfl) (gz_in 416 (by decide +kernel) rfl) (by decide) (by decide) (Nat.le_of_ble_eq_true rfl) (by rw [hRc]; exact Nat.le_of_ble_eq_true rfl) (by rw [hRs]; exact Nat.le_of_ble_eq_true rfl) (fun _ => rfl) dX4_init_7 ?_
  refine gc_put X rfl (Nat.le_of_ble_eq_true rfl) rfl gw_X4 tyX4 tyX4_ok nmX4 (j := 0) (ty := (.array (.object "LongestTokens$Book"))) (by decide) rfl (gz_in 418 (by decide +kernel) rfl) (by decide +kernel) rfl rfl (Nat.le_of_ble_eq_true rfl) dX4_init_10 ?_
  show gc_At x 4 gc_codes4 q 13 _ _ [.ref (q + 1), .int 0, .int 0] 2 1 10
  refine gc_aload_n X dX4_init_13 0 rfl rfl ?_
  refine gc_iconst 0 X dX4_init_14 (by decide) ?_
  refine gc_put X rfl (Nat.le_of_ble_eq_true rfl) rfl gw_X4 tyX4 tyX4_ok nmX4 (j := 1) (ty := .int) (by decide) rfl (gz_in 419 (by decide +kernel) rfl) (by decide +kernel) rfl rfl (Nat.le_of_ble_eq_true rfl) dX4_init_15 ?_
  show gc_At x 4 gc_codes4 q 18 _ _ [.ref (q + 1), .int 0, .int 0] 2 1 10
  refine gc_aload_n X dX4_init_18 0 rfl rfl ?_
  refine gc_iconst 0 X dX4_init_19 (by decide) ?_
  refine gc_put X rfl (Nat.le_of_ble_eq_true rfl) rfl gw_X4 tyX4 tyX4_ok nmX4 (j := 2) (ty := .int) (by decide) rfl (gz_in 420 (by decide +kernel) rfl) (by decide +kernel) rfl rfl (Nat.le_of_ble_eq_true rfl) dX4_init_20 ?_
  show gc_At x 4 gc_codes4 q 23 _ _ [.ref (q + 1), .int 0, .int 0] 2 1 10
  exact hE _ _ _ (fun _ => rfl) dX4_init_23

def gc_codes11 : List Nat := [0, 1, 2, 3, 4, 5, 5, 6, 2, 7, 8, 9, 10, 10, 10, 10, 10, 11, 12, 12, 13, 14, 14, 14, 14, 15, 10, 10, 10, 10, 16, 8, 8, 8, 8, 8, 8, 8, 8, 9, 10, 10, 10, 10, 10, 11, 12, 12, 13, 14, 14, 14, 14, 15, 10, 10, 10, 10, 7, 8, 16, 8, 8, 8, 8, 8, 8, 8, 8, 17, 18, 8, 8, 8, 8, 8, 8, 8, 8, 8, 8, 8, 8, 8, 8, 8, 8, 8, 8, 8, 8, 8, 8, 8, 8, 8, 18, 8, 8, 8, 8, 8, 8, 8, 8, 8, 8, 8, 8, 8, 8, 8, 8, 8, 8, 8, 8, 8, 8, 8, 8, 8, 19, 20, 21, 21, 21, 22, 19, 19, 19, 23, 24, 25, 26]
theorem gc_dflt11 : ∀ j, j < 16 → defaultValue (tyX11 j) = vp_V [.null, .null, .null, .null, .null, .null, .null, .null, .null, .null, .null, .null, .null, .null, .null, .int 0] j
  | 0, _ => rfl
  | 1, _ => rfl
  | 2, _ => rfl
  | 3, _ => rfl
  | 4, _ => rfl
  | 5, _ => rfl
  | 6, _ => rfl
  | 7, _ => rfl
  | 8, _ => rfl
  | 9, _ => rfl
  | 10, _ => rfl
  | 11, _ => rfl
  | 12, _ => rfl
  | 13, _ => rfl
  | 14, _ => rfl
  | 15, _ => rfl
  | j + 16, h => by omega
set_option maxRecDepth 100000 in
theorem gc_init11 {l : Launch} : gc_C l yX11_init cX11_init 1 3 11 gc_codes11 [.null, .null, .null, .null, .null, .null, .null, .null, .null, .null, .null, .null, .null, .null, .null, .int 0] 134 6422 := by
  refine gc_of (by decide +kernel) rfl (by decide) (fun x q X hRc hRs hE => ?_)
  refine gc_aload_n X dX11_init_0 0 rfl rfl ?_
  refine gc_objInit X (by decide) (gz_in 111 (by decide +kernel) rfl) (gz_in 112 (by decide +kernel) rfl) (gz_in 113 (by decide +kernel) rfl) (Nat.le_of_ble_eq_true rfl) dX11_init_1 ?_
  refine gc_aload_n X dX11_init_4 0 rfl rfl ?_
  refine gc_newC (cj := 10) (N := 2) (fs2 := [.null, .int 0]) (codes2 := gc_codes10) tyX10 X gc_init10 (Nat.le_of_ble_eq_true rfl) gw_X10 tyX10_ok (gz_in 114 (by decide +kernel) rfl) (gz_in 115 (by decide +kernel) rfl) (gz_in 86 (by decide +kernel) rfl) rfl gc_dflt10 (Or.inr ⟨"LongestTokens", gz_inN 116 (by decide +kernel) rfl⟩) (gz_in 117 (by decide +kernel) rfl) (gz_in 86 (by decide +kernel) rfl) (gz_in 118 (by decide +kernel) rfl) rfl (by decide +kernel) (by decide) (by decide) (by rw [hRc]; exact Nat.le_of_ble_eq_true rfl) (by rw [hRs]; exact Nat.le_of_ble_eq_true rfl) (by decide +kernel) (Nat.le_of_ble_eq_true rfl) dX11_init_5 dX11_init_8 dX11_init_9 ?_
  refine gc_put X rfl (Nat.le_of_ble_eq_true rfl) rfl gw_X11 tyX11 tyX11_ok nmX11 (j := 0) (ty := (.object "LongestTokens$Text")) (by decide) rfl (gz_in 429 (by decide +kernel) rfl) (by decide +kernel) rfl rfl (Nat.le_of_ble_eq_true rfl) dX11_init_12 ?_
  show gc_At x 11 gc_codes11 q 15 _ _ [.ref (q + 1), .null, .null, .null, .null, .null, .null, .null, .null, .null, .null, .null, .null, .null, .null, .int 0] 3 2 82
  refine gc_aload_n X dX11_init_15 0 rfl rfl ?_
  refine gc_newC (cj := 3) (N := 2) (fs2 := [.int 0, .int 0]) (codes2 := gc_codes3) tyX3 X gc_init3 (Nat.le_of_ble_eq_true rfl) gw_X3 tyX3_ok (gz_in 133 (by decide +kernel) rfl) (gz_in 134 (by decide +kernel) rfl) (gz_in 87 (by decide +kernel) rfl) rfl gc_dflt3 (Or.inr ⟨"LongestTokens", gz_inN 135 (by decide +kernel) rfl⟩) (gz_in 136 (by decide +kernel) rfl) (gz_in 87 (by decide +kernel) rfl) (gz_in 137 (by decide +kernel) rfl) rfl (by decide +kernel) (by decide) (by decide) (by rw [hRc]; exact Nat.le_of_ble_eq_true rfl) (by rw [hRs]; exact Nat.le_of_ble_eq_true rfl) (by decide +kernel) (Nat.le_of_ble_eq_true rfl) dX11_init_16 dX11_init_19 dX11_init_20 ?_
  refine gc_put X rfl (Nat.le_of_ble_eq_true rfl) rfl gw_X11 tyX11 tyX11_ok nmX11 (j := 1) (ty := (.object "LongestTokens$Grammar")) (by decide) rfl (gz_in 430 (by decide +kernel) rfl) (by decide +kernel) rfl rfl (Nat.le_of_ble_eq_true rfl) dX11_init_23 ?_
  show gc_At x 11 gc_codes11 q 26 _ _ [.ref (q + 1), .ref (q + 3), .null, .null, .null, .null, .null, .null, .null, .null, .null, .null, .null, .null, .null, .int 0] 4 3 84
  refine gc_aload_n X dX11_init_26 0 rfl rfl ?_
  refine gc_newC (cj := 1) (N := 6) (fs2 := [.null, .null, .int 0, .int 0, .int 0, .int 0]) (codes2 := gc_codes1) tyX1 X gc_init1 (Nat.le_of_ble_eq_true rfl) gw_X1 tyX1_ok (gz_in 146 (by decide +kernel) rfl) (gz_in 147 (by decide +kernel) rfl) (gz_in 88 (by decide +kernel) rfl) rfl gc_dflt1 (Or.inr ⟨"LongestTokens", gz_inN 148 (by decide +kernel) rfl⟩) (gz_in 149 (by decide +kernel) rfl) (gz_in 88 (by decide +kernel) rfl) (gz_in 150 (by decide +kernel) rfl) rfl (by decide +kernel) (by decide) (by decide) (by rw [hRc]; exact Nat.le_of_ble_eq_true rfl) (by rw [hRs]; exact Nat.le_of_ble_eq_true rfl) (by decide +kernel) (Nat.le_of_ble_eq_true rfl) dX11_init_27 dX11_init_30 dX11_init_31 ?_
  refine gc_put X rfl (Nat.le_of_ble_eq_true rfl) rfl gw_X11 tyX11 tyX11_ok nmX11 (j := 2) (ty := (.object "LongestTokens$Builder")) (by decide) rfl (gz_in 431 (by decide +kernel) rfl) (by decide +kernel) rfl rfl (Nat.le_of_ble_eq_true rfl) dX11_init_34 ?_
  show gc_At x 11 gc_codes11 q 37 _ _ [.ref (q + 1), .ref (q + 3), .ref (q + 4), .null, .null, .null, .null, .null, .null, .null, .null, .null, .null, .null, .null, .int 0] 7 6 104
  refine gc_aload_n X dX11_init_37 0 rfl rfl ?_
  refine gc_newC (cj := 0) (N := 3) (fs2 := [.null, .int 0, .null]) (codes2 := gc_codes0) tyX0 X gc_init0 (Nat.le_of_ble_eq_true rfl) gw_X0 tyX0_ok (gz_in 171 (by decide +kernel) rfl) (gz_in 172 (by decide +kernel) rfl) (gz_in 89 (by decide +kernel) rfl) rfl gc_dflt0 (Or.inr ⟨"LongestTokens", gz_inN 173 (by decide +kernel) rfl⟩) (gz_in 174 (by decide +kernel) rfl) (gz_in 89 (by decide +kernel) rfl) (gz_in 175 (by decide +kernel) rfl) rfl (by decide +kernel) (by decide) (by decide) (by rw [hRc]; exact Nat.le_of_ble_eq_true rfl) (by rw [hRs]; exact Nat.le_of_ble_eq_true rfl) (by decide +kernel) (Nat.le_of_ble_eq_true rfl) dX11_init_38 dX11_init_41 dX11_init_42 ?_
  refine gc_put X rfl (Nat.le_of_ble_eq_true rfl) rfl gw_X11 tyX11 tyX11_ok nmX11 (j := 3) (ty := (.object "LongestTokens$Book")) (by decide) rfl (gz_in 432 (by decide +kernel) rfl) (by decide +kernel) rfl rfl (Nat.le_of_ble_eq_true rfl) dX11_init_45 ?_
  show gc_At x 11 gc_codes11 q 48 _ _ [.ref (q + 1), .ref (q + 3), .ref (q + 4), .ref (q + 7), .null, .null, .null, .null, .null, .null, .null, .null, .null, .null, .null, .int 0] 11 10 213
  refine gc_aload_n X dX11_init_48 0 rfl rfl ?_
  refine gc_newC (cj := 7) (N := 11) (fs2 := [.int 0, .null, .null, .null, .null, .null, .null, .null, .null, .null, .null]) (codes2 := gc_codes7) tyX7 X gc_init7 (Nat.le_of_ble_eq_true rfl) gw_X7 tyX7_ok (gz_in 206 (by decide +kernel) rfl) (gz_in 207 (by decide +kernel) rfl) (gz_in 91 (by decide +kernel) rfl) rfl gc_dflt7 (Or.inr ⟨"LongestTokens", gz_inN 208 (by decide +kernel) rfl⟩) (gz_in 209 (by decide +kernel) rfl) (gz_in 91 (by decide +kernel) rfl) (gz_in 210 (by decide +kernel) rfl) rfl (by decide +kernel) (by decide) (by decide) (by rw [hRc]; exact Nat.le_of_ble_eq_true rfl) (by rw [hRs]; exact Nat.le_of_ble_eq_true rfl) (by decide +kernel) (Nat.le_of_ble_eq_true rfl) dX11_init_49 dX11_init_52 dX11_init_53 ?_
  refine gc_put X rfl (Nat.le_of_ble_eq_true rfl) rfl gw_X11 tyX11 tyX11_ok nmX11 (j := 4) (ty := (.object "LongestTokens$Rules")) (by decide) rfl (gz_in 433 (by decide +kernel) rfl) (by decide +kernel) rfl rfl (Nat.le_of_ble_eq_true rfl) dX11_init_56 ?_
  show gc_At x 11 gc_codes11 q 59 _ _ [.ref (q + 1), .ref (q + 3), .ref (q + 4), .ref (q + 7), .ref (q + 11), .null, .null, .null, .null, .null, .null, .null, .null, .null, .null, .int 0] 30 29 360
  refine gc_aload_n X dX11_init_59 0 rfl rfl ?_
  refine gc_newC (cj := 2) (N := 16) (fs2 := [.int 0, .int 0, .null, .null, .null, .null, .null, .null, .null, .null, .int 0, .int 0, .int 0, .int 0, .int 0, .int 0]) (codes2 := gc_codes2) tyX2 X gc_init2 (Nat.le_of_ble_eq_true rfl) gw_X2 tyX2_ok (gz_in 270 (by decide +kernel) rfl) (gz_in 271 (by decide +kernel) rfl) (gz_in 92 (by decide +kernel) rfl) rfl gc_dflt2 (Or.inr ⟨"LongestTokens", gz_inN 272 (by decide +kernel) rfl⟩) (gz_in 273 (by decide +kernel) rfl) (gz_in 92 (by decide +kernel) rfl) (gz_in 274 (by decide +kernel) rfl) rfl (by decide +kernel) (by decide) (by decide) (by rw [hRc]; exact Nat.le_of_ble_eq_true rfl) (by rw [hRs]; exact Nat.le_of_ble_eq_true rfl) (by decide +kernel) (Nat.le_of_ble_eq_true rfl) dX11_init_60 dX11_init_63 dX11_init_64 ?_
  refine gc_put X rfl (Nat.le_of_ble_eq_true rfl) rfl gw_X11 tyX11 tyX11_ok nmX11 (j := 5) (ty := (.object "LongestTokens$Cutting")) (by decide) rfl (gz_in 434 (by decide +kernel) rfl) (by decide +kernel) rfl rfl (Nat.le_of_ble_eq_true rfl) dX11_init_67 ?_
  show gc_At x 11 gc_codes11 q 70 _ _ [.ref (q + 1), .ref (q + 3), .ref (q + 4), .ref (q + 7), .ref (q + 11), .ref (q + 30), .null, .null, .null, .null, .null, .null, .null, .null, .null, .int 0] 39 38 568
  refine gc_aload_n X dX11_init_70 0 rfl rfl ?_
  refine gc_newC (cj := 7) (N := 11) (fs2 := [.int 0, .null, .null, .null, .null, .null, .null, .null, .null, .null, .null]) (codes2 := gc_codes7) tyX7 X gc_init7 (Nat.le_of_ble_eq_true rfl) gw_X7 tyX7_ok (gz_in 206 (by decide +kernel) rfl) (gz_in 207 (by decide +kernel) rfl) (gz_in 91 (by decide +kernel) rfl) rfl gc_dflt7 (Or.inr ⟨"LongestTokens", gz_inN 208 (by decide +kernel) rfl⟩) (gz_in 209 (by decide +kernel) rfl) (gz_in 91 (by decide +kernel) rfl) (gz_in 210 (by decide +kernel) rfl) rfl (by decide +kernel) (by decide) (by decide) (by rw [hRc]; exact Nat.le_of_ble_eq_true rfl) (by rw [hRs]; exact Nat.le_of_ble_eq_true rfl) (by decide +kernel) (Nat.le_of_ble_eq_true rfl) dX11_init_71 dX11_init_74 dX11_init_75 ?_
  refine gc_put X rfl (Nat.le_of_ble_eq_true rfl) rfl gw_X11 tyX11 tyX11_ok nmX11 (j := 6) (ty := (.object "LongestTokens$Rules")) (by decide) rfl (gz_in 435 (by decide +kernel) rfl) (by decide +kernel) rfl rfl (Nat.le_of_ble_eq_true rfl) dX11_init_78 ?_
  show gc_At x 11 gc_codes11 q 81 _ _ [.ref (q + 1), .ref (q + 3), .ref (q + 4), .ref (q + 7), .ref (q + 11), .ref (q + 30), .ref (q + 39), .null, .null, .null, .null, .null, .null, .null, .null, .int 0] 58 57 715
  refine gc_aload_n X dX11_init_81 0 rfl rfl ?_
  refine gc_newC (cj := 5) (N := 2) (fs2 := [.null, .int 0]) (codes2 := gc_codes5) tyX5 X gc_init5 (Nat.le_of_ble_eq_true rfl) gw_X5 tyX5_ok (gz_in 343 (by decide +kernel) rfl) (gz_in 178 (by decide +kernel) rfl) (gz_in 90 (by decide +kernel) rfl) rfl gc_dflt5 (Or.inr ⟨"LongestTokens", gz_inN 344 (by decide +kernel) rfl⟩) (gz_in 180 (by decide +kernel) rfl) (gz_in 90 (by decide +kernel) rfl) (gz_in 181 (by decide +kernel) rfl) rfl (by decide +kernel) (by decide) (by decide) (by rw [hRc]; exact Nat.le_of_ble_eq_true rfl) (by rw [hRs]; exact Nat.le_of_ble_eq_true rfl) (by decide +kernel) (Nat.le_of_ble_eq_true rfl) dX11_init_82 dX11_init_85 dX11_init_86 ?_
  refine gc_put X rfl (Nat.le_of_ble_eq_true rfl) rfl gw_X11 tyX11 tyX11_ok nmX11 (j := 7) (ty := (.object "LongestTokens$Line")) (by decide) rfl (gz_in 436 (by decide +kernel) rfl) (by decide +kernel) rfl rfl (Nat.le_of_ble_eq_true rfl) dX11_init_89 ?_
  show gc_At x 11 gc_codes11 q 92 _ _ [.ref (q + 1), .ref (q + 3), .ref (q + 4), .ref (q + 7), .ref (q + 11), .ref (q + 30), .ref (q + 39), .ref (q + 58), .null, .null, .null, .null, .null, .null, .null, .int 0] 60 59 741
  refine gc_aload_n X dX11_init_92 0 rfl rfl ?_
  refine gc_newC (cj := 2) (N := 16) (fs2 := [.int 0, .int 0, .null, .null, .null, .null, .null, .null, .null, .null, .int 0, .int 0, .int 0, .int 0, .int 0, .int 0]) (codes2 := gc_codes2) tyX2 X gc_init2 (Nat.le_of_ble_eq_true rfl) gw_X2 tyX2_ok (gz_in 270 (by decide +kernel) rfl) (gz_in 271 (by decide +kernel) rfl) (gz_in 92 (by decide +kernel) rfl) rfl gc_dflt2 (Or.inr ⟨"LongestTokens", gz_inN 272 (by decide +kernel) rfl⟩) (gz_in 273 (by decide +kernel) rfl) (gz_in 92 (by decide +kernel) rfl) (gz_in 274 (by decide +kernel) rfl) rfl (by decide +kernel) (by decide) (by decide) (by rw [hRc]; exact Nat.le_of_ble_eq_true rfl) (by rw [hRs]; exact Nat.le_of_ble_eq_true rfl) (by decide +kernel) (Nat.le_of_ble_eq_true rfl) dX11_init_93 dX11_init_96 dX11_init_97 ?_
  refine gc_put X rfl (Nat.le_of_ble_eq_true rfl) rfl gw_X11 tyX11 tyX11_ok nmX11 (j := 8) (ty := (.object "LongestTokens$Cutting")) (by decide) rfl (gz_in 437 (by decide +kernel) rfl) (by decide +kernel) rfl rfl (Nat.le_of_ble_eq_true rfl) dX11_init_100 ?_
  show gc_At x 11 gc_codes11 q 103 _ _ [.ref (q + 1), .ref (q + 3), .ref (q + 4), .ref (q + 7), .ref (q + 11), .ref (q + 30), .ref (q + 39), .ref (q + 58), .ref (q + 60), .null, .null, .null, .null, .null, .null, .int 0] 69 68 949
  refine gc_aload_n X dX11_init_103 0 rfl rfl ?_
  refine gc_newC (cj := 6) (N := 5) (fs2 := [.null, .null, .null, .int 0, .int 0]) (codes2 := gc_codes6) tyX6 X gc_init6 (Nat.le_of_ble_eq_true rfl) gw_X6 tyX6_ok (gz_in 345 (by decide +kernel) rfl) (gz_in 346 (by decide +kernel) rfl) (gz_in 93 (by decide +kernel) rfl) rfl gc_dflt6 (Or.inr ⟨"LongestTokens", gz_inN 347 (by decide +kernel) rfl⟩) (gz_in 348 (by decide +kernel) rfl) (gz_in 93 (by decide +kernel) rfl) (gz_in 349 (by decide +kernel) rfl) rfl (by decide +kernel) (by decide) (by decide) (by rw [hRc]; exact Nat.le_of_ble_eq_true rfl) (by rw [hRs]; exact Nat.le_of_ble_eq_true rfl) (by decide +kernel) (Nat.le_of_ble_eq_true rfl) dX11_init_104 dX11_init_107 dX11_init_108 ?_
  refine gc_put X rfl (Nat.le_of_ble_eq_true rfl) rfl gw_X11 tyX11 tyX11_ok nmX11 (j := 9) (ty := (.object "LongestTokens$Pairs")) (by decide) rfl (gz_in 438 (by decide +kernel) rfl) (by decide +kernel) rfl rfl (Nat.le_of_ble_eq_true rfl) dX11_init_111 ?_
  show gc_At x 11 gc_codes11 q 114 _ _ [.ref (q + 1), .ref (q + 3), .ref (q + 4), .ref (q + 7), .ref (q + 11), .ref (q + 30), .ref (q + 39), .ref (q + 58), .ref (q + 60), .ref (q + 69), .null, .null, .null, .null, .null, .int 0] 123 122 2229
  refine gc_aload_n X dX11_init_114 0 rfl rfl ?_
  refine gc_newC (cj := 8) (N := 4) (fs2 := [.null, .null, .null, .int 0]) (codes2 := gc_codes8) tyX8 X gc_init8 (Nat.le_of_ble_eq_true rfl) gw_X8 tyX8_ok (gz_in 370 (by decide +kernel) rfl) (gz_in 371 (by decide +kernel) rfl) (gz_in 94 (by decide +kernel) rfl) rfl gc_dflt8 (Or.inr ⟨"LongestTokens", gz_inN 372 (by decide +kernel) rfl⟩) (gz_in 373 (by decide +kernel) rfl) (gz_in 94 (by decide +kernel) rfl) (gz_in 374 (by decide +kernel) rfl) rfl (by decide +kernel) (by decide) (by decide) (by rw [hRc]; exact Nat.le_of_ble_eq_true rfl) (by rw [hRs]; exact Nat.le_of_ble_eq_true rfl) (by decide +kernel) (Nat.le_of_ble_eq_true rfl) dX11_init_115 dX11_init_118 dX11_init_119 ?_
  refine gc_put X rfl (Nat.le_of_ble_eq_true rfl) rfl gw_X11 tyX11 tyX11_ok nmX11 (j := 10) (ty := (.object "LongestTokens$Search")) (by decide) rfl (gz_in 439 (by decide +kernel) rfl) (by decide +kernel) rfl rfl (Nat.le_of_ble_eq_true rfl) dX11_init_122 ?_
  show gc_At x 11 gc_codes11 q 125 _ _ [.ref (q + 1), .ref (q + 3), .ref (q + 4), .ref (q + 7), .ref (q + 11), .ref (q + 30), .ref (q + 39), .ref (q + 58), .ref (q + 60), .ref (q + 69), .ref (q + 123), .null, .null, .null, .null, .int 0] 127 126 5305
  refine gc_aload_n X dX11_init_125 0 rfl rfl ?_
  refine gc_newC (cj := 9) (N := 3) (fs2 := [.null, .null, .null]) (codes2 := gc_codes9) tyX9 X gc_init9 (Nat.le_of_ble_eq_true rfl) gw_X9 tyX9_ok (gz_in 392 (by decide +kernel) rfl) (gz_in 393 (by decide +kernel) rfl) (gz_in 95 (by decide +kernel) rfl) rfl gc_dflt9 (Or.inr ⟨"LongestTokens", gz_inN 394 (by decide +kernel) rfl⟩) (gz_in 395 (by decide +kernel) rfl) (gz_in 95 (by decide +kernel) rfl) (gz_in 396 (by decide +kernel) rfl) rfl (by decide +kernel) (by decide) (by decide) (by rw [hRc]; exact Nat.le_of_ble_eq_true rfl) (by rw [hRs]; exact Nat.le_of_ble_eq_true rfl) (by decide +kernel) (Nat.le_of_ble_eq_true rfl) dX11_init_126 dX11_init_129 dX11_init_130 ?_
  refine gc_put X rfl (Nat.le_of_ble_eq_true rfl) rfl gw_X11 tyX11 tyX11_ok nmX11 (j := 11) (ty := (.object "LongestTokens$Splits")) (by decide) rfl (gz_in 440 (by decide +kernel) rfl) (by decide +kernel) rfl rfl (Nat.le_of_ble_eq_true rfl) dX11_init_133 ?_
  show gc_At x 11 gc_codes11 q 136 _ _ [.ref (q + 1), .ref (q + 3), .ref (q + 4), .ref (q + 7), .ref (q + 11), .ref (q + 30), .ref (q + 39), .ref (q + 58), .ref (q + 60), .ref (q + 69), .ref (q + 123), .ref (q + 127), .null, .null, .null, .int 0] 131 130 5383
  refine gc_aload_n X dX11_init_136 0 rfl rfl ?_
  refine gc_newC (cj := 4) (N := 3) (fs2 := [.null, .int 0, .int 0]) (codes2 := gc_codes4) tyX4 X gc_init4 (Nat.le_of_ble_eq_true rfl) gw_X4 tyX4_ok (gz_in 410 (by decide +kernel) rfl) (gz_in 411 (by decide +kernel) rfl) (gz_in 96 (by decide +kernel) rfl) rfl gc_dflt4 (Or.inr ⟨"LongestTokens", gz_inN 412 (by decide +kernel) rfl⟩) (gz_in 413 (by decide +kernel) rfl) (gz_in 96 (by decide +kernel) rfl) (gz_in 414 (by decide +kernel) rfl) rfl (by decide +kernel) (by decide) (by decide) (by rw [hRc]; exact Nat.le_of_ble_eq_true rfl) (by rw [hRs]; exact Nat.le_of_ble_eq_true rfl) (by decide +kernel) (Nat.le_of_ble_eq_true rfl) dX11_init_137 dX11_init_140 dX11_init_141 ?_
  refine gc_put X rfl (Nat.le_of_ble_eq_true rfl) rfl gw_X11 tyX11 tyX11_ok nmX11 (j := 12) (ty := (.object "LongestTokens$History")) (by decide) rfl (gz_in 441 (by decide +kernel) rfl) (by decide +kernel) rfl rfl (Nat.le_of_ble_eq_true rfl) dX11_init_144 ?_
  show gc_At x 11 gc_codes11 q 147 _ _ [.ref (q + 1), .ref (q + 3), .ref (q + 4), .ref (q + 7), .ref (q + 11), .ref (q + 30), .ref (q + 39), .ref (q + 58), .ref (q + 60), .ref (q + 69), .ref (q + 123), .ref (q + 127), .ref (q + 131), .null, .null, .int 0] 133 132 5396
  refine gc_aload_n X dX11_init_147 0 rfl rfl ?_
  refine gc_iconst 2 X dX11_init_148 (by decide) ?_
  refine gc_anew (N := 2) (b := 10) X (Nat.le_of_ble_eq_true rfl) (gz_in 171 (by decide +kernel) rfl) (by decide) (by decide) (Nat.le_of_ble_eq_true rfl) (by rw [hRc]; exact Nat.le_of_ble_eq_true rfl) (by rw [hRs]; exact Nat.le_of_ble_eq_true rfl) (fun _ => rfl) dX11_init_149 ?_
  refine gc_put X rfl (Nat.le_of_ble_eq_true rfl) rfl gw_X11 tyX11 tyX11_ok nmX11 (j := 13) (ty := (.array (.object "LongestTokens$Book"))) (by decide) rfl (gz_in 442 (by decide +kernel) rfl) (by decide +kernel) rfl rfl (Nat.le_of_ble_eq_true rfl) dX11_init_152 ?_
  show gc_At x 11 gc_codes11 q 155 _ _ [.ref (q + 1), .ref (q + 3), .ref (q + 4), .ref (q + 7), .ref (q + 11), .ref (q + 30), .ref (q + 39), .ref (q + 58), .ref (q + 60), .ref (q + 69), .ref (q + 123), .ref (q + 127), .ref (q + 131), .ref (q + 133), .null, .int 0] 134 133 5398
  refine gc_aload_n X dX11_init_155 0 rfl rfl ?_
  refine gc_sipush 1024 X dX11_init_156 (by decide) ?_
  refine gc_newa (N := 1024) (t := 2) (ty := .long) X (Nat.le_of_ble_eq_true rfl) rfl rfl (fun _ _ h => h) (gz_in 478 (by decide +kernel) rfl) (by decide) (by decide) (Nat.le_of_ble_eq_true rfl) (by rw [hRc]; exact Nat.le_of_ble_eq_true rfl) (by rw [hRs]; exact Nat.le_of_ble_eq_true rfl) (fun cA hc H h => by subst hc; exact h) dX11_init_159 ?_
  refine gc_put X rfl (Nat.le_of_ble_eq_true rfl) rfl gw_X11 tyX11 tyX11_ok nmX11 (j := 14) (ty := (.array .long)) (by decide) rfl (gz_in 443 (by decide +kernel) rfl) (by decide +kernel) rfl rfl (Nat.le_of_ble_eq_true rfl) dX11_init_161 ?_
  show gc_At x 11 gc_codes11 q 164 _ _ [.ref (q + 1), .ref (q + 3), .ref (q + 4), .ref (q + 7), .ref (q + 11), .ref (q + 30), .ref (q + 39), .ref (q + 58), .ref (q + 60), .ref (q + 69), .ref (q + 123), .ref (q + 127), .ref (q + 131), .ref (q + 133), .ref (q + 134), .int 0] 135 134 6422
  refine gc_aload_n X dX11_init_164 0 rfl rfl ?_
  refine gc_iconst 0 X dX11_init_165 (by decide) ?_
  refine gc_put X rfl (Nat.le_of_ble_eq_true rfl) rfl gw_X11 tyX11 tyX11_ok nmX11 (j := 15) (ty := .int) (by decide) rfl (gz_in 444 (by decide +kernel) rfl) (by decide +kernel) rfl rfl (Nat.le_of_ble_eq_true rfl) dX11_init_166 ?_
  show gc_At x 11 gc_codes11 q 169 _ _ [.ref (q + 1), .ref (q + 3), .ref (q + 4), .ref (q + 7), .ref (q + 11), .ref (q + 30), .ref (q + 39), .ref (q + 58), .ref (q + 60), .ref (q + 69), .ref (q + 123), .ref (q + 127), .ref (q + 131), .ref (q + 133), .ref (q + 134), .int 0] 135 134 6422
  exact hE _ _ _ (fun _ => rfl) dX11_init_169
end
