/-! constructors: the object's cell at q, its parts behind it, one by one -/
section GK
/-- what the fields hold that do not begin with 0, by the cell's code -/
def gc_g (c : Nat) : Nat → Int32 := fun j => if c = 4 then (if j = 3 then -1 else 0) else if c = 16 then (if j = 1 then 1 else if j = 10 then 1 else if j = 12 then -1 else if j = 15 then -1 else 0) else if c = 0 then (if j = 8 then 1 else 0) else 0
def gc_ct (aC : Nat → ClassId) (codes : List Nat) (q i : Nat) : va_E := gz_kc (codes.getD i 0) aC (fun k => q + k) (fun _ => false) i (gc_g (codes.getD i 0)) (fun _ => 0)
/-- the tables' words of arrays over arrays and Books: they go from state to state -/
def gc_AO (U : State) : Prop := (Cond.arrayOver (.array .int)).before #[] U = true ∧ (Cond.arrayOver (.object "LongestTokens$Book")).before #[] U = true
theorem gc_aoW {s U : State} {ty : FieldType} (hW : s.WarmedH U.vm) (h : (Cond.arrayOver ty).before #[] s = true) : (Cond.arrayOver ty).before #[] U = true := by
  have h2 : (Cond.arrayOver ty).before #[] (s.setVm U.vm) = true := by rw [Cond.arrayOver_setVmC hW.alike]; exact h
  exact h2
theorem gc_aoS {u U : State} {ty : FieldType} (hv : u.vm = U.vm) (h : (Cond.arrayOver ty).before #[] u = true) : (Cond.arrayOver ty).before #[] U = true := by
  have h2 : (Cond.arrayOver ty).before #[] (u.setVm u.vm) = true := h
  rw [hv] at h2
  exact h2
theorem gc_AO.warm {s U : State} (hW : s.WarmedH U.vm) (h : gc_AO s) : gc_AO U := ⟨gc_aoW hW h.1, gc_aoW hW h.2⟩
theorem gc_AO.same {u U : State} (hv : u.vm = U.vm) (h : gc_AO u) : gc_AO U := ⟨gc_aoS hv h.1, gc_aoS hv h.2⟩
def gc_At (x : gz_X) (ci : Nat) (codes : List Nat) (q pc : Nat) (lv : List (Nat × Value)) (st : List Value) (fs : List Value) (n c s : Nat) : Prop := ∀ (H : Heap) (locs : List Loc) (ls : Array Slot), H.size = q + n → va_at (gx_D x) gz_cls (q, .inr (ci, fs)) H → (∀ i, 1 ≤ i → i < n → va_at (gx_D x) gz_cls (q + i, gc_ct (gx_aC x) codes q i) H) → va_S (gx_A x) (gx_s x).heap H locs → lv_has ls (gx_nL x) lv → W (gx_p x) (gx_l x) (gx_e x) (gx_R x) (gx_s x) (gx_m x) (gx_args x) (gx_below x) (gx_meth x) (gx_c x) H locs c s (gx_Q x) (F0 (gx_m x) pc ls st)
def gc_Ok (x : gz_X) (cc : ByteArray) (own : String) (nL d q : Nat) (l : Launch) : Prop := CallFix (gx_p x) (gx_m x) (gx_c x) cc nL (gx_s x) (gx_args x) gz_TB own ∧ gx_nL x = nL ∧ va_K (gx_D x) gz_cls (gz_tys (gx_aC x)) (gx_s x) ∧ (∀ k, q ≤ k → gx_A x k) ∧ (gx_s x).heap.size = q + 1 ∧ (gx_meth x).locks = false ∧ d ≤ (gx_R x).frames ∧ 40 * d ≤ (gx_R x).locals ∧ gz_Nst (gx_s x) ∧ gx_l x = l ∧ (gx_meth x).name = "<init>" ∧ gc_AO (gx_s x)
variable {x : gz_X} {cc : ByteArray} {own : String} {nL d q ci pc n c s : Nat} {codes : List Nat} {l : Launch} {lv : List (Nat × Value)} {st fs : List Value}
theorem gc_iconst {k : Int} (v : Int32) (X : gc_Ok x cc own nL d q l) (dg : decode cc pc = .ok (.iconst k, 1)) (hv : Int32.ofInt k = v) (kk : gc_At x ci codes q (pc + 1) lv (.int v :: st) fs n c s) : gc_At x ci codes q pc lv st fs n c s := fun H locs ls h0 h1 h2 h3 h4 => lv_iconst X.1.1 X.1.2.1 dg hv (kk H locs ls h0 h1 h2 h3 h4)
theorem gc_bipush {k : Int} (v : Int32) (X : gc_Ok x cc own nL d q l) (dg : decode cc pc = .ok (.bipush k, 2)) (hv : (Int8.ofInt k).toInt32 = v) (kk : gc_At x ci codes q (pc + 2) lv (.int v :: st) fs n c s) : gc_At x ci codes q pc lv st fs n c s := fun H locs ls h0 h1 h2 h3 h4 => lv_bipush X.1.1 X.1.2.1 dg hv (kk H locs ls h0 h1 h2 h3 h4)
theorem gc_sipush {k : Int} (v : Int32) (X : gc_Ok x cc own nL d q l) (dg : decode cc pc = .ok (.sipush k, 3)) (hv : (Int16.ofInt k).toInt32 = v) (kk : gc_At x ci codes q (pc + 3) lv (.int v :: st) fs n c s) : gc_At x ci codes q pc lv st fs n c s := fun H locs ls h0 h1 h2 h3 h4 => lv_sipush X.1.1 X.1.2.1 dg hv (kk H locs ls h0 h1 h2 h3 h4)
theorem gc_ldc {index : Nat} (v : Int32) (X : gc_Ok x cc own nL d q l) (dg : decode cc pc = .ok (.ldc index, 2)) (hc : Cond.constant own index v ∈ gz_TB) (kk : gc_At x ci codes q (pc + 2) lv (.int v :: st) fs n c s) : gc_At x ci codes q pc lv st fs n c s := fun H locs ls h0 h1 h2 h3 h4 => lv_ldc X.1.1 X.1.2.1 X.1.2.2.2.1 (X.1.2.2.2.2 _ hc) dg (kk H locs ls h0 h1 h2 h3 h4)
theorem gc_aload_n {k : Fin 4} {i v : Nat} (X : gc_Ok x cc own nL d q l) (dg : decode cc pc = .ok (.aload_n k, 1)) (pl : Nat) (hi : (k : Nat) = i) (hl : lv[pl]? = some (i, .ref v)) (kk : gc_At x ci codes q (pc + 1) lv (.ref v :: st) fs n c s) : gc_At x ci codes q pc lv st fs n c s := fun H locs ls h0 h1 h2 h3 h4 => lv_aload_n X.1.1 X.1.2.1 dg hi (lv_at h4 pl hl) (kk H locs ls h0 h1 h2 h3 h4)
theorem gc_dup {va : Value} (X : gc_Ok x cc own nL d q l) (dg : decode cc pc = .ok (.dup, 1)) (hva : va.category = 1) (kk : gc_At x ci codes q (pc + 1) lv (va :: va :: st) fs n c s) : gc_At x ci codes q pc lv (va :: st) fs n c s := fun H locs ls h0 h1 h2 h3 h4 => lv_dup X.1.1 X.1.2.1 dg hva (kk H locs ls h0 h1 h2 h3 h4)
theorem gc_keep {H H' : Heap} {D : va_G} {aC : Nat → ClassId} (h0 : H.size = q + n) (hn : 1 ≤ n) (h1 : va_at D gz_cls (q, .inr (ci, fs)) H) (h2 : ∀ i, 1 ≤ i → i < n → va_at D gz_cls (q + i, gc_ct aC codes q i) H) (hq : ∀ a, a < H.size → H'[a]? = H[a]?) : va_at D gz_cls (q, .inr (ci, fs)) H' ∧ ∀ i, 1 ≤ i → i < n → va_at D gz_cls (q + i, gc_ct aC codes q i) H' :=
  ⟨h1.kept (hq q (by omega)), fun i a b => (h2 i a b).kept (hq _ (by show q + i < H.size; omega))⟩
theorem gc_objInit {index v : Nat} (X : gc_Ok x cc own nL d q l) (hd : 1 ≤ d) (hl : Cond.methodLink own index Lib.objectInit ∈ gz_TB) (h1 : Cond.instanceMethod Lib.objectInit ∈ gz_TB) (h2 : Cond.code Lib.objectInit ⟨#[0xb1]⟩ 1 none ∈ gz_TB) (hW : (st.map fun v => v.category).sum ≤ 8) (dg : decode cc pc = .ok (.invokespecial index, 3)) (kk : gc_At x ci codes q (pc + 3) lv st fs n c s) : gc_At x ci codes q pc lv (.ref v :: st) fs n c s := by
  intro H locs ls g0 g1 g2 g3 g4
  have f1 := X.2.2.2.2.2.2.1
  have f2 := X.2.2.2.2.2.2.2.1
  exact W.objInit X.1.1 X.1.2.1 X.1.2.2.2.1 (X.1.2.2.2.2 _ hl) (X.1.2.2.2.2 _ h1) (X.1.2.2.2.2 _ h2) rfl (by show ls.size = _; rw [g4.1, X.2.1, X.1.2.2.1]) rfl dg (by omega) (by show 2 * 0 + _ + 12 ≤ _; omega) (kk H locs ls g0 g1 g2 g3 g4)
/-- a new row, its type's class as the tables have it -/
theorem gc_newa {atype : ArrayType} {v : Int32} {N t : Nat} {ty : FieldType} (X : gc_Ok x cc own nL d q l) (hn1 : 1 ≤ n) (hty : newarray.typeOf atype = ty) (ht : (gz_tys (gx_aC x))[t]? = some (gx_aC x t, ty)) (hra : ∀ U cA, va_RA U cA ty → U.vm.findClass ("[" ++ ty.toString) = some cA) (harr : Cond.arrayClass ty ∈ gz_TB) (hn : ¬ v < 0) (hN : v.toNatClampNeg = N) (hbytes : N * componentBytes ty ≤ 536870912) (hcells : c + 1 ≤ (gx_R x).cells) (hslots : s + N ≤ (gx_R x).slots) (hct : ∀ cA, gx_aC x t = cA → ∀ H : Heap, H[q + n]? = some (arrV cA N (fun _ => defaultValue ty)) → va_at (gx_D x) gz_cls (q + n, gc_ct (gx_aC x) codes q n) H) (dg : decode cc pc = .ok (.newarray atype, 2)) (kk : gc_At x ci codes q (pc + 2) lv (.ref (q + n) :: st) fs (n + 1) (c + 1) (s + N)) : gc_At x ci codes q pc lv (.int v :: st) fs n c s := by
  intro H locs ls h0 h1 h2 h3 h4
  subst hty
  refine va_newaK X.1.1 X.1.2.1 (X.1.2.2.2.2 _ harr) rfl dg rfl hn hN hbytes hcells hslots h0 fun H1 cA e1 z1 o1 hAr hNm => ?_
  have hc : gx_aC x t = cA := Option.some.inj ((hra _ _ (X.2.2.1.2 t _ ht).2).symm.trans hNm)
  obtain ⟨k1, k2⟩ := gc_keep h0 hn1 h1 h2 (fun a ha => o1 a (by omega))
  refine kk H1 locs ls z1 k1 (fun i a b => ?_) ⟨by have := h3.1; omega, fun y e2 e3 => (o1 y (by have := h3.1; omega)).trans (h3.2.1 y e2 e3), h3.2.2⟩ h4
  rcases Nat.lt_or_ge i n with g | g
  · exact k2 i a g
  · rw [show i = n by omega]
    exact hct cA hc H1 e1
/-- a new object (its fields' defaults), to be made by its own constructor -/
theorem gc_new {C : String} {T : u_T} {N cj index : Nat} {fs2 : List Value} (ty : Nat → FieldType) (X : gc_Ok x cc own nL d q l) (hn1 : 1 ≤ n) (hin : ∀ w ∈ u_ws C T N, w ∈ gz_TB) (hty : ∀ k, k < N → parseFieldDescriptor (T k).2.2.1 = some (ty k)) (hcl : Cond.classLink own index C ∈ gz_TB) (hinst : Cond.instantiable C N ∈ gz_TB) (hini : Cond.initialized C ∈ gz_TB) (hc : gz_cls[cj]? = some (C, T, N)) (hfs : ∀ j, j < N → defaultValue (ty j) = vp_V fs2 j) (hcells : c + 1 ≤ (gx_R x).cells) (hslots : s + N ≤ (gx_R x).slots) (dg : decode cc pc = .ok (.new index, 3)) (kk : ∀ (H : Heap) (locs : List Loc) (ls : Array Slot), H.size = q + n + 1 → va_at (gx_D x) gz_cls (q, .inr (ci, fs)) H → (∀ i, 1 ≤ i → i < n → va_at (gx_D x) gz_cls (q + i, gc_ct (gx_aC x) codes q i) H) → va_at (gx_D x) gz_cls (q + n, .inr (cj, fs2)) H → va_S (gx_A x) (gx_s x).heap H locs → lv_has ls (gx_nL x) lv → W (gx_p x) (gx_l x) (gx_e x) (gx_R x) (gx_s x) (gx_m x) (gx_args x) (gx_below x) (gx_meth x) (gx_c x) H locs (c + 1) (s + N) (gx_Q x) (F0 (gx_m x) (pc + 3) ls (.ref (q + n) :: st))) : gc_At x ci codes q pc lv st fs n c s := by
  intro H locs ls h0 h1 h2 h3 h4
  have hKn := X.2.2.1.1 cj _ hc
  refine W.newcK X.1.1 X.1.2.1 X.1.2.2.2.1 (X.1.2.2.2.2 _ hcl) (X.1.2.2.2.2 _ hinst) (X.1.2.2.2.2 _ hini) rfl dg hcells hslots hKn.2.1 h0 fun H1 kC hkC e1 z1 o1 => ?_
  obtain ⟨k1, k2⟩ := gc_keep h0 hn1 h1 h2 (fun a ha => o1 a (by omega))
  exact kk H1 locs ls z1 k1 k2 ⟨_, hc, (u_born ty X.1.2.2.2.2 hin hKn hkC e1 hty).to hfs⟩ ⟨by have := h3.1; omega, fun y e2 e3 => (o1 y (by have := h3.1; omega)).trans (h3.2.1 y e2 e3), h3.2.2⟩ h4
/-- a field of the object itself -/
theorem gc_put {index j N : Nat} {C : String} {T : u_T} {ty : FieldType} {w : Value} (X : gc_Ok x cc own nL d q l) (hC : C = own) (hn1 : 1 ≤ n) (hc : gz_cls[ci]? = some (C, T, N)) (hin : ∀ w ∈ u_ws C T N, w ∈ gz_TB) (ty0 : Nat → FieldType) (hty : ∀ k, k < N → parseFieldDescriptor (T k).2.2.1 = some (ty0 k)) (hnm : ∀ a, a < N → ∀ b, b < N → a ≠ b → (T a).2.1 ≠ (T b).2.1) (j0 : j < N) (hT : (T j).1 = C) (hl : Cond.fieldLink own index C (T j).2.1 (T j).2.2.1 ∈ gz_TB) (hd : parseFieldDescriptor (T j).2.2.1 = some ty) (hn : narrow ty w = w) (hfit : fits ty w = true) (hlen : j < fs.length) (dg : decode cc pc = .ok (.putfield index, 3)) (kk : gc_At x ci codes q (pc + 3) lv st (fs.set j w) n c s) : gc_At x ci codes q pc lv (w :: .ref q :: st) fs n c s := by
  intro H locs ls h0 h1 h2 h3 h4
  have hP : va_P (gx_D x) gz_cls [(q, .inr (ci, fs))] H := by
    intro i z hz
    match i, hz with
    | 0, hz => cases hz; exact h1
    | i + 1, hz => simp at hz
  have hD : va_D (fun a => a = q) [(q, .inr (ci, fs))] := ⟨fun i j a b ha hb _ => by
      have ea := (List.getElem?_eq_some_iff.mp ha).1
      have eb := (List.getElem?_eq_some_iff.mp hb).1
      simp at ea eb
      omega, fun k z hz => by
      match k, hz with
      | 0, hz => cases hz; rfl
      | k + 1, hz => simp at hz⟩
  have hsame : ∀ z, (gx_s x).fieldFound? (T j).1 (T j).2.1 (T j).2.2.1 = some z → (gx_s x).fieldFound? C (T j).2.1 (T j).2.2.1 = some z := by rw [hT]; exact fun _ h => h
  have hap := va_apart (own := own) X.1.2.2.2.2 hin ty0 hty hnm X.2.2.1 hc
  obtain ⟨r, e1, cell, q1, q2, q3, q4⟩ := h1
  have hr : r = (C, T, N) := Option.some.inj (e1.symm.trans hc)
  subst hr
  obtain ⟨hS, hfc, kC, hkC, hkind⟩ := X.2.2.1.1 ci _ hc
  obtain ⟨cf, kf, fi, f, hi, hsl⟩ := hS j j0
  have hst := (u_facts hfc hkC (u_lays X.1.2.2.2.2 hin j0) hi).1
  have fin : ∀ H' : Heap, H'[q]? = some (cell.setSlot f.slot w) → H'.size = H.size → (∀ a, a ≠ q → H'[a]? = H[a]?) → W (gx_p x) (gx_l x) (gx_e x) (gx_R x) (gx_s x) (gx_m x) (gx_args x) (gx_below x) (gx_meth x) (gx_c x) H' (locs ++ [⟨q, f.slot⟩]) c s (gx_Q x) (F0 (gx_m x) (pc + 3) ls st) := by
    intro H' e1 e2 e3
    rw [hsl] at e1 ⊢
    exact kk H' _ ls (by rw [e2]; exact h0) ⟨_, hc, t_OB.to (V := updV (vp_V fs) j w) ⟨_, e1, q2, q3, t_set q4 hap j0 w⟩ (fun j' _ => vp_updV_set hlen w j')⟩ (fun i a b => (h2 i a b).kept (e3 _ (by show q + i ≠ q; omega))) (h3.put e2 e3 (X.2.2.2.1 q (Nat.le_refl q))) h4
  have hlay := X.1.2.2.2.2 _ (hin _ (u_in_lay j0))
  unfold u_lay at hlay
  by_cases hfin : (T j).2.2.2 = true
  · rw [if_pos hfin] at hlay
    have hcf : (gx_m x).cls = cf := by
      obtain ⟨_, _, c', _, _, _, -, -, hf', -, -, -, hown2, -⟩ := Cond.laysFinal_spec hlay
      have e1 : c' = cf := by have := hi.symm.trans hf'; simp at this; exact this.1.symm
      rw [hT, hC] at hown2
      rw [← e1]; exact Option.some.inj (X.1.2.2.2.1.symm.trans hown2)
    have h6 := u_fits hfc hkC hkind (Or.inr hlay) hi hd hn hfit
    exact W.putFinK X.1.1 X.1.2.1 X.1.2.2.2.1 (X.1.2.2.2.2 _ hl) (hsame _ hi) hst hcf X.2.2.2.2.2.2.2.2.2.2.1 (by rw [q2]; exact h6) q1 q3 (by rw [hsl]; exact k2_hasslot (q4 j j0)) rfl rfl dg fin
  · rw [if_neg hfin] at hlay
    have h6 := u_store hfc hkC hkind hlay hi hd hn hfit
    exact W.putK X.1.1 X.1.2.1 (f := f) ⟨X.1.2.2.2.1, X.1.2.2.2.2 _ hl, ⟨_, _, _, hsame _ hi⟩, hst⟩ (by rw [q2]; exact h6) q1 q3 (by rw [hsl]; exact k2_hasslot (q4 j j0)) rfl rfl dg fin
/-- the contract of a constructor without arguments -/
def gc_C (l : Launch) (y : MethodName) (cc : ByteArray) (nL d ci : Nat) (codes : List Nat) (fs0 : List Value) (mc ms : Nat) : Prop := ∀ D aC q, Met l y (Cond.code y cc nL none :: gz_TB) (gz_rm d mc ms) (va_Pc [.ref q] (fun U => U.heap.size = q + 1 ∧ va_at D gz_cls (q, .inr (ci, fs0)) U.heap ∧ va_K D gz_cls (gz_tys aC) U ∧ gz_Nst U ∧ gc_AO U)) (va_Qv (fun (_ : Unit) => True) (fun _ t => t.heap.size = q + codes.length ∧ ∀ i, i < codes.length → va_at D gz_cls (q + i, gc_ct aC codes q i) t.heap) (fun a => q ≤ a)) mc ms (fun a => q ≤ a)
theorem gc_of {y : MethodName} {mc ms : Nat} {fs0 : List Value} (hy : plainFor y = true) (hname : y.name = "<init>") (hnL : 1 ≤ nL) (body : ∀ x q, gc_Ok x cc y.cls nL d q l → (gx_R x).cells = mc → (gx_R x).slots = ms → (∀ pc lv fs', (∀ aC, gc_ct aC codes q 0 = .inr (ci, fs')) → decode cc pc = .ok (.return_, 1) → gc_At x ci codes q pc lv [] fs' codes.length mc ms) → gc_At x ci codes q 0 [(0, .ref q)] [] fs0 1 0 0) : gc_C l y cc nL d ci codes fs0 mc ms := by
  intro D aC q
  refine gz_MetF (cc := cc) (maxL := nL) (ret := none) hy rfl ?_
  intro p e s m args below meth c s₁ B hml hv
  obtain ⟨rfl, hsz, hP, hK, hN, hAO⟩ := hv
  have hl := lv_entry ([.ref q]) (n := nL) hnL
  rw [lg_entry_eq]
  generalize (lg_sl [.ref q] ++ List.replicate (nL - (lg_sl [.ref q]).length) Slot.unset).toArray = ls at hl ⊢
  let x : gz_X := (p, l, e, (gz_rm d mc ms), s, m, [Value.ref q].toArray, below, meth, c, MQ below (va_Qv (fun (_ : Unit) => True) (fun _ t => t.heap.size = q + codes.length ∧ ∀ i, i < codes.length → va_at D gz_cls (q + i, gc_ct aC codes q i) t.heap) (fun a => q ≤ a)) [Value.ref q].toArray s mc ms (fun a => q ≤ a), (fun a => q ≤ a), D, aC, gz_cfC, fun k => q + k, fun _ => false, nL, 0, 0, gz_cls)
  have X : gc_Ok x cc y.cls nL d q l := ⟨⟨B.exec, B.bytes, hml, findClass_of_methodNamed B.named, fun w hw => atoms_spec (ws := Cond.code y cc nL none :: gz_TB) B.pre w (List.mem_cons_of_mem _ hw)⟩, rfl, hK, fun k hk => hk, hsz, B.notSynchronized, Nat.le_refl _, Nat.le_refl _, hN, rfl, (name_of_methodNamed B.named B.method).1.trans hname, hAO⟩
  refine body x q X rfl rfl (fun pc lv fs' hfs dg H locs ls h0 h1 h2 h3 h4 => ?_) s.heap [] ls hsz hP (fun i a b => by omega) va_S.rf hl
  refine W.vret B.exec B.bytes B.returns (fun t ht hW => ⟨⟨(), rfl, trivial, by rw [ht]; exact h0, fun i hi => ?_⟩, h3.F ht⟩) h3.2.2 dg
  rw [ht]
  rcases Nat.eq_zero_or_pos i with rfl | h
  · rw [hfs aC]; exact h1
  · exact h2 i h hi
theorem gc_shift {cd : Nat} {aC : Nat → ClassId} {q i : Nat} {g : Nat → Int32} {gl : Nat → Int64} (hc : cd ≠ 0 ∧ cd ≠ 27) : gz_kc cd aC (fun k => q + n + k) (fun _ => false) i g gl = gz_kc cd aC (fun k => q + k) (fun _ => false) (n + i) g gl := by
  unfold gz_kc
  split <;> first | rfl | (simp only [gz_oX0, gz_oX1, gz_oX2, gz_oX3, gz_oX4, gz_oX5, gz_oX6, gz_oX7, gz_oX8, gz_oX9, gz_oX10, gz_oI, gz_oZ, gz_oJ, gz_oB, gz_oG, gz_oK, Nat.add_assoc, Bool.false_eq_true, if_false]; done) | exact absurd rfl hc.1 | exact absurd rfl hc.2
theorem gc_ctShift {codes2 : List Nat} {aC : Nat → ClassId} {i : Nat} (hi : i < codes2.length) (hc : ∀ i, i < codes2.length → codes.getD (n + i) 0 = codes2.getD i 0 ∧ codes2.getD i 0 ≠ 0 ∧ codes2.getD i 0 ≠ 27) : gc_ct aC codes2 (q + n) i = gc_ct aC codes q (n + i) := by
  obtain ⟨h1, h2⟩ := hc i hi
  show gz_kc (codes2.getD i 0) _ _ _ _ (gc_g (codes2.getD i 0)) _ = gz_kc (codes.getD (n + i) 0) _ _ _ _ (gc_g (codes.getD (n + i) 0)) _
  rw [h1]
  exact gc_shift h2
theorem gc_blind {av : List Value} {D : va_G} {aC : Nat → ClassId} {q : Nat} {fs0 : List Value} : FrameBlind (va_Pc av (fun U => U.heap.size = q + 1 ∧ va_at D gz_cls (q, .inr (ci, fs0)) U.heap ∧ va_K D gz_cls (gz_tys aC) U ∧ gz_Nst U ∧ gc_AO U)) := by
  intro a U g mk z
  obtain ⟨q0, q1, q2, q3, q4, q5⟩ := z
  exact ⟨q0, q1, q2, va_K.moved (u := U) (U := U.calling g mk a) (Vm.Alike.refl U.vm) q3, gz_Nst.same (u := U) (U := U.calling g mk a) rfl q4, gc_AO.same (u := U) (U := U.calling g mk a) rfl q5⟩
/-- new X(): new, dup, invokespecial -/
theorem gc_newC {y : MethodName} {cc2 : ByteArray} {nL2 d2 cj N iN iI mc ms : Nat} {C : String} {T : u_T} {codes2 : List Nat} {fs2 : List Value} (ty : Nat → FieldType) (X : gc_Ok x cc own nL d q l) (hM : gc_C l y cc2 nL2 d2 cj codes2 fs2 mc ms) (hn1 : 1 ≤ n) (hin : ∀ w ∈ u_ws C T N, w ∈ gz_TB) (hty : ∀ k, k < N → parseFieldDescriptor (T k).2.2.1 = some (ty k)) (hcl : Cond.classLink own iN C ∈ gz_TB) (hinst : Cond.instantiable C N ∈ gz_TB) (hini : Cond.initialized C ∈ gz_TB) (hc : gz_cls[cj]? = some (C, T, N)) (hfs : ∀ j, j < N → defaultValue (ty j) = vp_V fs2 j) (hl : gz_ML own iI y) (hinm : Cond.instanceMethod y ∈ gz_TB) (hyi : Cond.initialized y.cls ∈ gz_TB) (hcode : Cond.code y cc2 nL2 none ∈ gz_TB) (hname : y.name = "<init>") (hw6 : y.cls ≠ "java/lang/invoke/MethodHandle" ∧ y.cls ≠ "java/lang/invoke/VarHandle" ∧ (parseMethodDescriptor y.desc).map (fun d => d.parameters.length) = some 0) (hd : d2 < d) (hn2 : nL2 ≤ 20) (hcells : c + 1 + mc ≤ (gx_R x).cells) (hslots : s + N + ms ≤ (gx_R x).slots) (hcs : ∀ i, i < codes2.length → codes.getD (n + i) 0 = codes2.getD i 0 ∧ codes2.getD i 0 ≠ 0 ∧ codes2.getD i 0 ≠ 27) (hW : ((Value.ref (q + n) :: st).map fun v => v.category).sum ≤ 8) (dg1 : decode cc pc = .ok (.new iN, 3)) (dg2 : decode cc (pc + 3) = .ok (.dup, 1)) (dg3 : decode cc (pc + 3 + 1) = .ok (.invokespecial iI, 3)) (kk : gc_At x ci codes q (pc + 3 + 1 + 3) lv (.ref (q + n) :: st) fs (n + codes2.length) (c + 1 + mc) (s + N + ms)) : gc_At x ci codes q pc lv st fs n c s := by
  refine gc_new ty X hn1 hin hty hcl hinst hini hc hfs (by omega) (by omega) dg1 (fun H locs ls h0 h1 h2 h2n h3 h4 => ?_)
  refine lv_dup X.1.1 X.1.2.1 dg2 rfl ?_
  have f1 := X.2.2.2.2.2.2.1
  have f2 := X.2.2.2.2.2.2.2.1
  have hR : (gz_rm d2 mc ms).frames + 1 ≤ (gx_R x).frames ∧ 8 + (nL2 + 11) + (gz_rm d2 mc ms).locals ≤ (gx_R x).locals := ⟨Nat.le_trans hd f1, by show 8 + (nL2 + 11) + 40 * d2 ≤ _; omega⟩
  have hp : PreS (gx_s x) H (va_Pc [.ref (q + n)] (fun U => U.heap.size = q + n + 1 ∧ va_at (gx_D x) gz_cls (q + n, .inr (cj, fs2)) U.heap ∧ va_K (gx_D x) gz_cls (gz_tys (gx_aC x)) U ∧ gz_Nst U ∧ gc_AO U)) [.ref (q + n)] := ⟨gc_blind, fun U hU hW2 => ⟨rfl, by rw [hU]; exact h0, by rw [hU]; exact h2n, va_K.moved hW2.alike X.2.2.1, X.2.2.2.2.2.2.2.2.1.warm hW2, X.2.2.2.2.2.2.2.2.2.2.2.warm hW2⟩⟩
  have hM1 := hM (gx_D x) (gx_aC x) (q + n)
  rw [← X.2.2.2.2.2.2.2.2.2.1] at hM1
  have hfree : ∀ a, q + n ≤ a → gx_A x a := fun a h => X.2.2.2.1 a (by omega)
  have hrun : va_Run (gx_p x) (gx_l x) (gx_e x) (gx_R x) (gx_s x) (gx_m x) (gx_args x) (gx_below x) (gx_meth x) (gx_c x) H locs (c + 1) (s + N) mc ms (F0 (gx_m x) (pc + 3 + 1) ls (.ref (q + n) :: .ref (q + n) :: st)) (.ref (q + n) :: st) (va_Qv (fun (_ : Unit) => True) (fun _ t => t.heap.size = q + n + codes2.length ∧ ∀ i, i < codes2.length → va_at (gx_D x) gz_cls (q + n + i, gc_ct (gx_aC x) codes2 (q + n) i) t.heap) (fun a => q + n ≤ a) (Value.ref (q + n) :: []).toArray) (fun a => q + n ≤ a) := by
    rcases hl with hl | ⟨host, hl⟩
    · exact va_runI (As := []) X.1 hM1 (cwI 0 X.1.2.2.2.2 (gz_goodIn hcode) rfl rfl rfl (X.1.2.2.2.2 _ hyi) (X.1.2.2.2.2 _ hl) (X.1.2.2.2.2 _ hinm) hname hw6 hR) hp rfl rfl (h4.1.trans X.2.1) rfl (lv_room hW) dg3 ⟨hcells, hslots⟩
    · exact va_runIN (As := []) X.1 hM1 ⟨va_cnB 0 X.1.2.2.2.2 (gz_goodIn hcode) rfl rfl rfl (X.2.2.2.2.2.2.2.2.1 _ hl) (X.1.2.2.2.2 _ hyi) hw6 hR, hname, X.1.2.2.2.2 _ hinm⟩ hp rfl rfl (h4.1.trans X.2.1) rfl (lv_room hW) dg3 ⟨hcells, hslots⟩
  refine va_callv hrun h3 (fun a _ h => hfree a h) hfree (fun u t H1 locs1 ht hvm hw hB hz hk hS => ?_)
  obtain ⟨b1, b2⟩ := hB
  rw [ht] at b1 b2
  have old : ∀ a, a < q + n → H1[a]? = H[a]? := fun a ha => hk a (by omega) (by omega)
  refine kk H1 locs1 ls (by omega) (h1.kept (old q (by omega))) (fun i a b => ?_) hS h4
  rcases Nat.lt_or_ge i n with g | g
  · exact (h2 i a g).kept (old _ (by show q + i < q + n; omega))
  · have h9 := b2 (i - n) (by omega)
    rw [gc_ctShift (by omega) hcs, show n + (i - n) = i by omega, show q + n + (i - n) = q + i by omega] at h9
    exact h9
end GK
