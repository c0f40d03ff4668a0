section
/-! memory of a world: int cells by index and place; one row of longs -/
abbrev gz_M : Type := (Nat → Nat → Int32) × (Nat → Int64)
def gz_w (M : gz_M) (k i : Nat) (v : Int32) : gz_M := (fun a => if a = k then upd (M.1 k) i v else M.1 a, M.2)
def gz_wl (M : gz_M) (i : Nat) (v : Int64) : gz_M := (M.1, vp_updL M.2 i v)
abbrev gz_Lay : Type := (Nat → ClassId) → (Nat → Nat) → (Nat → Bool) → Nat → (Nat → Int32) → (Nat → Int64) → va_E
/-- which cells are there, and what each holds -/
abbrev gz_CF : Type := ((Nat → Bool) → Nat → Bool) × gz_Lay
def gz_KD (cf : gz_CF) (pf : Nat → Bool) (k : Nat) (o : gz_Lay) : Prop := cf.1 pf k = true ∧ ∀ aC ad g gl, cf.2 aC ad pf k g gl = o aC ad pf k g gl
def gz_tys (aC : Nat → ClassId) : List (ClassId × FieldType) := [(aC 0, .int), (aC 1, .boolean), (aC 2, .long), (aC 3, .byte), (aC 4, .array .int), (aC 5, .object "LongestTokens$Book")]
def gz_TB : List Cond := lw_tbl.filter goodWord
theorem gz_in {w : Cond} (i : Nat) (h : lw_tbl[i]? = some w) (hg : goodWord w = true) : w ∈ gz_TB := List.mem_filter.mpr ⟨List.mem_of_getElem? h, hg⟩
theorem gz_good {w : Cond} (h : w ∈ gz_TB) : goodWord w = true := (List.mem_filter.mp h).2
/-- nest words: of the tables alone, but no good words: they go from state to state -/
def gz_isN : Cond → Bool
  | .fieldLinkNest _ _ _ _ _ _ => true
  | .methodLinkNest _ _ _ _ => true
  | _ => false
def gz_NB : List Cond := lw_tbl.filter gz_isN
def gz_Nst (U : State) : Prop := ∀ w ∈ gz_NB, va_Nw w U
theorem gz_inN {w : Cond} (i : Nat) (h : lw_tbl[i]? = some w) (hg : gz_isN w = true) : w ∈ gz_NB := List.mem_filter.mpr ⟨List.mem_of_getElem? h, hg⟩
theorem gz_Nst.warm {s U : State} (hW : s.WarmedH U.vm) (h : gz_Nst s) : gz_Nst U := by
  intro w hw
  have h0 := h w hw
  have h1 := (List.mem_filter.mp hw).2
  cases w <;> first | exact va_Nw.warmF hW h0 | exact va_Nw.warmM hW h0 | cases h1
theorem gz_Nst.same {u U : State} (hv : u.vm = U.vm) (h : gz_Nst u) : gz_Nst U := by
  intro w hw
  have h0 := h w hw
  have h1 := (List.mem_filter.mp hw).2
  cases w <;> first | exact va_Nw.same rfl hv h0 | cases h1
/-- the heap holds the memory -/
def gz_mw (D : va_G) (cl : List vw_C) (cf : gz_CF) (aC : Nat → ClassId) (ad : Nat → Nat) (pf : Nat → Bool) (M : gz_M) (H : Heap) : Prop := ∀ k, cf.1 pf k = true → va_at D cl (ad k, cf.2 aC ad pf k (M.1 k) M.2) H
def gz_inj (cf : gz_CF) (ad : Nat → Nat) (pf : Nat → Bool) : Prop := ∀ i j, cf.1 pf i = true → cf.1 pf j = true → ad i = ad j → i = j
def gz_A (cf : gz_CF) (ad : Nat → Nat) (pf : Nat → Bool) (sz : Nat) : Nat → Prop := fun q => (∃ k, cf.1 pf k = true ∧ q = ad k) ∨ sz ≤ q
/-! a method's walk: all that stays -/
abbrev gz_X : Type := Program × Launch × Env × Room × State × MethodId × Array Value × List Frame × Method × Code × (State → Prop) × (Nat → Prop) × va_G × (Nat → ClassId) × gz_CF × (Nat → Nat) × (Nat → Bool) × Nat × Nat × Nat × List vw_C
abbrev gx_p (x : gz_X) : Program := x.1
abbrev gx_l (x : gz_X) : Launch := x.2.1
abbrev gx_e (x : gz_X) : Env := x.2.2.1
abbrev gx_R (x : gz_X) : Room := x.2.2.2.1
abbrev gx_s (x : gz_X) : State := x.2.2.2.2.1
abbrev gx_m (x : gz_X) : MethodId := x.2.2.2.2.2.1
abbrev gx_args (x : gz_X) : Array Value := x.2.2.2.2.2.2.1
abbrev gx_below (x : gz_X) : List Frame := x.2.2.2.2.2.2.2.1
abbrev gx_meth (x : gz_X) : Method := x.2.2.2.2.2.2.2.2.1
abbrev gx_c (x : gz_X) : Code := x.2.2.2.2.2.2.2.2.2.1
abbrev gx_Q (x : gz_X) : State → Prop := x.2.2.2.2.2.2.2.2.2.2.1
abbrev gx_A (x : gz_X) : Nat → Prop := x.2.2.2.2.2.2.2.2.2.2.2.1
abbrev gx_D (x : gz_X) : va_G := x.2.2.2.2.2.2.2.2.2.2.2.2.1
abbrev gx_aC (x : gz_X) : Nat → ClassId := x.2.2.2.2.2.2.2.2.2.2.2.2.2.1
abbrev gx_cf (x : gz_X) : gz_CF := x.2.2.2.2.2.2.2.2.2.2.2.2.2.2.1
def gx_ad (x : gz_X) : Nat → Nat := x.2.2.2.2.2.2.2.2.2.2.2.2.2.2.2.1
def gx_pf (x : gz_X) : Nat → Bool := x.2.2.2.2.2.2.2.2.2.2.2.2.2.2.2.2.1
abbrev gx_nL (x : gz_X) : Nat := x.2.2.2.2.2.2.2.2.2.2.2.2.2.2.2.2.2.1
abbrev gx_cells (x : gz_X) : Nat := x.2.2.2.2.2.2.2.2.2.2.2.2.2.2.2.2.2.2.1
abbrev gx_slots (x : gz_X) : Nat := x.2.2.2.2.2.2.2.2.2.2.2.2.2.2.2.2.2.2.2.1
abbrev gx_cl (x : gz_X) : List vw_C := x.2.2.2.2.2.2.2.2.2.2.2.2.2.2.2.2.2.2.2.2
def gz_W (x : gz_X) (H : Heap) (locs : List Loc) (g : JFrame) : Prop := W (gx_p x) (gx_l x) (gx_e x) (gx_R x) (gx_s x) (gx_m x) (gx_args x) (gx_below x) (gx_meth x) (gx_c x) H locs (gx_cells x) (gx_slots x) (gx_Q x) g
/-- at pc, with these locals, this stack, this memory -/
def gz_At (x : gz_X) (pc : Nat) (lv : List (Nat × Value)) (st : List Value) (M : gz_M) : Prop := ∀ (H : Heap) (locs : List Loc) (ls : Array Slot), gz_mw (gx_D x) (gx_cl x) (gx_cf x) (gx_aC x) (gx_ad x) (gx_pf x) M H → va_S (gx_A x) (gx_s x).heap H locs → lv_has ls (gx_nL x) lv → gz_W x H locs (F0 (gx_m x) pc ls st)
abbrev gz_cls : List vw_C := [(RX0, TX0, 3), (RX1, TX1, 6), (RX2, TX2, 16), (RX3, TX3, 2), (RX4, TX4, 3), (RX5, TX5, 2), (RX6, TX6, 5), (RX7, TX7, 11), (RX8, TX8, 4), (RX9, TX9, 3), (RX10, TX10, 2), (RX11, TX11, 16), (RX12, TX12, 55)]
def gz_Ok (x : gz_X) (cc : ByteArray) (own : String) (nL d : Nat) (cf : gz_CF) (pf : Nat → Bool) (l : Launch) : Prop := CallFix (gx_p x) (gx_m x) (gx_c x) cc nL (gx_s x) (gx_args x) gz_TB own ∧ gx_nL x = nL ∧ va_K (gx_D x) (gx_cl x) (gz_tys (gx_aC x)) (gx_s x) ∧ gz_inj (gx_cf x) (gx_ad x) (gx_pf x) ∧ (∀ k, (gx_cf x).1 (gx_pf x) k = true → gx_A x (gx_ad x k)) ∧ (∀ q, (gx_s x).heap.size ≤ q → gx_A x q) ∧ (gx_meth x).locks = false ∧ d ≤ (gx_R x).frames ∧ 40 * d ≤ (gx_R x).locals ∧ gz_Nst (gx_s x) ∧ gx_cf x = cf ∧ gx_pf x = pf ∧ gx_l x = l ∧ gx_cl x = gz_cls
section GR
variable {x : gz_X} {cc : ByteArray} {own : String} {nL d pc : Nat} {cf : gz_CF} {pf : Nat → Bool} {l : Launch} {lv lv' : List (Nat × Value)} {st : List Value} {M : gz_M}
theorem gz_Ok.hx (X : gz_Ok x cc own nL d cf pf l) : (gx_p x).tables.exec = Jvm.exec := X.1.1
theorem gz_Ok.hb (X : gz_Ok x cc own nL d cf pf l) : (gx_c x).code = cc := X.1.2.1
theorem gz_Ok.hml (X : gz_Ok x cc own nL d cf pf l) : (gx_c x).maxLocals = nL := X.1.2.2.1
theorem gz_Ok.hown (X : gz_Ok x cc own nL d cf pf l) : (gx_s x).vm.findClass own = some (gx_m x).cls := X.1.2.2.2.1
theorem gz_Ok.hts (X : gz_Ok x cc own nL d cf pf l) : ∀ w ∈ gz_TB, w.before (gx_args x) (gx_s x) = true := X.1.2.2.2.2
theorem gz_Ok.hnL (X : gz_Ok x cc own nL d cf pf l) : gx_nL x = nL := X.2.1
theorem gz_Ok.hK (X : gz_Ok x cc own nL d cf pf l) : va_K (gx_D x) (gx_cl x) (gz_tys (gx_aC x)) (gx_s x) := X.2.2.1
theorem gz_Ok.hinj (X : gz_Ok x cc own nL d cf pf l) : gz_inj (gx_cf x) (gx_ad x) (gx_pf x) := X.2.2.2.1
theorem gz_Ok.hA (X : gz_Ok x cc own nL d cf pf l) : ∀ k, (gx_cf x).1 (gx_pf x) k = true → gx_A x (gx_ad x k) := X.2.2.2.2.1
theorem gz_Ok.hA2 (X : gz_Ok x cc own nL d cf pf l) : ∀ q, (gx_s x).heap.size ≤ q → gx_A x q := X.2.2.2.2.2.1
theorem gz_Ok.hlk (X : gz_Ok x cc own nL d cf pf l) : (gx_meth x).locks = false := X.2.2.2.2.2.2.1
theorem gz_Ok.hfr (X : gz_Ok x cc own nL d cf pf l) : d ≤ (gx_R x).frames := X.2.2.2.2.2.2.2.1
theorem gz_Ok.hlo (X : gz_Ok x cc own nL d cf pf l) : 40 * d ≤ (gx_R x).locals := X.2.2.2.2.2.2.2.2.1
theorem gz_Ok.hN (X : gz_Ok x cc own nL d cf pf l) : gz_Nst (gx_s x) := X.2.2.2.2.2.2.2.2.2.1
theorem gz_Ok.hcf (X : gz_Ok x cc own nL d cf pf l) : gx_cf x = cf := X.2.2.2.2.2.2.2.2.2.2.1
theorem gz_Ok.hpf (X : gz_Ok x cc own nL d cf pf l) : gx_pf x = pf := X.2.2.2.2.2.2.2.2.2.2.2.1
theorem gz_Ok.hl (X : gz_Ok x cc own nL d cf pf l) : gx_l x = l := X.2.2.2.2.2.2.2.2.2.2.2.2.1
theorem gz_Ok.hcl (X : gz_Ok x cc own nL d cf pf l) : gx_cl x = gz_cls := X.2.2.2.2.2.2.2.2.2.2.2.2.2
theorem gz_Ok.kd {k : Nat} {o : gz_Lay} (X : gz_Ok x cc own nL d cf pf l) (hk : gz_KD cf pf k o) : gz_KD (gx_cf x) (gx_pf x) k o := by rw [X.hcf, X.hpf]; exact hk
theorem gr_iconst {n : Int} (v : Int32) (X : gz_Ok x cc own nL d cf pf l) (dg : decode cc pc = .ok (.iconst n, 1)) (hv : Int32.ofInt n = v) (k : gz_At x (pc + 1) lv (.int v :: st) M) : gz_At x pc lv st M := fun H locs ls h1 h2 h3 => lv_iconst X.hx X.hb dg hv (k H locs ls h1 h2 h3)
theorem gr_bipush {n : Int} (v : Int32) (X : gz_Ok x cc own nL d cf pf l) (dg : decode cc pc = .ok (.bipush n, 2)) (hv : (Int8.ofInt n).toInt32 = v) (k : gz_At x (pc + 2) lv (.int v :: st) M) : gz_At x pc lv st M := fun H locs ls h1 h2 h3 => lv_bipush X.hx X.hb dg hv (k H locs ls h1 h2 h3)
theorem gr_sipush {n : Int} (v : Int32) (X : gz_Ok x cc own nL d cf pf l) (dg : decode cc pc = .ok (.sipush n, 3)) (hv : (Int16.ofInt n).toInt32 = v) (k : gz_At x (pc + 3) lv (.int v :: st) M) : gz_At x pc lv st M := fun H locs ls h1 h2 h3 => lv_sipush X.hx X.hb dg hv (k H locs ls h1 h2 h3)
theorem gr_lconst {n : Fin 2} (v : Int64) (X : gz_Ok x cc own nL d cf pf l) (dg : decode cc pc = .ok (.lconst n, 1)) (hv : Int64.ofNat (n : Nat) = v) (k : gz_At x (pc + 1) lv (.long v :: st) M) : gz_At x pc lv st M := fun H locs ls h1 h2 h3 => lv_lconst X.hx X.hb dg hv (k H locs ls h1 h2 h3)
theorem gr_ldc {index : Nat} (v : Int32) (X : gz_Ok x cc own nL d cf pf l) (dg : decode cc pc = .ok (.ldc index, 2)) (hc : Cond.constant own index v ∈ gz_TB) (k : gz_At x (pc + 2) lv (.int v :: st) M) : gz_At x pc lv st M := fun H locs ls h1 h2 h3 => lv_ldc X.hx X.hb X.hown (X.hts _ hc) dg (k H locs ls h1 h2 h3)
theorem gr_iload_n {k : Fin 4} {i : Nat} {v : Int32} (X : gz_Ok x cc own nL d cf pf l) (dg : decode cc pc = .ok (.iload_n k, 1)) (pl : Nat) (hi : (k : Nat) = i) (hl : lv[pl]? = some (i, .int v)) (kk : gz_At x (pc + 1) lv (.int v :: st) M) : gz_At x pc lv st M := fun H locs ls h1 h2 h3 => lv_iload_n X.hx X.hb dg hi (lv_at h3 pl hl) (kk H locs ls h1 h2 h3)
theorem gr_iload {i : Nat} {v : Int32} (X : gz_Ok x cc own nL d cf pf l) (dg : decode cc pc = .ok (.iload i, 2)) (pl : Nat) (hl : lv[pl]? = some (i, .int v)) (kk : gz_At x (pc + 2) lv (.int v :: st) M) : gz_At x pc lv st M := fun H locs ls h1 h2 h3 => lv_iload X.hx X.hb dg (lv_at h3 pl hl) (kk H locs ls h1 h2 h3)
theorem gr_lload_n {k : Fin 4} {i : Nat} {v : Int64} (X : gz_Ok x cc own nL d cf pf l) (dg : decode cc pc = .ok (.lload_n k, 1)) (pl : Nat) (hi : (k : Nat) = i) (hl : lv[pl]? = some (i, .long v)) (kk : gz_At x (pc + 1) lv (.long v :: st) M) : gz_At x pc lv st M := fun H locs ls h1 h2 h3 => lv_lload_n X.hx X.hb dg hi (lv_at h3 pl hl) (kk H locs ls h1 h2 h3)
theorem gr_aload_n {k : Fin 4} {i : Nat} {v : Nat} (X : gz_Ok x cc own nL d cf pf l) (dg : decode cc pc = .ok (.aload_n k, 1)) (pl : Nat) (hi : (k : Nat) = i) (hl : lv[pl]? = some (i, .ref v)) (kk : gz_At x (pc + 1) lv (.ref v :: st) M) : gz_At x pc lv st M := fun H locs ls h1 h2 h3 => lv_aload_n X.hx X.hb dg hi (lv_at h3 pl hl) (kk H locs ls h1 h2 h3)
theorem gr_aload {i : Nat} {v : Nat} (X : gz_Ok x cc own nL d cf pf l) (dg : decode cc pc = .ok (.aload i, 2)) (pl : Nat) (hl : lv[pl]? = some (i, .ref v)) (kk : gz_At x (pc + 2) lv (.ref v :: st) M) : gz_At x pc lv st M := fun H locs ls h1 h2 h3 => lv_aload X.hx X.hb dg (lv_at h3 pl hl) (kk H locs ls h1 h2 h3)
theorem gr_istore_n {k : Fin 4} {i : Nat} {y v : Int32} (lv' : List (Nat × Value)) (X : gz_Ok x cc own nL d cf pf l) (dg : decode cc pc = .ok (.istore_n k, 1)) (hv : y = v) (hi : (k : Nat) = i) (hn : i < nL) (hl : (i, Value.int y) :: lv.filter (fun q => !(q.1 == i) && !(q.1 + 1 == i && q.2.category == 2)) = lv') (kk : gz_At x (pc + 1) lv' st M) : gz_At x pc lv (.int v :: st) M := by
  subst hv
  exact fun H locs ls h1 h2 h3 => lv_istore_n X.hx X.hb dg hi h3 (by rw [X.hnL]; exact hn) hl (fun ls hl => kk H locs ls h1 h2 hl)
theorem gr_istore {i : Nat} {y v : Int32} (lv' : List (Nat × Value)) (X : gz_Ok x cc own nL d cf pf l) (dg : decode cc pc = .ok (.istore i, 2)) (hv : y = v) (hn : i < nL) (hl : (i, Value.int y) :: lv.filter (fun q => !(q.1 == i) && !(q.1 + 1 == i && q.2.category == 2)) = lv') (kk : gz_At x (pc + 2) lv' st M) : gz_At x pc lv (.int v :: st) M := by
  subst hv
  exact fun H locs ls h1 h2 h3 => lv_istore X.hx X.hb dg h3 (by rw [X.hnL]; exact hn) hl (fun ls hl => kk H locs ls h1 h2 hl)
theorem gr_astore_n {k : Fin 4} {i : Nat} {v : Nat} (lv' : List (Nat × Value)) (X : gz_Ok x cc own nL d cf pf l) (dg : decode cc pc = .ok (.astore_n k, 1)) (hi : (k : Nat) = i) (hn : i < nL) (hl : (i, Value.ref v) :: lv.filter (fun q => !(q.1 == i) && !(q.1 + 1 == i && q.2.category == 2)) = lv') (kk : gz_At x (pc + 1) lv' st M) : gz_At x pc lv (.ref v :: st) M := fun H locs ls h1 h2 h3 => lv_astore_n X.hx X.hb dg hi h3 (by rw [X.hnL]; exact hn) hl (fun ls hl => kk H locs ls h1 h2 hl)
theorem gr_astore {i : Nat} {v : Nat} (lv' : List (Nat × Value)) (X : gz_Ok x cc own nL d cf pf l) (dg : decode cc pc = .ok (.astore i, 2)) (hn : i < nL) (hl : (i, Value.ref v) :: lv.filter (fun q => !(q.1 == i) && !(q.1 + 1 == i && q.2.category == 2)) = lv') (kk : gz_At x (pc + 2) lv' st M) : gz_At x pc lv (.ref v :: st) M := fun H locs ls h1 h2 h3 => lv_astore X.hx X.hb dg h3 (by rw [X.hnL]; exact hn) hl (fun ls hl => kk H locs ls h1 h2 hl)
theorem gr_iinc {i : Nat} {n : Int} {a y : Int32} (c : Int32) (lv' : List (Nat × Value)) (X : gz_Ok x cc own nL d cf pf l) (dg : decode cc pc = .ok (.iinc i n, 3)) (pl : Nat) (hk : lv[pl]? = some (i, .int a)) (hc : Int32.ofInt n = c) (hv : y = a + c) (hn : i < nL) (hl : (i, Value.int y) :: lv.filter (fun q => !(q.1 == i) && !(q.1 + 1 == i && q.2.category == 2)) = lv') (kk : gz_At x (pc + 3) lv' st M) : gz_At x pc lv st M := by
  subst hc
  exact fun H locs ls h1 h2 h3 => lv_iinc X.hx X.hb dg h3 hk hv.symm (by rw [X.hnL]; exact hn) hl (fun ls hl => kk H locs ls h1 h2 hl)
theorem gr_iadd {a b : Int32} (X : gz_Ok x cc own nL d cf pf l) (dg : decode cc pc = .ok (.iadd, 1)) (kk : gz_At x (pc + 1) lv (.int (a + b) :: st) M) : gz_At x pc lv (.int b :: .int a :: st) M := fun H locs ls h1 h2 h3 => lv_iadd X.hx X.hb dg (kk H locs ls h1 h2 h3)
theorem gr_isub {a b : Int32} (X : gz_Ok x cc own nL d cf pf l) (dg : decode cc pc = .ok (.isub, 1)) (kk : gz_At x (pc + 1) lv (.int (a - b) :: st) M) : gz_At x pc lv (.int b :: .int a :: st) M := fun H locs ls h1 h2 h3 => lv_isub X.hx X.hb dg (kk H locs ls h1 h2 h3)
theorem gr_imul {a b : Int32} (X : gz_Ok x cc own nL d cf pf l) (dg : decode cc pc = .ok (.imul, 1)) (kk : gz_At x (pc + 1) lv (.int (a * b) :: st) M) : gz_At x pc lv (.int b :: .int a :: st) M := fun H locs ls h1 h2 h3 => lv_imul X.hx X.hb dg (kk H locs ls h1 h2 h3)
theorem gr_iand {a b : Int32} (X : gz_Ok x cc own nL d cf pf l) (dg : decode cc pc = .ok (.iand, 1)) (kk : gz_At x (pc + 1) lv (.int (a &&& b) :: st) M) : gz_At x pc lv (.int b :: .int a :: st) M := fun H locs ls h1 h2 h3 => lv_iand X.hx X.hb dg (kk H locs ls h1 h2 h3)
theorem gr_ior {a b : Int32} (X : gz_Ok x cc own nL d cf pf l) (dg : decode cc pc = .ok (.ior, 1)) (kk : gz_At x (pc + 1) lv (.int (a ||| b) :: st) M) : gz_At x pc lv (.int b :: .int a :: st) M := fun H locs ls h1 h2 h3 => lv_ior X.hx X.hb dg (kk H locs ls h1 h2 h3)
theorem gr_ixor {a b : Int32} (X : gz_Ok x cc own nL d cf pf l) (dg : decode cc pc = .ok (.ixor, 1)) (kk : gz_At x (pc + 1) lv (.int (a ^^^ b) :: st) M) : gz_At x pc lv (.int b :: .int a :: st) M := fun H locs ls h1 h2 h3 => lv_ixor X.hx X.hb dg (kk H locs ls h1 h2 h3)
def gz_shl (a b : Int32) : Int32 := a <<< (b &&& 31)
def gz_shr (a b : Int32) : Int32 := a >>> (b &&& 31)
def gz_ushr (a b : Int32) : Int32 := (a.toUInt32 >>> (b.toUInt32 &&& Int32.toUInt32 31)).toInt32
def gz_rem (a b : Int32) : Int32 := a - a / b * b
theorem gr_ishl {a b : Int32} (X : gz_Ok x cc own nL d cf pf l) (dg : decode cc pc = .ok (.ishl, 1)) (kk : gz_At x (pc + 1) lv (.int (gz_shl a b) :: st) M) : gz_At x pc lv (.int b :: .int a :: st) M := fun H locs ls h1 h2 h3 => lv_ishl X.hx X.hb dg (kk H locs ls h1 h2 h3)
theorem gr_ishr {a b : Int32} (X : gz_Ok x cc own nL d cf pf l) (dg : decode cc pc = .ok (.ishr, 1)) (kk : gz_At x (pc + 1) lv (.int (gz_shr a b) :: st) M) : gz_At x pc lv (.int b :: .int a :: st) M := fun H locs ls h1 h2 h3 => lv_ishr X.hx X.hb dg (kk H locs ls h1 h2 h3)
theorem gr_iushr {a b : Int32} (X : gz_Ok x cc own nL d cf pf l) (dg : decode cc pc = .ok (.iushr, 1)) (kk : gz_At x (pc + 1) lv (.int (gz_ushr a b) :: st) M) : gz_At x pc lv (.int b :: .int a :: st) M := fun H locs ls h1 h2 h3 => lv_iushr X.hx X.hb dg rfl (kk H locs ls h1 h2 h3)
theorem gr_irem {a b : Int32} (X : gz_Ok x cc own nL d cf pf l) (dg : decode cc pc = .ok (.irem, 1)) (hne : ¬ b = 0) (kk : gz_At x (pc + 1) lv (.int (gz_rem a b) :: st) M) : gz_At x pc lv (.int b :: .int a :: st) M := fun H locs ls h1 h2 h3 => lv_irem X.hx X.hb dg hne (kk H locs ls h1 h2 h3)
theorem gr_i2l {a : Int32} (X : gz_Ok x cc own nL d cf pf l) (dg : decode cc pc = .ok (.i2l, 1)) (kk : gz_At x (pc + 1) lv (.long a.toInt64 :: st) M) : gz_At x pc lv (.int a :: st) M := fun H locs ls h1 h2 h3 => lv_i2l X.hx X.hb dg rfl (kk H locs ls h1 h2 h3)
theorem gr_i2b {a : Int32} (X : gz_Ok x cc own nL d cf pf l) (dg : decode cc pc = .ok (.i2b, 1)) (kk : gz_At x (pc + 1) lv (.int a.toInt8.toInt32 :: st) M) : gz_At x pc lv (.int a :: st) M := fun H locs ls h1 h2 h3 => lv_i2b X.hx X.hb dg rfl (kk H locs ls h1 h2 h3)
theorem gr_i2s {a : Int32} (X : gz_Ok x cc own nL d cf pf l) (dg : decode cc pc = .ok (.i2s, 1)) (kk : gz_At x (pc + 1) lv (.int a.toInt16.toInt32 :: st) M) : gz_At x pc lv (.int a :: st) M := fun H locs ls h1 h2 h3 => lv_i2s X.hx X.hb dg rfl (kk H locs ls h1 h2 h3)
theorem gr_dup {va : Value} (X : gz_Ok x cc own nL d cf pf l) (dg : decode cc pc = .ok (.dup, 1)) (hva : va.category = 1) (kk : gz_At x (pc + 1) lv (va :: va :: st) M) : gz_At x pc lv (va :: st) M := fun H locs ls h1 h2 h3 => lv_dup X.hx X.hb dg hva (kk H locs ls h1 h2 h3)
theorem gr_pop {va : Value} (X : gz_Ok x cc own nL d cf pf l) (dg : decode cc pc = .ok (.pop, 1)) (hva : va.category = 1) (kk : gz_At x (pc + 1) lv st M) : gz_At x pc lv (va :: st) M := fun H locs ls h1 h2 h3 => lv_pop X.hx X.hb dg hva (kk H locs ls h1 h2 h3)
theorem gr_dup_x1 {va vb : Value} (X : gz_Ok x cc own nL d cf pf l) (dg : decode cc pc = .ok (.dup_x1, 1)) (hva : va.category = 1) (hvb : vb.category = 1) (kk : gz_At x (pc + 1) lv (va :: vb :: va :: st) M) : gz_At x pc lv (va :: vb :: st) M := fun H locs ls h1 h2 h3 => lv_dup_x1 X.hx X.hb dg hva hvb (kk H locs ls h1 h2 h3)
theorem gr_dup2 {va vb : Value} (X : gz_Ok x cc own nL d cf pf l) (dg : decode cc pc = .ok (.dup2, 1)) (hva : va.category = 1) (hvb : vb.category = 1) (kk : gz_At x (pc + 1) lv (va :: vb :: va :: vb :: st) M) : gz_At x pc lv (va :: vb :: st) M := fun H locs ls h1 h2 h3 => lv_dup2_11 X.hx X.hb dg hva hvb (kk H locs ls h1 h2 h3)
theorem gr_if_eq {a : Int32} {off : Int} (tgt : Nat) (X : gz_Ok x cc own nL d cf pf l) (dg : decode cc pc = .ok (.ifCond .eq off, 3)) (ht : (pc : Int) + off = (tgt : Int)) (kt : a = 0 → gz_At x tgt lv st M) (kf : ¬ a = 0 → gz_At x (pc + 3) lv st M) : gz_At x pc lv (.int a :: st) M := fun H locs ls h1 h2 h3 => lv_if_eq X.hx X.hb dg ht (fun h => kt h H locs ls h1 h2 h3) (fun h => kf h H locs ls h1 h2 h3)
theorem gr_if_lt {a : Int32} {off : Int} (tgt : Nat) (X : gz_Ok x cc own nL d cf pf l) (dg : decode cc pc = .ok (.ifCond .lt off, 3)) (ht : (pc : Int) + off = (tgt : Int)) (kt : a < 0 → gz_At x tgt lv st M) (kf : ¬ a < 0 → gz_At x (pc + 3) lv st M) : gz_At x pc lv (.int a :: st) M := fun H locs ls h1 h2 h3 => lv_if_lt X.hx X.hb dg ht (fun h => kt h H locs ls h1 h2 h3) (fun h => kf h H locs ls h1 h2 h3)
theorem gr_if_ge {a : Int32} {off : Int} (tgt : Nat) (X : gz_Ok x cc own nL d cf pf l) (dg : decode cc pc = .ok (.ifCond .ge off, 3)) (ht : (pc : Int) + off = (tgt : Int)) (kt : 0 ≤ a → gz_At x tgt lv st M) (kf : ¬ 0 ≤ a → gz_At x (pc + 3) lv st M) : gz_At x pc lv (.int a :: st) M := fun H locs ls h1 h2 h3 => lv_if_ge X.hx X.hb dg ht (fun h => kt h H locs ls h1 h2 h3) (fun h => kf h H locs ls h1 h2 h3)
theorem gr_if_gt {a : Int32} {off : Int} (tgt : Nat) (X : gz_Ok x cc own nL d cf pf l) (dg : decode cc pc = .ok (.ifCond .gt off, 3)) (ht : (pc : Int) + off = (tgt : Int)) (kt : 0 < a → gz_At x tgt lv st M) (kf : ¬ 0 < a → gz_At x (pc + 3) lv st M) : gz_At x pc lv (.int a :: st) M := fun H locs ls h1 h2 h3 => lv_if_gt X.hx X.hb dg ht (fun h => kt h H locs ls h1 h2 h3) (fun h => kf h H locs ls h1 h2 h3)
theorem gr_if_le {a : Int32} {off : Int} (tgt : Nat) (X : gz_Ok x cc own nL d cf pf l) (dg : decode cc pc = .ok (.ifCond .le off, 3)) (ht : (pc : Int) + off = (tgt : Int)) (kt : a ≤ 0 → gz_At x tgt lv st M) (kf : ¬ a ≤ 0 → gz_At x (pc + 3) lv st M) : gz_At x pc lv (.int a :: st) M := fun H locs ls h1 h2 h3 => lv_if_le X.hx X.hb dg ht (fun h => kt h H locs ls h1 h2 h3) (fun h => kf h H locs ls h1 h2 h3)
theorem gr_if_ne {a : Int32} {off : Int} (tgt : Nat) (X : gz_Ok x cc own nL d cf pf l) (dg : decode cc pc = .ok (.ifCond .ne off, 3)) (ht : (pc : Int) + off = (tgt : Int)) (kf : a = 0 → gz_At x (pc + 3) lv st M) (kt : ¬ a = 0 → gz_At x tgt lv st M) : gz_At x pc lv (.int a :: st) M := fun H locs ls h1 h2 h3 => lv_if_ne X.hx X.hb dg ht (fun h => kt h H locs ls h1 h2 h3) (fun h => kf h H locs ls h1 h2 h3)
theorem gr_icmp_eq {a b : Int32} {off : Int} (tgt : Nat) (X : gz_Ok x cc own nL d cf pf l) (dg : decode cc pc = .ok (.if_icmp .eq off, 3)) (ht : (pc : Int) + off = (tgt : Int)) (kt : a = b → gz_At x tgt lv st M) (kf : ¬ a = b → gz_At x (pc + 3) lv st M) : gz_At x pc lv (.int b :: .int a :: st) M := fun H locs ls h1 h2 h3 => lv_icmp_eq X.hx X.hb dg ht (fun h => kt h H locs ls h1 h2 h3) (fun h => kf h H locs ls h1 h2 h3)
theorem gr_icmp_lt {a b : Int32} {off : Int} (tgt : Nat) (X : gz_Ok x cc own nL d cf pf l) (dg : decode cc pc = .ok (.if_icmp .lt off, 3)) (ht : (pc : Int) + off = (tgt : Int)) (kt : a < b → gz_At x tgt lv st M) (kf : ¬ a < b → gz_At x (pc + 3) lv st M) : gz_At x pc lv (.int b :: .int a :: st) M := fun H locs ls h1 h2 h3 => lv_icmp_lt X.hx X.hb dg ht (fun h => kt h H locs ls h1 h2 h3) (fun h => kf h H locs ls h1 h2 h3)
theorem gr_icmp_ge {a b : Int32} {off : Int} (tgt : Nat) (X : gz_Ok x cc own nL d cf pf l) (dg : decode cc pc = .ok (.if_icmp .ge off, 3)) (ht : (pc : Int) + off = (tgt : Int)) (kt : b ≤ a → gz_At x tgt lv st M) (kf : ¬ b ≤ a → gz_At x (pc + 3) lv st M) : gz_At x pc lv (.int b :: .int a :: st) M := fun H locs ls h1 h2 h3 => lv_icmp_ge X.hx X.hb dg ht (fun h => kt h H locs ls h1 h2 h3) (fun h => kf h H locs ls h1 h2 h3)
theorem gr_icmp_gt {a b : Int32} {off : Int} (tgt : Nat) (X : gz_Ok x cc own nL d cf pf l) (dg : decode cc pc = .ok (.if_icmp .gt off, 3)) (ht : (pc : Int) + off = (tgt : Int)) (kt : b < a → gz_At x tgt lv st M) (kf : ¬ b < a → gz_At x (pc + 3) lv st M) : gz_At x pc lv (.int b :: .int a :: st) M := fun H locs ls h1 h2 h3 => lv_icmp_gt X.hx X.hb dg ht (fun h => kt h H locs ls h1 h2 h3) (fun h => kf h H locs ls h1 h2 h3)
theorem gr_icmp_le {a b : Int32} {off : Int} (tgt : Nat) (X : gz_Ok x cc own nL d cf pf l) (dg : decode cc pc = .ok (.if_icmp .le off, 3)) (ht : (pc : Int) + off = (tgt : Int)) (kt : a ≤ b → gz_At x tgt lv st M) (kf : ¬ a ≤ b → gz_At x (pc + 3) lv st M) : gz_At x pc lv (.int b :: .int a :: st) M := fun H locs ls h1 h2 h3 => lv_icmp_le X.hx X.hb dg ht (fun h => kt h H locs ls h1 h2 h3) (fun h => kf h H locs ls h1 h2 h3)
theorem gr_icmp_ne {a b : Int32} {off : Int} (tgt : Nat) (X : gz_Ok x cc own nL d cf pf l) (dg : decode cc pc = .ok (.if_icmp .ne off, 3)) (ht : (pc : Int) + off = (tgt : Int)) (kf : a = b → gz_At x (pc + 3) lv st M) (kt : ¬ a = b → gz_At x tgt lv st M) : gz_At x pc lv (.int b :: .int a :: st) M := fun H locs ls h1 h2 h3 => lv_icmp_ne X.hx X.hb dg ht (fun h => kt h H locs ls h1 h2 h3) (fun h => kf h H locs ls h1 h2 h3)
theorem gr_goto {off : Int} (tgt : Nat) (X : gz_Ok x cc own nL d cf pf l) (dg : decode cc pc = .ok (.goto off, 3)) (ht : (pc : Int) + off = (tgt : Int)) (kk : gz_At x tgt lv st M) : gz_At x pc lv st M := fun H locs ls h1 h2 h3 => lv_goto X.hx X.hb dg ht (kk H locs ls h1 h2 h3)
theorem gr_sub (ks : List Nat) (hl : lv_pick lv ks = lv') (kk : gz_At x pc lv' st M) : gz_At x pc lv st M := fun H locs ls h1 h2 h3 => kk H locs ls h1 h2 (lv_sub h3 ks hl)
def gz_FL (own : String) (index : Nat) (C n dsc : String) : Prop := Cond.fieldLink own index C n dsc ∈ gz_TB ∨ ∃ h, Cond.fieldLinkNest own index C n dsc h ∈ gz_NB
def gz_ML (own : String) (index : Nat) (y : MethodName) : Prop := Cond.methodLink own index y ∈ gz_TB ∨ ∃ h, Cond.methodLinkNest own index y h ∈ gz_NB
theorem gz_one {H : Heap} (h1 : gz_mw (gx_D x) (gx_cl x) (gx_cf x) (gx_aC x) (gx_ad x) (gx_pf x) M H) {k : Nat} {e : va_E} (hk : (gx_cf x).1 (gx_pf x) k = true) (he : (gx_cf x).2 (gx_aC x) (gx_ad x) (gx_pf x) k (M.1 k) M.2 = e) : va_P (gx_D x) (gx_cl x) [(gx_ad x k, e)] H := by
  intro i q hq
  match i, hq with
  | 0, hq => cases hq; rw [← he]; exact h1 k hk
  | i + 1, hq => simp at hq
theorem gr_getB {k index j ci N : Nat} {C : String} {T : u_T} {fs : List Value} {v : Value} (X : gz_Ok x cc own nL d cf pf l) (hk : (gx_cf x).1 (gx_pf x) k = true) (hc2 : (gx_cf x).2 (gx_aC x) (gx_ad x) (gx_pf x) k (M.1 k) M.2 = .inr (ci, fs)) (hc : (gx_cl x)[ci]? = some (C, T, N)) (hin : ∀ w ∈ u_ws C T N, w ∈ gz_TB) (hj : j < N) (hT : (T j).1 = C) (hl : gz_FL own index C (T j).2.1 (T j).2.2.1) (hv : fs[j]? = some v) (dg : decode cc pc = .ok (.getfield index, 3)) (kk : gz_At x (pc + 3) lv (v :: st) M) : gz_At x pc lv (.ref (gx_ad x k) :: st) M := by
  intro H locs ls h1 h2 h3
  have hP := gz_one h1 hk hc2
  have hsame : ∀ z, (gx_s x).fieldFound? (T j).1 (T j).2.1 (T j).2.2.1 = some z → (gx_s x).fieldFound? C (T j).2.1 (T j).2.2.1 = some z := by rw [hT]; exact fun _ h => h
  rcases hl with hl | ⟨host, hl⟩
  · exact va_get X.hx X.hb X.hts hin X.hown X.hK hP 0 rfl hc j hj (X.hts _ hl) hsame hv dg (kk H locs ls h1 h2 h3)
  · exact va_getN (host := host) X.hx X.hb X.hts hin X.hown X.hK hP 0 rfl hc j hj (va_Nw.use rfl (X.hN _ hl)) hsame hv dg (kk H locs ls h1 h2 h3)
theorem gz_put {H H1 : Heap} {k i : Nat} {v : Int32} {e : va_E} (X : gz_Ok x cc own nL d cf pf l) (h1 : gz_mw (gx_D x) (gx_cl x) (gx_cf x) (gx_aC x) (gx_ad x) (gx_pf x) M H) (hk : (gx_cf x).1 (gx_pf x) k = true) (he : (gx_cf x).2 (gx_aC x) (gx_ad x) (gx_pf x) k (upd (M.1 k) i v) M.2 = e) (ha : va_at (gx_D x) (gx_cl x) (gx_ad x k, e) H1) (oq : ∀ q : Nat, q ≠ gx_ad x k → H1[q]? = H[q]?) : gz_mw (gx_D x) (gx_cl x) (gx_cf x) (gx_aC x) (gx_ad x) (gx_pf x) (gz_w M k i v) H1 := by
  intro k' hk'
  by_cases h : k' = k
  · subst h
    simp only [gz_w, if_pos]
    rw [he]
    exact ha
  · simp only [gz_w, if_neg h]
    exact (h1 k' hk').kept (oq _ (fun q => h (X.hinj _ _ hk' hk q)))
theorem gr_putB {k index j ci N i : Nat} {C : String} {T : u_T} {fs : List Value} {v : Int32} {ty : FieldType} {M' : gz_M} (X : gz_Ok x cc own nL d cf pf l) (hk : (gx_cf x).1 (gx_pf x) k = true) (hc2 : (gx_cf x).2 (gx_aC x) (gx_ad x) (gx_pf x) k (M.1 k) M.2 = .inr (ci, fs)) (w : Value) (hc3 : (gx_cf x).2 (gx_aC x) (gx_ad x) (gx_pf x) k (upd (M.1 k) i v) M.2 = .inr (ci, fs.set j w)) (hc : (gx_cl x)[ci]? = some (C, T, N)) (hin : ∀ w ∈ u_ws C T N, w ∈ gz_TB) (ty0 : Nat → FieldType) (hty : ∀ k, k < N → parseFieldDescriptor (T k).2.2.1 = some (ty0 k)) (hnm : ∀ a, a < N → ∀ b, b < N → a ≠ b → (T a).2.1 ≠ (T b).2.1) (hj : j < N) (hT : (T j).1 = C) (hl : gz_FL own index C (T j).2.1 (T j).2.2.1) (hfin : (T j).2.2.2 = false) (hd : parseFieldDescriptor (T j).2.2.1 = some ty) (hn : narrow ty w = w) (hfit : fits ty w = true) (hlen : j < fs.length) (hM : M' = gz_w M k i v) (dg : decode cc pc = .ok (.putfield index, 3)) (kk : gz_At x (pc + 3) lv st M') : gz_At x pc lv (w :: .ref (gx_ad x k) :: st) M := by
  intro H locs ls h1 h2 h3
  have hsame : ∀ z, (gx_s x).fieldFound? (T j).1 (T j).2.1 (T j).2.2.1 = some z → (gx_s x).fieldFound? C (T j).2.1 (T j).2.2.1 = some z := by rw [hT]; exact fun _ h => h
  have hap := va_apart (own := own) X.hts hin ty0 hty hnm X.hK hc
  have h0 := h1 k hk
  rw [hc2] at h0
  obtain ⟨r, e1, cell, q1, q2, q3, q4⟩ := h0
  have hr : r = (C, T, N) := Option.some.inj (e1.symm.trans hc)
  subst hr
  obtain ⟨hS, hfc, kC, hkC, hkind⟩ := X.hK.1 ci _ hc
  obtain ⟨cf, kf, fi, f, hi, hsl⟩ := hS j hj
  have hlay := X.hts _ (hin _ (u_in_lay hj))
  unfold u_lay at hlay
  rw [if_neg (by rw [hfin]; decide)] at hlay
  have hst := (u_facts hfc hkC (u_lays X.hts hin hj) hi).1
  have h6 := u_store hfc hkC hkind hlay hi hd hn hfit
  have fin : ∀ H' : Heap, H'[gx_ad x k]? = some (cell.setSlot f.slot w) → H'.size = H.size → (∀ q, q ≠ gx_ad x k → H'[q]? = H[q]?) → gz_W x H' (locs ++ [⟨gx_ad x k, f.slot⟩]) (F0 (gx_m x) (pc + 3) ls st) := by
    intro H' e1 e2 e3
    rw [hsl] at e1 ⊢
    subst hM
    exact kk H' _ ls (gz_put X h1 hk hc3 ⟨_, hc, t_OB.to (V := updV (vp_V fs) j w) ⟨_, e1, q2, q3, t_set q4 hap hj w⟩ (fun j' _ => vp_updV_set hlen w j')⟩ e3) (h2.put e2 e3 (X.hA k hk)) h3
  rcases hl with hl | ⟨host, hl⟩
  · exact W.putK X.hx X.hb (f := f) ⟨X.hown, X.hts _ hl, ⟨_, _, _, hsame _ hi⟩, hst⟩ (by rw [q2]; exact h6) q1 q3 (by rw [hsl]; exact k2_hasslot (q4 j hj)) rfl rfl dg fin
  · exact va_WputK X.hx X.hb (f := f) X.hown (va_Nw.use rfl (X.hN _ hl)) (hsame _ hi) hst (by rw [q2]; exact h6) q1 q3 (by rw [hsl]; exact k2_hasslot (q4 j hj)) rfl rfl dg fin
/-! layouts of rows -/
def gz_oI (n : Nat) : gz_Lay := fun aC _ _ _ g _ => .inl (aC 0, n, .inl g)
def gz_oZ (n : Nat) : gz_Lay := fun aC _ _ _ g _ => .inl (aC 1, n, .inl g)
def gz_oB (n : Nat) : gz_Lay := fun aC _ _ _ g _ => .inl (aC 3, n, .inl g)
def gz_oJ (n : Nat) : gz_Lay := fun aC _ _ _ _ gl => .inl (aC 2, n, .inr (.inl gl))
def gz_oG (n : Nat) : gz_Lay := fun aC ad _ k _ _ => .inl (aC 4, n, .inr (.inr (.inr (.inr (fun j => some (ad (k + 1 + j)))))))
theorem gr_iaload {k n : Nat} {i : Int32} (X : gz_Ok x cc own nL d cf pf l) (hk0 : gz_KD cf pf k (gz_oI n)) (hin : vp_in i n) (dg : decode cc pc = .ok (.iaload, 1)) (kk : gz_At x (pc + 1) lv (.int (M.1 k i.toNatClampNeg) :: st) M) : gz_At x pc lv (.int i :: .ref (gx_ad x k) :: st) M := fun H locs ls h1 h2 h3 => va_iald X.hx X.hb X.hK (gz_one h1 (X.kd hk0).1 ((X.kd hk0).2 _ _ _ _)) 0 0 rfl rfl hin dg (kk H locs ls h1 h2 h3)
theorem gr_zaload {k n : Nat} {i : Int32} (X : gz_Ok x cc own nL d cf pf l) (hk0 : gz_KD cf pf k (gz_oZ n)) (hin : vp_in i n) (dg : decode cc pc = .ok (.baload, 1)) (kk : gz_At x (pc + 1) lv (.int (M.1 k i.toNatClampNeg) :: st) M) : gz_At x pc lv (.int i :: .ref (gx_ad x k) :: st) M := fun H locs ls h1 h2 h3 => va_zald X.hx X.hb X.hK (gz_one h1 (X.kd hk0).1 ((X.kd hk0).2 _ _ _ _)) 0 1 rfl rfl hin dg (kk H locs ls h1 h2 h3)
theorem gr_baload {k n : Nat} {i : Int32} (X : gz_Ok x cc own nL d cf pf l) (hk0 : gz_KD cf pf k (gz_oB n)) (hin : vp_in i n) (dg : decode cc pc = .ok (.baload, 1)) (kk : gz_At x (pc + 1) lv (.int (M.1 k i.toNatClampNeg) :: st) M) : gz_At x pc lv (.int i :: .ref (gx_ad x k) :: st) M := fun H locs ls h1 h2 h3 => va_bald X.hx X.hb X.hK (gz_one h1 (X.kd hk0).1 ((X.kd hk0).2 _ _ _ _)) 0 3 rfl rfl hin dg (kk H locs ls h1 h2 h3)
theorem gr_laload {k n : Nat} {i : Int32} (X : gz_Ok x cc own nL d cf pf l) (hk0 : gz_KD cf pf k (gz_oJ n)) (hin : vp_in i n) (dg : decode cc pc = .ok (.laload, 1)) (kk : gz_At x (pc + 1) lv (.long (M.2 i.toNatClampNeg) :: st) M) : gz_At x pc lv (.int i :: .ref (gx_ad x k) :: st) M := fun H locs ls h1 h2 h3 => va_lald X.hx X.hb X.hK (gz_one h1 (X.kd hk0).1 ((X.kd hk0).2 _ _ _ _)) 0 2 rfl rfl hin dg (kk H locs ls h1 h2 h3)
theorem gr_aaload {k n : Nat} {i : Int32} (X : gz_Ok x cc own nL d cf pf l) (hk0 : gz_KD cf pf k (gz_oG n)) (hin : vp_in i n) (dg : decode cc pc = .ok (.aaload, 1)) (kk : gz_At x (pc + 1) lv (.ref (gx_ad x (k + 1 + i.toNatClampNeg)) :: st) M) : gz_At x pc lv (.int i :: .ref (gx_ad x k) :: st) M := by
  have hk := X.kd hk0
  intro H locs ls h1 h2 h3
  have hP := gz_one h1 hk.1 (hk.2 _ _ _ _)
  have hlt : i.toNatClampNeg < n := Nat.not_le.mp fun q => hin (Or.inr q)
  exact W.aald (v := .ref (gx_ad x (k + 1 + i.toNatClampNeg))) (ty := .array .int) X.hx X.hb (hP 0 _ rfl) ((X.hK.2 4 _ rfl).1 n (fun j => va_rf (some (gx_ad x (k + 1 + j))))) rfl (fun q => by cases q) (by show ¬ (i < 0 ∨ (arrV _ _ _).slots.size ≤ _); rw [arrV_size]; exact hin) (by show (arrV _ _ _).slots[_]? = _; rw [arrV_read _ _ hlt]; rfl) rfl rfl dg (kk H locs ls h1 h2 h3)
theorem gz_updI (f : Nat → Int32) (i : Nat) (v : Int32) : updV (fun j => Value.int (f j)) i (.int v) = fun j => Value.int (upd f i v j) := by
  funext q
  by_cases h : q = i
  · subst h; simp [updV, upd]
  · simp [updV, upd, h]
theorem gr_iastore {k n : Nat} {i v : Int32} {M' : gz_M} (X : gz_Ok x cc own nL d cf pf l) (hk0 : gz_KD cf pf k (gz_oI n)) (hin : vp_in i n) (hM : M' = gz_w M k i.toNatClampNeg v) (dg : decode cc pc = .ok (.iastore, 1)) (kk : gz_At x (pc + 1) lv st M') : gz_At x pc lv (.int v :: .int i :: .ref (gx_ad x k) :: st) M := by
  have hk := X.kd hk0
  intro H locs ls h1 h2 h3
  have hP := gz_one h1 hk.1 (hk.2 _ _ _ _)
  subst hM
  refine W.iast X.hx X.hb (hP 0 _ rfl) ((X.hK.2 0 _ rfl).1 n (fun j => .int (M.1 k j))) (fun q => by cases q) (by show ¬ (i < 0 ∨ (arrV _ _ _).slots.size ≤ _); rw [arrV_size]; exact hin) rfl rfl dg fun H1 e z oq => ?_
  refine kk H1 _ ls (gz_put X h1 hk.1 (hk.2 _ _ _ _) ?_ oq) (h2.put z oq (X.hA k hk.1)) h3
  show H1[gx_ad x k]? = some (vp_cell _ _)
  rw [e]
  rw [vp_cell_i, vp_cell_i, arrV_store, gz_updI]
theorem gr_zastore {k n : Nat} {i v : Int32} {M' : gz_M} (X : gz_Ok x cc own nL d cf pf l) (hk0 : gz_KD cf pf k (gz_oZ n)) (hin : vp_in i n) (hM : M' = gz_w M k i.toNatClampNeg (vp_nar .boolean v)) (dg : decode cc pc = .ok (.bastore, 1)) (kk : gz_At x (pc + 1) lv st M') : gz_At x pc lv (.int v :: .int i :: .ref (gx_ad x k) :: st) M := by
  have hk := X.kd hk0
  intro H locs ls h1 h2 h3
  have hP := gz_one h1 hk.1 (hk.2 _ _ _ _)
  subst hM
  refine W.zast X.hx X.hb (hP 0 _ rfl) ((X.hK.2 1 _ rfl).1 n (fun j => .int (M.1 k j))) (fun q => by cases q) (by show ¬ (i < 0 ∨ (arrV _ _ _).slots.size ≤ _); rw [arrV_size]; exact hin) rfl rfl dg fun H1 e z oq => ?_
  refine kk H1 _ ls (gz_put X h1 hk.1 (hk.2 _ _ _ _) ?_ oq) (h2.put z oq (X.hA k hk.1)) h3
  show H1[gx_ad x k]? = some (vp_cell _ _)
  rw [e]
  rw [vp_cell_i, vp_cell_i, arrV_store, ← gz_updI]
  rfl
theorem gr_bastore {k n : Nat} {i v : Int32} {M' : gz_M} (X : gz_Ok x cc own nL d cf pf l) (hk0 : gz_KD cf pf k (gz_oB n)) (hin : vp_in i n) (hM : M' = gz_w M k i.toNatClampNeg (vp_nar .byte v)) (dg : decode cc pc = .ok (.bastore, 1)) (kk : gz_At x (pc + 1) lv st M') : gz_At x pc lv (.int v :: .int i :: .ref (gx_ad x k) :: st) M := by
  have hk := X.kd hk0
  intro H locs ls h1 h2 h3
  have hP := gz_one h1 hk.1 (hk.2 _ _ _ _)
  subst hM
  refine W.bast X.hx X.hb (hP 0 _ rfl) ((X.hK.2 3 _ rfl).1 n (fun j => .int (M.1 k j))) (fun q => by cases q) (by show ¬ (i < 0 ∨ (arrV _ _ _).slots.size ≤ _); rw [arrV_size]; exact hin) rfl rfl dg fun H1 e z oq => ?_
  refine kk H1 _ ls (gz_put X h1 hk.1 (hk.2 _ _ _ _) ?_ oq) (h2.put z oq (X.hA k hk.1)) h3
  show H1[gx_ad x k]? = some (vp_cell _ _)
  rw [e]
  rw [vp_cell_i, vp_cell_i, arrV_store, ← gz_updI]
  rfl
/-- which cell holds the longs, if any: kL -/
def gz_LC (cf : gz_CF) (kL : Nat) : Prop := ∀ aC ad pf k g gl gl', k ≠ kL → cf.2 aC ad pf k g gl = cf.2 aC ad pf k g gl'
theorem gr_lastore {k n : Nat} {i : Int32} {v : Int64} {M' : gz_M} (X : gz_Ok x cc own nL d cf pf l) (hL0 : gz_LC cf k) (hk0 : gz_KD cf pf k (gz_oJ n)) (hin : vp_in i n) (hM : M' = gz_wl M i.toNatClampNeg v) (dg : decode cc pc = .ok (.lastore, 1)) (kk : gz_At x (pc + 1) lv st M') : gz_At x pc lv (.long v :: .int i :: .ref (gx_ad x k) :: st) M := by
  have hL : gz_LC (gx_cf x) k := by rw [X.hcf]; exact hL0
  have hk := X.kd hk0
  intro H locs ls h1 h2 h3
  have hP := gz_one h1 hk.1 (hk.2 _ _ _ _)
  subst hM
  refine W.last X.hx X.hb (hP 0 _ rfl) ((X.hK.2 2 _ rfl).1 n (fun j => .long (M.2 j))) (fun q => by cases q) (by show ¬ (i < 0 ∨ (arrV _ _ _).slots.size ≤ _); rw [arrV_size]; exact hin) rfl rfl dg fun H1 e z oq => ?_
  refine kk H1 _ ls (fun k' hk' => ?_) (h2.put z oq (X.hA k hk.1)) h3
  by_cases h : k' = k
  · subst h
    rw [hk.2]
    show H1[gx_ad x k']? = some (vp_cell _ _)
    rw [e]
    rw [vp_cell_l, vp_cell_l, arrV_store]
    congr 2
    funext q
    by_cases hq : q = i.toNatClampNeg
    · subst hq
      simp [updV, vp_updL, gz_wl]
    · simp [updV, vp_updL, gz_wl, hq]
  · have h0 := (h1 k' hk').kept (oq _ (fun q => h (X.hinj _ _ hk' hk.1 q)))
    rw [hL _ _ _ k' _ _ M.2 h]
    exact h0
theorem gr_arraylength {k n : Nat} (X : gz_Ok x cc own nL d cf pf l) (hk0 : gz_KD cf pf k (gz_oI n)) (v : Int32) (hv : Int32.ofNat n = v) (dg : decode cc pc = .ok (.arraylength, 1)) (kk : gz_At x (pc + 1) lv (.int v :: st) M) : gz_At x pc lv (.ref (gx_ad x k) :: st) M := fun H locs ls h1 h2 h3 => va_alen X.hx X.hb X.hK (gz_one h1 (X.kd hk0).1 ((X.kd hk0).2 _ _ _ _)) 0 0 rfl rfl hv dg (kk H locs ls h1 h2 h3)
theorem gr_arraylengthJ {k n : Nat} (X : gz_Ok x cc own nL d cf pf l) (hk0 : gz_KD cf pf k (gz_oJ n)) (v : Int32) (hv : Int32.ofNat n = v) (dg : decode cc pc = .ok (.arraylength, 1)) (kk : gz_At x (pc + 1) lv (.int v :: st) M) : gz_At x pc lv (.ref (gx_ad x k) :: st) M := fun H locs ls h1 h2 h3 => va_alen X.hx X.hb X.hK (gz_one h1 (X.kd hk0).1 ((X.kd hk0).2 _ _ _ _)) 0 2 rfl rfl hv dg (kk H locs ls h1 h2 h3)
end GR
/-! the words of f: what stops, what is named -/
def gz_lt {α β : Type} (a : α) (f : α → β) : β := f a
def gz_bd {α β : Type} (a : Option α) (f : α → Option β) : Option β := a.bind f
theorem gz_lte {α β : Type} {a : α} {f : α → Option β} {r : β} (h : gz_lt a f = some r) : ∃ y, y = a ∧ f y = some r := ⟨a, rfl, h⟩
theorem gz_bde {α β : Type} {a : Option α} {f : α → Option β} {r : β} (h : gz_bd a f = some r) : ∃ y, a = some y ∧ f y = some r := Option.bind_eq_some_iff.mp h
theorem gz_gd {β : Type} {c : Prop} [Decidable c] {a : Option β} {r : β} (h : (if c then a else none) = some r) : c ∧ a = some r := by
  by_cases hc : c
  · rw [if_pos hc] at h; exact ⟨hc, h⟩
  · rw [if_neg hc] at h; cases h
/-! checks -/
def gz_inb (i : Int32) (n : Nat) : Bool := decide (¬ (i < 0 ∨ n ≤ i.toNatClampNeg))
def gz_b01 (v : Int32) : Bool := decide (v = 0 ∨ v = 1)
def gz_ck {β : Type} (b : Bool) (a : Option β) : Option β := if b = true then a else none
theorem gz_cke {β : Type} {b : Bool} {a : Option β} {r : β} (h : gz_ck b a = some r) : b = true ∧ a = some r := gz_gd h
theorem gz_inp {i : Int32} {n : Nat} (h : gz_inb i n = true) : vp_in i n := of_decide_eq_true (p := ¬ (i < 0 ∨ n ≤ i.toNatClampNeg)) h
theorem gz_nb01 {v : Int32} (h : gz_b01 v = true) : narrow .boolean (.int v) = .int v ∧ fits .boolean (.int v) = true := by
  rcases of_decide_eq_true h with rfl | rfl <;> exact ⟨rfl, rfl⟩
theorem gz_nei {v : Int32} (h : (!decide (v = 0)) = true) : ¬ v = 0 := by simpa using h
def gz_bd2 {α β γ : Type} (a : Option (α × β)) (f : α → β → Option γ) : Option γ := a.bind fun q => f q.1 q.2
theorem gz_bd2e {α β γ : Type} {a : Option (α × β)} {f : α → β → Option γ} {r : γ} (h : gz_bd2 a f = some r) : ∃ y z, a = some (y, z) ∧ f y z = some r := by
  obtain ⟨q, h1, h2⟩ := Option.bind_eq_some_iff.mp h
  exact ⟨q.1, q.2, h1, h2⟩
def gz_FU : Nat := 1000000
def gz_max (a b : Int32) : Int32 := if a < b then b else a
def gz_min (a b : Int32) : Int32 := if b < a then b else a
def gz_cp (M : gz_M) (k1 k2 sp dp n : Nat) : gz_M := (fun a => if a = k2 then va_cpy (M.1 k1) (M.1 k2) sp dp n else M.1 a, M.2)
end
section
/-! contracts, calls, ends -/
section GC
def gz_rm (d mc ms : Nat) : Room := { frames := d, cells := mc, slots := ms, locals := 40 * d }
def gz_B (D : va_G) (cf : gz_CF) (aC : Nat → ClassId) (ad : Nat → Nat) (pf : Nat → Bool) (M : gz_M) (sz : Nat) : State → Prop := fun U => U.heap.size = sz ∧ gz_mw D gz_cls cf aC ad pf M U.heap ∧ va_K D gz_cls (gz_tys aC) U ∧ gz_inj cf ad pf ∧ gz_Nst U
def gz_CI (l : Launch) (cf : gz_CF) (y : MethodName) (cc : ByteArray) (nL d : Nat) (rt : FieldType) (asF : (Nat → Nat) → List Value) (pf : Nat → Bool) (M : gz_M) (r : Int32) (M' : gz_M) : Prop := ∀ D aC ad sz, Met l y (Cond.code y cc nL (some rt) :: gz_TB) (gz_rm d 0 0) (va_Pc (asF ad) (gz_B D cf aC ad pf M sz)) (va_Qi (fun r' (_ : Unit) => r' = r) (fun _ t => gz_mw D gz_cls cf aC ad pf M' t.heap) (gz_A cf ad pf sz)) 0 0 (gz_A cf ad pf sz)
def gz_CL (l : Launch) (cf : gz_CF) (y : MethodName) (cc : ByteArray) (nL d : Nat) (rt : FieldType) (asF : (Nat → Nat) → List Value) (pf : Nat → Bool) (M : gz_M) (r : Int64) (M' : gz_M) : Prop := ∀ D aC ad sz, Met l y (Cond.code y cc nL (some rt) :: gz_TB) (gz_rm d 0 0) (va_Pc (asF ad) (gz_B D cf aC ad pf M sz)) (va_Ql (fun r' (_ : Unit) => r' = r) (fun _ t => gz_mw D gz_cls cf aC ad pf M' t.heap) (gz_A cf ad pf sz)) 0 0 (gz_A cf ad pf sz)
def gz_CV (l : Launch) (cf : gz_CF) (y : MethodName) (cc : ByteArray) (nL d : Nat) (asF : (Nat → Nat) → List Value) (pf : Nat → Bool) (M : gz_M) (M' : gz_M) : Prop := ∀ D aC ad sz, Met l y (Cond.code y cc nL none :: gz_TB) (gz_rm d 0 0) (va_Pc (asF ad) (gz_B D cf aC ad pf M sz)) (va_Qv (fun (_ : Unit) => True) (fun _ t => gz_mw D gz_cls cf aC ad pf M' t.heap) (gz_A cf ad pf sz)) 0 0 (gz_A cf ad pf sz)
theorem gz_Bblind {av : List Value} {D : va_G} {cf : gz_CF} {aC : Nat → ClassId} {ad : Nat → Nat} {pf : Nat → Bool} {M : gz_M} {sz : Nat} : FrameBlind (va_Pc av (gz_B D cf aC ad pf M sz)) := by
  intro a U g mk q
  obtain ⟨q0, q1, q2, q3, q4, q5⟩ := q
  exact ⟨q0, q1, q2, va_K.moved (u := U) (U := U.calling g mk a) (Vm.Alike.refl U.vm) q3, q4, gz_Nst.same (u := U) (U := U.calling g mk a) rfl q5⟩
variable {x : gz_X} {cc : ByteArray} {own : String} {nL d pc : Nat} {cf : gz_CF} {pf : Nat → Bool} {l : Launch} {lv lv' : List (Nat × Value)} {st : List Value} {M : gz_M}
theorem gz_Bat (X : gz_Ok x cc own nL d cf pf l) {H : Heap} (h1 : gz_mw (gx_D x) (gx_cl x) (gx_cf x) (gx_aC x) (gx_ad x) (gx_pf x) M H) {av : List Value} {U : State} (hU : U.heap = H) (hW : (gx_s x).WarmedH U.vm) : va_Pc av (gz_B (gx_D x) cf (gx_aC x) (gx_ad x) pf M H.size) av.toArray U := by
  refine ⟨rfl, by rw [hU], ?_, ?_, ?_, X.hN.warm hW⟩
  · rw [hU, ← X.hcf, ← X.hpf, ← X.hcl]; exact h1
  · rw [← X.hcl]; exact va_K.moved hW.alike X.hK
  · rw [← X.hcf, ← X.hpf]; exact X.hinj
theorem gz_free (X : gz_Ok x cc own nL d cf pf l) {H : Heap} {locs : List Loc} (h2 : va_S (gx_A x) (gx_s x).heap H locs) : ∀ q, gz_A cf (gx_ad x) pf H.size q → gx_A x q := by
  intro q h
  rcases h with ⟨k, hk, rfl⟩ | h
  · exact X.hA k (by rw [X.hcf, X.hpf]; exact hk)
  · exact X.hA2 q (Nat.le_trans h2.1 h)
theorem gz_toM (X : gz_Ok x cc own nL d cf pf l) {H : Heap} (h : gz_mw (gx_D x) gz_cls cf (gx_aC x) (gx_ad x) pf M H) : gz_mw (gx_D x) (gx_cl x) (gx_cf x) (gx_aC x) (gx_ad x) (gx_pf x) M H := by
  rw [X.hcf, X.hpf, X.hcl]; exact h
/-- what a call's words say: an instance method (C the receiver's class, of kind ci), and a static one -/
def gz_WV (own : String) (index : Nat) (C : String) (y : MethodName) (cc : ByteArray) (nL n : Nat) (rt : Option FieldType) : Prop := gz_ML own index y ∧ Cond.instanceMethod y ∈ gz_TB ∧ Cond.selects C y y ∈ gz_TB ∧ Cond.initialized y.cls ∈ gz_TB ∧ Cond.code y cc nL rt ∈ gz_TB ∧ (y.cls ≠ "java/lang/invoke/MethodHandle" ∧ y.cls ≠ "java/lang/invoke/VarHandle" ∧ (parseMethodDescriptor y.desc).map (fun d => d.parameters.length) = some n)
def gz_WS (own : String) (index : Nat) (y : MethodName) (cc : ByteArray) (nL n : Nat) (rt : Option FieldType) : Prop := gz_ML own index y ∧ Cond.static y ∈ gz_TB ∧ Cond.initialized y.cls ∈ gz_TB ∧ Cond.code y cc nL rt ∈ gz_TB ∧ (y.cls ≠ "java/lang/invoke/MethodHandle" ∧ y.cls ≠ "java/lang/invoke/VarHandle" ∧ (parseMethodDescriptor y.desc).map (fun d => d.parameters.length) = some n)
theorem gz_goodIn {y : MethodName} {cc2 : ByteArray} {nL2 : Nat} {rt : Option FieldType} (hc : Cond.code y cc2 nL2 rt ∈ gz_TB) : GoodIn gz_TB (Cond.code y cc2 nL2 rt :: gz_TB) := by
  intro w hw
  rcases List.mem_cons.mp hw with h | h
  · rw [h]; exact ⟨hc, good_of_word (gz_good hc)⟩
  · exact ⟨h, good_of_word (gz_good h)⟩
theorem gz_room {D : Nat} (X : gz_Ok x cc own nL D cf pf l) {d2 nL2 mc ms : Nat} (hd : d2 < D) (hn : nL2 ≤ 20) : (gz_rm d2 mc ms).frames + 1 ≤ (gx_R x).frames ∧ 8 + (nL2 + 11) + (gz_rm d2 mc ms).locals ≤ (gx_R x).locals := by
  have h1 := X.hfr
  have h2 := X.hlo
  refine ⟨Nat.le_trans hd h1, ?_⟩
  show 8 + (nL2 + 11) + 40 * d2 ≤ _
  omega
theorem gz_runV {y : MethodName} {cc2 : ByteArray} {nL2 n index kb d2 ci N mc ms : Nat} {C : String} {T : u_T} {rt : Option FieldType} {Qc : Array Value → State → Outcome → State → Prop} {free : Addr → Prop} {As : List Value} {fs : List Value} {H : Heap} {locs : List Loc} {ls : Array Slot} {stk : List Value} (X : gz_Ok x cc own nL d cf pf l) (h1 : gz_mw (gx_D x) (gx_cl x) (gx_cf x) (gx_aC x) (gx_ad x) (gx_pf x) M H) (h3 : ls.size = nL) (hM : Met (gx_l x) y (Cond.code y cc2 nL2 rt :: gz_TB) (gz_rm d2 mc ms) (va_Pc (Value.ref (gx_ad x kb) :: As) (gz_B (gx_D x) cf (gx_aC x) (gx_ad x) pf M H.size)) Qc mc ms free) (w : gz_WV own index C y cc2 nL2 n rt) (hn : As.length = n) (hk : (gx_cf x).1 (gx_pf x) kb = true) (hc2 : (gx_cf x).2 (gx_aC x) (gx_ad x) (gx_pf x) kb (M.1 kb) M.2 = .inr (ci, fs)) (hc : gz_cls[ci]? = some (C, T, N)) (hd : d2 < d) (hn2 : nL2 ≤ 20) (hst : stk = As.reverse ++ .ref (gx_ad x kb) :: st) (hW : (st.map fun v => v.category).sum ≤ 8) (hf : gx_cells x + mc ≤ (gx_R x).cells ∧ gx_slots x + ms ≤ (gx_R x).slots) (dg : decode cc pc = .ok (.invokevirtual index, 3)) : va_Run (gx_p x) (gx_l x) (gx_e x) (gx_R x) (gx_s x) (gx_m x) (gx_args x) (gx_below x) (gx_meth x) (gx_c x) H locs (gx_cells x) (gx_slots x) mc ms (F0 (gx_m x) pc ls stk) st (Qc (Value.ref (gx_ad x kb) :: As).toArray) free := by
  obtain ⟨w1, w2, w3, w4, w5, w6⟩ := w
  have hP := gz_one h1 hk hc2
  have hc' : (gx_cl x)[ci]? = some (C, T, N) := by rw [X.hcl]; exact hc
  have hp : PreV (gx_s x) H C (gx_ad x kb) (va_Pc (Value.ref (gx_ad x kb) :: As) (gz_B (gx_D x) cf (gx_aC x) (gx_ad x) pf M H.size)) As := ⟨gz_Bblind, va_recv X.hK hP (ci := ci) (q0 := 0) hc' rfl, fun U hU hW2 => gz_Bat X h1 hU hW2⟩
  have hR := gz_room (mc := mc) (ms := ms) X hd hn2
  rcases w1 with w1 | ⟨host, w1⟩
  · exact va_runV X.1 hM ⟨callB_of n X.hts (gz_goodIn w5) rfl rfl rfl (X.hts _ w4) (X.hts _ w1) w6 hR, X.hts _ w2, X.hts _ w3⟩ hp rfl hn h3 hst (lv_room hW) dg hf
  · exact va_runVN X.1 hM ⟨va_cnB n X.hts (gz_goodIn w5) rfl rfl rfl (X.hN _ w1) (X.hts _ w4) w6 hR, X.hts _ w2, X.hts _ w3⟩ hp rfl hn h3 hst (lv_room hW) dg hf
theorem gz_runS {y : MethodName} {cc2 : ByteArray} {nL2 n index d2 mc ms : Nat} {rt : Option FieldType} {Qc : Array Value → State → Outcome → State → Prop} {free : Addr → Prop} {As : List Value} {H : Heap} {locs : List Loc} {ls : Array Slot} {stk : List Value} (X : gz_Ok x cc own nL d cf pf l) (h1 : gz_mw (gx_D x) (gx_cl x) (gx_cf x) (gx_aC x) (gx_ad x) (gx_pf x) M H) (h3 : ls.size = nL) (hM : Met (gx_l x) y (Cond.code y cc2 nL2 rt :: gz_TB) (gz_rm d2 mc ms) (va_Pc As (gz_B (gx_D x) cf (gx_aC x) (gx_ad x) pf M H.size)) Qc mc ms free) (w : gz_WS own index y cc2 nL2 n rt) (hn : As.length = n) (hd : d2 < d) (hn2 : nL2 ≤ 20) (hst : stk = As.reverse ++ st) (hW : (st.map fun v => v.category).sum ≤ 8) (hf : gx_cells x + mc ≤ (gx_R x).cells ∧ gx_slots x + ms ≤ (gx_R x).slots) (dg : decode cc pc = .ok (.invokestatic index, 3)) : va_Run (gx_p x) (gx_l x) (gx_e x) (gx_R x) (gx_s x) (gx_m x) (gx_args x) (gx_below x) (gx_meth x) (gx_c x) H locs (gx_cells x) (gx_slots x) mc ms (F0 (gx_m x) pc ls stk) st (Qc As.toArray) free := by
  obtain ⟨w1, w2, w4, w5, w6⟩ := w
  have hp : PreS (gx_s x) H (va_Pc As (gz_B (gx_D x) cf (gx_aC x) (gx_ad x) pf M H.size)) As := ⟨gz_Bblind, fun U hU hW2 => gz_Bat X h1 hU hW2⟩
  have hR := gz_room (mc := mc) (ms := ms) X hd hn2
  rcases w1 with w1 | ⟨host, w1⟩
  · exact va_runS X.1 hM ⟨callB_of n X.hts (gz_goodIn w5) rfl rfl rfl (X.hts _ w4) (X.hts _ w1) w6 hR, X.hts _ w2⟩ hp rfl hn h3 hst (lv_room hW) dg hf
  · exact va_runSN X.1 hM ⟨va_cnB n X.hts (gz_goodIn w5) rfl rfl rfl (X.hN _ w1) (X.hts _ w4) w6 hR, X.hts _ w2, trivial⟩ hp rfl hn h3 hst (lv_room hW) dg hf
theorem gr_callI {y : MethodName} {cc2 : ByteArray} {nL2 n index kb d2 ci N : Nat} {C : String} {T : u_T} {rt : FieldType} {r : Int32} {asF : (Nat → Nat) → List Value} {M' : gz_M} {fs : List Value} {stk : List Value} (As : List Value) (X : gz_Ok x cc own nL d cf pf l) (hM : gz_CI l cf y cc2 nL2 d2 rt asF pf M r M') (has : asF (gx_ad x) = .ref (gx_ad x kb) :: As) (w : gz_WV own index C y cc2 nL2 n (some rt)) (hn : As.length = n) (hk : (gx_cf x).1 (gx_pf x) kb = true) (hc2 : (gx_cf x).2 (gx_aC x) (gx_ad x) (gx_pf x) kb (M.1 kb) M.2 = .inr (ci, fs)) (hc : gz_cls[ci]? = some (C, T, N)) (hd : d2 < d) (hn2 : nL2 ≤ 20) (hst : stk = As.reverse ++ .ref (gx_ad x kb) :: st) (hW : (st.map fun v => v.category).sum ≤ 8) (hf : gx_cells x ≤ (gx_R x).cells ∧ gx_slots x ≤ (gx_R x).slots) (dg : decode cc pc = .ok (.invokevirtual index, 3)) (kk : gz_At x (pc + 3) lv (.int r :: st) M') : gz_At x pc lv stk M := by
  intro H locs ls h1 h2 h3
  have hM1 := hM (gx_D x) (gx_aC x) (gx_ad x) H.size
  rw [has, ← X.hl] at hM1
  refine va_calli (gz_runV (locs := locs) X h1 (h3.1.trans X.hnL) hM1 w hn hk hc2 hc hd hn2 hst hW hf dg) h2 (fun q _ h => gz_free X h2 q h) (gz_free X h2) (fun r u t H1 locs1 ht hvm hw hB hz hk hS => ?_)
  subst hw
  rw [ht] at hB
  exact kk H1 locs1 ls (gz_toM X hB) hS h3
theorem gr_callSI {y : MethodName} {cc2 : ByteArray} {nL2 n index d2 : Nat} {rt : FieldType} {r : Int32} {asF : (Nat → Nat) → List Value} {M' : gz_M} {stk : List Value} (As : List Value) (X : gz_Ok x cc own nL d cf pf l) (hM : gz_CI l cf y cc2 nL2 d2 rt asF pf M r M') (has : asF (gx_ad x) = As) (w : gz_WS own index y cc2 nL2 n (some rt)) (hn : As.length = n) (hd : d2 < d) (hn2 : nL2 ≤ 20) (hst : stk = As.reverse ++ st) (hW : (st.map fun v => v.category).sum ≤ 8) (hf : gx_cells x ≤ (gx_R x).cells ∧ gx_slots x ≤ (gx_R x).slots) (dg : decode cc pc = .ok (.invokestatic index, 3)) (kk : gz_At x (pc + 3) lv (.int r :: st) M') : gz_At x pc lv stk M := by
  intro H locs ls h1 h2 h3
  have hM1 := hM (gx_D x) (gx_aC x) (gx_ad x) H.size
  rw [has, ← X.hl] at hM1
  refine va_calli (gz_runS (locs := locs) X h1 (h3.1.trans X.hnL) hM1 w hn hd hn2 hst hW hf dg) h2 (fun q _ h => gz_free X h2 q h) (gz_free X h2) (fun r u t H1 locs1 ht hvm hw hB hz hk hS => ?_)
  subst hw
  rw [ht] at hB
  exact kk H1 locs1 ls (gz_toM X hB) hS h3
theorem gr_callL {y : MethodName} {cc2 : ByteArray} {nL2 n index kb d2 ci N : Nat} {C : String} {T : u_T} {rt : FieldType} {r : Int64} {asF : (Nat → Nat) → List Value} {M' : gz_M} {fs : List Value} {stk : List Value} (As : List Value) (X : gz_Ok x cc own nL d cf pf l) (hM : gz_CL l cf y cc2 nL2 d2 rt asF pf M r M') (has : asF (gx_ad x) = .ref (gx_ad x kb) :: As) (w : gz_WV own index C y cc2 nL2 n (some rt)) (hn : As.length = n) (hk : (gx_cf x).1 (gx_pf x) kb = true) (hc2 : (gx_cf x).2 (gx_aC x) (gx_ad x) (gx_pf x) kb (M.1 kb) M.2 = .inr (ci, fs)) (hc : gz_cls[ci]? = some (C, T, N)) (hd : d2 < d) (hn2 : nL2 ≤ 20) (hst : stk = As.reverse ++ .ref (gx_ad x kb) :: st) (hW : (st.map fun v => v.category).sum ≤ 8) (hf : gx_cells x ≤ (gx_R x).cells ∧ gx_slots x ≤ (gx_R x).slots) (dg : decode cc pc = .ok (.invokevirtual index, 3)) (kk : gz_At x (pc + 3) lv (.long r :: st) M') : gz_At x pc lv stk M := by
  intro H locs ls h1 h2 h3
  have hM1 := hM (gx_D x) (gx_aC x) (gx_ad x) H.size
  rw [has, ← X.hl] at hM1
  refine va_calll (gz_runV (locs := locs) X h1 (h3.1.trans X.hnL) hM1 w hn hk hc2 hc hd hn2 hst hW hf dg) h2 (fun q _ h => gz_free X h2 q h) (gz_free X h2) (fun r u t H1 locs1 ht hvm hw hB hz hk hS => ?_)
  subst hw
  rw [ht] at hB
  exact kk H1 locs1 ls (gz_toM X hB) hS h3
theorem gr_callSL {y : MethodName} {cc2 : ByteArray} {nL2 n index d2 : Nat} {rt : FieldType} {r : Int64} {asF : (Nat → Nat) → List Value} {M' : gz_M} {stk : List Value} (As : List Value) (X : gz_Ok x cc own nL d cf pf l) (hM : gz_CL l cf y cc2 nL2 d2 rt asF pf M r M') (has : asF (gx_ad x) = As) (w : gz_WS own index y cc2 nL2 n (some rt)) (hn : As.length = n) (hd : d2 < d) (hn2 : nL2 ≤ 20) (hst : stk = As.reverse ++ st) (hW : (st.map fun v => v.category).sum ≤ 8) (hf : gx_cells x ≤ (gx_R x).cells ∧ gx_slots x ≤ (gx_R x).slots) (dg : decode cc pc = .ok (.invokestatic index, 3)) (kk : gz_At x (pc + 3) lv (.long r :: st) M') : gz_At x pc lv stk M := by
  intro H locs ls h1 h2 h3
  have hM1 := hM (gx_D x) (gx_aC x) (gx_ad x) H.size
  rw [has, ← X.hl] at hM1
  refine va_calll (gz_runS (locs := locs) X h1 (h3.1.trans X.hnL) hM1 w hn hd hn2 hst hW hf dg) h2 (fun q _ h => gz_free X h2 q h) (gz_free X h2) (fun r u t H1 locs1 ht hvm hw hB hz hk hS => ?_)
  subst hw
  rw [ht] at hB
  exact kk H1 locs1 ls (gz_toM X hB) hS h3
theorem gr_callV {y : MethodName} {cc2 : ByteArray} {nL2 n index kb d2 ci N : Nat} {C : String} {T : u_T} {asF : (Nat → Nat) → List Value} {M' : gz_M} {fs : List Value} {stk : List Value} (As : List Value) (X : gz_Ok x cc own nL d cf pf l) (hM : gz_CV l cf y cc2 nL2 d2 asF pf M M') (has : asF (gx_ad x) = .ref (gx_ad x kb) :: As) (w : gz_WV own index C y cc2 nL2 n (none)) (hn : As.length = n) (hk : (gx_cf x).1 (gx_pf x) kb = true) (hc2 : (gx_cf x).2 (gx_aC x) (gx_ad x) (gx_pf x) kb (M.1 kb) M.2 = .inr (ci, fs)) (hc : gz_cls[ci]? = some (C, T, N)) (hd : d2 < d) (hn2 : nL2 ≤ 20) (hst : stk = As.reverse ++ .ref (gx_ad x kb) :: st) (hW : (st.map fun v => v.category).sum ≤ 8) (hf : gx_cells x ≤ (gx_R x).cells ∧ gx_slots x ≤ (gx_R x).slots) (dg : decode cc pc = .ok (.invokevirtual index, 3)) (kk : gz_At x (pc + 3) lv (st) M') : gz_At x pc lv stk M := by
  intro H locs ls h1 h2 h3
  have hM1 := hM (gx_D x) (gx_aC x) (gx_ad x) H.size
  rw [has, ← X.hl] at hM1
  refine va_callv (gz_runV (locs := locs) X h1 (h3.1.trans X.hnL) hM1 w hn hk hc2 hc hd hn2 hst hW hf dg) h2 (fun q _ h => gz_free X h2 q h) (gz_free X h2) (fun u t H1 locs1 ht hvm hw hB hz hk hS => ?_)
  skip
  rw [ht] at hB
  exact kk H1 locs1 ls (gz_toM X hB) hS h3
theorem gr_callSV {y : MethodName} {cc2 : ByteArray} {nL2 n index d2 : Nat} {asF : (Nat → Nat) → List Value} {M' : gz_M} {stk : List Value} (As : List Value) (X : gz_Ok x cc own nL d cf pf l) (hM : gz_CV l cf y cc2 nL2 d2 asF pf M M') (has : asF (gx_ad x) = As) (w : gz_WS own index y cc2 nL2 n (none)) (hn : As.length = n) (hd : d2 < d) (hn2 : nL2 ≤ 20) (hst : stk = As.reverse ++ st) (hW : (st.map fun v => v.category).sum ≤ 8) (hf : gx_cells x ≤ (gx_R x).cells ∧ gx_slots x ≤ (gx_R x).slots) (dg : decode cc pc = .ok (.invokestatic index, 3)) (kk : gz_At x (pc + 3) lv (st) M') : gz_At x pc lv stk M := by
  intro H locs ls h1 h2 h3
  have hM1 := hM (gx_D x) (gx_aC x) (gx_ad x) H.size
  rw [has, ← X.hl] at hM1
  refine va_callv (gz_runS (locs := locs) X h1 (h3.1.trans X.hnL) hM1 w hn hd hn2 hst hW hf dg) h2 (fun q _ h => gz_free X h2 q h) (gz_free X h2) (fun u t H1 locs1 ht hvm hw hB hz hk hS => ?_)
  skip
  rw [ht] at hB
  exact kk H1 locs1 ls (gz_toM X hB) hS h3
theorem gz_MetF {y : MethodName} {ws ws' : List Cond} {rm : Room} {Pc : Array Value → State → Prop} {Qc : Array Value → State → Outcome → State → Prop} {mc ms : Nat} {free : Addr → Prop} {cc : ByteArray} {maxL : Nat} {ret : Option FieldType} (hy : plainFor y = true) (hw : ws = Cond.code y cc maxL ret :: ws') (body : ∀ p e s m args below meth c s₁, BodyLoose p l y (headSpec ws rm) cc maxL ret e s m args below meth c s₁ → c.maxLocals = maxL → Pc args s → W p l e (headSpec ws rm).room s m args below meth c s.heap [] 0 0 (MQ below Qc args s mc ms free) (entryFrame m args maxL)) : Met l y ws rm Pc Qc mc ms free := by
  refine MetFree.of_bodySF (code := cc) (maxLocals := maxL) (ret := ret) hy ?_ ?_
  · intro args s m h hn
    obtain ⟨meth, c, h1, h2, h3, h4, h5, h6, -, -⟩ := Cond.code_spec hn (atoms_spec (ws := ws) h _ (by rw [hw]; exact List.mem_cons_self))
    exact ⟨meth, c, h1, h2, h3, h4, h5, h6⟩
  · intro p e s m args below meth c s₁ B hml hP _
    have hh0 : s₁.heap = s.heap := by rw [B.state]; rfl
    obtain ⟨t, a1, o, b1, b2, b3⟩ := body p e s m args below meth c s₁ B hml hP s₁ hh0 (Stand.of_body B)
    exact ⟨t, o, a1, b1, b2, ⟨b3.1, b3.2⟩⟩
def gz_EI (x : gz_X) (cc : ByteArray) (rt : FieldType) (r : Int32) (M' : gz_M) : Prop := (∀ pc lv, narrow rt (.int r) = .int r → decode cc pc = .ok (.ireturn, 1) → gz_At x pc lv [.int r] M')
theorem gz_ofI {y : MethodName} {rt : FieldType} {r : Int32} {asF : (Nat → Nat) → List Value} {M' : gz_M} (hy : plainFor y = true) (hlen : ∀ ad, (lg_sl (asF ad)).length ≤ nL) (body : ∀ x, gz_Ok x cc y.cls nL d cf pf l → (gx_cells x ≤ (gx_R x).cells ∧ gx_slots x ≤ (gx_R x).slots) → gz_EI x cc rt r M' → gz_At x 0 (lv_args 0 (asF (gx_ad x))) [] M) : gz_CI l cf y cc nL d rt asF pf M r M' := by
  intro D aC ad sz
  refine gz_MetF (cc := cc) (maxL := nL) (ret := some rt) hy rfl ?_
  intro p e s m args below meth c s₁ B hml hv
  obtain ⟨rfl, hsz, hP, hK, hI, hN⟩ := hv
  subst hsz
  have hl := lv_entry (asF ad) (n := nL) (hlen ad)
  rw [lg_entry_eq]
  generalize (lg_sl (asF ad) ++ List.replicate (nL - (lg_sl (asF ad)).length) Slot.unset).toArray = ls at hl ⊢
  let x : gz_X := (p, l, e, (gz_rm d 0 0), s, m, (asF ad).toArray, below, meth, c, MQ below (va_Qi (fun r' (_ : Unit) => r' = r) (fun _ t => gz_mw D gz_cls cf aC ad pf M' t.heap) (gz_A cf ad pf s.heap.size)) (asF ad).toArray s 0 0 (gz_A cf ad pf s.heap.size), gz_A cf ad pf s.heap.size, D, aC, cf, ad, pf, nL, 0, 0, gz_cls)
  have X : gz_Ok x cc y.cls nL d cf pf l := ⟨⟨B.exec, B.bytes, hml, findClass_of_methodNamed B.named, fun w hw => atoms_spec (ws := Cond.code y cc nL (some rt) :: gz_TB) B.pre w (List.mem_cons_of_mem _ hw)⟩, rfl, hK, hI, fun k hk => Or.inl ⟨k, hk, rfl⟩, fun q hq => Or.inr hq, B.notSynchronized, Nat.le_refl _, Nat.le_refl _, hN, rfl, rfl, rfl, rfl⟩
  refine body x X ⟨Nat.le_refl _, Nat.le_refl _⟩ (fun pc lv hnr dg H locs ls h1 h2 h3 => ?_) s.heap [] ls hP va_S.rf hl
  exact W.zret B.exec B.bytes B.returns hnr (fun t ht hW => ⟨⟨r, (), rfl, rfl, by dsimp only; rw [ht]; exact h1⟩, h2.F ht⟩) h2.2.2 dg
def gz_EL (x : gz_X) (cc : ByteArray) (r : Int64) (M' : gz_M) : Prop := (∀ pc lv, decode cc pc = .ok (.lreturn, 1) → gz_At x pc lv [.long r] M')
theorem gz_ofL {y : MethodName} {rt : FieldType} {r : Int64} {asF : (Nat → Nat) → List Value} {M' : gz_M} (hy : plainFor y = true) (hrt : rt = .long) (hlen : ∀ ad, (lg_sl (asF ad)).length ≤ nL) (body : ∀ x, gz_Ok x cc y.cls nL d cf pf l → (gx_cells x ≤ (gx_R x).cells ∧ gx_slots x ≤ (gx_R x).slots) → gz_EL x cc r M' → gz_At x 0 (lv_args 0 (asF (gx_ad x))) [] M) : gz_CL l cf y cc nL d rt asF pf M r M' := by
  intro D aC ad sz
  refine gz_MetF (cc := cc) (maxL := nL) (ret := some rt) hy rfl ?_
  intro p e s m args below meth c s₁ B hml hv
  obtain ⟨rfl, hsz, hP, hK, hI, hN⟩ := hv
  subst hsz
  have hl := lv_entry (asF ad) (n := nL) (hlen ad)
  rw [lg_entry_eq]
  generalize (lg_sl (asF ad) ++ List.replicate (nL - (lg_sl (asF ad)).length) Slot.unset).toArray = ls at hl ⊢
  let x : gz_X := (p, l, e, (gz_rm d 0 0), s, m, (asF ad).toArray, below, meth, c, MQ below (va_Ql (fun r' (_ : Unit) => r' = r) (fun _ t => gz_mw D gz_cls cf aC ad pf M' t.heap) (gz_A cf ad pf s.heap.size)) (asF ad).toArray s 0 0 (gz_A cf ad pf s.heap.size), gz_A cf ad pf s.heap.size, D, aC, cf, ad, pf, nL, 0, 0, gz_cls)
  have X : gz_Ok x cc y.cls nL d cf pf l := ⟨⟨B.exec, B.bytes, hml, findClass_of_methodNamed B.named, fun w hw => atoms_spec (ws := Cond.code y cc nL (some rt) :: gz_TB) B.pre w (List.mem_cons_of_mem _ hw)⟩, rfl, hK, hI, fun k hk => Or.inl ⟨k, hk, rfl⟩, fun q hq => Or.inr hq, B.notSynchronized, Nat.le_refl _, Nat.le_refl _, hN, rfl, rfl, rfl, rfl⟩
  refine body x X ⟨Nat.le_refl _, Nat.le_refl _⟩ (fun pc lv dg H locs ls h1 h2 h3 => ?_) s.heap [] ls hP va_S.rf hl
  exact W.lret B.exec B.bytes (by rw [B.returns, hrt]) (fun t ht hW => ⟨⟨r, (), rfl, rfl, by dsimp only; rw [ht]; exact h1⟩, h2.F ht⟩) h2.2.2 dg
def gz_EV (x : gz_X) (cc : ByteArray) (M' : gz_M) : Prop := (∀ pc lv, decode cc pc = .ok (.return_, 1) → gz_At x pc lv [] M')
theorem gz_ofV {y : MethodName} {asF : (Nat → Nat) → List Value} {M' : gz_M} (hy : plainFor y = true) (hlen : ∀ ad, (lg_sl (asF ad)).length ≤ nL) (body : ∀ x, gz_Ok x cc y.cls nL d cf pf l → (gx_cells x ≤ (gx_R x).cells ∧ gx_slots x ≤ (gx_R x).slots) → gz_EV x cc M' → gz_At x 0 (lv_args 0 (asF (gx_ad x))) [] M) : gz_CV l cf y cc nL d asF pf M M' := by
  intro D aC ad sz
  refine gz_MetF (cc := cc) (maxL := nL) (ret := none) hy rfl ?_
  intro p e s m args below meth c s₁ B hml hv
  obtain ⟨rfl, hsz, hP, hK, hI, hN⟩ := hv
  subst hsz
  have hl := lv_entry (asF ad) (n := nL) (hlen ad)
  rw [lg_entry_eq]
  generalize (lg_sl (asF ad) ++ List.replicate (nL - (lg_sl (asF ad)).length) Slot.unset).toArray = ls at hl ⊢
  let x : gz_X := (p, l, e, (gz_rm d 0 0), s, m, (asF ad).toArray, below, meth, c, MQ below (va_Qv (fun (_ : Unit) => True) (fun _ t => gz_mw D gz_cls cf aC ad pf M' t.heap) (gz_A cf ad pf s.heap.size)) (asF ad).toArray s 0 0 (gz_A cf ad pf s.heap.size), gz_A cf ad pf s.heap.size, D, aC, cf, ad, pf, nL, 0, 0, gz_cls)
  have X : gz_Ok x cc y.cls nL d cf pf l := ⟨⟨B.exec, B.bytes, hml, findClass_of_methodNamed B.named, fun w hw => atoms_spec (ws := Cond.code y cc nL (none) :: gz_TB) B.pre w (List.mem_cons_of_mem _ hw)⟩, rfl, hK, hI, fun k hk => Or.inl ⟨k, hk, rfl⟩, fun q hq => Or.inr hq, B.notSynchronized, Nat.le_refl _, Nat.le_refl _, hN, rfl, rfl, rfl, rfl⟩
  refine body x X ⟨Nat.le_refl _, Nat.le_refl _⟩ (fun pc lv dg H locs ls h1 h2 h3 => ?_) s.heap [] ls hP va_S.rf hl
  exact W.vret B.exec B.bytes B.returns (fun t ht hW => ⟨⟨(), rfl, trivial, by dsimp only; rw [ht]; exact h1⟩, h2.F ht⟩) h2.2.2 dg
theorem gz_EIu {rt : FieldType} {r e : Int32} {M M' : gz_M} {pc : Nat} {lv : List (Nat × Value)} (hE : gz_EI x cc rt r M') (hf : some (e, M) = some (r, M')) (hn : narrow rt (.int e) = .int e) (dg : decode cc pc = .ok (.ireturn, 1)) : gz_At x pc lv [.int e] M := by
  have h := Option.some.inj hf
  have h1 : e = r := congrArg Prod.fst h
  have h2 : M = M' := congrArg Prod.snd h
  subst h1; subst h2
  exact hE _ _ hn dg
theorem gz_ELu {r e : Int64} {M M' : gz_M} {pc : Nat} {lv : List (Nat × Value)} (hE : gz_EL x cc r M') (hf : some (e, M) = some (r, M')) (dg : decode cc pc = .ok (.lreturn, 1)) : gz_At x pc lv [.long e] M := by
  have h := Option.some.inj hf
  have h1 : e = r := congrArg Prod.fst h
  have h2 : M = M' := congrArg Prod.snd h
  subst h1; subst h2
  exact hE _ _ dg
theorem gz_EVu {M M' : gz_M} {pc : Nat} {lv : List (Nat × Value)} (hE : gz_EV x cc M') (hf : some M = some M') (dg : decode cc pc = .ok (.return_, 1)) : gz_At x pc lv [] M := by
  have h := Option.some.inj hf
  subst h
  exact hE _ _ dg
end GC
end
