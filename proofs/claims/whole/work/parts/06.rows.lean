/-! further rows: names, switches, Math, arraycopy -/
theorem gz_inl {i : Int32} {n : Nat} (h : vp_in i n) : i.toNatClampNeg < n := Nat.not_le.mp fun q => h (Or.inr q)
theorem gz_kne (c : Int32) {a : Int32} {z : Int} (h : ¬ a = c) (hz : c.toInt = z) : ¬ z = a.toInt := fun q => h (Int32.toInt_inj.mp (by rw [hz]; exact q.symm))
section GR2
variable {x : gz_X} {cc : ByteArray} {own : String} {nL d pc : Nat} {cf : gz_CF} {pf : Nat → Bool} {l : Launch} {lv lv' : List (Nat × Value)} {st : List Value} {M M' : gz_M}
theorem gr_top {y v : Int32} (hv : y = v) (kk : gz_At x pc lv (.int y :: st) M) : gz_At x pc lv (.int v :: st) M := hv ▸ kk
theorem gr_ineg {a : Int32} (X : gz_Ok x cc own nL d cf pf l) (dg : decode cc pc = .ok (.ineg, 1)) (kk : gz_At x (pc + 1) lv (.int (-a) :: st) M) : gz_At x pc lv (.int a :: st) M := fun H locs ls h1 h2 h3 => lv_ineg X.hx X.hb dg (kk H locs ls h1 h2 h3)
theorem gr_ldc_w {index : Nat} (v : Int32) (X : gz_Ok x cc own nL d cf pf l) (dg : decode cc pc = .ok (.ldc_w index, 3)) (hc : Cond.constant own index v ∈ gz_TB) (k : gz_At x (pc + 3) lv (.int v :: st) M) : gz_At x pc lv st M := fun H locs ls h1 h2 h3 => lv_ldcw X.hx X.hb X.hown (X.hts _ hc) dg (k H locs ls h1 h2 h3)
theorem gr_tsOut {dflt lo hi : Int} {offs : Array Int} {len : Nat} {a : Int32} (tgt : Nat) (X : gz_Ok x cc own nL d cf pf l) (dg : decode cc pc = .ok (.tableswitch dflt lo hi offs, len)) (h : a.toInt < lo ∨ hi < a.toInt) (ht : (pc : Int) + dflt = (tgt : Int)) (kk : gz_At x tgt lv st M) : gz_At x pc lv (.int a :: st) M := fun H locs ls h1 h2 h3 => lv_tableOut X.hx X.hb dg h ht (kk H locs ls h1 h2 h3)
theorem gr_tsIn {dflt lo hi : Int} {offs : Array Int} {len : Nat} {a : Int32} (c : Int32) (off : Int) (tgt : Nat) (X : gz_Ok x cc own nL d cf pf l) (dg : decode cc pc = .ok (.tableswitch dflt lo hi offs, len)) (h : a = c) (h1 : ¬ c.toInt < lo) (h2 : ¬ hi < c.toInt) (ho : offs[(c.toInt - lo).toNat]? = some off) (ht : (pc : Int) + off = (tgt : Int)) (kk : gz_At x tgt lv st M) : gz_At x pc lv (.int a :: st) M := by
  subst h
  exact fun H locs ls g1 g2 g3 => lv_tableIn X.hx X.hb dg h1 h2 ho ht (kk H locs ls g1 g2 g3)
theorem gr_lsOut {dflt : Int} {ps : Array (Int × Int)} {len : Nat} {a : Int32} (off : Int) (tgt : Nat) (X : gz_Ok x cc own nL d cf pf l) (dg : decode cc pc = .ok (.lookupswitch dflt ps, len)) (hp : (ps.toList.zip (ps.toList.drop 1)).all (fun (a, next) => a.1 < next.1) = true) (ho : Op.lookupswitch.offset ps.toList dflt a.toInt = off) (ht : (pc : Int) + off = (tgt : Int)) (kk : gz_At x tgt lv st M) : gz_At x pc lv (.int a :: st) M := fun H locs ls h1 h2 h3 => lv_lookup X.hx X.hb dg hp ho ht (kk H locs ls h1 h2 h3)
theorem gr_lsIn {dflt : Int} {ps : Array (Int × Int)} {len : Nat} {a : Int32} (c : Int32) (off : Int) (tgt : Nat) (X : gz_Ok x cc own nL d cf pf l) (dg : decode cc pc = .ok (.lookupswitch dflt ps, len)) (h : a = c) (hp : (ps.toList.zip (ps.toList.drop 1)).all (fun (a, next) => a.1 < next.1) = true) (ho : Op.lookupswitch.offset ps.toList dflt c.toInt = off) (ht : (pc : Int) + off = (tgt : Int)) (kk : gz_At x tgt lv st M) : gz_At x pc lv (.int a :: st) M := by
  subst h
  exact gr_lsOut off tgt X dg hp ho ht kk
theorem gw_max : Cond.static Lib.Math.max.name ∈ gz_TB ∧ Cond.initialized "java/lang/Math" ∈ gz_TB ∧ Cond.code Lib.Math.max.name Lib.Math.max.code 2 (some .int) ∈ gz_TB := ⟨gz_in 677 (by decide +kernel) rfl, gz_in 98 (by decide +kernel) rfl, gz_in 678 (by decide +kernel) rfl⟩
theorem gw_min : Cond.static Lib.Math.min.name ∈ gz_TB ∧ Cond.initialized "java/lang/Math" ∈ gz_TB ∧ Cond.code Lib.Math.min.name Lib.Math.min.code 2 (some .int) ∈ gz_TB := ⟨gz_in 674 (by decide +kernel) rfl, gz_in 98 (by decide +kernel) rfl, gz_in 675 (by decide +kernel) rfl⟩
theorem gw_acopy : Cond.native arraycopyName ∈ gz_TB ∧ Cond.static arraycopyName ∈ gz_TB ∧ Cond.initialized "java/lang/System" ∈ gz_TB := ⟨gz_in 557 (by decide +kernel) rfl, gz_in 556 (by decide +kernel) rfl, gz_in 99 (by decide +kernel) rfl⟩
theorem gr_mmax {index : Nat} {a b : Int32} (X : gz_Ok x cc own nL d cf pf l) (hd : 1 ≤ d) (hl : Cond.methodLink own index Lib.Math.max.name ∈ gz_TB) (hc : gx_cells x ≤ (gx_R x).cells ∧ gx_slots x ≤ (gx_R x).slots) (hW : (st.map fun v => v.category).sum ≤ 8) (dg : decode cc pc = .ok (.invokestatic index, 3)) (kk : gz_At x (pc + 3) lv (.int (gz_max a b) :: st) M) : gz_At x pc lv (.int b :: .int a :: st) M := by
  intro H locs ls h1 h2 h3
  have f1 := X.hfr
  have f2 := X.hlo
  exact va_mmax X.hx X.hb (X.hml.trans (X.hnL.symm.trans h3.1.symm)) X.hown (X.hts _ hl) (X.hts _ gw_max.1) (X.hts _ gw_max.2.1) (X.hts _ gw_max.2.2) (by omega) (by omega) hc.1 hc.2 dg (kk H locs ls h1 h2 h3)
theorem gr_mmin {index : Nat} {a b : Int32} (X : gz_Ok x cc own nL d cf pf l) (hd : 1 ≤ d) (hl : Cond.methodLink own index Lib.Math.min.name ∈ gz_TB) (hc : gx_cells x ≤ (gx_R x).cells ∧ gx_slots x ≤ (gx_R x).slots) (hW : (st.map fun v => v.category).sum ≤ 8) (dg : decode cc pc = .ok (.invokestatic index, 3)) (kk : gz_At x (pc + 3) lv (.int (gz_min a b) :: st) M) : gz_At x pc lv (.int b :: .int a :: st) M := by
  intro H locs ls h1 h2 h3
  have f1 := X.hfr
  have f2 := X.hlo
  exact va_mmin X.hx X.hb (X.hml.trans (X.hnL.symm.trans h3.1.symm)) X.hown (X.hts _ hl) (X.hts _ gw_min.1) (X.hts _ gw_min.2.1) (X.hts _ gw_min.2.2) (by omega) (by omega) hc.1 hc.2 dg (kk H locs ls h1 h2 h3)
end GR2
