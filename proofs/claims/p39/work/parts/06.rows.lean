/-! further rows: names, switches, Math, arraycopy -/
theorem gz_inl {i : Int32} {n : Nat} (h : vp_in i n) : i.toNatClampNeg < n := Nat.not_le.mp fun q => h (Or.inr q)
theorem gz_kne (c : Int32) {a : Int32} {z : Int} (h : ¬ a = c) (hz : c.toInt = z) : ¬ z = a.toInt := fun q => h (Int32.toInt_inj.mp (by rw [hz]; exact q.symm))
section GR2
variable {x : gz_X} {cc : ByteArray} {own : String} {nL d pc : Nat} {cf : gz_CF} {pf : Nat → Bool} {l : Launch} {lv lv' : List (Nat × Value)} {st : List Value} {M M' : gz_M}
theorem gr_top {y v : Int32} (hv : y = v) (kk : gz_At x pc lv (.int y :: st) M) : gz_At x pc lv (.int v :: st) M := hv ▸ kk
theorem gr_ineg {a : Int32} (X : gz_Ok x cc own nL d cf pf l) (dg : decode cc pc = .ok (.ineg, 1)) (kk : gz_At x (pc + 1) lv (.int (-a) :: st) M) : gz_At x pc lv (.int a :: st) M := fun H locs ls h1 h2 h3 => lv_ineg X.hx X.hb dg (kk H locs ls h1 h2 h3)
theorem gr_ldc_w {index : Nat} (v : Int32) (X : gz_Ok x cc own nL d cf pf l) (dg : decode cc pc = .ok (.ldc_w index, 3)) (hc : Cond.constant own index v ∈ gz_TB) (k : gz_At x (pc + 3) lv (.int v :: st) M) : gz_At x pc lv st M := fun H locs ls h1 h2 h3 => lv_ldcw X.hx X.hb X.hown (X.hts _ hc) dg (k H locs ls h1 h2 h3)
theorem gr_tsOut {dflt lo hi : Int} {offs : Array Int} {len : Nat} {a : Int32} (tgt : Nat) (X : gz_Ok x cc own nL d cf pf l) (dg : decode cc pc = .ok (.tableswitch dflt lo hi offs, len)) (h : a.toInt < lo ∨ hi < a.toInt) (ht : (pc : Int) + dflt = (tgt : Int)) (kk : gz_At x tgt lv st M) : gz_At x pc lv (.int a :: st) M := fun H locs ls h1 h2 h3 => lv_tableOut X.hx X.hb dg h ht (kk H locs ls h1 h2 h3)
theorem gr_tsIn {dflt lo hi : Int} {offs : Array Int} {len : Nat} {a : Int32} (c : Int32) (off : Int) (tgt : Nat) (X : gz_Ok x cc own nL d cf pf l) (dg : decode cc pc = .ok (.tableswitch dflt lo hi offs, len)) (h : a = c) (h1 : ¬ c.toInt < lo) (h2 : ¬ hi < c.toInt) (ho : offs[(c.toInt - lo).toNat]? = some off) (ht : (pc : Int) + off = (tgt : Int)) (kk : gz_At x tgt lv st M) : gz_At x pc lv (.int a :: st) M := by
  subst h
  exact fun H locs ls g1 g2 g3 => lv_tableIn X.hx X.hb dg h1 h2 ho ht (kk H locs ls g1 g2 g3)
theorem gr_lsOut {dflt : Int} {ps : Array (Int × Int)} {len : Nat} {a : Int32} (off : Int) (tgt : Nat) (X : gz_Ok x cc own nL d cf pf l) (dg : decode cc pc = .ok (.lookupswitch dflt ps, len)) (hp : (ps.toList.zip (ps.toList.drop 1)).all (fun (a, next) => a.1 < next.1) = true) (ho : Op.lookupswitch.offset ps.toList dflt a.toInt = off) (ht : (pc : Int) + off = (tgt : Int)) (kk : gz_At x tgt lv st M) : gz_At x pc lv (.int a :: st) M := fun H locs ls h1 h2 h3 => lv_lookup X.hx X.hb dg hp ho ht (kk H locs ls h1 h2 h3)
theorem gr_lsIn {dflt : Int} {ps : Array (Int × Int)} {len : Nat} {a : Int32} (c : Int32) (off : Int) (tgt : Nat) (X : gz_Ok x cc own nL d cf pf l) (dg : decode cc pc = .ok (.lookupswitch dflt ps, len)) (h : a = c) (hp : (ps.toList.zip (ps.toList.drop 1)).all (fun (a, next) => a.1 < next.1) = true) (ho : Op.lookupswitch.offset ps.toList dflt c.toInt = off) (ht : (pc : Int) + off = (tgt : Int)) (kk : gz_At x tgt lv st M) : gz_At x pc lv (.int a :: st) M := by
  subst h
  exact gr_lsOut off tgt X dg hp ho ht kk
theorem gw_max : Cond.static Lib.Math.max.name ∈ gz_TB ∧ Cond.initialized "java/lang/Math" ∈ gz_TB ∧ Cond.code Lib.Math.max.name Lib.Math.max.code 2 (some .int) ∈ gz_TB := ⟨gz_in 677 (by decide +kernel) rfl, gz_in 98 (by decide +kernel) rfl, gz_in 678 (by decide +kernel) rfl⟩
theorem gw_min : Cond.static Lib.Math.min.name ∈ gz_TB ∧ Cond.initialized "java/lang/Math" ∈ gz_TB ∧ Cond.code Lib.Math.min.name Lib.Math.min.code 2 (some .int) ∈ gz_TB := ⟨gz_in 674 (by decide +kernel) rfl, gz_in 98 (by decide +kernel) rfl, gz_in 675 (by decide +kernel) rfl⟩
theorem gw_acopy : Cond.native arraycopyName ∈ gz_TB ∧ Cond.static arraycopyName ∈ gz_TB ∧ Cond.initialized "java/lang/System" ∈ gz_TB := ⟨gz_in 557 (by decide +kernel) rfl, gz_in 556 (by decide +kernel) rfl, gz_in 99 (by decide +kernel) rfl⟩
theorem gr_mmax {index : Nat} {a b : Int32} (X : gz_Ok x cc own nL d cf pf l) (hd : 1 ≤ d) (hl : Cond.methodLink own index Lib.Math.max.name ∈ gz_TB) (hc : gx_cells x ≤ (gx_R x).cells ∧ gx_slots x ≤ (gx_R x).slots) (hW : (st.map fun v => v.category).sum ≤ 8) (dg : decode cc pc = .ok (.invokestatic index, 3)) (kk : gz_At x (pc + 3) lv (.int (gz_max a b) :: st) M) : gz_At x pc lv (.int b :: .int a :: st) M := by
  intro H locs ls h1 h2 h3
  have f1 := X.hfr
  have f2 := X.hlo
  exact va_mmax X.hx X.hb (X.hml.trans (X.hnL.symm.trans h3.1.symm)) X.hown (X.hts _ hl) (X.hts _ gw_max.1) (X.hts _ gw_max.2.1) (X.hts _ gw_max.2.2) (by omega) (by omega) hc.1 hc.2 dg (kk H locs ls h1 h2 h3)
theorem gr_mmin {index : Nat} {a b : Int32} (X : gz_Ok x cc own nL d cf pf l) (hd : 1 ≤ d) (hl : Cond.methodLink own index Lib.Math.min.name ∈ gz_TB) (hc : gx_cells x ≤ (gx_R x).cells ∧ gx_slots x ≤ (gx_R x).slots) (hW : (st.map fun v => v.category).sum ≤ 8) (dg : decode cc pc = .ok (.invokestatic index, 3)) (kk : gz_At x (pc + 3) lv (.int (gz_min a b) :: st) M) : gz_At x pc lv (.int b :: .int a :: st) M := by
  intro H locs ls h1 h2 h3
  have f1 := X.hfr
  have f2 := X.hlo
  exact va_mmin X.hx X.hb (X.hml.trans (X.hnL.symm.trans h3.1.symm)) X.hown (X.hts _ hl) (X.hts _ gw_min.1) (X.hts _ gw_min.2.1) (X.hts _ gw_min.2.2) (by omega) (by omega) hc.1 hc.2 dg (kk H locs ls h1 h2 h3)
theorem gr_acopy {k1 k2 n1 n2 index : Nat} {sp dp n : Int32} {sp' dp' n' : Nat} (X : gz_Ok x cc own nL d cf pf l) (hd : 1 ≤ d) (ha : gz_KD cf pf k1 (gz_oI n1)) (hb0 : gz_KD cf pf k2 (gz_oI n2)) (hl : Cond.methodLink own index arraycopyName ∈ gz_TB) (es : sp.toNatClampNeg = sp') (ed : dp.toNatClampNeg = dp') (en : n.toNatClampNeg = n') (h1 : ¬ sp < 0) (h2 : ¬ dp < 0) (h3 : ¬ n < 0) (h4 : sp' + n' ≤ n1) (h5 : dp' + n' ≤ n2) (hW : (st.map fun v => v.category).sum ≤ 8) (hM : M' = gz_cp M k1 k2 sp' dp' n') (dg : decode cc pc = .ok (.invokestatic index, 3)) (kk : gz_At x (pc + 3) lv st M') : gz_At x pc lv (.int n :: .int dp :: .ref (gx_ad x k2) :: .int sp :: .ref (gx_ad x k1) :: st) M := by
  intro H locs ls g1 g2 g3 T hT Xs
  have f1 := X.hfr
  have f2 := X.hlo
  subst es; subst ed; subst en; subst hM
  have nn : ∀ z : Int32, ¬ z < 0 → z.toInt = (z.toNatClampNeg : Int) := by
    intro z hz
    have hz0 : (0 : Int) ≤ z.toInt := by
      have := Int32.not_lt.mp hz
      simpa using Int32.le_iff_toInt_le.mp this
    show z.toInt = ((z.toInt.toNat : Nat) : Int)
    omega
  have ha' := X.kd ha
  have hb' := X.kd hb0
  have hc0 : H[gx_ad x k1]? = some (vp_cell (gx_aC x 0) (n1, .inl (M.1 k1))) := by have h := g1 k1 ha'.1; rw [ha'.2] at h; exact h
  have hc1 : H[gx_ad x k2]? = some (vp_cell (gx_aC x 0) (n2, .inl (M.1 k2))) := by have h := g1 k2 hb'.1; rw [hb'.2] at h; exact h
  obtain ⟨-, k0, hk0, cm0, hkk0⟩ := (X.hK.2 0 _ rfl).1 n1 (fun j => .int (M.1 k1 j))
  obtain ⟨-, k9, hk9, cm9, hkk9⟩ := (X.hK.2 0 _ rfl).1 n2 (fun j => .int (M.1 k2 j))
  obtain ⟨vm', X', step⟩ := Xs.arraycopy X.hx X.hown (X.hts _ hl) (X.hts _ gw_acopy.1) (X.hts _ gw_acopy.2.1) (X.hts _ gw_acopy.2.2) (src := gx_ad x k1) (dst := gx_ad x k2) (cs := vp_cell (gx_aC x 0) (n1, .inl (M.1 k1))) (cd := vp_cell (gx_aC x 0) (n2, .inl (M.1 k2))) (srcPos := sp) (destPos := dp) (n := n) (by rw [hT]; exact hc0) (by rw [hT]; exact hc1)
    (fun _ h => by cases h) (fun _ h => by cases h) (fun h => by cases h) (fun h => by cases h) hk0 hk9 hkk0 hkk9 (by simp [refKind]) h1 h2 h3
    (by rw [nn sp h1, nn n h3]; show ¬ _ > ((arrV (gx_aC x 0) n1 (fun j => .int (M.1 k1 j))).slots.size : Int); rw [arrV_size]; omega)
    (by rw [nn dp h2, nn n h3]; show ¬ _ > ((arrV (gx_aC x 0) n2 (fun j => .int (M.1 k2 j))).slots.size : Int); rw [arrV_size]; omega)
    (fun vm₁ _ i hi => by
      have e : (vp_cell (gx_aC x 0) (n1, .inl (M.1 k1))).slots.getD (sp.toNatClampNeg + i) .null = .int (M.1 k1 (sp.toNatClampNeg + i)) := by
        show (arrV (gx_aC x 0) n1 (fun j => .int (M.1 k1 j))).slots.getD _ _ = _
        rw [Array.getD_eq_getD_getElem?, arrV_read _ _ (by omega)]
        rfl
      refine ⟨?_, ?_⟩
      · rw [e]
        rfl
      · rw [e]
        exact trivial)
    (g := F0 (gx_m x) pc ls (.int n :: .int dp :: .ref (gx_ad x k2) :: .int sp :: .ref (gx_ad x k1) :: st)) rfl (by show ls.size = _; rw [g3.1, X.hnL, X.hml]) (rest := st) rfl (by rw [X.hb]; exact dg) (by omega) (by show 2 * 0 + _ + _ ≤ _; have q9 : nativeFrameWords "java/lang/System" "arraycopy" 5 ≤ 20 := (by decide); omega)
  have e1 : copied (vp_cell (gx_aC x 0) (n1, .inl (M.1 k1))) (vp_cell (gx_aC x 0) (n2, .inl (M.1 k2))) sp dp n = vp_cell (gx_aC x 0) (n2, .inl (va_cpy (M.1 k1) (M.1 k2) sp.toNatClampNeg dp.toNatClampNeg n.toNatClampNeg)) := va_copied (fun z => .int z) _ _ (M.1 k1) (M.1 k2) h4
  rw [e1] at X' step
  have hl' : gx_ad x k2 < H.size := (Array.getElem?_eq_some_iff.mp hc1).1
  have hheap : ((T.setVm vm').setCell (gx_ad x k2) (vp_cell (gx_aC x 0) (n2, .inl (va_cpy (M.1 k1) (M.1 k2) sp.toNatClampNeg dp.toNatClampNeg n.toNatClampNeg)))).heap = H.setIfInBounds (gx_ad x k2) (vp_cell (gx_aC x 0) (n2, .inl (va_cpy (M.1 k1) (M.1 k2) sp.toNatClampNeg dp.toNatClampNeg n.toNatClampNeg))) := by rw [← hT]; rfl
  have oq : ∀ q : Nat, q ≠ gx_ad x k2 → (H.setIfInBounds (gx_ad x k2) (vp_cell (gx_aC x 0) (n2, .inl (va_cpy (M.1 k1) (M.1 k2) sp.toNatClampNeg dp.toNatClampNeg n.toNatClampNeg))))[q]? = H[q]? := fun q hq => by simp [Array.getElem?_setIfInBounds, Ne.symm hq]
  have hm : gz_mw (gx_D x) (gx_cl x) (gx_cf x) (gx_aC x) (gx_ad x) (gx_pf x) (gz_cp M k1 k2 sp.toNatClampNeg dp.toNatClampNeg n.toNatClampNeg) (H.setIfInBounds (gx_ad x k2) (vp_cell (gx_aC x 0) (n2, .inl (va_cpy (M.1 k1) (M.1 k2) sp.toNatClampNeg dp.toNatClampNeg n.toNatClampNeg)))) := by
    intro k hk
    by_cases h : k = k2
    · subst h
      rw [hb'.2]
      show (H.setIfInBounds (gx_ad x k) _)[gx_ad x k]? = some (vp_cell _ _)
      simp [Array.getElem?_setIfInBounds, hl', gz_cp]
    · have h0 := (g1 k hk).kept (oq _ (fun q => h (X.hinj _ _ hk hb'.1 q)))
      simp only [gz_cp, if_neg h]
      exact h0
  obtain ⟨t, a1, b1⟩ := kk _ _ ls hm ⟨by simp; exact g2.1, fun q e1 e2 => by
      rw [oq q (fun e => e2 (by rw [e]; exact X.hA k2 hb'.1))]
      exact g2.2.1 q e1 e2, fun q hq => by
      rcases List.mem_append.mp hq with h | h
      · exact g2.2.2 q h
      · obtain ⟨z, -, hz⟩ := List.mem_map.mp h
        rw [← hz]
        exact X.hA k2 hb'.1⟩ g3 _ hheap X'
  exact ⟨t, step t a1, b1⟩
theorem gr_aloadN_n {k : Fin 4} {i : Nat} (X : gz_Ok x cc own nL d cf pf l) (dg : decode cc pc = .ok (.aload_n k, 1)) (pl : Nat) (hi : (k : Nat) = i) (hl : lv[pl]? = some (i, .null)) (kk : gz_At x (pc + 1) lv (.null :: st) M) : gz_At x pc lv st M := fun H locs ls h1 h2 h3 => lv_aload_nN X.hx X.hb dg hi (lv_at h3 pl hl) (kk H locs ls h1 h2 h3)
theorem gr_aloadN {i : Nat} (X : gz_Ok x cc own nL d cf pf l) (dg : decode cc pc = .ok (.aload i, 2)) (pl : Nat) (hl : lv[pl]? = some (i, .null)) (kk : gz_At x (pc + 2) lv (.null :: st) M) : gz_At x pc lv st M := fun H locs ls h1 h2 h3 => lv_aloadN X.hx X.hb dg (lv_at h3 pl hl) (kk H locs ls h1 h2 h3)
theorem gr_astoreN_n {k : Fin 4} {i : Nat} (lv' : List (Nat × Value)) (X : gz_Ok x cc own nL d cf pf l) (dg : decode cc pc = .ok (.astore_n k, 1)) (hi : (k : Nat) = i) (hn : i < nL) (hl : (i, Value.null) :: lv.filter (fun q => !(q.1 == i) && !(q.1 + 1 == i && q.2.category == 2)) = lv') (kk : gz_At x (pc + 1) lv' st M) : gz_At x pc lv (.null :: st) M := fun H locs ls h1 h2 h3 => lv_astore_nN X.hx X.hb dg hi h3 (by rw [X.hnL]; exact hn) hl (fun ls hl => kk H locs ls h1 h2 hl)
theorem gr_astoreN {i : Nat} (lv' : List (Nat × Value)) (X : gz_Ok x cc own nL d cf pf l) (dg : decode cc pc = .ok (.astore i, 2)) (hn : i < nL) (hl : (i, Value.null) :: lv.filter (fun q => !(q.1 == i) && !(q.1 + 1 == i && q.2.category == 2)) = lv') (kk : gz_At x (pc + 2) lv' st M) : gz_At x pc lv (.null :: st) M := fun H locs ls h1 h2 h3 => lv_astoreN X.hx X.hb dg h3 (by rw [X.hnL]; exact hn) hl (fun ls hl => kk H locs ls h1 h2 hl)
theorem gr_ifnonnull {v : Nat} {off : Int} (tgt : Nat) (X : gz_Ok x cc own nL d cf pf l) (dg : decode cc pc = .ok (.ifnonnull off, 3)) (ht : (pc : Int) + off = (tgt : Int)) (kk : gz_At x tgt lv st M) : gz_At x pc lv (.ref v :: st) M := fun H locs ls h1 h2 h3 => lv_ifnonnull X.hx X.hb dg ht (kk H locs ls h1 h2 h3)
theorem gr_ifnonnullN {off : Int} (X : gz_Ok x cc own nL d cf pf l) (dg : decode cc pc = .ok (.ifnonnull off, 3)) (kk : gz_At x (pc + 3) lv st M) : gz_At x pc lv (.null :: st) M := fun H locs ls h1 h2 h3 => lv_ifnonnullN X.hx X.hb dg (kk H locs ls h1 h2 h3)
theorem gr_ifnull {v : Nat} {off : Int} (X : gz_Ok x cc own nL d cf pf l) (dg : decode cc pc = .ok (.ifnull off, 3)) (kk : gz_At x (pc + 3) lv st M) : gz_At x pc lv (.ref v :: st) M := fun H locs ls h1 h2 h3 => lv_ifnull X.hx X.hb dg (kk H locs ls h1 h2 h3)
theorem gr_ifnullN {off : Int} (tgt : Nat) (X : gz_Ok x cc own nL d cf pf l) (dg : decode cc pc = .ok (.ifnull off, 3)) (ht : (pc : Int) + off = (tgt : Int)) (kk : gz_At x tgt lv st M) : gz_At x pc lv (.null :: st) M := fun H locs ls h1 h2 h3 => lv_ifnullN X.hx X.hb dg ht (kk H locs ls h1 h2 h3)
theorem gi_bk {pf : Nat → Bool} {b n : Nat} {i : Int32} (h : pf (b + i.toNatClampNeg) = true) (hin : vp_in i n) (hb : b + n ≤ 12) : gz_IsX0 pf (135 + 4 * (b + i.toNatClampNeg)) := Or.inr ⟨b + i.toNatClampNeg, Nat.lt_of_lt_of_le (Nat.add_lt_add_left (gz_inl hin) b) hb, h, rfl⟩
theorem gr_aaldK {k n b : Nat} {i : Int32} (X : gz_Ok x cc own nL d gz_cfC pf l) (hk0 : gz_KD gz_cfC pf k (gz_oK n b)) (hin : vp_in i n) (dg : decode cc pc = .ok (.aaload, 1)) (k1 : pf (100 + (b + i.toNatClampNeg)) = true → gz_At x (pc + 1) lv (.ref (gx_ad x (135 + 4 * (b + i.toNatClampNeg))) :: st) M) (k2 : ¬ pf (100 + (b + i.toNatClampNeg)) = true → gz_At x (pc + 1) lv (.null :: st) M) : gz_At x pc lv (.int i :: .ref (gx_ad x k) :: st) M := by
  intro H locs ls h1 h2 h3
  have hk := X.kd hk0
  have hP := gz_one h1 hk.1 (hk.2 _ _ _ _)
  have hlt : i.toNatClampNeg < n := gz_inl hin
  have go : ∀ v : Value, v = va_rf (if gx_pf x (100 + (b + i.toNatClampNeg)) = true then some (gx_ad x (135 + 4 * (b + i.toNatClampNeg))) else none) → gz_W x H locs (F0 (gx_m x) (pc + 1) ls (v :: st)) → gz_W x H locs (F0 (gx_m x) pc ls (.int i :: .ref (gx_ad x k) :: st)) := by
    intro v hv kk
    exact W.aald (v := v) (ty := .object "LongestTokens$Book") X.hx X.hb (hP 0 _ rfl) ((X.hK.2 5 _ rfl).1 n (fun j => va_rf (if gx_pf x (100 + (b + j)) = true then some (gx_ad x (135 + 4 * (b + j))) else none))) rfl (fun q => by cases q) (by show ¬ (i < 0 ∨ (arrV _ _ _).slots.size ≤ _); rw [arrV_size]; exact hin) (by show (arrV _ _ _).slots[_]? = _; rw [arrV_read _ _ hlt, hv]) rfl rfl dg kk
  by_cases hp : pf (100 + (b + i.toNatClampNeg)) = true
  · exact go _ (by rw [X.hpf, if_pos hp]; rfl) (k1 hp H locs ls h1 h2 h3)
  · exact go _ (by rw [X.hpf, if_neg hp]; rfl) (k2 hp H locs ls h1 h2 h3)
/-! answers that are Books -/
def gz_CR (l : Launch) (y : MethodName) (cc : ByteArray) (nL d : Nat) (rt : FieldType) (asF : (Nat → Nat) → List Value) (pf : Nat → Bool) (M : gz_M) (r : Nat) (M' : gz_M) : Prop := ∀ D aC ad sz, Met l y (Cond.code y cc nL (some rt) :: gz_TB) (gz_rm d 0 0) (va_Pc (asF ad) (gz_B D gz_cfC aC ad pf M sz)) (va_Qr (fun (_ : Unit) => gz_IsX0 pf r) (fun _ a t => a = ad r ∧ gz_mw D gz_cls gz_cfC aC ad pf M' t.heap) (gz_A gz_cfC ad pf sz)) 0 0 (gz_A gz_cfC ad pf sz)
theorem gr_callR {y : MethodName} {cc2 : ByteArray} {nL2 n index kb d2 ci N r : Nat} {C : String} {T : u_T} {rt : FieldType} {asF : (Nat → Nat) → List Value} {fs : List Value} {stk : List Value} (As : List Value) (X : gz_Ok x cc own nL d gz_cfC pf l) (hM : gz_CR l y cc2 nL2 d2 rt asF pf M r M') (has : asF (gx_ad x) = .ref (gx_ad x kb) :: As) (w : gz_WV own index C y cc2 nL2 n (some rt)) (hn : As.length = n) (hk : (gx_cf x).1 (gx_pf x) kb = true) (hc2 : (gx_cf x).2 (gx_aC x) (gx_ad x) (gx_pf x) kb (M.1 kb) M.2 = .inr (ci, fs)) (hc : gz_cls[ci]? = some (C, T, N)) (hd : d2 < d) (hn2 : nL2 ≤ 20) (hst : stk = As.reverse ++ .ref (gx_ad x kb) :: st) (hW : (st.map fun v => v.category).sum ≤ 8) (hf : gx_cells x ≤ (gx_R x).cells ∧ gx_slots x ≤ (gx_R x).slots) (dg : decode cc pc = .ok (.invokevirtual index, 3)) (kk : gz_IsX0 pf r → gz_At x (pc + 3) lv (.ref (gx_ad x r) :: st) M') : gz_At x pc lv stk M := by
  intro H locs ls h1 h2 h3
  have hM1 := hM (gx_D x) (gx_aC x) (gx_ad x) H.size
  rw [has, ← X.hl] at hM1
  refine va_callr (gz_runV (locs := locs) X h1 (h3.1.trans X.hnL) hM1 w hn hk hc2 hc hd hn2 hst hW hf dg) h2 (fun q _ h => gz_free X h2 q h) (gz_free X h2) (fun u ra t H1 locs1 ht hvm hw hB hz hk hS => ?_)
  obtain ⟨rfl, hB⟩ := hB
  rw [ht] at hB
  exact kk hw H1 locs1 ls (gz_toM X hB) hS h3
def gz_ER (x : gz_X) (cc : ByteArray) (r : Nat) (M' : gz_M) : Prop := ∀ pc lv, gz_IsX0 (gx_pf x) r → decode cc pc = .ok (.areturn, 1) → gz_At x pc lv [.ref (gx_ad x r)] M'
theorem gz_ofR {y : MethodName} {rt : FieldType} {r : Nat} {asF : (Nat → Nat) → List Value} (hy : plainFor y = true) (hrt : (∃ n, rt = .object n) ∨ ∃ t, rt = .array t) (hlen : ∀ ad, (lg_sl (asF ad)).length ≤ nL) (body : ∀ x, gz_Ok x cc y.cls nL d gz_cfC pf l → (gx_cells x ≤ (gx_R x).cells ∧ gx_slots x ≤ (gx_R x).slots) → gz_ER x cc r M' → gz_At x 0 (lv_args 0 (asF (gx_ad x))) [] M) : gz_CR l y cc nL d rt asF pf M r M' := by
  intro D aC ad sz
  refine gz_MetF (cc := cc) (maxL := nL) (ret := some rt) hy rfl ?_
  intro p e s m args below meth c s₁ B hml hv
  obtain ⟨rfl, hsz, hP, hK, hI, hN⟩ := hv
  subst hsz
  have hl := lv_entry (asF ad) (n := nL) (hlen ad)
  rw [lg_entry_eq]
  generalize (lg_sl (asF ad) ++ List.replicate (nL - (lg_sl (asF ad)).length) Slot.unset).toArray = ls at hl ⊢
  let x : gz_X := (p, l, e, (gz_rm d 0 0), s, m, (asF ad).toArray, below, meth, c, MQ below (va_Qr (fun (_ : Unit) => gz_IsX0 pf r) (fun _ a t => a = ad r ∧ gz_mw D gz_cls gz_cfC aC ad pf M' t.heap) (gz_A gz_cfC ad pf s.heap.size)) (asF ad).toArray s 0 0 (gz_A gz_cfC ad pf s.heap.size), gz_A gz_cfC ad pf s.heap.size, D, aC, gz_cfC, ad, pf, nL, 0, 0, gz_cls)
  have X : gz_Ok x cc y.cls nL d gz_cfC pf l := ⟨⟨B.exec, B.bytes, hml, findClass_of_methodNamed B.named, fun w hw => atoms_spec (ws := Cond.code y cc nL (some rt) :: gz_TB) B.pre w (List.mem_cons_of_mem _ hw)⟩, rfl, hK, hI, fun k hk => Or.inl ⟨k, hk, rfl⟩, fun q hq => Or.inr hq, B.notSynchronized, Nat.le_refl _, Nat.le_refl _, hN, rfl, rfl, rfl, rfl⟩
  refine body x X ⟨Nat.le_refl _, Nat.le_refl _⟩ (fun pc lv hr dg H locs ls h1 h2 h3 => ?_) s.heap [] ls hP va_S.rf hl
  exact W.aret B.exec B.bytes B.returns hrt (Or.inr ⟨_, rfl⟩) (fun t ht hW => ⟨⟨(), ad r, rfl, hr, rfl, by rw [ht]; exact h1⟩, h2.F ht⟩) h2.2.2 dg
theorem gz_ERu {r e : Nat} {pc : Nat} {lv : List (Nat × Value)} (X : gz_Ok x cc own nL d gz_cfC pf l) (hE : gz_ER x cc r M') (hf : some (e, M) = some (r, M')) (hi : gz_IsX0 pf e) (dg : decode cc pc = .ok (.areturn, 1)) : gz_At x pc lv [.ref (gx_ad x e)] M := by
  have h := Option.some.inj hf
  have h1 : e = r := congrArg Prod.fst h
  have h2 : M = M' := congrArg Prod.snd h
  subst h1; subst h2
  exact hE _ _ (by rw [X.hpf]; exact hi) dg
end GR2
