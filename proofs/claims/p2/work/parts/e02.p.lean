/-! the law's frame -/
def gq_LF (x : gz_X) (pf : Nat → Bool) (l : Launch) (b L : Nat) (xs : Nat → Int32) : Prop := gz_Ok x cL_law RL 8 60 gz_cfL pf l ∧ gz_Xst (gx_s x) ∧ gz_Th (gx_A x) (gx_s x) (gx_s x).heap ∧ gc_AO (gx_s x) ∧ va_X b L xs (gx_s x) (gx_s x).heap ∧ b < (gx_s x).heap.size ∧ ¬ gx_A x b
def gq_lv (x : gz_X) (b i : Nat) : List (Nat × Value) := [(0, .ref b), (1, .ref (gx_ad x 0)), (2, .ref (gx_ad x 1)), (3, .ref (gx_ad x 2)), (4, .int (nI i))]
def gq_K (B : Prop) (x : gz_X) (l : Launch) (b L : Nat) (xs : Nat → Int32) (i k : Nat) : Prop := ∀ x' pf' M', gz_StL x x' → gq_LF x' pf' l b L xs → gz_UL x' k → gp_R B pf' (gz_sC M') (gz_sR M') → gz_At x' 1348 (gq_lv x' b i) [] M'
section
variable {x x' : gz_X} {pf pf' : Nat → Bool} {l : Launch} {b L i k pc : Nat} {xs : Nat → Int32} {lv : List (Nat × Value)} {st : List Value} {M M' : gz_M}
theorem gq_LF.of (F : gq_LF x pf l b L xs) (h : gz_StL x x') (X' : gz_Ok x' cL_law RL 8 60 gz_cfL pf' l) : gq_LF x' pf' l b L xs := by
  obtain ⟨⟨a1, p1, c1, s1, rfl⟩, _⟩ := h
  exact ⟨X', F.2⟩
theorem gq_lv_st (h : gz_StL x x') : gq_lv x b i = gq_lv x' b i := by
  unfold gq_lv
  rw [(h.2 0 rfl).2, (h.2 1 rfl).2, (h.2 2 rfl).2]
theorem gr_sld (F : gq_LF x pf l b L xs) {v : Nat} (hv : v < L) (hL : L ≤ 3072) (dg : decode cL_law pc = .ok (.iaload, 1)) (kk : gz_At x (pc + 1) lv (.int (xs v) :: st) M) : gz_At x pc lv (.int (nI v) :: .ref b :: st) M := by
  intro H locs ls h1 h2 h3
  refine va_sld F.1.hx F.1.hb F.2.2.2.2.1 F.2.2.2.2.2.1 F.2.2.2.2.2.2 h2 (i := nI v) (fun h => ?_) dg ?_
  · rcases h with h | h
    · exact absurd h (nI_nlt (b := 0) (by omega) (by omega))
    · rw [nI_clamp (by omega)] at h; omega
  · rw [nI_clamp (by omega)]
    exact kk H locs ls h1 h2 h3
theorem gr_slen (F : gq_LF x pf l b L xs) (dg : decode cL_law pc = .ok (.arraylength, 1)) (kk : gz_At x (pc + 1) lv (.int (nI L) :: st) M) : gz_At x pc lv (.ref b :: st) M := fun H locs ls h1 h2 h3 => va_slen F.1.hx F.1.hb F.2.2.2.2.1 F.2.2.2.2.2.1 F.2.2.2.2.2.2 h2 dg (kk H locs ls h1 h2 h3)
theorem gq_arg (F : gq_LF x pf l b L xs) (hL : L ≤ 3072) {z : Int} {q : Nat} (hz : Int32.ofInt z = nI q) (hq : i + q < L) (p0 p4 : Nat) (h0 : lv[p0]? = some (0, .ref b)) (h4 : lv[p4]? = some (4, .int (nI i))) (d0 : decode cL_law pc = .ok (.aload_n 0, 1)) (d1 : decode cL_law (pc + 1) = .ok (.iload 4, 2)) (d2 : decode cL_law (pc + 3) = .ok (.iconst z, 1)) (d3 : decode cL_law (pc + 4) = .ok (.iadd, 1)) (d4 : decode cL_law (pc + 5) = .ok (.iaload, 1)) (kk : gz_At x (pc + 6) lv (.int (xs (i + q)) :: st) M) : gz_At x pc lv st M := by
  refine gr_aload_n F.1 d0 p0 rfl h0 ?_
  refine gr_iload F.1 d1 p4 h4 ?_
  refine gr_iconst (nI q) F.1 d2 hz ?_
  refine gr_iadd F.1 d3 ?_
  rw [nI_add]
  exact gr_sld F hq hL d4 kk
theorem gr_callH {y : MethodName} {cc2 : ByteArray} {nL2 n index d2 : Nat} {hh : List (Nat × Nat × Nat × Nat)} {v : Int32} {asF : (Nat → Nat) → List Value} {stk : List Value} (As : List Value) (F : gq_LF x pf l b L xs) (hf : gx_cells x + 1 ≤ (gx_R x).cells ∧ gx_slots x + 6 ≤ (gx_R x).slots) (hM : gz_CH l y cc2 nL2 d2 hh asF pf M v M') (has : asF (gx_ad x) = As) (w1 : Cond.methodLink RL index y ∈ gz_TB) (w2 : Cond.static y ∈ gz_TB) (w3 : Cond.initialized y.cls ∈ gz_TB) (w4 : Cond.codeWith y cc2 nL2 (some .int) hh ∈ gz_TB) (w5 : y.cls ≠ "java/lang/invoke/MethodHandle" ∧ y.cls ≠ "java/lang/invoke/VarHandle" ∧ (parseMethodDescriptor y.desc).map (fun d => d.parameters.length) = some n) (hn : As.length = n) (hd : d2 < 60) (hn2 : nL2 ≤ 20) (hst : stk = As.reverse ++ st) (hW : (st.map fun v => v.category).sum ≤ 8) (dg : decode cL_law pc = .ok (.invokestatic index, 3)) (kk : gz_At (gz_set x (gx_ad x) (gx_pf x) (gx_cells x + 1) (gx_slots x + 6)) (pc + 3) lv (.int v :: st) M') : gz_At x pc lv stk M := by
  intro H locs ls h1 h2 h3
  have X := F.1
  have hM1 := hM (gx_D x) (gx_aC x) (gx_ad x) H.size
  rw [has, ← X.hl] at hM1
  have hp : PreS (gx_s x) H (va_Pc As (gz_BX (gx_D x) gz_cfL (gx_aC x) (gx_ad x) pf M H.size)) As := ⟨gz_BXblind, fun U hU hW2 => gq_BXat X F.2.1 F.2.2.1 h1 h2 hU hW2⟩
  have hR := gz_room (mc := 1) (ms := 6) X hd hn2
  have hG : GoodIn gz_TB (va_wsS RL index y (Cond.codeWith y cc2 nL2 (some .int) hh :: gz_TB)) := by
    intro w hw
    unfold va_wsS at hw
    have hw' : w ∈ gz_TB := by
      simp only [List.cons_append, List.nil_append, List.mem_cons] at hw
      rcases hw with h | h | h | h | h
      · rw [h]; exact w1
      · rw [h]; exact w2
      · rw [h]; exact w3
      · rw [h]; exact w4
      · exact h
    exact ⟨hw', good_of_word (gz_good hw')⟩
  refine va_calli (vx_runSW X.1 hM1 (vx_cwSW n X.hts hG rfl rfl rfl w5 hR) hp rfl hn (h3.1.trans X.hnL) hst (lv_room hW) dg hf) h2 (fun q _ h => gz_free X h2 q h) (gz_free X h2) (fun r u t H1 locs1 ht hvm hw hB hz hk hS => ?_)
  subst hw
  rw [ht] at hB
  exact kk H1 locs1 ls (gz_toM X hB) hS h3
theorem gr_lcmpE {cc : ByteArray} {own : String} {nL d : Nat} {cf : gz_CF} {a : Int64} (X : gz_Ok x cc own nL d cf pf l) (dg : decode cc pc = .ok (.lcmp, 1)) (kk : gz_At x (pc + 1) lv (.int 0 :: st) M) : gz_At x pc lv (.long a :: .long a :: st) M := by
  intro H locs ls h1 h2 h3 T hT Y
  obtain ⟨t, a1, b1⟩ := kk H locs ls h1 h2 h3 T hT Y
  refine ⟨t, ?_, b1⟩
  have hx := X.hx
  have hb := X.hb
  jvm_step Y.here [Y.here.top, hx, hb, dg]
  simpa using a1
theorem gr_lload {cc : ByteArray} {own : String} {nL d : Nat} {cf : gz_CF} {j : Nat} {v : Int64} (X : gz_Ok x cc own nL d cf pf l) (dg : decode cc pc = .ok (.lload j, 2)) (pl : Nat) (hl : lv[pl]? = some (j, .long v)) (kk : gz_At x (pc + 2) lv (.long v :: st) M) : gz_At x pc lv st M := fun H locs ls h1 h2 h3 => lv_lload X.hx X.hb dg (lv_at h3 pl hl) (kk H locs ls h1 h2 h3)
theorem gr_lstore {cc : ByteArray} {own : String} {nL d : Nat} {cf : gz_CF} {j : Nat} {v : Int64} (lv' : List (Nat × Value)) (X : gz_Ok x cc own nL d cf pf l) (dg : decode cc pc = .ok (.lstore j, 2)) (hn : j + 1 < nL) (hl : (j, Value.long v) :: lv.filter (fun q => !(q.1 == j) && (!(q.1 == j + 1) && !(q.1 + 1 == j && q.2.category == 2))) = lv') (kk : gz_At x (pc + 2) lv' st M) : gz_At x pc lv (.long v :: st) M := fun H locs ls h1 h2 h3 => lv_lstore X.hx X.hb dg h3 (by rw [X.hnL]; exact hn) hl (fun ls hl => kk H locs ls h1 h2 hl)
theorem gr_outld {cc : ByteArray} {own : String} {nL d : Nat} (X : gz_Ok x cc own nL d gz_cfL pf l) (dg : decode cc pc = .ok (.laload, 1)) (kk : gz_At x (pc + 1) lv (.long (M.2 2) :: st) M) : gz_At x pc lv (.int 0 :: .ref (gx_ad x 2) :: st) M := by
  have hk := X.kd (gz_kdO pf)
  intro H locs ls h1 h2 h3
  exact va_lald X.hx X.hb X.hK (gz_one h1 hk.1 (hk.2 _ _ _ _)) 0 2 rfl rfl (by unfold vp_in; decide) dg (kk H locs ls h1 h2 h3)
end
