section GL4
variable {x : gz_X} {cc : ByteArray} {own : String} {nL d pc : Nat} {pf pf' : Nat → Bool} {l : Launch} {lv : List (Nat × Value)} {st : List Value} {M M' N : gz_M}
theorem gz_BALblind {av : List Value} {D : va_G} {aC : Nat → ClassId} {ad : Nat → Nat} {sz : Nat} : FrameBlind (va_Pc av (gz_BAL D aC ad pf M sz)) := by
  intro a U g mk q
  obtain ⟨q0, ⟨q1, q2, q3, q4, q5⟩, q6⟩ := q
  exact ⟨q0, ⟨q1, q2, va_K.moved (u := U) (U := U.calling g mk a) (Vm.Alike.refl U.vm) q3, q4, gz_Nst.same (u := U) (U := U.calling g mk a) rfl q5⟩, gc_AO.same (u := U) (U := U.calling g mk a) rfl q6⟩
theorem gz_runVAL {y : MethodName} {cc2 : ByteArray} {nL2 n index kb d2 ci N mc ms : Nat} {C : String} {T : u_T} {rt : Option FieldType} {Qc : Array Value → State → Outcome → State → Prop} {free : Addr → Prop} {As : List Value} {fs : List Value} {H : Heap} {locs : List Loc} {ls : Array Slot} {stk : List Value} (X : gz_Ok x cc own nL d gz_cfL pf l) (hAO : gc_AO (gx_s x)) (h1 : gz_mw (gx_D x) (gx_cl x) (gx_cf x) (gx_aC x) (gx_ad x) (gx_pf x) M H) (h3 : ls.size = nL) (hM : Met (gx_l x) y (Cond.code y cc2 nL2 rt :: gz_TB) (gz_rm d2 mc ms) (va_Pc (Value.ref (gx_ad x kb) :: As) (gz_BAL (gx_D x) (gx_aC x) (gx_ad x) pf M H.size)) Qc mc ms free) (w : gz_WV own index C y cc2 nL2 n rt) (hn : As.length = n) (hk : (gx_cf x).1 (gx_pf x) kb = true) (hc2 : (gx_cf x).2 (gx_aC x) (gx_ad x) (gx_pf x) kb (M.1 kb) M.2 = .inr (ci, fs)) (hc : gz_cls[ci]? = some (C, T, N)) (hd : d2 < d) (hn2 : nL2 ≤ 20) (hst : stk = As.reverse ++ .ref (gx_ad x kb) :: st) (hW : (st.map fun v => v.category).sum ≤ 8) (hf : gx_cells x + mc ≤ (gx_R x).cells ∧ gx_slots x + ms ≤ (gx_R x).slots) (dg : decode cc pc = .ok (.invokevirtual index, 3)) : va_Run (gx_p x) (gx_l x) (gx_e x) (gx_R x) (gx_s x) (gx_m x) (gx_args x) (gx_below x) (gx_meth x) (gx_c x) H locs (gx_cells x) (gx_slots x) mc ms (F0 (gx_m x) pc ls stk) st (Qc (Value.ref (gx_ad x kb) :: As).toArray) free := by
  obtain ⟨w1, w2, w3, w4, w5, w6⟩ := w
  have hP := gz_one h1 hk hc2
  have hc' : (gx_cl x)[ci]? = some (C, T, N) := by rw [X.hcl]; exact hc
  have hp : PreV (gx_s x) H C (gx_ad x kb) (va_Pc (Value.ref (gx_ad x kb) :: As) (gz_BAL (gx_D x) (gx_aC x) (gx_ad x) pf M H.size)) As := ⟨gz_BALblind, va_recv X.hK hP (ci := ci) (q0 := 0) hc' rfl, fun U hU hW2 => by
    have h9 := gz_Bat X h1 (av := Value.ref (gx_ad x kb) :: As) hU hW2
    exact ⟨h9.1, h9.2, hAO.warm hW2⟩⟩
  have hR := gz_room (mc := mc) (ms := ms) X hd hn2
  rcases w1 with w1 | ⟨host, w1⟩
  · exact va_runV X.1 hM ⟨callB_of n X.hts (gz_goodIn w5) rfl rfl rfl (X.hts _ w4) (X.hts _ w1) w6 hR, X.hts _ w2, X.hts _ w3⟩ hp rfl hn h3 hst (lv_room hW) dg hf
  · exact va_runVN X.1 hM ⟨va_cnB n X.hts (gz_goodIn w5) rfl rfl rfl (X.hN _ w1) (X.hts _ w4) w6 hR, X.hts _ w2, X.hts _ w3⟩ hp rfl hn h3 hst (lv_room hW) dg hf
theorem gr_callAIL {y : MethodName} {cc2 : ByteArray} {nL2 n index kb d2 ci N k : Nat} {C : String} {T : u_T} {rt : FieldType} {r : Int32} {asF : (Nat → Nat) → List Value} {fs : List Value} {stk : List Value} (As : List Value) (X : gz_Ok x cc own nL d gz_cfL pf l) (hAO : gc_AO (gx_s x)) (hu : gz_UL x (k + 1)) (hM : gz_CAIL l y cc2 nL2 d2 rt asF pf M r M' pf') (has : asF (gx_ad x) = .ref (gx_ad x kb) :: As) (w : gz_WV own index C y cc2 nL2 n (some rt)) (hn : As.length = n) (hk : (gx_cf x).1 (gx_pf x) kb = true) (hc2 : (gx_cf x).2 (gx_aC x) (gx_ad x) (gx_pf x) kb (M.1 kb) M.2 = .inr (ci, fs)) (hc : gz_cls[ci]? = some (C, T, N)) (hd : d2 < d) (hn2 : nL2 ≤ 20) (hst : stk = As.reverse ++ .ref (gx_ad x kb) :: st) (hW : (st.map fun v => v.category).sum ≤ 8) (dg : decode cc pc = .ok (.invokevirtual index, 3)) (kk : ∀ x', gz_StL x x' → gz_Ok x' cc own nL d gz_cfL pf' l → gz_UL x' k → gz_At x' (pc + 3) lv (.int r :: st) M') : gz_At x pc lv stk M := by
  intro H locs ls h1 h2 h3
  have hM1 := hM (gx_D x) (gx_aC x) (gx_ad x) H.size
  rw [has, ← X.hl] at hM1
  have hroom : gx_cells x + 4 ≤ (gx_R x).cells ∧ gx_slots x + 109 ≤ (gx_R x).slots := by
    obtain ⟨h8, h9⟩ := hu
    exact ⟨by omega, by omega⟩
  refine va_calli (gz_runVAL (locs := locs) X hAO h1 (h3.1.trans X.hnL) hM1 w hn hk hc2 hc hd hn2 hst hW hroom dg) h2 (fun q _ h => gz_free X h2 q h) (gz_free X h2) (fun r ad' t H1 locs1 ht hvm hw hB hz hk hS => ?_)
  subst hw
  obtain ⟨p1, p2, p3, p4⟩ := hB
  refine kk (gz_set x ad' pf' (gx_cells x + 4) (gx_slots x + 109)) ⟨⟨ad', pf', _, _, rfl⟩, fun k hk => p1 k (by rw [← X.hpf]; exact hk)⟩ (gz_okSetL X p3 (fun k hk => gz_free X h2 _ (p4 k hk))) ?_ H1 locs1 ls ?_ hS h3
  · obtain ⟨h8, h9⟩ := hu
    exact ⟨by show gx_cells x + 4 + 4 * k ≤ (gx_R x).cells; omega, by show gx_slots x + 109 + 109 * k ≤ (gx_R x).slots; omega⟩
  · show gz_mw (gx_D x) (gx_cl x) (gx_cf x) (gx_aC x) ad' pf' M' H1
    rw [X.hcl, X.hcf, ← ht]; exact p2
end GL4
