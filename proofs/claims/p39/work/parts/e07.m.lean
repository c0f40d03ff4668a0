section
/-! the law's start: what the tables say of it -/
section
variable {s : State} {args : Array Value}
theorem gq_kn (hts : ∀ w ∈ gz_TB, w.before args s = true) : ∃ D : va_G, ∀ (c : Nat) (q : vw_C), gz_cls[c]? = some q → u_Kn s q.1 q.2.1 q.2.2 (D.1 c) (D.2 c) := by
  have h : ∀ c : Nat, ∃ (cC : ClassId) (iS : Nat → Nat), ∀ q : vw_C, gz_cls[c]? = some q → u_Kn s q.1 q.2.1 q.2.2 cC iS := by
    have one : ∀ {C : String} {T : u_T} {N c : Nat}, (∀ w ∈ u_ws C T N, w ∈ gz_TB) → Cond.instantiable C N ∈ gz_TB → gz_cls[c]? = some (C, T, N) → ∃ (cC : ClassId) (iS : Nat → Nat), ∀ q : vw_C, gz_cls[c]? = some q → u_Kn s q.1 q.2.1 q.2.2 cC iS := by
      intro C T N c h1 h2 h3
      obtain ⟨cC, iS, h4⟩ := u_known hts h1 (hts _ h2)
      refine ⟨cC, iS, fun q hq => ?_⟩
      rw [h3] at hq
      cases hq
      exact h4
    intro c
    match c with
    | 0 => exact one gw_X0 (gz_in 172 (by decide +kernel) rfl) rfl
    | 1 => exact one gw_X1 (gz_in 147 (by decide +kernel) rfl) rfl
    | 2 => exact one gw_X2 (gz_in 271 (by decide +kernel) rfl) rfl
    | 3 => exact one gw_X3 (gz_in 134 (by decide +kernel) rfl) rfl
    | 4 => exact one gw_X4 (gz_in 411 (by decide +kernel) rfl) rfl
    | 5 => exact one gw_X5 (gz_in 178 (by decide +kernel) rfl) rfl
    | 6 => exact one gw_X6 (gz_in 346 (by decide +kernel) rfl) rfl
    | 7 => exact one gw_X7 (gz_in 207 (by decide +kernel) rfl) rfl
    | 8 => exact one gw_X8 (gz_in 371 (by decide +kernel) rfl) rfl
    | 9 => exact one gw_X9 (gz_in 393 (by decide +kernel) rfl) rfl
    | 10 => exact one gw_X10 (gz_in 115 (by decide +kernel) rfl) rfl
    | 11 => exact one gw_X11 (gz_in 107 (by decide +kernel) rfl) rfl
    | 12 => exact one gw_X12 (gz_in 1155 (by decide +kernel) rfl) rfl
    | c + 13 => exact ⟨0, fun _ => 0, fun q hq => by simp at hq⟩
  exact ⟨(fun c => Classical.choose (h c), fun c => Classical.choose (Classical.choose_spec (h c))), fun c q hq => Classical.choose_spec (Classical.choose_spec (h c)) q hq⟩
theorem gq_ar1 {ty : FieldType} (h : (Cond.arrayClass ty).before args s = true) : ∃ cA : ClassId, ArrOfT s cA ty ∧ s.vm.findClass ("[" ++ ty.toString) = some cA := by
  obtain ⟨cA, kA, comp, h1, h2, h3⟩ := Cond.arrayClass_spec h
  exact ⟨cA, fun n z => ⟨fun k h => (by cases h), kA, h2, comp, h3⟩, h1⟩
theorem gq_tys (h0 : (Cond.arrayClass .int).before args s = true) (h1 : (Cond.arrayClass .boolean).before args s = true) (h2 : (Cond.arrayClass .long).before args s = true) (h3 : (Cond.arrayClass .byte).before args s = true) (h4 : gc_AO s) : ∃ aC : Nat → ClassId, ∀ (k : Nat) (q : ClassId × FieldType), (gz_tys aC)[k]? = some q → ArrOfT s q.1 q.2 ∧ va_RA s q.1 q.2 := by
  obtain ⟨c0, a0, b0⟩ := gq_ar1 h0
  obtain ⟨c1, a1, b1⟩ := gq_ar1 h1
  obtain ⟨c2, a2, b2⟩ := gq_ar1 h2
  obtain ⟨c3, a3, b3⟩ := gq_ar1 h3
  obtain ⟨p4, c4, k4, _, f4, g4, e4⟩ := Cond.arrayOver_specA h4.1
  obtain ⟨p5, c5, k5, d5, _, f5, g5, e5⟩ := Cond.arrayOver_spec h4.2
  refine ⟨fun j => if j = 0 then c0 else if j = 1 then c1 else if j = 2 then c2 else if j = 3 then c3 else if j = 4 then c4 else c5, fun k q hq => ?_⟩
  match k, hq with
  | 0, hq => cases hq; exact ⟨a0, b0⟩
  | 1, hq => cases hq; exact ⟨a1, b1⟩
  | 2, hq => cases hq; exact ⟨a2, b2⟩
  | 3, hq => cases hq; exact ⟨a3, b3⟩
  | 4, hq => cases hq; exact ⟨fun n z => ⟨fun k h => (by cases h), k4, f4, p4, g4⟩, e4⟩
  | 5, hq => cases hq; exact ⟨fun n z => ⟨fun k h => (by cases h), k5, f5, p5, g5⟩, k5, p5, f5, g5, d5, e5⟩
  | k + 6, hq => simp [gz_tys] at hq
theorem gq_NBt {w : Cond} (hw : w ∈ gz_NB) : w.onTables = true := by
  have h := (List.mem_filter.mp hw).2
  cases w <;> first | rfl | cases h
theorem gq_Nst (hts : ∀ w ∈ lw_tbl, w.before args s = true) : gz_Nst s := fun w hw => va_Nw.of (gq_NBt hw) (hts w (List.mem_filter.mp hw).1)
theorem gq_XBin : gz_XB.all (fun w => decide (w ∈ lw_tbl)) = true := by decide +kernel
theorem gq_Xst (hts : ∀ w ∈ lw_tbl, w.before args s = true) : gz_Xst s := fun w hw => va_Nw.of (gz_XBot hw) (hts w (of_decide_eq_true (List.all_eq_true.mp gq_XBin w hw)))
theorem gq_in {w : Cond} (i : Nat) (h : lw_tbl[i]? = some w) : w ∈ lw_tbl := List.mem_of_getElem? h
theorem gq_AO (hts : ∀ w ∈ lw_tbl, w.before args s = true) : gc_AO s := ⟨hts (Cond.arrayOver (.array .int)) (gq_in 213 (by decide +kernel)), hts (Cond.arrayOver (.object "LongestTokens$Book")) (gq_in 417 (by decide +kernel))⟩
theorem gq_Th (hts : ∀ w ∈ lw_tbl, w.before args s = true) (h1 : (Cond.isRef (.static "java/lang/Throwable" "UNASSIGNED_STACK" "[Ljava/lang/StackTraceElement;")).before args s = true) (h2 : (Cond.isRef (.static "java/lang/Throwable" "SUPPRESSED_SENTINEL" "Ljava/util/List;")).before args s = true) : gz_Th (fun q => s.heap.size ≤ q) s s.heap := ⟨vx_Zqof (hts _ (gq_in 1097 (by decide +kernel))) (hts _ (gq_in 101 (by decide +kernel))) h1 (fun a h g => absurd g (Nat.not_le.mpr h)), vx_Zqof (hts _ (gq_in 1099 (by decide +kernel))) (hts _ (gq_in 101 (by decide +kernel))) h2 (fun a h g => absurd g (Nat.not_le.mpr h))⟩
end
end
section
/-! the law's start: both objects are made -/
def gq_MC : gz_M := (fun k => gc_g (gc_codes11.getD k 0), fun _ => 0)
def gq_M0 (MR : gz_M) : gz_M := gz_pC (gz_pR ((fun _ _ => 0, fun _ => 0) : gz_M) MR) gq_MC
def gq_ad0 (S S2 a2 : Nat) : Nat → Nat := fun k => if k % 3 = 0 then S + k / 3 else if k % 3 = 1 then S2 + k / 3 else a2
theorem gq_tC0 : ∀ j, j < 135 → gz_tC.getD j 0 = gc_codes11.getD j 0 := by decide
section
variable {D : va_G} {aC : Nat → ClassId} {S S2 a2 : Nat} {H : Heap} {MR : gz_M} {cA : ClassId}
theorem gq_ad0C : gz_aC (gq_ad0 S S2 a2) = fun j => S + j := funext fun j => by
  show (if 3 * j % 3 = 0 then S + 3 * j / 3 else _) = _
  rw [if_pos (gz_m0 j), gz_d0]
theorem gq_ad0R : gz_aR (gq_ad0 S S2 a2) = fun j => S2 + j := funext fun j => by
  show (if (3 * j + 1) % 3 = 0 then _ else if (3 * j + 1) % 3 = 1 then S2 + (3 * j + 1) / 3 else _) = _
  rw [if_neg (by omega), if_pos (gz_m1 j), gz_d1]
theorem gq_pf0 {j : Nat} (h : gz_cfC.1 (fun _ => false) j = true) : j < 135 := by
  rcases gz_prs h with h | ⟨t, d, _, _, h, _⟩
  · exact h
  · cases h
theorem gq_mw0 (hC : ∀ i, i < 135 → va_at D gz_cls (S + i, gc_ct aC gc_codes11 S i) H) (hR : gz_mw D gz_cls gz_cfR aC (fun k => S2 + k) (fun _ => false) MR H) (hO : H[a2]? = some (arrV cA 1 (fun _ => defaultValue .long))) (hA : aC 2 = cA) : gz_mw D gz_cls gz_cfL aC (gq_ad0 S S2 a2) (fun _ => false) (gq_M0 MR) H := by
  intro k hk
  rcases gz_L3 hk with ⟨j, rfl, hj⟩ | ⟨j, rfl, hj⟩ | rfl
  · have h135 := gq_pf0 hj
    rw [gz_Lc2]
    have e : gq_ad0 S S2 a2 (3 * j) = S + j := congrFun gq_ad0C j
    rw [e, gq_ad0C, show gz_sC (gq_M0 MR) = gq_MC from gz_sCpC _ _]
    have h2 := hC j h135
    have e3 : gz_cfC.2 aC (fun j => S + j) (fun _ => false) j (gq_MC.1 j) gq_MC.2 = gc_ct aC gc_codes11 S j := by
      show gz_kc (gz_tC.getD j 0) aC (fun j => S + j) (fun _ => false) j (gc_g (gc_codes11.getD j 0)) (fun _ => 0) = _
      rw [gq_tC0 j h135]
      rfl
    rw [e3]
    exact h2
  · rw [gz_Lr2]
    have e : gq_ad0 S S2 a2 (3 * j + 1) = S2 + j := congrFun gq_ad0R j
    rw [e, gq_ad0R, show gz_sR (gq_M0 MR) = MR from (gz_sRpC _ _).trans (gz_sRpR _ _)]
    exact hR j hj
  · show H[a2]? = some (vp_cell (aC 2) (1, .inr (.inl (fun i => (gq_M0 MR).2 (3 * i + 2)))))
    rw [hO, vp_cell_l, hA]
    refine congrArg some (gc_arrExt fun j hj => ?_)
    obtain rfl : j = 0 := by omega
    rfl
theorem gq_inj0 (h1 : S + 135 ≤ S2) (h2 : S2 + 36 ≤ a2) : gz_inj gz_cfL (gq_ad0 S S2 a2) (fun _ => false) := by
  have e0 : ∀ j, gq_ad0 S S2 a2 (3 * j) = S + j := fun j => congrFun gq_ad0C j
  have e1 : ∀ j, gq_ad0 S S2 a2 (3 * j + 1) = S2 + j := fun j => congrFun gq_ad0R j
  have e2 : gq_ad0 S S2 a2 2 = a2 := rfl
  intro i k hi hk e
  rcases gz_L3 hi with ⟨i, rfl, hi1⟩ | ⟨i, rfl, hi1⟩ | rfl <;> rcases gz_L3 hk with ⟨k, rfl, hk1⟩ | ⟨k, rfl, hk1⟩ | rfl
  · rw [e0, e0] at e; omega
  · have := gq_pf0 hi1
    rw [e0, e1] at e; omega
  · have := gq_pf0 hi1
    rw [e0, e2] at e; omega
  · have := gq_pf0 hk1
    rw [e0, e1] at e; omega
  · rw [e1, e1] at e; omega
  · have : i < 36 := of_decide_eq_true hi1
    rw [e1, e2] at e; omega
  · have := gq_pf0 hk1
    rw [e0, e2] at e; omega
  · have : k < 36 := of_decide_eq_true hk1
    rw [e1, e2] at e; omega
  · rfl
theorem gq_A0 {k : Nat} (hk : gz_cfL.1 (fun _ => false) k = true) (h1 : S ≤ S2) (h2 : S ≤ a2) : S ≤ gq_ad0 S S2 a2 k := by
  unfold gq_ad0
  split
  · omega
  · split <;> omega
end
set_option maxRecDepth 100000 in
theorem gq_start {B : Prop} {p : Program} {e : Env} {s : State} {m : MethodId} {below : List Frame} {meth : Method} {c : Code} {l : Launch} {b L : Nat} {xs : Nat → Int32} {Q : State → Prop} {MR : gz_M} (hl9 : l.stackTraces = false) (hbnd : B → ∀ z, gp_okB z → gp_bnd (gp_tab z.1)) (hL : L ≤ 3072) (hx : p.tables.exec = Jvm.exec) (hb : c.code = cL_law) (hml : c.maxLocals = 8) (hown : s.vm.findClass RL = some m.cls) (hts0 : ∀ w ∈ lw_tbl, w.before #[Value.ref b] s = true) (hX : va_X b L xs s s.heap) (hbl : b < s.heap.size) (hlocks : meth.locks = false) (hz1 : (Cond.isRef (.static "java/lang/Throwable" "UNASSIGNED_STACK" "[Ljava/lang/StackTraceElement;")).before #[Value.ref b] s = true) (hz2 : (Cond.isRef (.static "java/lang/Throwable" "SUPPRESSED_SENTINEL" "Ljava/util/List;")).before #[Value.ref b] s = true) (hf : f12_layRules 1 gc_M0R = some MR) (hR : gp_R B (fun _ => false) gq_MC MR) (hend : ∀ H ls, W p l e room_1 s m #[Value.ref b] below meth c H [] 601024 7293034 Q (F0 m 1355 ls [.int 1])) : W p l e room_1 s m #[Value.ref b] below meth c s.heap [] 0 0 Q (entryFrame m ([Value.ref b] : List Value).toArray 8) := by
  have hts : ∀ w ∈ gz_TB, w.before #[Value.ref b] s = true := fun w hw => hts0 w (List.mem_filter.mp hw).1
  have hAO := gq_AO hts0
  have hN := gq_Nst hts0
  obtain ⟨D, hD⟩ := gq_kn hts
  obtain ⟨aC, haC⟩ := gq_tys (hts _ (gz_in (w := .arrayClass .int) 132 (by decide +kernel) rfl)) (hts _ (gz_in (w := .arrayClass .boolean) 269 (by decide +kernel) rfl)) (hts _ (gz_in (w := .arrayClass .long) 478 (by decide +kernel) rfl)) (hts _ (gz_in (w := .arrayClass .byte) 1394 (by decide +kernel) rfl)) hAO
  have hK : va_K D gz_cls (gz_tys aC) s := ⟨hD, haC⟩
  have hfix : CallFix p m c cL_law 8 s #[Value.ref b] gz_TB RL := ⟨hx, hb, hml, hown, hts⟩
  have hl := lv_entry ([.ref b]) (n := 8) (Nat.le_of_ble_eq_true rfl)
  rw [lg_entry_eq]
  generalize (lg_sl ([.ref b]) ++ List.replicate (8 - (lg_sl ([.ref b])).length) Slot.unset).toArray = ls at hl ⊢
  have hl : lv_has ls 8 [(0, .ref b)] := hl
  have hA : ∀ q : Nat, s.heap.size ≤ q → (fun q : Nat => s.heap.size ≤ q) q := fun _ h => h
  -- the class's object
  have hKn1 := hK.1 11 _ rfl
  refine W.newcK hx hb hown (hts _ (gz_in (w := .classLink RL 8 RX11) 106 (by decide +kernel) rfl)) (hts _ (gz_in (w := .instantiable RX11 16) 107 (by decide +kernel) rfl)) (hts _ (gz_in (w := .initialized RX11) 85 (by decide +kernel) rfl)) rfl dL_law_0 (Nat.le_of_ble_eq_true rfl) (Nat.le_of_ble_eq_true rfl) hKn1.2.1 rfl fun H1 kC hkC e1 z1 o1 => ?_
  have v1 : va_at D gz_cls (s.heap.size, .inr (11, [.null, .null, .null, .null, .null, .null, .null, .null, .null, .null, .null, .null, .null, .null, .null, .int 0])) H1 := ⟨_, rfl, (u_born tyX11 hts gw_X11 hKn1 hkC e1 tyX11_ok).to gc_dflt11⟩
  have hS1 : va_S (fun q : Nat => s.heap.size ≤ q) s.heap H1 [] := ⟨by omega, fun q h1 _ => o1 q h1, fun q h => by cases h⟩
  refine lv_dup hx hb dL_law_3 rfl ?_
  refine va_callv (va_runI (As := []) (rest := [.ref s.heap.size]) hfix (gc_init11 (l := l) D aC s.heap.size) (cwI 0 hts (gz_goodIn (gz_in (w := .code yX11_init cX11_init 1 none) 110 (by decide +kernel) rfl)) rfl rfl rfl (hts _ (gz_in (w := .initialized yX11_init.cls) 85 (by decide +kernel) rfl)) (hts _ (gz_in (w := .methodLink RL 26 yX11_init) 108 (by decide +kernel) rfl)) (hts _ (gz_in (w := .instanceMethod yX11_init) 109 (by decide +kernel) rfl)) rfl (by decide +kernel) ⟨Nat.le_of_ble_eq_true rfl, Nat.le_of_ble_eq_true rfl⟩) ⟨gc_blind, fun U hU hW2 => ⟨rfl, by rw [hU]; exact z1, by rw [hU]; exact v1, va_K.moved hW2.alike hK, hN.warm hW2, hAO.warm hW2⟩⟩ rfl rfl hl.1 rfl (lv_room (Nat.le_of_ble_eq_true rfl)) dL_law_4 ⟨Nat.le_of_ble_eq_true rfl, Nat.le_of_ble_eq_true rfl⟩) hS1 (fun q _ h => h) (fun q h => h) (fun u t H2 locs2 ht hvm hw hB hy2 hk2 hS2 => ?_)
  obtain ⟨z2, v2⟩ := hB
  rw [ht] at z2 v2
  have z2 : H2.size = s.heap.size + 135 := z2
  have v2 : ∀ i, i < 135 → va_at D gz_cls (s.heap.size + i, gc_ct aC gc_codes11 s.heap.size i) H2 := v2
  refine lv_astore_n (lv' := [(1, .ref s.heap.size), (0, .ref b)]) hx hb dL_law_7 rfl hl (by decide) rfl (fun ls hl => ?_)
  -- the reference's
  have hKn2 := hK.1 12 _ rfl
  refine W.newcK hx hb hown (hts _ (gz_in (w := .classLink RL 27 RX12) 1154 (by decide +kernel) rfl)) (hts _ (gz_in (w := .instantiable RX12 55) 1155 (by decide +kernel) rfl)) (hts _ (gz_in (w := .initialized RX12) 97 (by decide +kernel) rfl)) rfl dL_law_8 (Nat.le_of_ble_eq_true rfl) (Nat.le_of_ble_eq_true rfl) hKn2.2.1 z2 fun H3 kC3 hkC3 e3 z3 o3 => ?_
  have v3 := (⟨_, rfl, (u_born tyX12 hts gw_X12 hKn2 hkC3 e3 tyX12_ok).to gc_dflt12⟩ : va_at D gz_cls (s.heap.size + 135, .inr (12, _)) H3)
  have hS3 : va_S (fun q : Nat => s.heap.size ≤ q) s.heap H3 locs2 := ⟨by omega, fun q h1 h2 => (o3 q (by omega)).trans (hS2.2.1 q h1 h2), hS2.2.2⟩
  refine lv_dup hx hb dL_law_11 rfl ?_
  refine va_callv (va_runI (As := []) (rest := [.ref (s.heap.size + 135)]) hfix (gc_initM (l := l) hf D aC (s.heap.size + 135)) (cwI 0 hts (gz_goodIn (gz_in (w := .code yX12_init cX12_init 1 none) 1158 (by decide +kernel) rfl)) rfl rfl rfl (hts _ (gz_in (w := .initialized yX12_init.cls) 97 (by decide +kernel) rfl)) (hts _ (gz_in (w := .methodLink RL 29 yX12_init) 1156 (by decide +kernel) rfl)) (hts _ (gz_in (w := .instanceMethod yX12_init) 1157 (by decide +kernel) rfl)) rfl (by decide +kernel) ⟨Nat.le_of_ble_eq_true rfl, Nat.le_of_ble_eq_true rfl⟩) ⟨gc_blind, fun U hU hW2 => ⟨rfl, by rw [hU]; exact z3, by rw [hU]; exact v3, va_K.moved hW2.alike hK, hN.warm hW2, hAO.warm hW2⟩⟩ rfl rfl hl.1 rfl (lv_room (Nat.le_of_ble_eq_true rfl)) dL_law_12 ⟨Nat.le_of_ble_eq_true rfl, Nat.le_of_ble_eq_true rfl⟩) hS3 (fun q _ h => by show s.heap.size ≤ q; have : s.heap.size + 135 ≤ q := h; omega) (fun q h => by show s.heap.size ≤ q; have : s.heap.size + 135 ≤ q := h; omega) (fun u t H4 locs4 ht hvm hw hB hy4 hk4 hS4 => ?_)
  rw [ht] at hB
  have z4 : s.heap.size + 135 + 36 ≤ H4.size := by
    have := (hB 35 rfl).lt
    have : s.heap.size + 135 + 35 < H4.size := this
    omega
  refine lv_astore_n (lv' := [(2, .ref (s.heap.size + 135)), (1, .ref s.heap.size), (0, .ref b)]) hx hb dL_law_15 rfl hl (by decide) rfl (fun ls hl => ?_)
  refine lv_iconst (v := 1) hx hb dL_law_16 (by decide) ?_
  -- the row out
  refine va_newaK (atype := .long) hx hb (hts _ (gz_in (w := .arrayClass .long) 478 (by decide +kernel) rfl)) rfl dL_law_17 rfl (by decide) (N := 1) (by decide) (by decide) (Nat.le_of_ble_eq_true rfl) (Nat.le_of_ble_eq_true rfl) rfl fun H5 cA e5 z5 o5 hAr hNm => ?_
  refine lv_astore_n (lv' := [(3, .ref H4.size), (2, .ref (s.heap.size + 135)), (1, .ref s.heap.size), (0, .ref b)]) hx hb dL_law_19 rfl hl (by decide) rfl (fun ls hl => ?_)
  refine lv_iconst (v := 0) hx hb dL_law_20 (by decide) ?_
  refine lv_istore (lv' := [(4, .int 0), (3, .ref H4.size), (2, .ref (s.heap.size + 135)), (1, .ref s.heap.size), (0, .ref b)]) hx hb dL_law_21 hl (by decide) rfl (fun ls hl => ?_)
  have hcA : aC 2 = cA := Option.some.inj ((hK.2 2 _ rfl).2.symm.trans hNm)
  have hS5 : va_S (fun q : Nat => s.heap.size ≤ q) s.heap H5 locs4 := ⟨by omega, fun q h1 h2 => (o5 q (by omega)).trans (hS4.2.1 q h1 h2), hS4.2.2⟩
  have v5 : ∀ i, i < 135 → va_at D gz_cls (s.heap.size + i, gc_ct aC gc_codes11 s.heap.size i) H5 := fun i hi => (v2 i hi).kept (by
    show H5[s.heap.size + i]? = H2[s.heap.size + i]?
    rw [o5 _ (by omega), hk4 _ (by omega) (by show ¬ s.heap.size + 135 ≤ s.heap.size + i; omega), o3 _ (by omega)])
  have w5 : gz_mw D gz_cls gz_cfR aC (fun k => s.heap.size + 135 + k) (fun _ => false) MR H5 := fun k hk => (hB k hk).kept (o5 _ (hB k hk).lt)
  have mw := gq_mw0 v5 w5 e5 hcA
  let x : gz_X := (p, l, e, room_1, s, m, #[Value.ref b], below, meth, c, Q, (fun q : Nat => s.heap.size ≤ q), D, aC, gz_cfL, gq_ad0 s.heap.size (s.heap.size + 135) H4.size, (fun _ => false), 8, 172, 219257, gz_cls)
  have X : gz_Ok x cL_law RL 8 60 gz_cfL (fun _ => false) l := ⟨hfix, rfl, hK, gq_inj0 (Nat.le_refl _) z4, fun k hk => gq_A0 hk (by omega) (by omega), fun q h => h, hlocks, Nat.le_of_ble_eq_true rfl, Nat.le_of_ble_eq_true rfl, hN, rfl, rfl, rfl, rfl⟩
  have F : gq_LF x (fun _ => false) l b L xs := ⟨X, gq_Xst hts0, gq_Th hts0 hz1 hz2, hAO, hX, hbl, Nat.not_le.mpr hbl⟩
  have hu : gz_UL x 512 := ⟨Nat.le_of_ble_eq_true rfl, Nat.le_of_ble_eq_true rfl⟩
  have hRR : gp_R B (fun _ => false) (gz_sC (gq_M0 MR)) (gz_sR (gq_M0 MR)) := by
    rw [show gz_sC (gq_M0 MR) = gq_MC from gz_sCpC _ _, show gz_sR (gq_M0 MR) = MR from (gz_sRpC _ _).trans (gz_sRpR _ _)]
    exact hR
  have hE : gq_E x l := by
    intro x' pf' M' lv hst X' hu' H locs ls h1 h2 h3
    obtain ⟨⟨ad', pf2, c', s', rfl⟩, _⟩ := hst
    obtain ⟨u1, u2⟩ := hu'
    refine va_forget (fun q hq => h2.2.2 q hq) ?_
    have g1 : c' ≤ 601024 := by
      have : c' + 4 * 0 ≤ 601024 := u1
      omega
    have g2 : s' ≤ 7293034 := by
      have : s' + 109 * 0 ≤ 7293034 := u2
      omega
    refine W.widen (k := 601024) (n := 7293034) g1 g2 ?_
    exact hend H ls
  have hl2 : lv_has ls 8 (gq_lv x b 0) := lv_sub hl [4, 3, 2, 1, 0] rfl
  exact gq_loop hl9 hbnd hL 512 x (fun _ => false) (gq_M0 MR) 0 F (by omega) (by omega) hu hRR hE H5 locs4 ls mw hS5 hl2
end
section
/-! both worlds as they are made -/
theorem gq_ok0 : gp_ok [] := ⟨Nat.zero_le _, gp_s0, rfl, Or.inl rfl, fun m _ => Nat.zero_le _⟩
theorem gq_tab0 : gp_tab [] = (0, fun _ => 0, fun _ _ => 0) := rfl
theorem gq_gR (k i : Nat) (hk : k < 36 := by omega) : gc_M0R.1 k i = 0 := by
  show gc_g (gz_tR.getD k 0) i = 0
  have : ∀ k, k < 36 → gz_tR.getD k 0 ≠ 4 ∧ gz_tR.getD k 0 ≠ 16 ∧ gz_tR.getD k 0 ≠ 0 := by decide
  obtain ⟨a, b, c⟩ := this k hk
  unfold gc_g
  rw [if_neg a, if_neg b, if_neg c]
theorem gq_RR0 (B : Prop) : ∃ MR, f12_layRules 1 gc_M0R = some MR ∧ gp_R B (fun _ => false) gq_MC MR := by
  obtain ⟨MR, e1, e2, e3⟩ := gp_lay (M := gc_M0R) (k0 := 1) (t := []) (by omega) gq_ok0 (fun i hi => absurd hi (Nat.not_lt_zero _)) (gq_gR 1 0) (fun i hi => absurd hi (Nat.not_lt_zero _))
  have hw : gp_wT (gp_tab []) := gp_tab_w (fun i hi => absurd hi (Nat.not_lt_zero _)) gq_ok0
  refine ⟨MR, e1, 30, [], ([], []), [], fun _ => none, 0, ⟨hw, ?_, e3, ⟨Nat.zero_le _, rfl, fun i hi => absurd hi (Nat.not_lt_zero _)⟩, ⟨Nat.zero_le _, ?_, fun i hi => absurd hi (Nat.not_lt_zero _)⟩, ⟨Or.inl rfl, rfl, ⟨rfl, rfl, fun i hi => absurd hi (Nat.not_lt_zero _)⟩, Nat.zero_le _⟩, rfl, [], [], Nat.zero_le _, Nat.zero_le _, ⟨rfl, fun i hi => absurd hi (Nat.not_lt_zero _)⟩, ⟨?_, fun i hi => absurd hi (Nat.not_lt_zero _)⟩, fun _ => rfl⟩, ⟨gq_ok0, fun i hi => absurd hi (Nat.not_lt_zero _), Nat.zero_le _, fun i hi => absurd hi (Nat.not_lt_zero _)⟩, ⟨Nat.zero_le _, rfl, fun i hi => absurd hi (Nat.not_lt_zero _)⟩, ⟨Nat.zero_le _, ?_, fun i hi => absurd hi (Nat.not_lt_zero _)⟩, ⟨Nat.zero_le _, rfl, fun i hi => absurd hi (Nat.not_lt_zero _)⟩, ⟨?_, fun i hi => absurd hi (Nat.not_lt_zero _), ?_, fun i hi => absurd hi (Nat.not_lt_zero _)⟩, fun j _ => rfl, ⟨by omega, Nat.zero_le _, rfl, rfl, fun i hi => absurd hi (Nat.not_lt_zero _)⟩, fun u h => absurd h List.not_mem_nil, ⟨?_, fun i hi => absurd hi (Nat.not_lt_zero _)⟩, fun i hi => ⟨rfl, ?_⟩⟩
  · refine ⟨rfl, fun j hj => absurd hj (Nat.not_lt_zero _), fun m hm => ?_⟩
    match m, hm with
    | 0, _ => exact ⟨rfl, rfl, fun x _ => rfl, fun x _ => rfl⟩
    | 1, _ => exact ⟨rfl, rfl, fun x _ => rfl, fun x _ => rfl⟩
    | 2, _ => exact ⟨rfl, rfl, fun x _ => rfl, fun x _ => rfl⟩
    | 3, _ => exact ⟨rfl, rfl, fun x _ => rfl, fun x _ => rfl⟩
    | m + 4, h => exact absurd h (by omega)
  · rw [e2.2.1 1 (by omega) (by omega)]; exact gq_gR 1 81
  · rw [e2.2.2 4 (by omega)]; exact gq_gR 0 4
  · rw [e2.2.2 2 (by omega)]; exact gq_gR 0 2
  · rw [e2.2.1 1 (by omega) (by omega)]; exact gq_gR 1 0
  · rw [e2.2.1 1 (by omega) (by omega)]; exact gq_gR 1 81
  · rw [e2.2.2 51 (by omega)]; exact gq_gR 0 51
  · rw [e2.2.1 22 (by omega) (by omega)]; exact gq_gR 22 i
end
