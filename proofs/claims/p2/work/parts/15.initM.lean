
section GKM
def gc_x (x : gz_X) (cf : gz_CF) (q c s : Nat) : gz_X := (gx_p x, gx_l x, gx_e x, gx_R x, gx_s x, gx_m x, gx_args x, gx_below x, gx_meth x, gx_c x, gx_Q x, gx_A x, gx_D x, gx_aC x, cf, (fun k => q + k), (fun _ => false), gx_nL x, c, s, gz_cls)
theorem gc_okX {x : gz_X} {cc : ByteArray} {own : String} {nL d q c s : Nat} {l : Launch} {cf : gz_CF} (X : gc_Ok x cc own nL d q l) : gz_Ok (gc_x x cf q c s) cc own nL d cf (fun _ => false) l := ⟨X.1, X.2.1, X.2.2.1, fun i j _ _ h => by have h2 : q + i = q + j := h; omega, fun k _ => X.2.2.2.1 _ (by show q ≤ q + k; omega), fun a h => X.2.2.2.1 a (by have h2 : (gx_s x).heap.size ≤ a := h; rw [X.2.2.2.2.1] at h2; omega), X.2.2.2.2.2.1, X.2.2.2.2.2.2.1, X.2.2.2.2.2.2.2.1, X.2.2.2.2.2.2.2.2.1, rfl, rfl, X.2.2.2.2.2.2.2.2.2.1, rfl⟩
theorem gc_toAt {x : gz_X} {ci q pc n c s : Nat} {codes : List Nat} {lv : List (Nat × Value)} {st fs : List Value} (cf : gz_CF) (M0 : gz_M) (h : ∀ i, cf.1 (fun _ => false) i = true → i < n ∧ (i = 0 → cf.2 (gx_aC x) (fun k => q + k) (fun _ => false) 0 (M0.1 0) M0.2 = .inr (ci, fs)) ∧ (1 ≤ i → cf.2 (gx_aC x) (fun k => q + k) (fun _ => false) i (M0.1 i) M0.2 = gc_ct (gx_aC x) codes q i)) (kk : gz_At (gc_x x cf q c s) pc lv st M0) : gc_At x ci codes q pc lv st fs n c s := by
  intro H locs ls h0 h1 h2 h3 h4
  refine kk H locs ls (fun k hk => ?_) h3 h4
  obtain ⟨a1, a2, a3⟩ := h k hk
  show va_at (gx_D x) gz_cls (q + k, cf.2 (gx_aC x) (fun k => q + k) (fun _ => false) k (M0.1 k) M0.2) H
  rcases Nat.eq_zero_or_pos k with rfl | g
  · rw [a2 rfl]; exact h1
  · rw [a3 g]; exact h2 k g a1
def gc_M0R : gz_M := (fun k => gc_g (gz_tR.getD k 0), fun _ => 0)
def gc_CM (l : Launch) (M' : gz_M) : Prop := ∀ D aC q, Met l yX12_init (Cond.code yX12_init cX12_init 1 none :: gz_TB) (gz_rm 36 35 212763) (va_Pc [.ref q] (fun U => U.heap.size = q + 1 ∧ va_at D gz_cls (q, .inr (12, [.null, .null, .int 0, .null, .int 0, .int 0, .null, .int 0, .int 0, .int 0, .int 0, .null, .null, .null, .null, .null, .null, .null, .null, .null, .null, .int 0, .int 0, .int 0, .int 0, .null, .int 0, .null, .int 0, .int 0, .null, .int 0, .int 0, .null, .null, .null, .null, .null, .null, .int 0, .null, .null, .null, .null, .int 0, .null, .null, .null, .null, .null, .null, .int 0, .null, .null, .int 0])) U.heap ∧ va_K D gz_cls (gz_tys aC) U ∧ gz_Nst U ∧ gc_AO U)) (va_Qv (fun (_ : Unit) => True) (fun _ t => gz_mw D gz_cls gz_cfR aC (fun k => q + k) (fun _ => false) M' t.heap) (fun a => q ≤ a)) 35 212763 (fun a => q ≤ a)
theorem gc_dflt12 : ∀ j, j < 55 → defaultValue (tyX12 j) = vp_V [.null, .null, .int 0, .null, .int 0, .int 0, .null, .int 0, .int 0, .int 0, .int 0, .null, .null, .null, .null, .null, .null, .null, .null, .null, .null, .int 0, .int 0, .int 0, .int 0, .null, .int 0, .null, .int 0, .int 0, .null, .int 0, .int 0, .null, .null, .null, .null, .null, .null, .int 0, .null, .null, .null, .null, .int 0, .null, .null, .null, .null, .null, .null, .int 0, .null, .null, .int 0] j
  | 0, _ => rfl
  | 1, _ => rfl
  | 2, _ => rfl
  | 3, _ => rfl
  | 4, _ => rfl
  | 5, _ => rfl
  | 6, _ => rfl
  | 7, _ => rfl
  | 8, _ => rfl
  | 9, _ => rfl
  | 10, _ => rfl
  | 11, _ => rfl
  | 12, _ => rfl
  | 13, _ => rfl
  | 14, _ => rfl
  | 15, _ => rfl
  | 16, _ => rfl
  | 17, _ => rfl
  | 18, _ => rfl
  | 19, _ => rfl
  | 20, _ => rfl
  | 21, _ => rfl
  | 22, _ => rfl
  | 23, _ => rfl
  | 24, _ => rfl
  | 25, _ => rfl
  | 26, _ => rfl
  | 27, _ => rfl
  | 28, _ => rfl
  | 29, _ => rfl
  | 30, _ => rfl
  | 31, _ => rfl
  | 32, _ => rfl
  | 33, _ => rfl
  | 34, _ => rfl
  | 35, _ => rfl
  | 36, _ => rfl
  | 37, _ => rfl
  | 38, _ => rfl
  | 39, _ => rfl
  | 40, _ => rfl
  | 41, _ => rfl
  | 42, _ => rfl
  | 43, _ => rfl
  | 44, _ => rfl
  | 45, _ => rfl
  | 46, _ => rfl
  | 47, _ => rfl
  | 48, _ => rfl
  | 49, _ => rfl
  | 50, _ => rfl
  | 51, _ => rfl
  | 52, _ => rfl
  | 53, _ => rfl
  | 54, _ => rfl
  | j + 55, h => by omega

set_option maxRecDepth 100000 in
theorem gc_initM {l : Launch} {M' : gz_M} (hf : f12_layRules 1 gc_M0R = some M') : gc_CM l M' := by
  intro D aC q
  refine gz_MetF (cc := cX12_init) (maxL := 1) (ret := none) (by decide +kernel) rfl ?_
  intro p e s9 m args below meth c9 s₁ B hml hv
  obtain ⟨rfl, hsz, hP, hK, hN, hAO⟩ := hv
  have hl := lv_entry ([.ref q]) (n := 1) (Nat.le_of_ble_eq_true rfl)
  rw [lg_entry_eq]
  generalize (lg_sl [.ref q] ++ List.replicate (1 - (lg_sl [.ref q]).length) Slot.unset).toArray = ls at hl ⊢
  have hRc : (gz_rm 36 35 212763).cells = 35 := rfl
  have hRs : (gz_rm 36 35 212763).slots = 212763 := rfl
  obtain ⟨x, hx⟩ : ∃ x : gz_X, x = (p, l, e, (gz_rm 36 35 212763), s9, m, [Value.ref q].toArray, below, meth, c9, MQ below (va_Qv (fun (_ : Unit) => True) (fun _ t => gz_mw D gz_cls gz_cfR aC (fun k => q + k) (fun _ => false) M' t.heap) (fun a => q ≤ a)) [Value.ref q].toArray s9 35 212763 (fun a => q ≤ a), (fun a => q ≤ a), D, aC, gz_cfC, fun k => q + k, fun _ => false, 1, 0, 0, gz_cls) := ⟨_, rfl⟩
  have X : gc_Ok x cX12_init RX12 1 36 q l := by rw [hx]; exact ⟨⟨B.exec, B.bytes, hml, findClass_of_methodNamed B.named, fun w hw => atoms_spec (ws := Cond.code yX12_init cX12_init 1 none :: gz_TB) B.pre w (List.mem_cons_of_mem _ hw)⟩, rfl, hK, fun k hk => hk, hsz, B.notSynchronized, Nat.le_refl _, Nat.le_refl _, hN, rfl, (name_of_methodNamed B.named B.method).1, hAO⟩
  have hRc : (gx_R x).cells = 35 := by rw [hx]; rfl
  have hRs : (gx_R x).slots = 212763 := by rw [hx]; rfl
  have hE : ∀ pc lv, decode cX12_init pc = .ok (.return_, 1) → gz_At (gc_x x gz_cfR q 35 212763) pc lv [] M' := by
    rw [hx]
    exact fun pc lv dg H locs ls h1 h2 h3 => W.vret B.exec B.bytes B.returns (fun t ht hW => ⟨⟨(), rfl, trivial, by show gz_mw _ _ _ _ _ _ _ t.heap; rw [ht]; exact h1⟩, h2.F ht⟩) h2.2.2 dg
  have go : gc_At x 12 gz_tR q 0 [(0, .ref q)] [] [.null, .null, .int 0, .null, .int 0, .int 0, .null, .int 0, .int 0, .int 0, .int 0, .null, .null, .null, .null, .null, .null, .null, .null, .null, .null, .int 0, .int 0, .int 0, .int 0, .null, .int 0, .null, .int 0, .int 0, .null, .int 0, .int 0, .null, .null, .null, .null, .null, .null, .int 0, .null, .null, .null, .null, .int 0, .null, .null, .null, .null, .null, .null, .int 0, .null, .null, .int 0] 1 0 0 := by
    refine gc_aload_n X dX12_init_0 0 rfl rfl ?_
    refine gc_objInit X (by decide) (gz_in 1159 (by decide +kernel) rfl) (gz_in 112 (by decide +kernel) rfl) (gz_in 113 (by decide +kernel) rfl) (Nat.le_of_ble_eq_true rfl) dX12_init_1 ?_
    refine gc_aload_n X dX12_init_4 0 rfl rfl ?_
    refine gc_bipush 106 X dX12_init_5 (by decide) ?_
    refine gc_newa (N := 106) (t := 0) (ty := .int) X (Nat.le_of_ble_eq_true rfl) rfl rfl (fun _ _ h => h) (gz_in 132 (by decide +kernel) rfl) (by decide) (by decide) (Nat.le_of_ble_eq_true rfl) (by rw [hRc]; exact Nat.le_of_ble_eq_true rfl) (by rw [hRs]; exact Nat.le_of_ble_eq_true rfl) (fun cA hc H h => by subst hc; exact h) dX12_init_7 ?_
    refine gc_put X rfl (Nat.le_of_ble_eq_true rfl) rfl gw_X12 tyX12 tyX12_ok nmX12 (j := 0) (ty := (.array .int)) (by decide) rfl (gz_in 1228 (by decide +kernel) rfl) (by decide +kernel) rfl rfl (Nat.le_of_ble_eq_true rfl) dX12_init_9 ?_
    show gc_At x 12 gz_tR q 12 _ _ [.ref (q + 1), .null, .int 0, .null, .int 0, .int 0, .null, .int 0, .int 0, .int 0, .int 0, .null, .null, .null, .null, .null, .null, .null, .null, .null, .null, .int 0, .int 0, .int 0, .int 0, .null, .int 0, .null, .int 0, .int 0, .null, .int 0, .int 0, .null, .null, .null, .null, .null, .null, .int 0, .null, .null, .null, .null, .int 0, .null, .null, .null, .null, .null, .null, .int 0, .null, .null, .int 0] 2 1 106
    refine gc_aload_n X dX12_init_12 0 rfl rfl ?_
    refine gc_bipush 80 X dX12_init_13 (by decide) ?_
    refine gc_newa (N := 80) (t := 3) (ty := .byte) X (Nat.le_of_ble_eq_true rfl) rfl rfl (fun _ _ h => h) (gz_in 1394 (by decide +kernel) rfl) (by decide) (by decide) (Nat.le_of_ble_eq_true rfl) (by rw [hRc]; exact Nat.le_of_ble_eq_true rfl) (by rw [hRs]; exact Nat.le_of_ble_eq_true rfl) (fun cA hc H h => by subst hc; exact h) dX12_init_15 ?_
    refine gc_put X rfl (Nat.le_of_ble_eq_true rfl) rfl gw_X12 tyX12 tyX12_ok nmX12 (j := 1) (ty := (.array .byte)) (by decide) rfl (gz_in 1229 (by decide +kernel) rfl) (by decide +kernel) rfl rfl (Nat.le_of_ble_eq_true rfl) dX12_init_17 ?_
    show gc_At x 12 gz_tR q 20 _ _ [.ref (q + 1), .ref (q + 2), .int 0, .null, .int 0, .int 0, .null, .int 0, .int 0, .int 0, .int 0, .null, .null, .null, .null, .null, .null, .null, .null, .null, .null, .int 0, .int 0, .int 0, .int 0, .null, .int 0, .null, .int 0, .int 0, .null, .int 0, .int 0, .null, .null, .null, .null, .null, .null, .int 0, .null, .null, .null, .null, .int 0, .null, .null, .null, .null, .null, .null, .int 0, .null, .null, .int 0] 3 2 186
    refine gc_aload_n X dX12_init_20 0 rfl rfl ?_
    refine gc_bipush 64 X dX12_init_21 (by decide) ?_
    refine gc_newa (N := 64) (t := 2) (ty := .long) X (Nat.le_of_ble_eq_true rfl) rfl rfl (fun _ _ h => h) (gz_in 478 (by decide +kernel) rfl) (by decide) (by decide) (Nat.le_of_ble_eq_true rfl) (by rw [hRc]; exact Nat.le_of_ble_eq_true rfl) (by rw [hRs]; exact Nat.le_of_ble_eq_true rfl) (fun cA hc H h => by subst hc; exact h) dX12_init_23 ?_
    refine gc_put X rfl (Nat.le_of_ble_eq_true rfl) rfl gw_X12 tyX12 tyX12_ok nmX12 (j := 3) (ty := (.array .long)) (by decide) rfl (gz_in 1231 (by decide +kernel) rfl) (by decide +kernel) rfl rfl (Nat.le_of_ble_eq_true rfl) dX12_init_25 ?_
    show gc_At x 12 gz_tR q 28 _ _ [.ref (q + 1), .ref (q + 2), .int 0, .ref (q + 3), .int 0, .int 0, .null, .int 0, .int 0, .int 0, .int 0, .null, .null, .null, .null, .null, .null, .null, .null, .null, .null, .int 0, .int 0, .int 0, .int 0, .null, .int 0, .null, .int 0, .int 0, .null, .int 0, .int 0, .null, .null, .null, .null, .null, .null, .int 0, .null, .null, .null, .null, .int 0, .null, .null, .null, .null, .null, .null, .int 0, .null, .null, .int 0] 4 3 250
    refine gc_aload_n X dX12_init_28 0 rfl rfl ?_
    refine gc_bipush 80 X dX12_init_29 (by decide) ?_
    refine gc_newa (N := 80) (t := 0) (ty := .int) X (Nat.le_of_ble_eq_true rfl) rfl rfl (fun _ _ h => h) (gz_in 132 (by decide +kernel) rfl) (by decide) (by decide) (Nat.le_of_ble_eq_true rfl) (by rw [hRc]; exact Nat.le_of_ble_eq_true rfl) (by rw [hRs]; exact Nat.le_of_ble_eq_true rfl) (fun cA hc H h => by subst hc; exact h) dX12_init_31 ?_
    refine gc_put X rfl (Nat.le_of_ble_eq_true rfl) rfl gw_X12 tyX12 tyX12_ok nmX12 (j := 6) (ty := (.array .int)) (by decide) rfl (gz_in 1234 (by decide +kernel) rfl) (by decide +kernel) rfl rfl (Nat.le_of_ble_eq_true rfl) dX12_init_33 ?_
    show gc_At x 12 gz_tR q 36 _ _ [.ref (q + 1), .ref (q + 2), .int 0, .ref (q + 3), .int 0, .int 0, .ref (q + 4), .int 0, .int 0, .int 0, .int 0, .null, .null, .null, .null, .null, .null, .null, .null, .null, .null, .int 0, .int 0, .int 0, .int 0, .null, .int 0, .null, .int 0, .int 0, .null, .int 0, .int 0, .null, .null, .null, .null, .null, .null, .int 0, .null, .null, .null, .null, .int 0, .null, .null, .null, .null, .null, .null, .int 0, .null, .null, .int 0] 5 4 330
    refine gc_aload_n X dX12_init_36 0 rfl rfl ?_
    refine gc_bipush 8 X dX12_init_37 (by decide) ?_
    refine gc_newa (N := 8) (t := 0) (ty := .int) X (Nat.le_of_ble_eq_true rfl) rfl rfl (fun _ _ h => h) (gz_in 132 (by decide +kernel) rfl) (by decide) (by decide) (Nat.le_of_ble_eq_true rfl) (by rw [hRc]; exact Nat.le_of_ble_eq_true rfl) (by rw [hRs]; exact Nat.le_of_ble_eq_true rfl) (fun cA hc H h => by subst hc; exact h) dX12_init_39 ?_
    refine gc_put X rfl (Nat.le_of_ble_eq_true rfl) rfl gw_X12 tyX12 tyX12_ok nmX12 (j := 11) (ty := (.array .int)) (by decide) rfl (gz_in 1239 (by decide +kernel) rfl) (by decide +kernel) rfl rfl (Nat.le_of_ble_eq_true rfl) dX12_init_41 ?_
    show gc_At x 12 gz_tR q 44 _ _ [.ref (q + 1), .ref (q + 2), .int 0, .ref (q + 3), .int 0, .int 0, .ref (q + 4), .int 0, .int 0, .int 0, .int 0, .ref (q + 5), .null, .null, .null, .null, .null, .null, .null, .null, .null, .int 0, .int 0, .int 0, .int 0, .null, .int 0, .null, .int 0, .int 0, .null, .int 0, .int 0, .null, .null, .null, .null, .null, .null, .int 0, .null, .null, .null, .null, .int 0, .null, .null, .null, .null, .null, .null, .int 0, .null, .null, .int 0] 6 5 338
    refine gc_aload_n X dX12_init_44 0 rfl rfl ?_
    refine gc_bipush 8 X dX12_init_45 (by decide) ?_
    refine gc_newa (N := 8) (t := 0) (ty := .int) X (Nat.le_of_ble_eq_true rfl) rfl rfl (fun _ _ h => h) (gz_in 132 (by decide +kernel) rfl) (by decide) (by decide) (Nat.le_of_ble_eq_true rfl) (by rw [hRc]; exact Nat.le_of_ble_eq_true rfl) (by rw [hRs]; exact Nat.le_of_ble_eq_true rfl) (fun cA hc H h => by subst hc; exact h) dX12_init_47 ?_
    refine gc_put X rfl (Nat.le_of_ble_eq_true rfl) rfl gw_X12 tyX12 tyX12_ok nmX12 (j := 12) (ty := (.array .int)) (by decide) rfl (gz_in 1240 (by decide +kernel) rfl) (by decide +kernel) rfl rfl (Nat.le_of_ble_eq_true rfl) dX12_init_49 ?_
    show gc_At x 12 gz_tR q 52 _ _ [.ref (q + 1), .ref (q + 2), .int 0, .ref (q + 3), .int 0, .int 0, .ref (q + 4), .int 0, .int 0, .int 0, .int 0, .ref (q + 5), .ref (q + 6), .null, .null, .null, .null, .null, .null, .null, .null, .int 0, .int 0, .int 0, .int 0, .null, .int 0, .null, .int 0, .int 0, .null, .int 0, .int 0, .null, .null, .null, .null, .null, .null, .int 0, .null, .null, .null, .null, .int 0, .null, .null, .null, .null, .null, .null, .int 0, .null, .null, .int 0] 7 6 346
    refine gc_aload_n X dX12_init_52 0 rfl rfl ?_
    refine gc_bipush 8 X dX12_init_53 (by decide) ?_
    refine gc_newa (N := 8) (t := 0) (ty := .int) X (Nat.le_of_ble_eq_true rfl) rfl rfl (fun _ _ h => h) (gz_in 132 (by decide +kernel) rfl) (by decide) (by decide) (Nat.le_of_ble_eq_true rfl) (by rw [hRc]; exact Nat.le_of_ble_eq_true rfl) (by rw [hRs]; exact Nat.le_of_ble_eq_true rfl) (fun cA hc H h => by subst hc; exact h) dX12_init_55 ?_
    refine gc_put X rfl (Nat.le_of_ble_eq_true rfl) rfl gw_X12 tyX12 tyX12_ok nmX12 (j := 13) (ty := (.array .int)) (by decide) rfl (gz_in 1241 (by decide +kernel) rfl) (by decide +kernel) rfl rfl (Nat.le_of_ble_eq_true rfl) dX12_init_57 ?_
    show gc_At x 12 gz_tR q 60 _ _ [.ref (q + 1), .ref (q + 2), .int 0, .ref (q + 3), .int 0, .int 0, .ref (q + 4), .int 0, .int 0, .int 0, .int 0, .ref (q + 5), .ref (q + 6), .ref (q + 7), .null, .null, .null, .null, .null, .null, .null, .int 0, .int 0, .int 0, .int 0, .null, .int 0, .null, .int 0, .int 0, .null, .int 0, .int 0, .null, .null, .null, .null, .null, .null, .int 0, .null, .null, .null, .null, .int 0, .null, .null, .null, .null, .null, .null, .int 0, .null, .null, .int 0] 8 7 354
    refine gc_aload_n X dX12_init_60 0 rfl rfl ?_
    refine gc_bipush 8 X dX12_init_61 (by decide) ?_
    refine gc_newa (N := 8) (t := 0) (ty := .int) X (Nat.le_of_ble_eq_true rfl) rfl rfl (fun _ _ h => h) (gz_in 132 (by decide +kernel) rfl) (by decide) (by decide) (Nat.le_of_ble_eq_true rfl) (by rw [hRc]; exact Nat.le_of_ble_eq_true rfl) (by rw [hRs]; exact Nat.le_of_ble_eq_true rfl) (fun cA hc H h => by subst hc; exact h) dX12_init_63 ?_
    refine gc_put X rfl (Nat.le_of_ble_eq_true rfl) rfl gw_X12 tyX12 tyX12_ok nmX12 (j := 14) (ty := (.array .int)) (by decide) rfl (gz_in 1242 (by decide +kernel) rfl) (by decide +kernel) rfl rfl (Nat.le_of_ble_eq_true rfl) dX12_init_65 ?_
    show gc_At x 12 gz_tR q 68 _ _ [.ref (q + 1), .ref (q + 2), .int 0, .ref (q + 3), .int 0, .int 0, .ref (q + 4), .int 0, .int 0, .int 0, .int 0, .ref (q + 5), .ref (q + 6), .ref (q + 7), .ref (q + 8), .null, .null, .null, .null, .null, .null, .int 0, .int 0, .int 0, .int 0, .null, .int 0, .null, .int 0, .int 0, .null, .int 0, .int 0, .null, .null, .null, .null, .null, .null, .int 0, .null, .null, .null, .null, .int 0, .null, .null, .null, .null, .null, .null, .int 0, .null, .null, .int 0] 9 8 362
    refine gc_aload_n X dX12_init_68 0 rfl rfl ?_
    refine gc_bipush 8 X dX12_init_69 (by decide) ?_
    refine gc_newa (N := 8) (t := 1) (ty := .boolean) X (Nat.le_of_ble_eq_true rfl) rfl rfl (fun _ _ h => h) (gz_in 269 (by decide +kernel) rfl) (by decide) (by decide) (Nat.le_of_ble_eq_true rfl) (by rw [hRc]; exact Nat.le_of_ble_eq_true rfl) (by rw [hRs]; exact Nat.le_of_ble_eq_true rfl) (fun cA hc H h => by subst hc; exact h) dX12_init_71 ?_
    refine gc_put X rfl (Nat.le_of_ble_eq_true rfl) rfl gw_X12 tyX12 tyX12_ok nmX12 (j := 15) (ty := (.array .boolean)) (by decide) rfl (gz_in 1243 (by decide +kernel) rfl) (by decide +kernel) rfl rfl (Nat.le_of_ble_eq_true rfl) dX12_init_73 ?_
    show gc_At x 12 gz_tR q 76 _ _ [.ref (q + 1), .ref (q + 2), .int 0, .ref (q + 3), .int 0, .int 0, .ref (q + 4), .int 0, .int 0, .int 0, .int 0, .ref (q + 5), .ref (q + 6), .ref (q + 7), .ref (q + 8), .ref (q + 9), .null, .null, .null, .null, .null, .int 0, .int 0, .int 0, .int 0, .null, .int 0, .null, .int 0, .int 0, .null, .int 0, .int 0, .null, .null, .null, .null, .null, .null, .int 0, .null, .null, .null, .null, .int 0, .null, .null, .null, .null, .null, .null, .int 0, .null, .null, .int 0] 10 9 370
    refine gc_aload_n X dX12_init_76 0 rfl rfl ?_
    refine gc_bipush 8 X dX12_init_77 (by decide) ?_
    refine gc_newa (N := 8) (t := 0) (ty := .int) X (Nat.le_of_ble_eq_true rfl) rfl rfl (fun _ _ h => h) (gz_in 132 (by decide +kernel) rfl) (by decide) (by decide) (Nat.le_of_ble_eq_true rfl) (by rw [hRc]; exact Nat.le_of_ble_eq_true rfl) (by rw [hRs]; exact Nat.le_of_ble_eq_true rfl) (fun cA hc H h => by subst hc; exact h) dX12_init_79 ?_
    refine gc_put X rfl (Nat.le_of_ble_eq_true rfl) rfl gw_X12 tyX12 tyX12_ok nmX12 (j := 16) (ty := (.array .int)) (by decide) rfl (gz_in 1244 (by decide +kernel) rfl) (by decide +kernel) rfl rfl (Nat.le_of_ble_eq_true rfl) dX12_init_81 ?_
    show gc_At x 12 gz_tR q 84 _ _ [.ref (q + 1), .ref (q + 2), .int 0, .ref (q + 3), .int 0, .int 0, .ref (q + 4), .int 0, .int 0, .int 0, .int 0, .ref (q + 5), .ref (q + 6), .ref (q + 7), .ref (q + 8), .ref (q + 9), .ref (q + 10), .null, .null, .null, .null, .int 0, .int 0, .int 0, .int 0, .null, .int 0, .null, .int 0, .int 0, .null, .int 0, .int 0, .null, .null, .null, .null, .null, .null, .int 0, .null, .null, .null, .null, .int 0, .null, .null, .null, .null, .null, .null, .int 0, .null, .null, .int 0] 11 10 378
    refine gc_aload_n X dX12_init_84 0 rfl rfl ?_
    refine gc_bipush 8 X dX12_init_85 (by decide) ?_
    refine gc_newa (N := 8) (t := 0) (ty := .int) X (Nat.le_of_ble_eq_true rfl) rfl rfl (fun _ _ h => h) (gz_in 132 (by decide +kernel) rfl) (by decide) (by decide) (Nat.le_of_ble_eq_true rfl) (by rw [hRc]; exact Nat.le_of_ble_eq_true rfl) (by rw [hRs]; exact Nat.le_of_ble_eq_true rfl) (fun cA hc H h => by subst hc; exact h) dX12_init_87 ?_
    refine gc_put X rfl (Nat.le_of_ble_eq_true rfl) rfl gw_X12 tyX12 tyX12_ok nmX12 (j := 17) (ty := (.array .int)) (by decide) rfl (gz_in 1245 (by decide +kernel) rfl) (by decide +kernel) rfl rfl (Nat.le_of_ble_eq_true rfl) dX12_init_89 ?_
    show gc_At x 12 gz_tR q 92 _ _ [.ref (q + 1), .ref (q + 2), .int 0, .ref (q + 3), .int 0, .int 0, .ref (q + 4), .int 0, .int 0, .int 0, .int 0, .ref (q + 5), .ref (q + 6), .ref (q + 7), .ref (q + 8), .ref (q + 9), .ref (q + 10), .ref (q + 11), .null, .null, .null, .int 0, .int 0, .int 0, .int 0, .null, .int 0, .null, .int 0, .int 0, .null, .int 0, .int 0, .null, .null, .null, .null, .null, .null, .int 0, .null, .null, .null, .null, .int 0, .null, .null, .null, .null, .null, .null, .int 0, .null, .null, .int 0] 12 11 386
    refine gc_aload_n X dX12_init_92 0 rfl rfl ?_
    refine gc_iconst 4 X dX12_init_93 (by decide) ?_
    refine gc_newa (N := 4) (t := 0) (ty := .int) X (Nat.le_of_ble_eq_true rfl) rfl rfl (fun _ _ h => h) (gz_in 132 (by decide +kernel) rfl) (by decide) (by decide) (Nat.le_of_ble_eq_true rfl) (by rw [hRc]; exact Nat.le_of_ble_eq_true rfl) (by rw [hRs]; exact Nat.le_of_ble_eq_true rfl) (fun cA hc H h => by subst hc; exact h) dX12_init_94 ?_
    refine gc_put X rfl (Nat.le_of_ble_eq_true rfl) rfl gw_X12 tyX12 tyX12_ok nmX12 (j := 18) (ty := (.array .int)) (by decide) rfl (gz_in 1246 (by decide +kernel) rfl) (by decide +kernel) rfl rfl (Nat.le_of_ble_eq_true rfl) dX12_init_96 ?_
    show gc_At x 12 gz_tR q 99 _ _ [.ref (q + 1), .ref (q + 2), .int 0, .ref (q + 3), .int 0, .int 0, .ref (q + 4), .int 0, .int 0, .int 0, .int 0, .ref (q + 5), .ref (q + 6), .ref (q + 7), .ref (q + 8), .ref (q + 9), .ref (q + 10), .ref (q + 11), .ref (q + 12), .null, .null, .int 0, .int 0, .int 0, .int 0, .null, .int 0, .null, .int 0, .int 0, .null, .int 0, .int 0, .null, .null, .null, .null, .null, .null, .int 0, .null, .null, .null, .null, .int 0, .null, .null, .null, .null, .null, .null, .int 0, .null, .null, .int 0] 13 12 390
    refine gc_aload_n X dX12_init_99 0 rfl rfl ?_
    refine gc_bipush 40 X dX12_init_100 (by decide) ?_
    refine gc_newa (N := 40) (t := 0) (ty := .int) X (Nat.le_of_ble_eq_true rfl) rfl rfl (fun _ _ h => h) (gz_in 132 (by decide +kernel) rfl) (by decide) (by decide) (Nat.le_of_ble_eq_true rfl) (by rw [hRc]; exact Nat.le_of_ble_eq_true rfl) (by rw [hRs]; exact Nat.le_of_ble_eq_true rfl) (fun cA hc H h => by subst hc; exact h) dX12_init_102 ?_
    refine gc_put X rfl (Nat.le_of_ble_eq_true rfl) rfl gw_X12 tyX12 tyX12_ok nmX12 (j := 19) (ty := (.array .int)) (by decide) rfl (gz_in 1247 (by decide +kernel) rfl) (by decide +kernel) rfl rfl (Nat.le_of_ble_eq_true rfl) dX12_init_104 ?_
    show gc_At x 12 gz_tR q 107 _ _ [.ref (q + 1), .ref (q + 2), .int 0, .ref (q + 3), .int 0, .int 0, .ref (q + 4), .int 0, .int 0, .int 0, .int 0, .ref (q + 5), .ref (q + 6), .ref (q + 7), .ref (q + 8), .ref (q + 9), .ref (q + 10), .ref (q + 11), .ref (q + 12), .ref (q + 13), .null, .int 0, .int 0, .int 0, .int 0, .null, .int 0, .null, .int 0, .int 0, .null, .int 0, .int 0, .null, .null, .null, .null, .null, .null, .int 0, .null, .null, .null, .null, .int 0, .null, .null, .null, .null, .null, .null, .int 0, .null, .null, .int 0] 14 13 430
    refine gc_aload_n X dX12_init_107 0 rfl rfl ?_
    refine gc_bipush 40 X dX12_init_108 (by decide) ?_
    refine gc_newa (N := 40) (t := 0) (ty := .int) X (Nat.le_of_ble_eq_true rfl) rfl rfl (fun _ _ h => h) (gz_in 132 (by decide +kernel) rfl) (by decide) (by decide) (Nat.le_of_ble_eq_true rfl) (by rw [hRc]; exact Nat.le_of_ble_eq_true rfl) (by rw [hRs]; exact Nat.le_of_ble_eq_true rfl) (fun cA hc H h => by subst hc; exact h) dX12_init_110 ?_
    refine gc_put X rfl (Nat.le_of_ble_eq_true rfl) rfl gw_X12 tyX12 tyX12_ok nmX12 (j := 20) (ty := (.array .int)) (by decide) rfl (gz_in 1248 (by decide +kernel) rfl) (by decide +kernel) rfl rfl (Nat.le_of_ble_eq_true rfl) dX12_init_112 ?_
    show gc_At x 12 gz_tR q 115 _ _ [.ref (q + 1), .ref (q + 2), .int 0, .ref (q + 3), .int 0, .int 0, .ref (q + 4), .int 0, .int 0, .int 0, .int 0, .ref (q + 5), .ref (q + 6), .ref (q + 7), .ref (q + 8), .ref (q + 9), .ref (q + 10), .ref (q + 11), .ref (q + 12), .ref (q + 13), .ref (q + 14), .int 0, .int 0, .int 0, .int 0, .null, .int 0, .null, .int 0, .int 0, .null, .int 0, .int 0, .null, .null, .null, .null, .null, .null, .int 0, .null, .null, .null, .null, .int 0, .null, .null, .null, .null, .null, .null, .int 0, .null, .null, .int 0] 15 14 470
    refine gc_aload_n X dX12_init_115 0 rfl rfl ?_
    refine gc_bipush 24 X dX12_init_116 (by decide) ?_
    refine gc_newa (N := 24) (t := 0) (ty := .int) X (Nat.le_of_ble_eq_true rfl) rfl rfl (fun _ _ h => h) (gz_in 132 (by decide +kernel) rfl) (by decide) (by decide) (Nat.le_of_ble_eq_true rfl) (by rw [hRc]; exact Nat.le_of_ble_eq_true rfl) (by rw [hRs]; exact Nat.le_of_ble_eq_true rfl) (fun cA hc H h => by subst hc; exact h) dX12_init_118 ?_
    refine gc_put X rfl (Nat.le_of_ble_eq_true rfl) rfl gw_X12 tyX12 tyX12_ok nmX12 (j := 25) (ty := (.array .int)) (by decide) rfl (gz_in 1253 (by decide +kernel) rfl) (by decide +kernel) rfl rfl (Nat.le_of_ble_eq_true rfl) dX12_init_120 ?_
    show gc_At x 12 gz_tR q 123 _ _ [.ref (q + 1), .ref (q + 2), .int 0, .ref (q + 3), .int 0, .int 0, .ref (q + 4), .int 0, .int 0, .int 0, .int 0, .ref (q + 5), .ref (q + 6), .ref (q + 7), .ref (q + 8), .ref (q + 9), .ref (q + 10), .ref (q + 11), .ref (q + 12), .ref (q + 13), .ref (q + 14), .int 0, .int 0, .int 0, .int 0, .ref (q + 15), .int 0, .null, .int 0, .int 0, .null, .int 0, .int 0, .null, .null, .null, .null, .null, .null, .int 0, .null, .null, .null, .null, .int 0, .null, .null, .null, .null, .null, .null, .int 0, .null, .null, .int 0] 16 15 494
    refine gc_aload_n X dX12_init_123 0 rfl rfl ?_
    refine gc_iconst 5 X dX12_init_124 (by decide) ?_
    refine gc_newa (N := 5) (t := 0) (ty := .int) X (Nat.le_of_ble_eq_true rfl) rfl rfl (fun _ _ h => h) (gz_in 132 (by decide +kernel) rfl) (by decide) (by decide) (Nat.le_of_ble_eq_true rfl) (by rw [hRc]; exact Nat.le_of_ble_eq_true rfl) (by rw [hRs]; exact Nat.le_of_ble_eq_true rfl) (fun cA hc H h => by subst hc; exact h) dX12_init_125 ?_
    refine gc_put X rfl (Nat.le_of_ble_eq_true rfl) rfl gw_X12 tyX12 tyX12_ok nmX12 (j := 27) (ty := (.array .int)) (by decide) rfl (gz_in 1255 (by decide +kernel) rfl) (by decide +kernel) rfl rfl (Nat.le_of_ble_eq_true rfl) dX12_init_127 ?_
    show gc_At x 12 gz_tR q 130 _ _ [.ref (q + 1), .ref (q + 2), .int 0, .ref (q + 3), .int 0, .int 0, .ref (q + 4), .int 0, .int 0, .int 0, .int 0, .ref (q + 5), .ref (q + 6), .ref (q + 7), .ref (q + 8), .ref (q + 9), .ref (q + 10), .ref (q + 11), .ref (q + 12), .ref (q + 13), .ref (q + 14), .int 0, .int 0, .int 0, .int 0, .ref (q + 15), .int 0, .ref (q + 16), .int 0, .int 0, .null, .int 0, .int 0, .null, .null, .null, .null, .null, .null, .int 0, .null, .null, .null, .null, .int 0, .null, .null, .null, .null, .null, .null, .int 0, .null, .null, .int 0] 17 16 499
    refine gc_aload_n X dX12_init_130 0 rfl rfl ?_
    refine gc_sipush 300 X dX12_init_131 (by decide) ?_
    refine gc_newa (N := 300) (t := 0) (ty := .int) X (Nat.le_of_ble_eq_true rfl) rfl rfl (fun _ _ h => h) (gz_in 132 (by decide +kernel) rfl) (by decide) (by decide) (Nat.le_of_ble_eq_true rfl) (by rw [hRc]; exact Nat.le_of_ble_eq_true rfl) (by rw [hRs]; exact Nat.le_of_ble_eq_true rfl) (fun cA hc H h => by subst hc; exact h) dX12_init_134 ?_
    refine gc_put X rfl (Nat.le_of_ble_eq_true rfl) rfl gw_X12 tyX12 tyX12_ok nmX12 (j := 30) (ty := (.array .int)) (by decide) rfl (gz_in 1258 (by decide +kernel) rfl) (by decide +kernel) rfl rfl (Nat.le_of_ble_eq_true rfl) dX12_init_136 ?_
    show gc_At x 12 gz_tR q 139 _ _ [.ref (q + 1), .ref (q + 2), .int 0, .ref (q + 3), .int 0, .int 0, .ref (q + 4), .int 0, .int 0, .int 0, .int 0, .ref (q + 5), .ref (q + 6), .ref (q + 7), .ref (q + 8), .ref (q + 9), .ref (q + 10), .ref (q + 11), .ref (q + 12), .ref (q + 13), .ref (q + 14), .int 0, .int 0, .int 0, .int 0, .ref (q + 15), .int 0, .ref (q + 16), .int 0, .int 0, .ref (q + 17), .int 0, .int 0, .null, .null, .null, .null, .null, .null, .int 0, .null, .null, .null, .null, .int 0, .null, .null, .null, .null, .null, .null, .int 0, .null, .null, .int 0] 18 17 799
    refine gc_aload_n X dX12_init_139 0 rfl rfl ?_
    refine gc_ldc 102400 X dX12_init_140 (gz_in 1160 (by decide +kernel) rfl) ?_
    refine gc_newa (N := 102400) (t := 0) (ty := .int) X (Nat.le_of_ble_eq_true rfl) rfl rfl (fun _ _ h => h) (gz_in 132 (by decide +kernel) rfl) (by decide) (by decide) (Nat.le_of_ble_eq_true rfl) (by rw [hRc]; exact Nat.le_of_ble_eq_true rfl) (by rw [hRs]; exact Nat.le_of_ble_eq_true rfl) (fun cA hc H h => by subst hc; exact h) dX12_init_142 ?_
    refine gc_put X rfl (Nat.le_of_ble_eq_true rfl) rfl gw_X12 tyX12 tyX12_ok nmX12 (j := 33) (ty := (.array .int)) (by decide) rfl (gz_in 1261 (by decide +kernel) rfl) (by decide +kernel) rfl rfl (Nat.le_of_ble_eq_true rfl) dX12_init_144 ?_
    show gc_At x 12 gz_tR q 147 _ _ [.ref (q + 1), .ref (q + 2), .int 0, .ref (q + 3), .int 0, .int 0, .ref (q + 4), .int 0, .int 0, .int 0, .int 0, .ref (q + 5), .ref (q + 6), .ref (q + 7), .ref (q + 8), .ref (q + 9), .ref (q + 10), .ref (q + 11), .ref (q + 12), .ref (q + 13), .ref (q + 14), .int 0, .int 0, .int 0, .int 0, .ref (q + 15), .int 0, .ref (q + 16), .int 0, .int 0, .ref (q + 17), .int 0, .int 0, .ref (q + 18), .null, .null, .null, .null, .null, .int 0, .null, .null, .null, .null, .int 0, .null, .null, .null, .null, .null, .null, .int 0, .null, .null, .int 0] 19 18 103199
    refine gc_aload_n X dX12_init_147 0 rfl rfl ?_
    refine gc_ldc 102400 X dX12_init_148 (gz_in 1160 (by decide +kernel) rfl) ?_
    refine gc_newa (N := 102400) (t := 1) (ty := .boolean) X (Nat.le_of_ble_eq_true rfl) rfl rfl (fun _ _ h => h) (gz_in 269 (by decide +kernel) rfl) (by decide) (by decide) (Nat.le_of_ble_eq_true rfl) (by rw [hRc]; exact Nat.le_of_ble_eq_true rfl) (by rw [hRs]; exact Nat.le_of_ble_eq_true rfl) (fun cA hc H h => by subst hc; exact h) dX12_init_150 ?_
    refine gc_put X rfl (Nat.le_of_ble_eq_true rfl) rfl gw_X12 tyX12 tyX12_ok nmX12 (j := 34) (ty := (.array .boolean)) (by decide) rfl (gz_in 1262 (by decide +kernel) rfl) (by decide +kernel) rfl rfl (Nat.le_of_ble_eq_true rfl) dX12_init_152 ?_
    show gc_At x 12 gz_tR q 155 _ _ [.ref (q + 1), .ref (q + 2), .int 0, .ref (q + 3), .int 0, .int 0, .ref (q + 4), .int 0, .int 0, .int 0, .int 0, .ref (q + 5), .ref (q + 6), .ref (q + 7), .ref (q + 8), .ref (q + 9), .ref (q + 10), .ref (q + 11), .ref (q + 12), .ref (q + 13), .ref (q + 14), .int 0, .int 0, .int 0, .int 0, .ref (q + 15), .int 0, .ref (q + 16), .int 0, .int 0, .ref (q + 17), .int 0, .int 0, .ref (q + 18), .ref (q + 19), .null, .null, .null, .null, .int 0, .null, .null, .null, .null, .int 0, .null, .null, .null, .null, .null, .null, .int 0, .null, .null, .int 0] 20 19 205599
    refine gc_aload_n X dX12_init_155 0 rfl rfl ?_
    refine gc_bipush 24 X dX12_init_156 (by decide) ?_
    refine gc_newa (N := 24) (t := 0) (ty := .int) X (Nat.le_of_ble_eq_true rfl) rfl rfl (fun _ _ h => h) (gz_in 132 (by decide +kernel) rfl) (by decide) (by decide) (Nat.le_of_ble_eq_true rfl) (by rw [hRc]; exact Nat.le_of_ble_eq_true rfl) (by rw [hRs]; exact Nat.le_of_ble_eq_true rfl) (fun cA hc H h => by subst hc; exact h) dX12_init_158 ?_
    refine gc_put X rfl (Nat.le_of_ble_eq_true rfl) rfl gw_X12 tyX12 tyX12_ok nmX12 (j := 35) (ty := (.array .int)) (by decide) rfl (gz_in 1263 (by decide +kernel) rfl) (by decide +kernel) rfl rfl (Nat.le_of_ble_eq_true rfl) dX12_init_160 ?_
    show gc_At x 12 gz_tR q 163 _ _ [.ref (q + 1), .ref (q + 2), .int 0, .ref (q + 3), .int 0, .int 0, .ref (q + 4), .int 0, .int 0, .int 0, .int 0, .ref (q + 5), .ref (q + 6), .ref (q + 7), .ref (q + 8), .ref (q + 9), .ref (q + 10), .ref (q + 11), .ref (q + 12), .ref (q + 13), .ref (q + 14), .int 0, .int 0, .int 0, .int 0, .ref (q + 15), .int 0, .ref (q + 16), .int 0, .int 0, .ref (q + 17), .int 0, .int 0, .ref (q + 18), .ref (q + 19), .ref (q + 20), .null, .null, .null, .int 0, .null, .null, .null, .null, .int 0, .null, .null, .null, .null, .null, .null, .int 0, .null, .null, .int 0] 21 20 205623
    refine gc_aload_n X dX12_init_163 0 rfl rfl ?_
    refine gc_sipush 212 X dX12_init_164 (by decide) ?_
    refine gc_newa (N := 212) (t := 0) (ty := .int) X (Nat.le_of_ble_eq_true rfl) rfl rfl (fun _ _ h => h) (gz_in 132 (by decide +kernel) rfl) (by decide) (by decide) (Nat.le_of_ble_eq_true rfl) (by rw [hRc]; exact Nat.le_of_ble_eq_true rfl) (by rw [hRs]; exact Nat.le_of_ble_eq_true rfl) (fun cA hc H h => by subst hc; exact h) dX12_init_167 ?_
    refine gc_put X rfl (Nat.le_of_ble_eq_true rfl) rfl gw_X12 tyX12 tyX12_ok nmX12 (j := 36) (ty := (.array .int)) (by decide) rfl (gz_in 1264 (by decide +kernel) rfl) (by decide +kernel) rfl rfl (Nat.le_of_ble_eq_true rfl) dX12_init_169 ?_
    show gc_At x 12 gz_tR q 172 _ _ [.ref (q + 1), .ref (q + 2), .int 0, .ref (q + 3), .int 0, .int 0, .ref (q + 4), .int 0, .int 0, .int 0, .int 0, .ref (q + 5), .ref (q + 6), .ref (q + 7), .ref (q + 8), .ref (q + 9), .ref (q + 10), .ref (q + 11), .ref (q + 12), .ref (q + 13), .ref (q + 14), .int 0, .int 0, .int 0, .int 0, .ref (q + 15), .int 0, .ref (q + 16), .int 0, .int 0, .ref (q + 17), .int 0, .int 0, .ref (q + 18), .ref (q + 19), .ref (q + 20), .ref (q + 21), .null, .null, .int 0, .null, .null, .null, .null, .int 0, .null, .null, .null, .null, .null, .null, .int 0, .null, .null, .int 0] 22 21 205835
    refine gc_aload_n X dX12_init_172 0 rfl rfl ?_
    refine gc_iconst 2 X dX12_init_173 (by decide) ?_
    refine gc_newa (N := 2) (t := 1) (ty := .boolean) X (Nat.le_of_ble_eq_true rfl) rfl rfl (fun _ _ h => h) (gz_in 269 (by decide +kernel) rfl) (by decide) (by decide) (Nat.le_of_ble_eq_true rfl) (by rw [hRc]; exact Nat.le_of_ble_eq_true rfl) (by rw [hRs]; exact Nat.le_of_ble_eq_true rfl) (fun cA hc H h => by subst hc; exact h) dX12_init_174 ?_
    refine gc_put X rfl (Nat.le_of_ble_eq_true rfl) rfl gw_X12 tyX12 tyX12_ok nmX12 (j := 37) (ty := (.array .boolean)) (by decide) rfl (gz_in 1265 (by decide +kernel) rfl) (by decide +kernel) rfl rfl (Nat.le_of_ble_eq_true rfl) dX12_init_176 ?_
    show gc_At x 12 gz_tR q 179 _ _ [.ref (q + 1), .ref (q + 2), .int 0, .ref (q + 3), .int 0, .int 0, .ref (q + 4), .int 0, .int 0, .int 0, .int 0, .ref (q + 5), .ref (q + 6), .ref (q + 7), .ref (q + 8), .ref (q + 9), .ref (q + 10), .ref (q + 11), .ref (q + 12), .ref (q + 13), .ref (q + 14), .int 0, .int 0, .int 0, .int 0, .ref (q + 15), .int 0, .ref (q + 16), .int 0, .int 0, .ref (q + 17), .int 0, .int 0, .ref (q + 18), .ref (q + 19), .ref (q + 20), .ref (q + 21), .ref (q + 22), .null, .int 0, .null, .null, .null, .null, .int 0, .null, .null, .null, .null, .null, .null, .int 0, .null, .null, .int 0] 23 22 205837
    refine gc_aload_n X dX12_init_179 0 rfl rfl ?_
    refine gc_sipush 300 X dX12_init_180 (by decide) ?_
    refine gc_newa (N := 300) (t := 0) (ty := .int) X (Nat.le_of_ble_eq_true rfl) rfl rfl (fun _ _ h => h) (gz_in 132 (by decide +kernel) rfl) (by decide) (by decide) (Nat.le_of_ble_eq_true rfl) (by rw [hRc]; exact Nat.le_of_ble_eq_true rfl) (by rw [hRs]; exact Nat.le_of_ble_eq_true rfl) (fun cA hc H h => by subst hc; exact h) dX12_init_183 ?_
    refine gc_put X rfl (Nat.le_of_ble_eq_true rfl) rfl gw_X12 tyX12 tyX12_ok nmX12 (j := 38) (ty := (.array .int)) (by decide) rfl (gz_in 1266 (by decide +kernel) rfl) (by decide +kernel) rfl rfl (Nat.le_of_ble_eq_true rfl) dX12_init_185 ?_
    show gc_At x 12 gz_tR q 188 _ _ [.ref (q + 1), .ref (q + 2), .int 0, .ref (q + 3), .int 0, .int 0, .ref (q + 4), .int 0, .int 0, .int 0, .int 0, .ref (q + 5), .ref (q + 6), .ref (q + 7), .ref (q + 8), .ref (q + 9), .ref (q + 10), .ref (q + 11), .ref (q + 12), .ref (q + 13), .ref (q + 14), .int 0, .int 0, .int 0, .int 0, .ref (q + 15), .int 0, .ref (q + 16), .int 0, .int 0, .ref (q + 17), .int 0, .int 0, .ref (q + 18), .ref (q + 19), .ref (q + 20), .ref (q + 21), .ref (q + 22), .ref (q + 23), .int 0, .null, .null, .null, .null, .int 0, .null, .null, .null, .null, .null, .null, .int 0, .null, .null, .int 0] 24 23 206137
    refine gc_aload_n X dX12_init_188 0 rfl rfl ?_
    refine gc_sipush 1024 X dX12_init_189 (by decide) ?_
    refine gc_newa (N := 1024) (t := 0) (ty := .int) X (Nat.le_of_ble_eq_true rfl) rfl rfl (fun _ _ h => h) (gz_in 132 (by decide +kernel) rfl) (by decide) (by decide) (Nat.le_of_ble_eq_true rfl) (by rw [hRc]; exact Nat.le_of_ble_eq_true rfl) (by rw [hRs]; exact Nat.le_of_ble_eq_true rfl) (fun cA hc H h => by subst hc; exact h) dX12_init_192 ?_
    refine gc_put X rfl (Nat.le_of_ble_eq_true rfl) rfl gw_X12 tyX12 tyX12_ok nmX12 (j := 40) (ty := (.array .int)) (by decide) rfl (gz_in 1268 (by decide +kernel) rfl) (by decide +kernel) rfl rfl (Nat.le_of_ble_eq_true rfl) dX12_init_194 ?_
    show gc_At x 12 gz_tR q 197 _ _ [.ref (q + 1), .ref (q + 2), .int 0, .ref (q + 3), .int 0, .int 0, .ref (q + 4), .int 0, .int 0, .int 0, .int 0, .ref (q + 5), .ref (q + 6), .ref (q + 7), .ref (q + 8), .ref (q + 9), .ref (q + 10), .ref (q + 11), .ref (q + 12), .ref (q + 13), .ref (q + 14), .int 0, .int 0, .int 0, .int 0, .ref (q + 15), .int 0, .ref (q + 16), .int 0, .int 0, .ref (q + 17), .int 0, .int 0, .ref (q + 18), .ref (q + 19), .ref (q + 20), .ref (q + 21), .ref (q + 22), .ref (q + 23), .int 0, .ref (q + 24), .null, .null, .null, .int 0, .null, .null, .null, .null, .null, .null, .int 0, .null, .null, .int 0] 25 24 207161
    refine gc_aload_n X dX12_init_197 0 rfl rfl ?_
    refine gc_sipush 1024 X dX12_init_198 (by decide) ?_
    refine gc_newa (N := 1024) (t := 0) (ty := .int) X (Nat.le_of_ble_eq_true rfl) rfl rfl (fun _ _ h => h) (gz_in 132 (by decide +kernel) rfl) (by decide) (by decide) (Nat.le_of_ble_eq_true rfl) (by rw [hRc]; exact Nat.le_of_ble_eq_true rfl) (by rw [hRs]; exact Nat.le_of_ble_eq_true rfl) (fun cA hc H h => by subst hc; exact h) dX12_init_201 ?_
    refine gc_put X rfl (Nat.le_of_ble_eq_true rfl) rfl gw_X12 tyX12 tyX12_ok nmX12 (j := 41) (ty := (.array .int)) (by decide) rfl (gz_in 1269 (by decide +kernel) rfl) (by decide +kernel) rfl rfl (Nat.le_of_ble_eq_true rfl) dX12_init_203 ?_
    show gc_At x 12 gz_tR q 206 _ _ [.ref (q + 1), .ref (q + 2), .int 0, .ref (q + 3), .int 0, .int 0, .ref (q + 4), .int 0, .int 0, .int 0, .int 0, .ref (q + 5), .ref (q + 6), .ref (q + 7), .ref (q + 8), .ref (q + 9), .ref (q + 10), .ref (q + 11), .ref (q + 12), .ref (q + 13), .ref (q + 14), .int 0, .int 0, .int 0, .int 0, .ref (q + 15), .int 0, .ref (q + 16), .int 0, .int 0, .ref (q + 17), .int 0, .int 0, .ref (q + 18), .ref (q + 19), .ref (q + 20), .ref (q + 21), .ref (q + 22), .ref (q + 23), .int 0, .ref (q + 24), .ref (q + 25), .null, .null, .int 0, .null, .null, .null, .null, .null, .null, .int 0, .null, .null, .int 0] 26 25 208185
    refine gc_aload_n X dX12_init_206 0 rfl rfl ?_
    refine gc_sipush 1024 X dX12_init_207 (by decide) ?_
    refine gc_newa (N := 1024) (t := 0) (ty := .int) X (Nat.le_of_ble_eq_true rfl) rfl rfl (fun _ _ h => h) (gz_in 132 (by decide +kernel) rfl) (by decide) (by decide) (Nat.le_of_ble_eq_true rfl) (by rw [hRc]; exact Nat.le_of_ble_eq_true rfl) (by rw [hRs]; exact Nat.le_of_ble_eq_true rfl) (fun cA hc H h => by subst hc; exact h) dX12_init_210 ?_
    refine gc_put X rfl (Nat.le_of_ble_eq_true rfl) rfl gw_X12 tyX12 tyX12_ok nmX12 (j := 42) (ty := (.array .int)) (by decide) rfl (gz_in 1270 (by decide +kernel) rfl) (by decide +kernel) rfl rfl (Nat.le_of_ble_eq_true rfl) dX12_init_212 ?_
    show gc_At x 12 gz_tR q 215 _ _ [.ref (q + 1), .ref (q + 2), .int 0, .ref (q + 3), .int 0, .int 0, .ref (q + 4), .int 0, .int 0, .int 0, .int 0, .ref (q + 5), .ref (q + 6), .ref (q + 7), .ref (q + 8), .ref (q + 9), .ref (q + 10), .ref (q + 11), .ref (q + 12), .ref (q + 13), .ref (q + 14), .int 0, .int 0, .int 0, .int 0, .ref (q + 15), .int 0, .ref (q + 16), .int 0, .int 0, .ref (q + 17), .int 0, .int 0, .ref (q + 18), .ref (q + 19), .ref (q + 20), .ref (q + 21), .ref (q + 22), .ref (q + 23), .int 0, .ref (q + 24), .ref (q + 25), .ref (q + 26), .null, .int 0, .null, .null, .null, .null, .null, .null, .int 0, .null, .null, .int 0] 27 26 209209
    refine gc_aload_n X dX12_init_215 0 rfl rfl ?_
    refine gc_sipush 1024 X dX12_init_216 (by decide) ?_
    refine gc_newa (N := 1024) (t := 1) (ty := .boolean) X (Nat.le_of_ble_eq_true rfl) rfl rfl (fun _ _ h => h) (gz_in 269 (by decide +kernel) rfl) (by decide) (by decide) (Nat.le_of_ble_eq_true rfl) (by rw [hRc]; exact Nat.le_of_ble_eq_true rfl) (by rw [hRs]; exact Nat.le_of_ble_eq_true rfl) (fun cA hc H h => by subst hc; exact h) dX12_init_219 ?_
    refine gc_put X rfl (Nat.le_of_ble_eq_true rfl) rfl gw_X12 tyX12 tyX12_ok nmX12 (j := 43) (ty := (.array .boolean)) (by decide) rfl (gz_in 1271 (by decide +kernel) rfl) (by decide +kernel) rfl rfl (Nat.le_of_ble_eq_true rfl) dX12_init_221 ?_
    show gc_At x 12 gz_tR q 224 _ _ [.ref (q + 1), .ref (q + 2), .int 0, .ref (q + 3), .int 0, .int 0, .ref (q + 4), .int 0, .int 0, .int 0, .int 0, .ref (q + 5), .ref (q + 6), .ref (q + 7), .ref (q + 8), .ref (q + 9), .ref (q + 10), .ref (q + 11), .ref (q + 12), .ref (q + 13), .ref (q + 14), .int 0, .int 0, .int 0, .int 0, .ref (q + 15), .int 0, .ref (q + 16), .int 0, .int 0, .ref (q + 17), .int 0, .int 0, .ref (q + 18), .ref (q + 19), .ref (q + 20), .ref (q + 21), .ref (q + 22), .ref (q + 23), .int 0, .ref (q + 24), .ref (q + 25), .ref (q + 26), .ref (q + 27), .int 0, .null, .null, .null, .null, .null, .null, .int 0, .null, .null, .int 0] 28 27 210233
    refine gc_aload_n X dX12_init_224 0 rfl rfl ?_
    refine gc_sipush 1024 X dX12_init_225 (by decide) ?_
    refine gc_newa (N := 1024) (t := 0) (ty := .int) X (Nat.le_of_ble_eq_true rfl) rfl rfl (fun _ _ h => h) (gz_in 132 (by decide +kernel) rfl) (by decide) (by decide) (Nat.le_of_ble_eq_true rfl) (by rw [hRc]; exact Nat.le_of_ble_eq_true rfl) (by rw [hRs]; exact Nat.le_of_ble_eq_true rfl) (fun cA hc H h => by subst hc; exact h) dX12_init_228 ?_
    refine gc_put X rfl (Nat.le_of_ble_eq_true rfl) rfl gw_X12 tyX12 tyX12_ok nmX12 (j := 45) (ty := (.array .int)) (by decide) rfl (gz_in 1273 (by decide +kernel) rfl) (by decide +kernel) rfl rfl (Nat.le_of_ble_eq_true rfl) dX12_init_230 ?_
    show gc_At x 12 gz_tR q 233 _ _ [.ref (q + 1), .ref (q + 2), .int 0, .ref (q + 3), .int 0, .int 0, .ref (q + 4), .int 0, .int 0, .int 0, .int 0, .ref (q + 5), .ref (q + 6), .ref (q + 7), .ref (q + 8), .ref (q + 9), .ref (q + 10), .ref (q + 11), .ref (q + 12), .ref (q + 13), .ref (q + 14), .int 0, .int 0, .int 0, .int 0, .ref (q + 15), .int 0, .ref (q + 16), .int 0, .int 0, .ref (q + 17), .int 0, .int 0, .ref (q + 18), .ref (q + 19), .ref (q + 20), .ref (q + 21), .ref (q + 22), .ref (q + 23), .int 0, .ref (q + 24), .ref (q + 25), .ref (q + 26), .ref (q + 27), .int 0, .ref (q + 28), .null, .null, .null, .null, .null, .int 0, .null, .null, .int 0] 29 28 211257
    refine gc_aload_n X dX12_init_233 0 rfl rfl ?_
    refine gc_bipush 25 X dX12_init_234 (by decide) ?_
    refine gc_newa (N := 25) (t := 0) (ty := .int) X (Nat.le_of_ble_eq_true rfl) rfl rfl (fun _ _ h => h) (gz_in 132 (by decide +kernel) rfl) (by decide) (by decide) (Nat.le_of_ble_eq_true rfl) (by rw [hRc]; exact Nat.le_of_ble_eq_true rfl) (by rw [hRs]; exact Nat.le_of_ble_eq_true rfl) (fun cA hc H h => by subst hc; exact h) dX12_init_236 ?_
    refine gc_put X rfl (Nat.le_of_ble_eq_true rfl) rfl gw_X12 tyX12 tyX12_ok nmX12 (j := 46) (ty := (.array .int)) (by decide) rfl (gz_in 1274 (by decide +kernel) rfl) (by decide +kernel) rfl rfl (Nat.le_of_ble_eq_true rfl) dX12_init_238 ?_
    show gc_At x 12 gz_tR q 241 _ _ [.ref (q + 1), .ref (q + 2), .int 0, .ref (q + 3), .int 0, .int 0, .ref (q + 4), .int 0, .int 0, .int 0, .int 0, .ref (q + 5), .ref (q + 6), .ref (q + 7), .ref (q + 8), .ref (q + 9), .ref (q + 10), .ref (q + 11), .ref (q + 12), .ref (q + 13), .ref (q + 14), .int 0, .int 0, .int 0, .int 0, .ref (q + 15), .int 0, .ref (q + 16), .int 0, .int 0, .ref (q + 17), .int 0, .int 0, .ref (q + 18), .ref (q + 19), .ref (q + 20), .ref (q + 21), .ref (q + 22), .ref (q + 23), .int 0, .ref (q + 24), .ref (q + 25), .ref (q + 26), .ref (q + 27), .int 0, .ref (q + 28), .ref (q + 29), .null, .null, .null, .null, .int 0, .null, .null, .int 0] 30 29 211282
    refine gc_aload_n X dX12_init_241 0 rfl rfl ?_
    refine gc_bipush 25 X dX12_init_242 (by decide) ?_
    refine gc_newa (N := 25) (t := 0) (ty := .int) X (Nat.le_of_ble_eq_true rfl) rfl rfl (fun _ _ h => h) (gz_in 132 (by decide +kernel) rfl) (by decide) (by decide) (Nat.le_of_ble_eq_true rfl) (by rw [hRc]; exact Nat.le_of_ble_eq_true rfl) (by rw [hRs]; exact Nat.le_of_ble_eq_true rfl) (fun cA hc H h => by subst hc; exact h) dX12_init_244 ?_
    refine gc_put X rfl (Nat.le_of_ble_eq_true rfl) rfl gw_X12 tyX12 tyX12_ok nmX12 (j := 47) (ty := (.array .int)) (by decide) rfl (gz_in 1275 (by decide +kernel) rfl) (by decide +kernel) rfl rfl (Nat.le_of_ble_eq_true rfl) dX12_init_246 ?_
    show gc_At x 12 gz_tR q 249 _ _ [.ref (q + 1), .ref (q + 2), .int 0, .ref (q + 3), .int 0, .int 0, .ref (q + 4), .int 0, .int 0, .int 0, .int 0, .ref (q + 5), .ref (q + 6), .ref (q + 7), .ref (q + 8), .ref (q + 9), .ref (q + 10), .ref (q + 11), .ref (q + 12), .ref (q + 13), .ref (q + 14), .int 0, .int 0, .int 0, .int 0, .ref (q + 15), .int 0, .ref (q + 16), .int 0, .int 0, .ref (q + 17), .int 0, .int 0, .ref (q + 18), .ref (q + 19), .ref (q + 20), .ref (q + 21), .ref (q + 22), .ref (q + 23), .int 0, .ref (q + 24), .ref (q + 25), .ref (q + 26), .ref (q + 27), .int 0, .ref (q + 28), .ref (q + 29), .ref (q + 30), .null, .null, .null, .int 0, .null, .null, .int 0] 31 30 211307
    refine gc_aload_n X dX12_init_249 0 rfl rfl ?_
    refine gc_bipush 25 X dX12_init_250 (by decide) ?_
    refine gc_newa (N := 25) (t := 0) (ty := .int) X (Nat.le_of_ble_eq_true rfl) rfl rfl (fun _ _ h => h) (gz_in 132 (by decide +kernel) rfl) (by decide) (by decide) (Nat.le_of_ble_eq_true rfl) (by rw [hRc]; exact Nat.le_of_ble_eq_true rfl) (by rw [hRs]; exact Nat.le_of_ble_eq_true rfl) (fun cA hc H h => by subst hc; exact h) dX12_init_252 ?_
    refine gc_put X rfl (Nat.le_of_ble_eq_true rfl) rfl gw_X12 tyX12 tyX12_ok nmX12 (j := 48) (ty := (.array .int)) (by decide) rfl (gz_in 1276 (by decide +kernel) rfl) (by decide +kernel) rfl rfl (Nat.le_of_ble_eq_true rfl) dX12_init_254 ?_
    show gc_At x 12 gz_tR q 257 _ _ [.ref (q + 1), .ref (q + 2), .int 0, .ref (q + 3), .int 0, .int 0, .ref (q + 4), .int 0, .int 0, .int 0, .int 0, .ref (q + 5), .ref (q + 6), .ref (q + 7), .ref (q + 8), .ref (q + 9), .ref (q + 10), .ref (q + 11), .ref (q + 12), .ref (q + 13), .ref (q + 14), .int 0, .int 0, .int 0, .int 0, .ref (q + 15), .int 0, .ref (q + 16), .int 0, .int 0, .ref (q + 17), .int 0, .int 0, .ref (q + 18), .ref (q + 19), .ref (q + 20), .ref (q + 21), .ref (q + 22), .ref (q + 23), .int 0, .ref (q + 24), .ref (q + 25), .ref (q + 26), .ref (q + 27), .int 0, .ref (q + 28), .ref (q + 29), .ref (q + 30), .ref (q + 31), .null, .null, .int 0, .null, .null, .int 0] 32 31 211332
    refine gc_aload_n X dX12_init_257 0 rfl rfl ?_
    refine gc_bipush 25 X dX12_init_258 (by decide) ?_
    refine gc_newa (N := 25) (t := 0) (ty := .int) X (Nat.le_of_ble_eq_true rfl) rfl rfl (fun _ _ h => h) (gz_in 132 (by decide +kernel) rfl) (by decide) (by decide) (Nat.le_of_ble_eq_true rfl) (by rw [hRc]; exact Nat.le_of_ble_eq_true rfl) (by rw [hRs]; exact Nat.le_of_ble_eq_true rfl) (fun cA hc H h => by subst hc; exact h) dX12_init_260 ?_
    refine gc_put X rfl (Nat.le_of_ble_eq_true rfl) rfl gw_X12 tyX12 tyX12_ok nmX12 (j := 49) (ty := (.array .int)) (by decide) rfl (gz_in 1277 (by decide +kernel) rfl) (by decide +kernel) rfl rfl (Nat.le_of_ble_eq_true rfl) dX12_init_262 ?_
    show gc_At x 12 gz_tR q 265 _ _ [.ref (q + 1), .ref (q + 2), .int 0, .ref (q + 3), .int 0, .int 0, .ref (q + 4), .int 0, .int 0, .int 0, .int 0, .ref (q + 5), .ref (q + 6), .ref (q + 7), .ref (q + 8), .ref (q + 9), .ref (q + 10), .ref (q + 11), .ref (q + 12), .ref (q + 13), .ref (q + 14), .int 0, .int 0, .int 0, .int 0, .ref (q + 15), .int 0, .ref (q + 16), .int 0, .int 0, .ref (q + 17), .int 0, .int 0, .ref (q + 18), .ref (q + 19), .ref (q + 20), .ref (q + 21), .ref (q + 22), .ref (q + 23), .int 0, .ref (q + 24), .ref (q + 25), .ref (q + 26), .ref (q + 27), .int 0, .ref (q + 28), .ref (q + 29), .ref (q + 30), .ref (q + 31), .ref (q + 32), .null, .int 0, .null, .null, .int 0] 33 32 211357
    refine gc_aload_n X dX12_init_265 0 rfl rfl ?_
    refine gc_sipush 1060 X dX12_init_266 (by decide) ?_
    refine gc_newa (N := 1060) (t := 0) (ty := .int) X (Nat.le_of_ble_eq_true rfl) rfl rfl (fun _ _ h => h) (gz_in 132 (by decide +kernel) rfl) (by decide) (by decide) (Nat.le_of_ble_eq_true rfl) (by rw [hRc]; exact Nat.le_of_ble_eq_true rfl) (by rw [hRs]; exact Nat.le_of_ble_eq_true rfl) (fun cA hc H h => by subst hc; exact h) dX12_init_269 ?_
    refine gc_put X rfl (Nat.le_of_ble_eq_true rfl) rfl gw_X12 tyX12 tyX12_ok nmX12 (j := 50) (ty := (.array .int)) (by decide) rfl (gz_in 1278 (by decide +kernel) rfl) (by decide +kernel) rfl rfl (Nat.le_of_ble_eq_true rfl) dX12_init_271 ?_
    show gc_At x 12 gz_tR q 274 _ _ [.ref (q + 1), .ref (q + 2), .int 0, .ref (q + 3), .int 0, .int 0, .ref (q + 4), .int 0, .int 0, .int 0, .int 0, .ref (q + 5), .ref (q + 6), .ref (q + 7), .ref (q + 8), .ref (q + 9), .ref (q + 10), .ref (q + 11), .ref (q + 12), .ref (q + 13), .ref (q + 14), .int 0, .int 0, .int 0, .int 0, .ref (q + 15), .int 0, .ref (q + 16), .int 0, .int 0, .ref (q + 17), .int 0, .int 0, .ref (q + 18), .ref (q + 19), .ref (q + 20), .ref (q + 21), .ref (q + 22), .ref (q + 23), .int 0, .ref (q + 24), .ref (q + 25), .ref (q + 26), .ref (q + 27), .int 0, .ref (q + 28), .ref (q + 29), .ref (q + 30), .ref (q + 31), .ref (q + 32), .ref (q + 33), .int 0, .null, .null, .int 0] 34 33 212417
    refine gc_aload_n X dX12_init_274 0 rfl rfl ?_
    refine gc_bipush 106 X dX12_init_275 (by decide) ?_
    refine gc_newa (N := 106) (t := 0) (ty := .int) X (Nat.le_of_ble_eq_true rfl) rfl rfl (fun _ _ h => h) (gz_in 132 (by decide +kernel) rfl) (by decide) (by decide) (Nat.le_of_ble_eq_true rfl) (by rw [hRc]; exact Nat.le_of_ble_eq_true rfl) (by rw [hRs]; exact Nat.le_of_ble_eq_true rfl) (fun cA hc H h => by subst hc; exact h) dX12_init_277 ?_
    refine gc_put X rfl (Nat.le_of_ble_eq_true rfl) rfl gw_X12 tyX12 tyX12_ok nmX12 (j := 52) (ty := (.array .int)) (by decide) rfl (gz_in 1280 (by decide +kernel) rfl) (by decide +kernel) rfl rfl (Nat.le_of_ble_eq_true rfl) dX12_init_279 ?_
    show gc_At x 12 gz_tR q 282 _ _ [.ref (q + 1), .ref (q + 2), .int 0, .ref (q + 3), .int 0, .int 0, .ref (q + 4), .int 0, .int 0, .int 0, .int 0, .ref (q + 5), .ref (q + 6), .ref (q + 7), .ref (q + 8), .ref (q + 9), .ref (q + 10), .ref (q + 11), .ref (q + 12), .ref (q + 13), .ref (q + 14), .int 0, .int 0, .int 0, .int 0, .ref (q + 15), .int 0, .ref (q + 16), .int 0, .int 0, .ref (q + 17), .int 0, .int 0, .ref (q + 18), .ref (q + 19), .ref (q + 20), .ref (q + 21), .ref (q + 22), .ref (q + 23), .int 0, .ref (q + 24), .ref (q + 25), .ref (q + 26), .ref (q + 27), .int 0, .ref (q + 28), .ref (q + 29), .ref (q + 30), .ref (q + 31), .ref (q + 32), .ref (q + 33), .int 0, .ref (q + 34), .null, .int 0] 35 34 212523
    refine gc_aload_n X dX12_init_282 0 rfl rfl ?_
    refine gc_sipush 240 X dX12_init_283 (by decide) ?_
    refine gc_newa (N := 240) (t := 0) (ty := .int) X (Nat.le_of_ble_eq_true rfl) rfl rfl (fun _ _ h => h) (gz_in 132 (by decide +kernel) rfl) (by decide) (by decide) (Nat.le_of_ble_eq_true rfl) (by rw [hRc]; exact Nat.le_of_ble_eq_true rfl) (by rw [hRs]; exact Nat.le_of_ble_eq_true rfl) (fun cA hc H h => by subst hc; exact h) dX12_init_286 ?_
    refine gc_put X rfl (Nat.le_of_ble_eq_true rfl) rfl gw_X12 tyX12 tyX12_ok nmX12 (j := 53) (ty := (.array .int)) (by decide) rfl (gz_in 1281 (by decide +kernel) rfl) (by decide +kernel) rfl rfl (Nat.le_of_ble_eq_true rfl) dX12_init_288 ?_
    show gc_At x 12 gz_tR q 291 _ _ [.ref (q + 1), .ref (q + 2), .int 0, .ref (q + 3), .int 0, .int 0, .ref (q + 4), .int 0, .int 0, .int 0, .int 0, .ref (q + 5), .ref (q + 6), .ref (q + 7), .ref (q + 8), .ref (q + 9), .ref (q + 10), .ref (q + 11), .ref (q + 12), .ref (q + 13), .ref (q + 14), .int 0, .int 0, .int 0, .int 0, .ref (q + 15), .int 0, .ref (q + 16), .int 0, .int 0, .ref (q + 17), .int 0, .int 0, .ref (q + 18), .ref (q + 19), .ref (q + 20), .ref (q + 21), .ref (q + 22), .ref (q + 23), .int 0, .ref (q + 24), .ref (q + 25), .ref (q + 26), .ref (q + 27), .int 0, .ref (q + 28), .ref (q + 29), .ref (q + 30), .ref (q + 31), .ref (q + 32), .ref (q + 33), .int 0, .ref (q + 34), .ref (q + 35), .int 0] 36 35 212763
    refine gc_toAt gz_cfR gc_M0R (fun i hi => ⟨of_decide_eq_true hi, fun _ => rfl, fun _ => rfl⟩) ?_
    have X' := gc_okX (cf := gz_cfR) (c := 35) (s := 212763) X
    refine gr_aload_n X' dX12_init_291 0 rfl rfl ?_
    refine gr_aload_n X' dX12_init_292 0 rfl rfl ?_
    refine gf12_0 X' wf_RX12_9 dX12_init_293 ?_
    refine gr_callV (asF := fun ad => [.ref (ad 0), .ref (ad 1)]) [.ref (gx_ad (gc_x x gz_cfR q 35 212763) 1)] X' (c12_layRules gk_R1 hf) rfl wm_RX12_119 rfl (X'.kd gk_R0).1 ((X'.kd gk_R0).2 _ _ _ _) rfl (by decide) (by decide) rfl (Nat.le_of_ble_eq_true rfl) ⟨by show 35 ≤ (gx_R x).cells; rw [hRc]; exact Nat.le_refl _, by show 212763 ≤ (gx_R x).slots; rw [hRs]; exact Nat.le_refl _⟩ dX12_init_296 ?_
    exact hE _ _ dX12_init_299
  rw [hx] at go
  exact go s9.heap [] ls hsz hP (fun i a b => by omega) va_S.rf hl
end GKM
