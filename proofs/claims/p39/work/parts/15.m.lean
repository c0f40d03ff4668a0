section

section GKM
def gc_x (x : gz_X) (cf : gz_CF) (q c s : Nat) : gz_X := (gx_p x, gx_l x, gx_e x, gx_R x, gx_s x, gx_m x, gx_args x, gx_below x, gx_meth x, gx_c x, gx_Q x, gx_A x, gx_D x, gx_aC x, cf, (fun k => q + k), (fun _ => false), gx_nL x, c, s, gz_cls)
theorem gc_okX {x : gz_X} {cc : ByteArray} {own : String} {nL d q c s : Nat} {l : Launch} {cf : gz_CF} (X : gc_Ok x cc own nL d q l) : gz_Ok (gc_x x cf q c s) cc own nL d cf (fun _ => false) l := ⟨X.1, X.2.1, X.2.2.1, fun i j _ _ h => by have h2 : q + i = q + j := h; omega, fun k _ => X.2.2.2.1 _ (by show q ≤ q + k; omega), fun a h => X.2.2.2.1 a (by have h2 : (gx_s x).heap.size ≤ a := h; rw [X.2.2.2.2.1] at h2; omega), X.2.2.2.2.2.1, X.2.2.2.2.2.2.1, X.2.2.2.2.2.2.2.1, X.2.2.2.2.2.2.2.2.1, rfl, rfl, X.2.2.2.2.2.2.2.2.2.1, rfl⟩
theorem gc_toAt {x : gz_X} {ci q pc n c s : Nat} {codes : List Nat} {lv : List (Nat × Value)} {st fs : List Value} (cf : gz_CF) (M0 : gz_M) (h : ∀ i, cf.1 (fun _ => false) i = true → i < n ∧ (i = 0 → cf.2 (gx_aC x) (fun k => q + k) (fun _ => false) 0 (M0.1 0) M0.2 = .inr (ci, fs)) ∧ (1 ≤ i → cf.2 (gx_aC x) (fun k => q + k) (fun _ => false) i (M0.1 i) M0.2 = gc_ct (gx_aC x) codes q i)) (kk : gz_At (gc_x x cf q c s) pc lv st M0) : gc_At x ci codes q pc lv st fs n c s := by
  intro H locs ls h0 h1 h2 h3 h4
  refine kk H locs ls (fun k hk => ?_) h3 h4
  obtain ⟨a1, a2, a3⟩ := h k hk
  show va_at (gx_D x) gz_cls (q + k, cf.2 (gx_aC x) (fun k => q + k) (fun _ => false) k (M0.1 k) M0.2) H
  rcases Nat.eq_zero_or_pos k with rfl | g
  · rw [a2 rfl]; exact h1
  · rw [a3 g]; exact h2 k g a1
def gc_M0R : gz_M := (fun k => gc_g (gz_tR.getD k 0), fun _ => 0)
def gc_CM (l : Launch) (M' : gz_M) : Prop := ∀ D aC q, Met l yX12_init (Cond.code yX12_init cX12_init 1 none :: gz_TB) (gz_rm 36 35 212763) (va_Pc [.ref q] (fun U => U.heap.size = q + 1 ∧ va_at D gz_cls (q, .inr (12, [.null, .null, .int 0, .null, .int 0, .int 0, .null, .int 0, .int 0, .int 0, .int 0, .null, .null, .null, .null, .null, .null, .null, .null, .null, .null, .int 0, .int 0, .int 0, .int 0, .null, .int 0, .null, .int 0, .int 0, .null, .int 0, .int 0, .null, .null, .null, .null, .null, .null, .int 0, .null, .null, .null, .null, .int 0, .null, .null, .null, .null, .null, .null, .int 0, .null, .null, .int 0])) U.heap ∧ va_K D gz_cls (gz_tys aC) U ∧ gz_Nst U ∧ gc_AO U)) (va_Qv (fun (_ : Unit) => True) (fun _ t => gz_mw D gz_cls gz_cfR aC (fun k => q + k) (fun _ => false) M' t.heap) (fun a => q ≤ a)) 35 212763 (fun a => q ≤ a)
theorem gc_dflt12 : ∀ j, j < 55 → defaultValue (tyX12 j) = vp_V [.null, .null, .int 0, .null, .int 0, .int 0, .null, .int 0, .int 0, .int 0, .int 0, .null, .null, .null, .null, .null, .null, .null, .null, .null, .null, .int 0, .int 0, .int 0, .int 0, .null, .int 0, .null, .int 0, .int 0, .null, .int 0, .int 0, .null, .null, .null, .null, .null, .null, .int 0, .null, .null, .null, .null, .int 0, .null, .null, .null, .null, .null, .null, .int 0, .null, .null, .int 0] j
  | 0, _ => rfl
  | 1, _ => rfl
  | 2, _ => rfl
  | 3, _ => rfl
  | 4, _ => rfl
  | 5, _ => rfl
  | 6, _ => rfl
  | 7, _ => rfl
  | 8, _ => rfl
  | 9, _ => rfl
  | 10, _ => rfl
  | 11, _ => rfl
  | 12, _ => rfl
  | 13, _ => rfl
  | 14, _ => rfl
  | 15, _ => rfl
  | 16, _ => rfl
  | 17, _ => rfl
  | 18, _ => rfl
  | 19, _ => rfl
  | 20, _ => rfl
  | 21, _ => rfl
  | 22, _ => rfl
  | 23, _ => rfl
  | 24, _ => rfl
  | 25, _ => rfl
  | 26, _ => rfl
  | 27, _ => rfl
  | 28, _ => rfl
  | 29, _ => rfl
  | 30, _ => rfl
  | 31, _ => rfl
  | 32, _ => rfl
  | 33, _ => rfl
  | 34, _ => rfl
  | 35, _ => rfl
  | 36, _ => rfl
  | 37, _ => rfl
  | 38, _ => rfl
  | 39, _ => rfl
  | 40, _ => rfl
  | 41, _ => rfl
  | 42, _ => rfl
  | 43, _ => rfl
  | 44, _ => rfl
  | 45, _ => rfl
  | 46, _ => rfl
  | 47, _ => rfl
  | 48, _ => rfl
  | 49, _ => rfl
  | 50, _ => rfl
  | 51, _ => rfl
  | 52, _ => rfl
  | 53, _ => rfl
  | 54, _ => rfl
  | j + 55, h => by omega

set_option maxRecDepth 100000 in
theorem gc_initM {l : Launch} {M' : gz_M} (hf : f12_layRules 1 gc_M0R = some M') : gc_CM l M' := by
  intro D aC q
  refine gz_MetF (cc := cX12_init) (maxL := 1) (ret := none) (by decide +kernel) rfl ?_
  intro p e s9 m args below meth c9 s₁ B hml hv
  obtain ⟨rfl, hsz, hP, hK, hN, hAO⟩ := hv
  have hl := lv_entry ([.ref q]) (n := 1) (Nat.le_of_ble_eq_true rfl)
  rw [lg_entry_eq]
  generalize (lg_sl [.ref q] ++ List.replicate (1 - (lg_sl [.ref q]).length) Slot.unset).toArray = ls at hl ⊢
  have hRc : (gz_rm 36 35 212763).cells = 35 := rfl
  have hRs : (gz_rm 36 35 212763).slots = 212763 := rfl
  obtain ⟨x, hx⟩ : ∃ x : gz_X, x = (p, l, e, (gz_rm 36 35 212763), s9, m, [Value.ref q].toArray, below, meth, c9, MQ below (va_Qv (fun (_ : Unit) => True) (fun _ t => gz_mw D gz_cls gz_cfR aC (fun k => q + k) (fun _ => false) M' t.heap) (fun a => q ≤ a)) [Value.ref q].toArray s9 35 212763 (fun a => q ≤ a), (fun a => q ≤ a), D, aC, gz_cfC, fun k => q + k, fun _ => false, 1, 0, 0, gz_cls) := ⟨_, rfl⟩
  have X : gc_Ok x cX12_init RX12 1 36 q l := by rw [hx]; exact ⟨⟨B.exec, B.bytes, hml, findClass_of_methodNamed B.named, fun w hw => atoms_spec (ws := Cond.code yX12_init cX12_init 1 none :: gz_TB) B.pre w (List.mem_cons_of_mem _ hw)⟩, rfl, hK, fun k hk => hk, hsz, B.notSynchronized, Nat.le_refl _, Nat.le_refl _, hN, rfl, (name_of_methodNamed B.named B.method).1, hAO⟩
  have hRc : (gx_R x).cells = 35 := by rw [hx]; rfl
  have hRs : (gx_R x).slots = 212763 := by rw [hx]; rfl
  have hE : ∀ pc lv, decode cX12_init pc = .ok (.return_, 1) → gz_At (gc_x x gz_cfR q 35 212763) pc lv [] M' := by
    rw [hx]
    exact fun pc lv dg H locs ls h1 h2 h3 => W.vret B.exec B.bytes B.returns (fun t ht hW => ⟨⟨(), rfl, trivial, by show gz_mw _ _ _ _ _ _ _ t.heap; rw [ht]; exact h1⟩, h2.F ht⟩) h2.2.2 dg
  have go : gc_At x 12 gz_tR q 0 [(0, .ref q)] [] [.null, .null, .int 0, .null, .int 0, .int 0, .null, .int 0, .int 0, .int 0, .int 0, .null, .null, .null, .null, .null, .null, .null, .null, .null, .null, .int 0, .int 0, .int 0, .int 0, .null, .int 0, .null, .int 0, .int 0, .null, .int 0, .int 0, .null, .null, .null, .null, .null, .null, .int 0, .null, .null, .null, .null, .int 0, .null, .null, .null, .null, .null, .null, .int 0, .null, .null, .int 0] 1 0 0 := by
    refine gc_aload_n X dX12_init_0 0 rfl rfl ?_
    refine gc_objInit X (by decide) (gz_in 1159 (by decide +kernel) rfl) (gz_in 112 (by decide +kernel) rfl) (gz_in 113 (by decide +kernel) rfl) (Nat.le_of_ble_eq_true rfl) dX12_init_1 ?_
    refine gc_aload_n X dX12_init_4 0 rfl rfl ?_
    refine gc_bipush 106 X dX12_init_5 (by decide) ?_
    refine gc_newa (N := 106) (t := 0) (ty := .int) X (Nat.le_of_ble_eq_true rfl) rfl rfl (fun _ _ h => h) (gz_in 132 (by decide +kernel) rfl) (by decide) (by decide) (Nat.le_of_ble_eq_true rfl) (by rw [hRc]; exact Nat.le_of_ble_eq_true rfl) (by rw [hRs]; exact Nat.le_of_ble_eq_true rfl) (fun cA hc H h => by subst hc; exact h) dX12_init_7 ?_
    refine gc_put X rfl (Nat.le_of_ble_eq_true rfl) rfl gw_X12 tyX12 tyX12_ok nmX12 (j := 0) (ty := (.array .int)) (by decide) rfl (gz_in 1228 (by decide +kernel) rfl) (by decide +kernel) rfl rfl (Nat.le_of_ble_eq_true rfl) dX12_init_9 ?_
    show gc_At x 12 gz_tR q 12 _ _ [.ref (q + 1), .null, .int 0, .null, .int 0, .int 0, .null, .int 0, .int 0, .int 0, .int 0, .null, .null, .null, .null, .null, .null, .null, .null, .null, .null, .int 0, .int 0, .int 0, .int 0, .null, .int 0, .null, .int 0, .int 0, .null, .int 0, .int 0, .null, .null, .null, .null, .null, .null, .int 0, .null, .null, .null, .null, .int 0, .null, .null, .null, .null, .null, .null, .int 0, .null, .null, .int 0] 2 1 106
    refine gc_aload_n X dX12_init_12 0 rfl rfl ?_
    refine gc_bipush 80 X dX12_init_13 (by decide) ?_
    refine gc_newa (N := 80) (t := 3) (ty := .byte) X (Nat.le_of_ble_eq_true rfl) rfl rfl (fun _ _ h => h) (gz_in 1394 (by decide +kernel) rfl) (by decide) (by decide) (Nat.le_of_ble_eq_true rfl) (by rw [hRc]; exact Nat.le_of_ble_eq_true rfl) (by rw [hRs]; exact Nat.le_of_ble_eq_true rfl) (fun cA hc H h => by subst hc; exact h) dX12_init_15 ?_
    refine gc_put X rfl (Nat.le_of_ble_eq_true rfl) rfl gw_X12 tyX12 tyX12_ok nmX12 (j := 1) (ty := (.array .byte)) (by decide) rfl (gz_in 1229 (by decide +kernel) rfl) (by decide +kernel) rfl rfl (Nat.le_of_ble_eq_true rfl) dX12_init_17 ?_
    show gc_At x 12 gz_tR q 20 _ _ [.ref (q + 1), .ref (q + 2), .int 0, .null, .int 0, .int 0, .null, .int 0, .int 0, .int 0, .int 0, .null, .null, .null, .null, .null, .null, .null, .null, .null, .null, .int 0, .int 0, .int 0, .int 0, .null, .int 0, .null, .int 0, .int 0, .null, .int 0, .int 0, .null, .null, .null, .null, .null, .null, .int 0, .null, .null, .null, .null, .int 0, .null, .null, .null, .null, .null, .null, .int 0, .null, .null, .int 0] 3 2 186
    refine gc_aload_n X dX12_init_20 0 rfl rfl ?_
    refine gc_bipush 64 X dX12_init_21 (by decide) ?_
    refine gc_newa (N := 64) (t := 2) (ty := .long) X (Nat.le_of_ble_eq_true rfl) rfl rfl (fun _ _ h => h) (gz_in 478 (by decide +kernel) rfl) (by decide) (by decide) (Nat.le_of_ble_eq_true rfl) (by rw [hRc]; exact Nat.le_of_ble_eq_true rfl) (by rw [hRs]; exact Nat.le_of_ble_eq_true rfl) (fun cA hc H h => by subst hc; exact h) dX12_init_23 ?_
    refine gc_put X rfl (Nat.le_of_ble_eq_true rfl) rfl gw_X12 tyX12 tyX12_ok nmX12 (j := 3) (ty := (.array .long)) (by decide) rfl (gz_in 1231 (by decide +kernel) rfl) (by decide +kernel) rfl rfl (Nat.le_of_ble_eq_true rfl) dX12_init_25 ?_
    show gc_At x 12 gz_tR q 28 _ _ [.ref (q + 1), .ref (q + 2), .int 0, .ref (q + 3), .int 0, .int 0, .null, .int 0, .int 0, .int 0, .int 0, .null, .null, .null, .null, .null, .null, .null, .null, .null, .null, .int 0, .int 0, .int 0, .int 0, .null, .int 0, .null, .int 0, .int 0, .null, .int 0, .int 0, .null, .null, .null, .null, .null, .null, .int 0, .null, .null, .null, .null, .int 0, .null, .null, .null, .null, .null, .null, .int 0, .null, .null, .int 0] 4 3 250
    refine gc_aload_n X dX12_init_28 0 rfl rfl ?_
    refine gc_bipush 80 X dX12_init_29 (by decide) ?_
    refine gc_newa (N := 80) (t := 0) (ty := .int) X (Nat.le_of_ble_eq_true rfl) rfl rfl (fun _ _ h => h) (gz_in 132 (by decide +kernel) rfl) (by decide) (by decide) (Nat.le_of_ble_eq_true rfl) (by rw [hRc]; exact Nat.le_of_ble_eq_true rfl) (by rw [hRs]; exact Nat.le_of_ble_eq_true rfl) (fun cA hc H h => by subst hc; exact h) dX12_init_31 ?_
    refine gc_put X rfl (Nat.le_of_ble_eq_true rfl) rfl gw_X12 tyX12 tyX12_ok nmX12 (j := 6) (ty := (.array .int)) (by decide) rfl (gz_in 1234 (by decide +kernel) rfl) (by decide +kernel) rfl rfl (Nat.le_of_ble_eq_true rfl) dX12_init_33 ?_
    show gc_At x 12 gz_tR q 36 _ _ [.ref (q + 1), .ref (q + 2), .int 0, .ref (q + 3), .int 0, .int 0, .ref (q + 4), .int 0, .int 0, .int 0, .int 0, .null, .null, .null, .null, .null, .null, .null, .null, .null, .null, .int 0, .int 0, .int 0, .int 0, .null, .int 0, .null, .int 0, .int 0, .null, .int 0, .int 0, .null, .null, .null, .null, .null, .null, .int 0, .null, .null, .null, .null, .int 0, .null, .null, .null, .null, .null, .null, .int 0, .null, .null, .int 0] 5 4 330
    refine gc_aload_n X dX12_init_36 0 rfl rfl ?_
    refine gc_bipush 8 X dX12_init_37 (by decide) ?_
    refine gc_newa (N := 8) (t := 0) (ty := .int) X (Nat.le_of_ble_eq_true rfl) rfl rfl (fun _ _ h => h) (gz_in 132 (by decide +kernel) rfl) (by decide) (by decide) (Nat.le_of_ble_eq_true rfl) (by rw [hRc]; exact Nat.le_of_ble_eq_true rfl) (by rw [hRs]; exact Nat.le_of_ble_eq_true rfl) (fun cA hc H h => by subst hc; exact h) dX12_init_39 ?_
    refine gc_put X rfl (Nat.le_of_ble_eq_true rfl) rfl gw_X12 tyX12 tyX12_ok nmX12 (j := 11) (ty := (.array .int)) (by decide) rfl (gz_in 1239 (by decide +kernel) rfl) (by decide +kernel) rfl rfl (Nat.le_of_ble_eq_true rfl) dX12_init_41 ?_
    show gc_At x 12 gz_tR q 44 _ _ [.ref (q + 1), .ref (q + 2), .int 0, .ref (q + 3), .int 0, .int 0, .ref (q + 4), .int 0, .int 0, .int 0, .int 0, .ref (q + 5), .null, .null, .null, .null, .null, .null, .null, .null, .null, .int 0, .int 0, .int 0, .int 0, .null, .int 0, .null, .int 0, .int 0, .null, .int 0, .int 0, .null, .null, .null, .null, .null, .null, .int 0, .null, .null, .null, .null, .int 0, .null, .null, .null, .null, .null, .null, .int 0, .null, .null, .int 0] 6 5 338
    refine gc_aload_n X dX12_init_44 0 rfl rfl ?_
    refine gc_bipush 8 X dX12_init_45 (by decide) ?_
    refine gc_newa (N := 8) (t := 0) (ty := .int) X (Nat.le_of_ble_eq_true rfl) rfl rfl (fun _ _ h => h) (gz_in 132 (by decide +kernel) rfl) (by decide) (by decide) (Nat.le_of_ble_eq_true rfl) (by rw [hRc]; exact Nat.le_of_ble_eq_true rfl) (by rw [hRs]; exact Nat.le_of_ble_eq_true rfl) (fun cA hc H h => by subst hc; exact h) dX12_init_47 ?_
    refine gc_put X rfl (Nat.le_of_ble_eq_true rfl) rfl gw_X12 tyX12 tyX12_ok nmX12 (j := 12) (ty := (.array .int)) (by decide) rfl (gz_in 1240 (by decide +kernel) rfl) (by decide +kernel) rfl rfl (Nat.le_of_ble_eq_true rfl) dX12_init_49 ?_
    show gc_At x 12 gz_tR q 52 _ _ [.ref (q + 1), .ref (q + 2), .int 0, .ref (q + 3), .int 0, .int 0, .ref (q + 4), .int 0, .int 0, .int 0, .int 0, .ref (q + 5), .ref (q + 6), .null, .null, .null, .null, .null, .null, .null, .null, .int 0, .int 0, .int 0, .int 0, .null, .int 0, .null, .int 0, .int 0, .null, .int 0, .int 0, .null, .null, .null, .null, .null, .null, .int 0, .null, .null, .null, .null, .int 0, .null, .null, .null, .null, .null, .null, .int 0, .null, .null, .int 0] 7 6 346
    refine gc_aload_n X dX12_init_52 0 rfl rfl ?_
    refine gc_bipush 8 X dX12_init_53 (by decide) ?_
    refine gc_newa (N := 8) (t := 0) (ty := .int) X (Nat.le_of_ble_eq_true rfl) rfl rfl (fun _ _ h => h) (gz_in 132 (by decide +kernel) rfl) (by decide) (by decide) (Nat.le_of_ble_eq_true rfl) (by rw [hRc]; exact Nat.le_of_ble_eq_true rfl) (by rw [hRs]; exact Nat.le_of_ble_eq_true rfl) (fun cA hc H h => by subst hc; exact h) dX12_init_55 ?_
    refine gc_put X rfl (Nat.le_of_ble_eq_true rfl) rfl gw_X12 tyX12 tyX12_ok nmX12 (j := 13) (ty := (.array .int)) (by decide) rfl (gz_in 1241 (by decide +kernel) rfl) (by decide +kernel) rfl rfl (Nat.le_of_ble_eq_true rfl) dX12_init_57 ?_
    show gc_At x 12 gz_tR q 60 _ _ [.ref (q + 1), .ref (q + 2), .int 0, .ref (q + 3), .int 0, .int 0, .ref (q + 4), .int 0, .int 0, .int 0, .int 0, .ref (q + 5), .ref (q + 6), .ref (q + 7), .null, .null, .null, .null, .null, .null, .null, .int 0, .int 0, .int 0, .int 0, .null, .int 0, .null, .int 0, .int 0, .null, .int 0, .int 0, .null, .null, .null, .null, .null, .null, .int 0, .null, .null, .null, .null, .int 0, .null, .null, .null, .null, .null, .null, .int 0, .null, .null, .int 0] 8 7 354
    refine gc_aload_n X dX12_init_60 0 rfl rfl ?_
    refine gc_bipush 8 X dX12_init_61 (by decide) ?_
    refine gc_newa (N := 8) (t := 0) (ty := .int) X (Nat.le_of_ble_eq_true rfl) rfl rfl (fun _ _ h => h) (gz_in 132 (by decide +kernel) rfl) (by decide) (by decide) (Nat.le_of_ble_eq_true rfl) (by rw [hRc]; exact Nat.le_of_ble_eq_true rfl) (by rw [hRs]; exact Nat.le_of_ble_eq_true rfl) (fun cA hc H h => by subst hc; exact h) dX12_init_63 ?_
    refine gc_put X rfl (Nat.le_of_ble_eq_true rfl) rfl gw_X12 tyX12 tyX12_ok nmX12 (j := 14) (ty := (.array .int)) (by decide) rfl (gz_in 1242 (by decide +kernel) rfl) (by decide +kernel) rfl rfl (Nat.le_of_ble_eq_true rfl) dX12_init_65 ?_
    show gc_At x 12 gz_tR q 68 _ _ [.ref (q + 1), .ref (q + 2), .int 0, .ref (q + 3), .int 0, .int 0, .ref (q + 4), .int 0, .int 0, .int 0, .int 0, .ref (q + 5), .ref (q + 6), .ref (q + 7), .ref (q + 8), .null, .null, .null, .null, .null, .null, .int 0, .int 0, .int 0, .int 0, .null, .int 0, .null, .int 0, .int 0, .null, .int 0, .int 0, .null, .null, .null, .null, .null, .null, .int 0, .null, .null, .null, .null, .int 0, .null, .null, .null, .null, .null, .null, .int 0, .null, .null, .int 0] 9 8 362
    refine gc_aload_n X dX12_init_68 0 rfl rfl ?_
    refine gc_bipush 8 X dX12_init_69 (by decide) ?_
    refine gc_newa (N := 8) (t := 1) (ty := .boolean) X (Nat.le_of_ble_eq_true rfl) rfl rfl (fun _ _ h => h) (gz_in 269 (by decide +kernel) rfl) (by decide) (by decide) (Nat.le_of_ble_eq_true rfl) (by rw [hRc]; exact Nat.le_of_ble_eq_true rfl) (by rw [hRs]; exact Nat.le_of_ble_eq_true rfl) (fun cA hc H h => by subst hc; exact h) dX12_init_71 ?_
    refine gc_put X rfl (Nat.le_of_ble_eq_true rfl) rfl gw_X12 tyX12 tyX12_ok nmX12 (j := 15) (ty := (.array .boolean)) (by decide) rfl (gz_in 1243 (by decide +kernel) rfl) (by decide +kernel) rfl rfl (Nat.le_of_ble_eq_true rfl) dX12_init_73 ?_
    show gc_At x 12 gz_tR q 76 _ _ [.ref (q + 1), .ref (q + 2), .int 0, .ref (q + 3), .int 0, .int 0, .ref (q + 4), .int 0, .int 0, .int 0, .int 0, .ref (q + 5), .ref (q + 6), .ref (q + 7), .ref (q + 8), .ref (q + 9), .null, .null, .null, .null, .null, .int 0, .int 0, .int 0, .int 0, .null, .int 0, .null, .int 0, .int 0, .null, .int 0, .int 0, .null, .null, .null, .null, .null, .null, .int 0, .null, .null, .null, .null, .int 0, .null, .null, .null, .null, .null, .null, .int 0, .null, .null, .int 0] 10 9 370
    refine gc_aload_n X dX12_init_76 0 rfl rfl ?_
    refine gc_bipush 8 X dX12_init_77 (by decide) ?_
    refine gc_newa (N := 8) (t := 0) (ty := .int) X (Nat.le_of_ble_eq_true rfl) rfl rfl (fun _ _ h => h) (gz_in 132 (by decide +kernel) rfl) (by decide) (by decide) (Nat.le_of_ble_eq_true rfl) (by rw [hRc]; exact Nat.le_of_ble_eq_true rfl) (by rw [hRs]; exact Nat.le_of_ble_eq_true rfl) (fun cA hc H h => by subst hc; exact h) dX12_init_79 ?_
    refine gc_put X rfl (Nat.le_of_ble_eq_true rfl) rfl gw_X12 tyX12 tyX12_ok nmX12 (j := 16) (ty := (.array .int)) (by decide) rfl (gz_in 1244 (by decide +kernel) rfl) (by decide +kernel) rfl rfl (Nat.le_of_ble_eq_true rfl) dX12_init_81 ?_
    show gc_At x 12 gz_tR q 84 _ _ [.ref (q + 1), .ref (q + 2), .int 0, .ref (q + 3), .int 0, .int 0, .ref (q + 4), .int 0, .int 0, .int 0, .int 0, .ref (q + 5), .ref (q + 6), .ref (q + 7), .ref (q + 8), .ref (q + 9), .ref (q + 10), .null, .null, .null, .null, .int 0, .int 0, .int 0, .int 0, .null, .int 0, .null, .int 0, .int 0, .null, .int 0, .int 0, .null, .null, .null, .null, .null, .null, .int 0, .null, .null, .null, .null, .int 0, .null, .null, .null, .null, .null, .null, .int 0, .null, .null, .int 0] 11 10 378
    refine gc_aload_n X dX12_init_84 0 rfl rfl ?_
    refine gc_bipush 8 X dX12_init_85 (by decide) ?_
    refine gc_newa (N := 8) (t := 0) (ty := .int) X (Nat.le_of_ble_eq_true rfl) rfl rfl (fun _ _ h => h) (gz_in 132 (by decide +kernel) rfl) (by decide) (by decide) (Nat.le_of_ble_eq_true rfl) (by rw [hRc]; exact Nat.le_of_ble_eq_true rfl) (by rw [hRs]; exact Nat.le_of_ble_eq_true rfl) (fun cA hc H h => by subst hc; exact h) dX12_init_87 ?_
    refine gc_put X rfl (Nat.le_of_ble_eq_true rfl) rfl gw_X12 tyX12 tyX12_ok nmX12 (j := 17) (ty := (.array .int)) (by decide) rfl (gz_in 1245 (by decide +kernel) rfl) (by decide +kernel) rfl rfl (Nat.le_of_ble_eq_true rfl) dX12_init_89 ?_
    show gc_At x 12 gz_tR q 92 _ _ [.ref (q + 1), .ref (q + 2), .int 0, .ref (q + 3), .int 0, .int 0, .ref (q + 4), .int 0, .int 0, .int 0, .int 0, .ref (q + 5), .ref (q + 6), .ref (q + 7), .ref (q + 8), .ref (q + 9), .ref (q + 10), .ref (q + 11), .null, .null, .null, .int 0, .int 0, .int 0, .int 0, .null, .int 0, .null, .int 0, .int 0, .null, .int 0, .int 0, .null, .null, .null, .null, .null, .null, .int 0, .null, .null, .null, .null, .int 0, .null, .null, .null, .null, .null, .null, .int 0, .null, .null, .int 0] 12 11 386
    refine gc_aload_n X dX12_init_92 0 rfl rfl ?_
    refine gc_iconst 4 X dX12_init_93 (by decide) ?_
    refine gc_newa (N := 4) (t := 0) (ty := .int) X (Nat.le_of_ble_eq_true rfl) rfl rfl (fun _ _ h => h) (gz_in 132 (by decide +kernel) rfl) (by decide) (by decide) (Nat.le_of_ble_eq_true rfl) (by rw [hRc]; exact Nat.le_of_ble_eq_true rfl) (by rw [hRs]; exact Nat.le_of_ble_eq_true rfl) (fun cA hc H h => by subst hc; exact h) dX12_init_94 ?_
    refine gc_put X rfl (Nat.le_of_ble_eq_true rfl) rfl gw_X12 tyX12 tyX12_ok nmX12 (j := 18) (ty := (.array .int)) (by decide) rfl (gz_in 1246 (by decide +kernel) rfl) (by decide +kernel) rfl rfl (Nat.le_of_ble_eq_true rfl) dX12_init_96 ?_
    show gc_At x 12 gz_tR q 99 _ _ [.ref (q + 1), .ref (q + 2), .int 0, .ref (q + 3), .int 0, .int 0, .ref (q + 4), .int 0, .int 0, .int 0, .int 0, .ref (q + 5), .ref (q + 6), .ref (q + 7), .ref (q + 8), .ref (q + 9), .ref (q + 10), .ref (q + 11), .ref (q + 12), .null, .null, .int 0, .int 0, .int 0, .int 0, .null, .int 0, .null, .int 0, .int 0, .null, .int 0, .int 0, .null, .null, .null, .null, .null, .null, .int 0, .null, .null, .null, .null, .int 0, .null, .null, .null, .null, .null, .null, .int 0, .null, .null, .int 0] 13 12 390
    refine gc_aload_n X dX12_init_99 0 rfl rfl ?_
    refine gc_bipush 40 X dX12_init_100 (by decide) ?_
    refine gc_newa (N := 40) (t := 0) (ty := .int) X (Nat.le_of_ble_eq_true rfl) rfl rfl (fun _ _ h => h) (gz_in 132 (by decide +kernel) rfl) (by decide) (by decide) (Nat.le_of_ble_eq_true rfl) (by rw [hRc]; exact Nat.le_of_ble_eq_true rfl) (by rw [hRs]; exact Nat.le_of_ble_eq_true rfl) (fun cA hc H h => by subst hc; exact h) dX12_init_102 ?_
    refine gc_put X rfl (Nat.le_of_ble_eq_true rfl) rfl gw_X12 tyX12 tyX12_ok nmX12 (j := 19) (ty := (.array .int)) (by decide) rfl (gz_in 1247 (by decide +kernel) rfl) (by decide +kernel) rfl rfl (Nat.le_of_ble_eq_true rfl) dX12_init_104 ?_
    show gc_At x 12 gz_tR q 107 _ _ [.ref (q + 1), .ref (q + 2), .int 0, .ref (q + 3), .int 0, .int 0, .ref (q + 4), .int 0, .int 0, .int 0, .int 0, .ref (q + 5), .ref (q + 6), .ref (q + 7), .ref (q + 8), .ref (q + 9), .ref (q + 10), .ref (q + 11), .ref (q + 12), .ref (q + 13), .null, .int 0, .int 0, .int 0, .int 0, .null, .int 0, .null, .int 0, .int 0, .null, .int 0, .int 0, .null, .null, .null, .null, .null, .null, .int 0, .null, .null, .null, .null, .int 0, .null, .null, .null, .null, .null, .null, .int 0, .null, .null, .int 0] 14 13 430
    refine gc_aload_n X dX12_init_107 0 rfl rfl ?_
    refine gc_bipush 40 X dX12_init_108 (by decide) ?_
    refine gc_newa (N := 40) (t := 0) (ty := .int) X (Nat.le_of_ble_eq_true rfl) rfl rfl (fun _ _ h => h) (gz_in 132 (by decide +kernel) rfl) (by decide) (by decide) (Nat.le_of_ble_eq_true rfl) (by rw [hRc]; exact Nat.le_of_ble_eq_true rfl) (by rw [hRs]; exact Nat.le_of_ble_eq_true rfl) (fun cA hc H h => by subst hc; exact h) dX12_init_110 ?_
    refine gc_put X rfl (Nat.le_of_ble_eq_true rfl) rfl gw_X12 tyX12 tyX12_ok nmX12 (j := 20) (ty := (.array .int)) (by decide) rfl (gz_in 1248 (by decide +kernel) rfl) (by decide +kernel) rfl rfl (Nat.le_of_ble_eq_true rfl) dX12_init_112 ?_
    show gc_At x 12 gz_tR q 115 _ _ [.ref (q + 1), .ref (q + 2), .int 0, .ref (q + 3), .int 0, .int 0, .ref (q + 4), .int 0, .int 0, .int 0, .int 0, .ref (q + 5), .ref (q + 6), .ref (q + 7), .ref (q + 8), .ref (q + 9), .ref (q + 10), .ref (q + 11), .ref (q + 12), .ref (q + 13), .ref (q + 14), .int 0, .int 0, .int 0, .int 0, .null, .int 0, .null, .int 0, .int 0, .null, .int 0, .int 0, .null, .null, .null, .null, .null, .null, .int 0, .null, .null, .null, .null, .int 0, .null, .null, .null, .null, .null, .null, .int 0, .null, .null, .int 0] 15 14 470
    refine gc_aload_n X dX12_init_115 0 rfl rfl ?_
    refine gc_bipush 24 X dX12_init_116 (by decide) ?_
    refine gc_newa (N := 24) (t := 0) (ty := .int) X (Nat.le_of_ble_eq_true rfl) rfl rfl (fun _ _ h => h) (gz_in 132 (by decide +kernel) rfl) (by decide) (by decide) (Nat.le_of_ble_eq_true rfl) (by rw [hRc]; exact Nat.le_of_ble_eq_true rfl) (by rw [hRs]; exact Nat.le_of_ble_eq_true rfl) (fun cA hc H h => by subst hc; exact h) dX12_init_118 ?_
    refine gc_put X rfl (Nat.le_of_ble_eq_true rfl) rfl gw_X12 tyX12 tyX12_ok nmX12 (j := 25) (ty := (.array .int)) (by decide) rfl (gz_in 1253 (by decide +kernel) rfl) (by decide +kernel) rfl rfl (Nat.le_of_ble_eq_true rfl) dX12_init_120 ?_
    show gc_At x 12 gz_tR q 123 _ _ [.ref (q + 1), .ref (q + 2), .int 0, .ref (q + 3), .int 0, .int 0, .ref (q + 4), .int 0, .int 0, .int 0, .int 0, .ref (q + 5), .ref (q + 6), .ref (q + 7), .ref (q + 8), .ref (q + 9), .ref (q + 10), .ref (q + 11), .ref (q + 12), .ref (q + 13), .ref (q + 14), .int 0, .int 0, .int 0, .int 0, .ref (q + 15), .int 0, .null, .int 0, .int 0, .null, .int 0, .int 0, .null, .null, .null, .null, .null, .null, .int 0, .null, .null, .null, .null, .int 0, .null, .null, .null, .null, .null, .null, .int 0, .null, .null, .int 0] 16 15 494
    refine gc_aload_n X dX12_init_123 0 rfl rfl ?_
    refine gc_iconst 5 X dX12_init_124 (by decide) ?_
    refine gc_newa (N := 5) (t := 0) (ty := .int) X (Nat.le_of_ble_eq_true rfl) rfl rfl (fun _ _ h => h) (gz_in 132 (by decide +kernel) rfl) (by decide) (by decide) (Nat.le_of_ble_eq_true rfl) (by rw [hRc]; exact Nat.le_of_ble_eq_true rfl) (by rw [hRs]; exact Nat.le_of_ble_eq_true rfl) (fun cA hc H h => by subst hc; exact h) dX12_init_125 ?_
    refine gc_put X rfl (Nat.le_of_ble_eq_true rfl) rfl gw_X12 tyX12 tyX12_ok nmX12 (j := 27) (ty := (.array .int)) (by decide) rfl (gz_in 1255 (by decide +kernel) rfl) (by decide +kernel) rfl rfl (Nat.le_of_ble_eq_true rfl) dX12_init_127 ?_
    show gc_At x 12 gz_tR q 130 _ _ [.ref (q + 1), .ref (q + 2), .int 0, .ref (q + 3), .int 0, .int 0, .ref (q + 4), .int 0, .int 0, .int 0, .int 0, .ref (q + 5), .ref (q + 6), .ref (q + 7), .ref (q + 8), .ref (q + 9), .ref (q + 10), .ref (q + 11), .ref (q + 12), .ref (q + 13), .ref (q + 14), .int 0, .int 0, .int 0, .int 0, .ref (q + 15), .int 0, .ref (q + 16), .int 0, .int 0, .null, .int 0, .int 0, .null, .null, .null, .null, .null, .null, .int 0, .null, .null, .null, .null, .int 0, .null, .null, .null, .null, .null, .null, .int 0, .null, .null, .int 0] 17 16 499
    refine gc_aload_n X dX12_init_130 0 rfl rfl ?_
    refine gc_sipush 300 X dX12_init_131 (by decide) ?_
    refine gc_newa (N := 300) (t := 0) (ty := .int) X (Nat.le_of_ble_eq_true rfl) rfl rfl (fun _ _ h => h) (gz_in 132 (by decide +kernel) rfl) (by decide) (by decide) (Nat.le_of_ble_eq_true rfl) (by rw [hRc]; exact Nat.le_of_ble_eq_true rfl) (by rw [hRs]; exact Nat.le_of_ble_eq_true rfl) (fun cA hc H h => by subst hc; exact h) dX12_init_134 ?_
    refine gc_put X rfl (Nat.le_of_ble_eq_true rfl) rfl gw_X12 tyX12 tyX12_ok nmX12 (j := 30) (ty := (.array .int)) (by decide) rfl (gz_in 1258 (by decide +kernel) rfl) (by decide +kernel) rfl rfl (Nat.le_of_ble_eq_true rfl) dX12_init_136 ?_
    show gc_At x 12 gz_tR q 139 _ _ [.ref (q + 1), .ref (q + 2), .int 0, .ref (q + 3), .int 0, .int 0, .ref (q + 4), .int 0, .int 0, .int 0, .int 0, .ref (q + 5), .ref (q + 6), .ref (q + 7), .ref (q + 8), .ref (q + 9), .ref (q + 10), .ref (q + 11), .ref (q + 12), .ref (q + 13), .ref (q + 14), .int 0, .int 0, .int 0, .int 0, .ref (q + 15), .int 0, .ref (q + 16), .int 0, .int 0, .ref (q + 17), .int 0, .int 0, .null, .null, .null, .null, .null, .null, .int 0, .null, .null, .null, .null, .int 0, .null, .null, .null, .null, .null, .null, .int 0, .null, .null, .int 0] 18 17 799
    refine gc_aload_n X dX12_init_139 0 rfl rfl ?_
    refine gc_ldc 102400 X dX12_init_140 (gz_in 1160 (by decide +kernel) rfl) ?_
    refine gc_newa (N := 102400) (t := 0) (ty := .int) X (Nat.le_of_ble_eq_true rfl) rfl rfl (fun _ _ h => h) (gz_in 132 (by decide +kernel) rfl) (by decide) (by decide) (Nat.le_of_ble_eq_true rfl) (by rw [hRc]; exact Nat.le_of_ble_eq_true rfl) (by rw [hRs]; exact Nat.le_of_ble_eq_true rfl) (fun cA hc H h => by subst hc; exact h) dX12_init_142 ?_
    refine gc_put X rfl (Nat.le_of_ble_eq_true rfl) rfl gw_X12 tyX12 tyX12_ok nmX12 (j := 33) (ty := (.array .int)) (by decide) rfl (gz_in 1261 (by decide +kernel) rfl) (by decide +kernel) rfl rfl (Nat.le_of_ble_eq_true rfl) dX12_init_144 ?_
    show gc_At x 12 gz_tR q 147 _ _ [.ref (q + 1), .ref (q + 2), .int 0, .ref (q + 3), .int 0, .int 0, .ref (q + 4), .int 0, .int 0, .int 0, .int 0, .ref (q + 5), .ref (q + 6), .ref (q + 7), .ref (q + 8), .ref (q + 9), .ref (q + 10), .ref (q + 11), .ref (q + 12), .ref (q + 13), .ref (q + 14), .int 0, .int 0, .int 0, .int 0, .ref (q + 15), .int 0, .ref (q + 16), .int 0, .int 0, .ref (q + 17), .int 0, .int 0, .ref (q + 18), .null, .null, .null, .null, .null, .int 0, .null, .null, .null, .null, .int 0, .null, .null, .null, .null, .null, .null, .int 0, .null, .null, .int 0] 19 18 103199
    refine gc_aload_n X dX12_init_147 0 rfl rfl ?_
    refine gc_ldc 102400 X dX12_init_148 (gz_in 1160 (by decide +kernel) rfl) ?_
    refine gc_newa (N := 102400) (t := 1) (ty := .boolean) X (Nat.le_of_ble_eq_true rfl) rfl rfl (fun _ _ h => h) (gz_in 269 (by decide +kernel) rfl) (by decide) (by decide) (Nat.le_of_ble_eq_true rfl) (by rw [hRc]; exact Nat.le_of_ble_eq_true rfl) (by rw [hRs]; exact Nat.le_of_ble_eq_true rfl) (fun cA hc H h => by subst hc; exact h) dX12_init_150 ?_
    refine gc_put X rfl (Nat.le_of_ble_eq_true rfl) rfl gw_X12 tyX12 tyX12_ok nmX12 (j := 34) (ty := (.array .boolean)) (by decide) rfl (gz_in 1262 (by decide +kernel) rfl) (by decide +kernel) rfl rfl (Nat.le_of_ble_eq_true rfl) dX12_init_152 ?_
    show gc_At x 12 gz_tR q 155 _ _ [.ref (q + 1), .ref (q + 2), .int 0, .ref (q + 3), .int 0, .int 0, .ref (q + 4), .int 0, .int 0, .int 0, .int 0, .ref (q + 5), .ref (q + 6), .ref (q + 7), .ref (q + 8), .ref (q + 9), .ref (q + 10), .ref (q + 11), .ref (q + 12), .ref (q + 13), .ref (q + 14), .int 0, .int 0, .int 0, .int 0, .ref (q + 15), .int 0, .ref (q + 16), .int 0, .int 0, .ref (q + 17), .int 0, .int 0, .ref (q + 18), .ref (q + 19), .null, .null, .null, .null, .int 0, .null, .null, .null, .null, .int 0, .null, .null, .null, .null, .null, .null, .int 0, .null, .null, .int 0] 20 19 205599
    refine gc_aload_n X dX12_init_155 0 rfl rfl ?_
    refine gc_bipush 24 X dX12_init_156 (by decide) ?_
    refine gc_newa (N := 24) (t := 0) (ty := .int) X (Nat.le_of_ble_eq_true rfl) rfl rfl (fun _ _ h => h) (gz_in 132 (by decide +kernel) rfl) (by decide) (by decide) (Nat.le_of_ble_eq_true rfl) (by rw [hRc]; exact Nat.le_of_ble_eq_true rfl) (by rw [hRs]; exact Nat.le_of_ble_eq_true rfl) (fun cA hc H h => by subst hc; exact h) dX12_init_158 ?_
    refine gc_put X rfl (Nat.le_of_ble_eq_true rfl) rfl gw_X12 tyX12 tyX12_ok nmX12 (j := 35) (ty := (.array .int)) (by decide) rfl (gz_in 1263 (by decide +kernel) rfl) (by decide +kernel) rfl rfl (Nat.le_of_ble_eq_true rfl) dX12_init_160 ?_
    show gc_At x 12 gz_tR q 163 _ _ [.ref (q + 1), .ref (q + 2), .int 0, .ref (q + 3), .int 0, .int 0, .ref (q + 4), .int 0, .int 0, .int 0, .int 0, .ref (q + 5), .ref (q + 6), .ref (q + 7), .ref (q + 8), .ref (q + 9), .ref (q + 10), .ref (q + 11), .ref (q + 12), .ref (q + 13), .ref (q + 14), .int 0, .int 0, .int 0, .int 0, .ref (q + 15), .int 0, .ref (q + 16), .int 0, .int 0, .ref (q + 17), .int 0, .int 0, .ref (q + 18), .ref (q + 19), .ref (q + 20), .null, .null, .null, .int 0, .null, .null, .null, .null, .int 0, .null, .null, .null, .null, .null, .null, .int 0, .null, .null, .int 0] 21 20 205623
    refine gc_aload_n X dX12_init_163 0 rfl rfl ?_
    refine gc_sipush 212 X dX12_init_164 (by decide) ?_
    refine gc_newa (N := 212) (t := 0) (ty := .int) X (Nat.le_of_ble_eq_true rfl) rfl rfl (fun _ _ h => h) (gz_in 132 (by decide +kernel) rfl) (by decide) (by decide) (Nat.le_of_ble_eq_true rfl) (by rw [hRc]; exact Nat.le_of_ble_eq_true rfl) (by rw [hRs]; exact Nat.le_of_ble_eq_true rfl) (fun cA hc H h => by subst hc; exact h) dX12_init_167 ?_
    refine gc_put X rfl (Nat.le_of_ble_eq_true rfl) rfl gw_X12 tyX12 tyX12_ok nmX12 (j := 36) (ty := (.array .int)) (by decide) rfl (gz_in 1264 (by decide +kernel) rfl) (by decide +kernel) rfl rfl (Nat.le_of_ble_eq_true rfl) dX12_init_169 ?_
    show gc_At x 12 gz_tR q 172 _ _ [.ref (q + 1), .ref (q + 2), .int 0, .ref (q + 3), .int 0, .int 0, .ref (q + 4), .int 0, .int 0, .int 0, .int 0, .ref (q + 5), .ref (q + 6), .ref (q + 7), .ref (q + 8), .ref (q + 9), .ref (q + 10), .ref (q + 11), .ref (q + 12), .ref (q + 13), .ref (q + 14), .int 0, .int 0, .int 0, .int 0, .ref (q + 15), .int 0, .ref (q + 16), .int 0, .int 0, .ref (q + 17), .int 0, .int 0, .ref (q + 18), .ref (q + 19), .ref (q + 20), .ref (q + 21), .null, .null, .int 0, .null, .null, .null, .null, .int 0, .null, .null, .null, .null, .null, .null, .int 0, .null, .null, .int 0] 22 21 205835
    refine gc_aload_n X dX12_init_172 0 rfl rfl ?_
    refine gc_iconst 2 X dX12_init_173 (by decide) ?_
    refine gc_newa (N := 2) (t := 1) (ty := .boolean) X (Nat.le_of_ble_eq_true rfl) rfl rfl (fun _ _ h => h) (gz_in 269 (by decide +kernel) rfl) (by decide) (by decide) (Nat.le_of_ble_eq_true rfl) (by rw [hRc]; exact Nat.le_of_ble_eq_true rfl) (by rw [hRs]; exact Nat.le_of_ble_eq_true rfl) (fun cA hc H h => by subst hc; exact h) dX12_init_174 ?_
    refine gc_put X rfl (Nat.le_of_ble_eq_true rfl) rfl gw_X12 tyX12 tyX12_ok nmX12 (j := 37) (ty := (.array .boolean)) (by decide) rfl (gz_in 1265 (by decide +kernel) rfl) (by decide +kernel) rfl rfl (Nat.le_of_ble_eq_true rfl) dX12_init_176 ?_
    show gc_At x 12 gz_tR q 179 _ _ [.ref (q + 1), .ref (q + 2), .int 0, .ref (q + 3), .int 0, .int 0, .ref (q + 4), .int 0, .int 0, .int 0, .int 0, .ref (q + 5), .ref (q + 6), .ref (q + 7), .ref (q + 8), .ref (q + 9), .ref (q + 10), .ref (q + 11), .ref (q + 12), .ref (q + 13), .ref (q + 14), .int 0, .int 0, .int 0, .int 0, .ref (q + 15), .int 0, .ref (q + 16), .int 0, .int 0, .ref (q + 17), .int 0, .int 0, .ref (q + 18), .ref (q + 19), .ref (q + 20), .ref (q + 21), .ref (q + 22), .null, .int 0, .null, .null, .null, .null, .int 0, .null, .null, .null, .null, .null, .null, .int 0, .null, .null, .int 0] 23 22 205837
    refine gc_aload_n X dX12_init_179 0 rfl rfl ?_
    refine gc_sipush 300 X dX12_init_180 (by decide) ?_
    refine gc_newa (N := 300) (t := 0) (ty := .int) X (Nat.le_of_ble_eq_true rfl) rfl rfl (fun _ _ h => h) (gz_in 132 (by decide +kernel) rfl) (by decide) (by decide) (Nat.le_of_ble_eq_true rfl) (by rw [hRc]; exact Nat.le_of_ble_eq_true rfl) (by rw [hRs]; exact Nat.le_of_ble_eq_true rfl) (fun cA hc H h => by subst hc; exact h) dX12_init_183 ?_
    refine gc_put X rfl (Nat.le_of_ble_eq_true rfl) rfl gw_X12 tyX12 tyX12_ok nmX12 (j := 38) (ty := (.array .int)) (by decide) rfl (gz_in 1266 (by decide +kernel) rfl) (by decide +kernel) rfl rfl (Nat.le_of_ble_eq_true rfl) dX12_init_185 ?_
    show gc_At x 12 gz_tR q 188 _ _ [.ref (q + 1), .ref (q + 2), .int 0, .ref (q + 3), .int 0, .int 0, .ref (q + 4), .int 0, .int 0, .int 0, .int 0, .ref (q + 5), .ref (q + 6), .ref (q + 7), .ref (q + 8), .ref (q + 9), .ref (q + 10), .ref (q + 11), .ref (q + 12), .ref (q + 13), .ref (q + 14), .int 0, .int 0, .int 0, .int 0, .ref (q + 15), .int 0, .ref (q + 16), .int 0, .int 0, .ref (q + 17), .int 0, .int 0, .ref (q + 18), .ref (q + 19), .ref (q + 20), .ref (q + 21), .ref (q + 22), .ref (q + 23), .int 0, .null, .null, .null, .null, .int 0, .null, .null, .null, .null, .null, .null, .int 0, .null, .null, .int 0] 24 23 206137
    refine gc_aload_n X dX12_init_188 0 rfl rfl ?_
    refine gc_sipush 1024 X dX12_init_189 (by decide) ?_
    refine gc_newa (N := 1024) (t := 0) (ty := .int) X (Nat.le_of_ble_eq_true rfl) rfl rfl (fun _ _ h => h) (gz_in 132 (by decide +kernel) rfl) (by decide) (by decide) (Nat.le_of_ble_eq_true rfl) (by rw [hRc]; exact Nat.le_of_ble_eq_true rfl) (by rw [hRs]; exact Nat.le_of_ble_eq_true rfl) (fun cA hc H h => by subst hc; exact h) dX12_init_192 ?_
    refine gc_put X rfl (Nat.le_of_ble_eq_true rfl) rfl gw_X12 tyX12 tyX12_ok nmX12 (j := 40) (ty := (.array .int)) (by decide) rfl (gz_in 1268 (by decide +kernel) rfl) (by decide +kernel) rfl rfl (Nat.le_of_ble_eq_true rfl) dX12_init_194 ?_
    show gc_At x 12 gz_tR q 197 _ _ [.ref (q + 1), .ref (q + 2), .int 0, .ref (q + 3), .int 0, .int 0, .ref (q + 4), .int 0, .int 0, .int 0, .int 0, .ref (q + 5), .ref (q + 6), .ref (q + 7), .ref (q + 8), .ref (q + 9), .ref (q + 10), .ref (q + 11), .ref (q + 12), .ref (q + 13), .ref (q + 14), .int 0, .int 0, .int 0, .int 0, .ref (q + 15), .int 0, .ref (q + 16), .int 0, .int 0, .ref (q + 17), .int 0, .int 0, .ref (q + 18), .ref (q + 19), .ref (q + 20), .ref (q + 21), .ref (q + 22), .ref (q + 23), .int 0, .ref (q + 24), .null, .null, .null, .int 0, .null, .null, .null, .null, .null, .null, .int 0, .null, .null, .int 0] 25 24 207161
    refine gc_aload_n X dX12_init_197 0 rfl rfl ?_
    refine gc_sipush 1024 X dX12_init_198 (by decide) ?_
    refine gc_newa (N := 1024) (t := 0) (ty := .int) X (Nat.le_of_ble_eq_true rfl) rfl rfl (fun _ _ h => h) (gz_in 132 (by decide +kernel) rfl) (by decide) (by decide) (Nat.le_of_ble_eq_true rfl) (by rw [hRc]; exact Nat.le_of_ble_eq_true rfl) (by rw [hRs]; exact Nat.le_of_ble_eq_true rfl) (fun cA hc H h => by subst hc; exact h) dX12_init_201 ?_
    refine gc_put X rfl (Nat.le_of_ble_eq_true rfl) rfl gw_X12 tyX12 tyX12_ok nmX12 (j := 41) (ty := (.array .int)) (by decide) rfl (gz_in 1269 (by decide +kernel) rfl) (by decide +kernel) rfl rfl (Nat.le_of_ble_eq_true rfl) dX12_init_203 ?_
    show gc_At x 12 gz_tR q 206 _ _ [.ref (q + 1), .ref (q + 2), .int 0, .ref (q + 3), .int 0, .int 0, .ref (q + 4), .int 0, .int 0, .int 0, .int 0, .ref (q + 5), .ref (q + 6), .ref (q + 7), .ref (q + 8), .ref (q + 9), .ref (q + 10), .ref (q + 11), .ref (q + 12), .ref (q + 13), .ref (q + 14), .int 0, .int 0, .int 0, .int 0, .ref (q + 15), .int 0, .ref (q + 16), .int 0, .int 0, .ref (q + 17), .int 0, .int 0, .ref (q + 18), .ref (q + 19), .ref (q + 20), .ref (q + 21), .ref (q + 22), .ref (q + 23), .int 0, .ref (q + 24), .ref (q + 25), .null, .null, .int 0, .null, .null, .null, .null, .null, .null, .int 0, .null, .null, .int 0] 26 25 208185
    refine gc_aload_n X dX12_init_206 0 rfl rfl ?_
    refine gc_sipush 1024 X dX12_init_207 (by decide) ?_
    refine gc_newa (N := 1024) (t := 0) (ty := .int) X (Nat.le_of_ble_eq_true rfl) rfl rfl (fun _ _ h => h) (gz_in 132 (by decide +kernel) rfl) (by decide) (by decide) (Nat.le_of_ble_eq_true rfl) (by rw [hRc]; exact Nat.le_of_ble_eq_true rfl) (by rw [hRs]; exact Nat.le_of_ble_eq_true rfl) (fun cA hc H h => by subst hc; exact h) dX12_init_210 ?_
    refine gc_put X rfl (Nat.le_of_ble_eq_true rfl) rfl gw_X12 tyX12 tyX12_ok nmX12 (j := 42) (ty := (.array .int)) (by decide) rfl (gz_in 1270 (by decide +kernel) rfl) (by decide +kernel) rfl rfl (Nat.le_of_ble_eq_true rfl) dX12_init_212 ?_
    show gc_At x 12 gz_tR q 215 _ _ [.ref (q + 1), .ref (q + 2), .int 0, .ref (q + 3), .int 0, .int 0, .ref (q + 4), .int 0, .int 0, .int 0, .int 0, .ref (q + 5), .ref (q + 6), .ref (q + 7), .ref (q + 8), .ref (q + 9), .ref (q + 10), .ref (q + 11), .ref (q + 12), .ref (q + 13), .ref (q + 14), .int 0, .int 0, .int 0, .int 0, .ref (q + 15), .int 0, .ref (q + 16), .int 0, .int 0, .ref (q + 17), .int 0, .int 0, .ref (q + 18), .ref (q + 19), .ref (q + 20), .ref (q + 21), .ref (q + 22), .ref (q + 23), .int 0, .ref (q + 24), .ref (q + 25), .ref (q + 26), .null, .int 0, .null, .null, .null, .null, .null, .null, .int 0, .null, .null, .int 0] 27 26 209209
    refine gc_aload_n X dX12_init_215 0 rfl rfl ?_
    refine gc_sipush 1024 X dX12_init_216 (by decide) ?_
    refine gc_newa (N := 1024) (t := 1) (ty := .boolean) X (Nat.le_of_ble_eq_true rfl) rfl rfl (fun _ _ h => h) (gz_in 269 (by decide +kernel) rfl) (by decide) (by decide) (Nat.le_of_ble_eq_true rfl) (by rw [hRc]; exact Nat.le_of_ble_eq_true rfl) (by rw [hRs]; exact Nat.le_of_ble_eq_true rfl) (fun cA hc H h => by subst hc; exact h) dX12_init_219 ?_
    refine gc_put X rfl (Nat.le_of_ble_eq_true rfl) rfl gw_X12 tyX12 tyX12_ok nmX12 (j := 43) (ty := (.array .boolean)) (by decide) rfl (gz_in 1271 (by decide +kernel) rfl) (by decide +kernel) rfl rfl (Nat.le_of_ble_eq_true rfl) dX12_init_221 ?_
    show gc_At x 12 gz_tR q 224 _ _ [.ref (q + 1), .ref (q + 2), .int 0, .ref (q + 3), .int 0, .int 0, .ref (q + 4), .int 0, .int 0, .int 0, .int 0, .ref (q + 5), .ref (q + 6), .ref (q + 7), .ref (q + 8), .ref (q + 9), .ref (q + 10), .ref (q + 11), .ref (q + 12), .ref (q + 13), .ref (q + 14), .int 0, .int 0, .int 0, .int 0, .ref (q + 15), .int 0, .ref (q + 16), .int 0, .int 0, .ref (q + 17), .int 0, .int 0, .ref (q + 18), .ref (q + 19), .ref (q + 20), .ref (q + 21), .ref (q + 22), .ref (q + 23), .int 0, .ref (q + 24), .ref (q + 25), .ref (q + 26), .ref (q + 27), .int 0, .null, .null, .null, .null, .null, .null, .int 0, .null, .null, .int 0] 28 27 210233
    refine gc_aload_n X dX12_init_224 0 rfl rfl ?_
    refine gc_sipush 1024 X dX12_init_225 (by decide) ?_
    refine gc_newa (N := 1024) (t := 0) (ty := .int) X (Nat.le_of_ble_eq_true rfl) rfl rfl (fun _ _ h => h) (gz_in 132 (by decide +kernel) rfl) (by decide) (by decide) (Nat.le_of_ble_eq_true rfl) (by rw [hRc]; exact Nat.le_of_ble_eq_true rfl) (by rw [hRs]; exact Nat.le_of_ble_eq_true rfl) (fun cA hc H h => by subst hc; exact h) dX12_init_228 ?_
    refine gc_put X rfl (Nat.le_of_ble_eq_true rfl) rfl gw_X12 tyX12 tyX12_ok nmX12 (j := 45) (ty := (.array .int)) (by decide) rfl (gz_in 1273 (by decide +kernel) rfl) (by decide +kernel) rfl rfl (Nat.le_of_ble_eq_true rfl) dX12_init_230 ?_
    show gc_At x 12 gz_tR q 233 _ _ [.ref (q + 1), .ref (q + 2), .int 0, .ref (q + 3), .int 0, .int 0, .ref (q + 4), .int 0, .int 0, .int 0, .int 0, .ref (q + 5), .ref (q + 6), .ref (q + 7), .ref (q + 8), .ref (q + 9), .ref (q + 10), .ref (q + 11), .ref (q + 12), .ref (q + 13), .ref (q + 14), .int 0, .int 0, .int 0, .int 0, .ref (q + 15), .int 0, .ref (q + 16), .int 0, .int 0, .ref (q + 17), .int 0, .int 0, .ref (q + 18), .ref (q + 19), .ref (q + 20), .ref (q + 21), .ref (q + 22), .ref (q + 23), .int 0, .ref (q + 24), .ref (q + 25), .ref (q + 26), .ref (q + 27), .int 0, .ref (q + 28), .null, .null, .null, .null, .null, .int 0, .null, .null, .int 0] 29 28 211257
    refine gc_aload_n X dX12_init_233 0 rfl rfl ?_
    refine gc_bipush 25 X dX12_init_234 (by decide) ?_
    refine gc_newa (N := 25) (t := 0) (ty := .int) X (Nat.le_of_ble_eq_true rfl) rfl rfl (fun _ _ h => h) (gz_in 132 (by decide +kernel) rfl) (by decide) (by decide) (Nat.le_of_ble_eq_true rfl) (by rw [hRc]; exact Nat.le_of_ble_eq_true rfl) (by rw [hRs]; exact Nat.le_of_ble_eq_true rfl) (fun cA hc H h => by subst hc; exact h) dX12_init_236 ?_
    refine gc_put X rfl (Nat.le_of_ble_eq_true rfl) rfl gw_X12 tyX12 tyX12_ok nmX12 (j := 46) (ty := (.array .int)) (by decide) rfl (gz_in 1274 (by decide +kernel) rfl) (by decide +kernel) rfl rfl (Nat.le_of_ble_eq_true rfl) dX12_init_238 ?_
    show gc_At x 12 gz_tR q 241 _ _ [.ref (q + 1), .ref (q + 2), .int 0, .ref (q + 3), .int 0, .int 0, .ref (q + 4), .int 0, .int 0, .int 0, .int 0, .ref (q + 5), .ref (q + 6), .ref (q + 7), .ref (q + 8), .ref (q + 9), .ref (q + 10), .ref (q + 11), .ref (q + 12), .ref (q + 13), .ref (q + 14), .int 0, .int 0, .int 0, .int 0, .ref (q + 15), .int 0, .ref (q + 16), .int 0, .int 0, .ref (q + 17), .int 0, .int 0, .ref (q + 18), .ref (q + 19), .ref (q + 20), .ref (q + 21), .ref (q + 22), .ref (q + 23), .int 0, .ref (q + 24), .ref (q + 25), .ref (q + 26), .ref (q + 27), .int 0, .ref (q + 28), .ref (q + 29), .null, .null, .null, .null, .int 0, .null, .null, .int 0] 30 29 211282
    refine gc_aload_n X dX12_init_241 0 rfl rfl ?_
    refine gc_bipush 25 X dX12_init_242 (by decide) ?_
    refine gc_newa (N := 25) (t := 0) (ty := .int) X (Nat.le_of_ble_eq_true rfl) rfl rfl (fun _ _ h => h) (gz_in 132 (by decide +kernel) rfl) (by decide) (by decide) (Nat.le_of_ble_eq_true rfl) (by rw [hRc]; exact Nat.le_of_ble_eq_true rfl) (by rw [hRs]; exact Nat.le_of_ble_eq_true rfl) (fun cA hc H h => by subst hc; exact h) dX12_init_244 ?_
    refine gc_put X rfl (Nat.le_of_ble_eq_true rfl) rfl gw_X12 tyX12 tyX12_ok nmX12 (j := 47) (ty := (.array .int)) (by decide) rfl (gz_in 1275 (by decide +kernel) rfl) (by decide +kernel) rfl rfl (Nat.le_of_ble_eq_true rfl) dX12_init_246 ?_
    show gc_At x 12 gz_tR q 249 _ _ [.ref (q + 1), .ref (q + 2), .int 0, .ref (q + 3), .int 0, .int 0, .ref (q + 4), .int 0, .int 0, .int 0, .int 0, .ref (q + 5), .ref (q + 6), .ref (q + 7), .ref (q + 8), .ref (q + 9), .ref (q + 10), .ref (q + 11), .ref (q + 12), .ref (q + 13), .ref (q + 14), .int 0, .int 0, .int 0, .int 0, .ref (q + 15), .int 0, .ref (q + 16), .int 0, .int 0, .ref (q + 17), .int 0, .int 0, .ref (q + 18), .ref (q + 19), .ref (q + 20), .ref (q + 21), .ref (q + 22), .ref (q + 23), .int 0, .ref (q + 24), .ref (q + 25), .ref (q + 26), .ref (q + 27), .int 0, .ref (q + 28), .ref (q + 29), .ref (q + 30), .null, .null, .null, .int 0, .null, .null, .int 0] 31 30 211307
    refine gc_aload_n X dX12_init_249 0 rfl rfl ?_
    refine gc_bipush 25 X dX12_init_250 (by decide) ?_
    refine gc_newa (N := 25) (t := 0) (ty := .int) X (Nat.le_of_ble_eq_true rfl) rfl rfl (fun _ _ h => h) (gz_in 132 (by decide +kernel) rfl) (by decide) (by decide) (Nat.le_of_ble_eq_true rfl) (by rw [hRc]; exact Nat.le_of_ble_eq_true rfl) (by rw [hRs]; exact Nat.le_of_ble_eq_true rfl) (fun cA hc H h => by subst hc; exact h) dX12_init_252 ?_
    refine gc_put X rfl (Nat.le_of_ble_eq_true rfl) rfl gw_X12 tyX12 tyX12_ok nmX12 (j := 48) (ty := (.array .int)) (by decide) rfl (gz_in 1276 (by decide +kernel) rfl) (by decide +kernel) rfl rfl (Nat.le_of_ble_eq_true rfl) dX12_init_254 ?_
    show gc_At x 12 gz_tR q 257 _ _ [.ref (q + 1), .ref (q + 2), .int 0, .ref (q + 3), .int 0, .int 0, .ref (q + 4), .int 0, .int 0, .int 0, .int 0, .ref (q + 5), .ref (q + 6), .ref (q + 7), .ref (q + 8), .ref (q + 9), .ref (q + 10), .ref (q + 11), .ref (q + 12), .ref (q + 13), .ref (q + 14), .int 0, .int 0, .int 0, .int 0, .ref (q + 15), .int 0, .ref (q + 16), .int 0, .int 0, .ref (q + 17), .int 0, .int 0, .ref (q + 18), .ref (q + 19), .ref (q + 20), .ref (q + 21), .ref (q + 22), .ref (q + 23), .int 0, .ref (q + 24), .ref (q + 25), .ref (q + 26), .ref (q + 27), .int 0, .ref (q + 28), .ref (q + 29), .ref (q + 30), .ref (q + 31), .null, .null, .int 0, .null, .null, .int 0] 32 31 211332
    refine gc_aload_n X dX12_init_257 0 rfl rfl ?_
    refine gc_bipush 25 X dX12_init_258 (by decide) ?_
    refine gc_newa (N := 25) (t := 0) (ty := .int) X (Nat.le_of_ble_eq_true rfl) rfl rfl (fun _ _ h => h) (gz_in 132 (by decide +kernel) rfl) (by decide) (by decide) (Nat.le_of_ble_eq_true rfl) (by rw [hRc]; exact Nat.le_of_ble_eq_true rfl) (by rw [hRs]; exact Nat.le_of_ble_eq_true rfl) (fun cA hc H h => by subst hc; exact h) dX12_init_260 ?_
    refine gc_put X rfl (Nat.le_of_ble_eq_true rfl) rfl gw_X12 tyX12 tyX12_ok nmX12 (j := 49) (ty := (.array .int)) (by decide) rfl (gz_in 1277 (by decide +kernel) rfl) (by decide +kernel) rfl rfl (Nat.le_of_ble_eq_true rfl) dX12_init_262 ?_
    show gc_At x 12 gz_tR q 265 _ _ [.ref (q + 1), .ref (q + 2), .int 0, .ref (q + 3), .int 0, .int 0, .ref (q + 4), .int 0, .int 0, .int 0, .int 0, .ref (q + 5), .ref (q + 6), .ref (q + 7), .ref (q + 8), .ref (q + 9), .ref (q + 10), .ref (q + 11), .ref (q + 12), .ref (q + 13), .ref (q + 14), .int 0, .int 0, .int 0, .int 0, .ref (q + 15), .int 0, .ref (q + 16), .int 0, .int 0, .ref (q + 17), .int 0, .int 0, .ref (q + 18), .ref (q + 19), .ref (q + 20), .ref (q + 21), .ref (q + 22), .ref (q + 23), .int 0, .ref (q + 24), .ref (q + 25), .ref (q + 26), .ref (q + 27), .int 0, .ref (q + 28), .ref (q + 29), .ref (q + 30), .ref (q + 31), .ref (q + 32), .null, .int 0, .null, .null, .int 0] 33 32 211357
    refine gc_aload_n X dX12_init_265 0 rfl rfl ?_
    refine gc_sipush 1060 X dX12_init_266 (by decide) ?_
    refine gc_newa (N := 1060) (t := 0) (ty := .int) X (Nat.le_of_ble_eq_true rfl) rfl rfl (fun _ _ h => h) (gz_in 132 (by decide +kernel) rfl) (by decide) (by decide) (Nat.le_of_ble_eq_true rfl) (by rw [hRc]; exact Nat.le_of_ble_eq_true rfl) (by rw [hRs]; exact Nat.le_of_ble_eq_true rfl) (fun cA hc H h => by subst hc; exact h) dX12_init_269 ?_
    refine gc_put X rfl (Nat.le_of_ble_eq_true rfl) rfl gw_X12 tyX12 tyX12_ok nmX12 (j := 50) (ty := (.array .int)) (by decide) rfl (gz_in 1278 (by decide +kernel) rfl) (by decide +kernel) rfl rfl (Nat.le_of_ble_eq_true rfl) dX12_init_271 ?_
    show gc_At x 12 gz_tR q 274 _ _ [.ref (q + 1), .ref (q + 2), .int 0, .ref (q + 3), .int 0, .int 0, .ref (q + 4), .int 0, .int 0, .int 0, .int 0, .ref (q + 5), .ref (q + 6), .ref (q + 7), .ref (q + 8), .ref (q + 9), .ref (q + 10), .ref (q + 11), .ref (q + 12), .ref (q + 13), .ref (q + 14), .int 0, .int 0, .int 0, .int 0, .ref (q + 15), .int 0, .ref (q + 16), .int 0, .int 0, .ref (q + 17), .int 0, .int 0, .ref (q + 18), .ref (q + 19), .ref (q + 20), .ref (q + 21), .ref (q + 22), .ref (q + 23), .int 0, .ref (q + 24), .ref (q + 25), .ref (q + 26), .ref (q + 27), .int 0, .ref (q + 28), .ref (q + 29), .ref (q + 30), .ref (q + 31), .ref (q + 32), .ref (q + 33), .int 0, .null, .null, .int 0] 34 33 212417
    refine gc_aload_n X dX12_init_274 0 rfl rfl ?_
    refine gc_bipush 106 X dX12_init_275 (by decide) ?_
    refine gc_newa (N := 106) (t := 0) (ty := .int) X (Nat.le_of_ble_eq_true rfl) rfl rfl (fun _ _ h => h) (gz_in 132 (by decide +kernel) rfl) (by decide) (by decide) (Nat.le_of_ble_eq_true rfl) (by rw [hRc]; exact Nat.le_of_ble_eq_true rfl) (by rw [hRs]; exact Nat.le_of_ble_eq_true rfl) (fun cA hc H h => by subst hc; exact h) dX12_init_277 ?_
    refine gc_put X rfl (Nat.le_of_ble_eq_true rfl) rfl gw_X12 tyX12 tyX12_ok nmX12 (j := 52) (ty := (.array .int)) (by decide) rfl (gz_in 1280 (by decide +kernel) rfl) (by decide +kernel) rfl rfl (Nat.le_of_ble_eq_true rfl) dX12_init_279 ?_
    show gc_At x 12 gz_tR q 282 _ _ [.ref (q + 1), .ref (q + 2), .int 0, .ref (q + 3), .int 0, .int 0, .ref (q + 4), .int 0, .int 0, .int 0, .int 0, .ref (q + 5), .ref (q + 6), .ref (q + 7), .ref (q + 8), .ref (q + 9), .ref (q + 10), .ref (q + 11), .ref (q + 12), .ref (q + 13), .ref (q + 14), .int 0, .int 0, .int 0, .int 0, .ref (q + 15), .int 0, .ref (q + 16), .int 0, .int 0, .ref (q + 17), .int 0, .int 0, .ref (q + 18), .ref (q + 19), .ref (q + 20), .ref (q + 21), .ref (q + 22), .ref (q + 23), .int 0, .ref (q + 24), .ref (q + 25), .ref (q + 26), .ref (q + 27), .int 0, .ref (q + 28), .ref (q + 29), .ref (q + 30), .ref (q + 31), .ref (q + 32), .ref (q + 33), .int 0, .ref (q + 34), .null, .int 0] 35 34 212523
    refine gc_aload_n X dX12_init_282 0 rfl rfl ?_
    refine gc_sipush 240 X dX12_init_283 (by decide) ?_
    refine gc_newa (N := 240) (t := 0) (ty := .int) X (Nat.le_of_ble_eq_true rfl) rfl rfl (fun _ _ h => h) (gz_in 132 (by decide +kernel) rfl) (by decide) (by decide) (Nat.le_of_ble_eq_true rfl) (by rw [hRc]; exact Nat.le_of_ble_eq_true rfl) (by rw [hRs]; exact Nat.le_of_ble_eq_true rfl) (fun cA hc H h => by subst hc; exact h) dX12_init_286 ?_
    refine gc_put X rfl (Nat.le_of_ble_eq_true rfl) rfl gw_X12 tyX12 tyX12_ok nmX12 (j := 53) (ty := (.array .int)) (by decide) rfl (gz_in 1281 (by decide +kernel) rfl) (by decide +kernel) rfl rfl (Nat.le_of_ble_eq_true rfl) dX12_init_288 ?_
    show gc_At x 12 gz_tR q 291 _ _ [.ref (q + 1), .ref (q + 2), .int 0, .ref (q + 3), .int 0, .int 0, .ref (q + 4), .int 0, .int 0, .int 0, .int 0, .ref (q + 5), .ref (q + 6), .ref (q + 7), .ref (q + 8), .ref (q + 9), .ref (q + 10), .ref (q + 11), .ref (q + 12), .ref (q + 13), .ref (q + 14), .int 0, .int 0, .int 0, .int 0, .ref (q + 15), .int 0, .ref (q + 16), .int 0, .int 0, .ref (q + 17), .int 0, .int 0, .ref (q + 18), .ref (q + 19), .ref (q + 20), .ref (q + 21), .ref (q + 22), .ref (q + 23), .int 0, .ref (q + 24), .ref (q + 25), .ref (q + 26), .ref (q + 27), .int 0, .ref (q + 28), .ref (q + 29), .ref (q + 30), .ref (q + 31), .ref (q + 32), .ref (q + 33), .int 0, .ref (q + 34), .ref (q + 35), .int 0] 36 35 212763
    refine gc_toAt gz_cfR gc_M0R (fun i hi => ⟨of_decide_eq_true hi, fun _ => rfl, fun _ => rfl⟩) ?_
    have X' := gc_okX (cf := gz_cfR) (c := 35) (s := 212763) X
    refine gr_aload_n X' dX12_init_291 0 rfl rfl ?_
    refine gr_aload_n X' dX12_init_292 0 rfl rfl ?_
    refine gf12_0 X' wf_RX12_9 dX12_init_293 ?_
    refine gr_callV (asF := fun ad => [.ref (ad 0), .ref (ad 1)]) [.ref (gx_ad (gc_x x gz_cfR q 35 212763) 1)] X' (c12_layRules gk_R1 hf) rfl wm_RX12_119 rfl (X'.kd gk_R0).1 ((X'.kd gk_R0).2 _ _ _ _) rfl (by decide) (by decide) rfl (Nat.le_of_ble_eq_true rfl) ⟨by show 35 ≤ (gx_R x).cells; rw [hRc]; exact Nat.le_refl _, by show 212763 ≤ (gx_R x).slots; rw [hRs]; exact Nat.le_refl _⟩ dX12_init_296 ?_
    exact hE _ _ dX12_init_299
  rw [hx] at go
  exact go s9.heap [] ls hsz hP (fun i a b => by omega) va_S.rf hl
end GKM
end
section
section GA
def gz_bnd : Nat → Nat := fun c => match c with
  | 0 => 134
  | 1 => 1
  | 4 => 2
  | 6 => 2
  | 7 => 1
  | 9 => 14
  | 13 => 4
  | 15 => 4
  | 16 => 8
  | 17 => 53
  | 18 => 25
  | 20 => 3
  | 22 => 3
  | 23 => 1
  | 27 => 35
  | _ => 0
theorem gz_prs {pf : Nat → Bool} {k : Nat} (h : gz_cfC.1 pf k = true) : k < 135 ∨ ∃ t d, t < 12 ∧ d < 4 ∧ pf t = true ∧ k = 135 + 4 * t + d := by
  rcases Nat.lt_or_ge k 135 with q | q
  · exact Or.inl q
  · refine Or.inr ⟨(k - 135) / 4, (k - 135) % 4, ?_⟩
    have h2 : (if k < 135 then true else if k < 183 then pf ((k - 135) / 4) else false) = true := h
    rw [if_neg (by omega)] at h2
    by_cases h3 : k < 183
    · rw [if_pos h3] at h2
      exact ⟨by omega, by omega, h2, by omega⟩
    · rw [if_neg h3] at h2
      cases h2
theorem gz_prsS {pf : Nat → Bool} {k : Nat} (h : k < 135) : gz_cfC.1 pf k = true := by
  show (if k < 135 then true else if k < 183 then pf ((k - 135) / 4) else false) = true
  rw [if_pos h]
theorem gz_prsB {pf : Nat → Bool} {t d : Nat} (ht : t < 12) (hd : d < 4) (hp : pf t = true) : gz_cfC.1 pf (135 + 4 * t + d) = true := by
  show (if 135 + 4 * t + d < 135 then true else if 135 + 4 * t + d < 183 then pf ((135 + 4 * t + d - 135) / 4) else false) = true
  rw [if_neg (by omega), if_pos (by omega), show (135 + 4 * t + d - 135) / 4 = t by omega]
  exact hp
theorem gz_refs {pf : Nat → Bool} {k o : Nat} (h : gz_cfC.1 pf k = true) (ho : o ≤ gz_bnd (gz_tC.getD k 0)) : gz_cfC.1 pf (k + o) = true := by
  rcases gz_prs h with q | ⟨t, d, ht, hd, hp, rfl⟩
  · refine gz_prsS (Nat.lt_of_le_of_lt (Nat.add_le_add_left ho k) ?_)
    exact (by decide +kernel : ∀ k, k < 135 → k + gz_bnd (gz_tC.getD k 0) < 135) k q
  · have h2 := (by decide +kernel : ∀ t, t < 12 → ∀ d, d < 4 → d + gz_bnd (gz_tC.getD (135 + 4 * t + d) 0) < 4) t ht d hd
    rw [show 135 + 4 * t + d + o = 135 + 4 * t + (d + o) by omega]
    exact gz_prsB ht (by omega) hp
theorem gz_main {pf : Nat → Bool} {k : Nat} (hk : gz_cfC.1 pf k = true) (h : gz_tC.getD k 0 = 0) : k = 0 := by
  have q : k < 183 := by
    rcases gz_prs hk with q | ⟨t, d, ht, hd, hp, rfl⟩ <;> omega
  exact (by decide +kernel : ∀ k, k < 183 → gz_tC.getD k 0 = 0 → k = 0) k q h
theorem gz_atX {D : va_G} {cl : List vw_C} {aC : Nat → ClassId} {ad ad' : Nat → Nat} {pf pf' : Nat → Bool} {c k a : Nat} {g : Nat → Int32} {gl : Nat → Int64} {H : Heap} (hm : c = 0 → k = 0) (hmod : c ≠ 27) (h : ∀ o, o ≤ gz_bnd c → ad' (k + o) = ad (k + o)) (hK : ∀ j, pf' (100 + j) = pf (100 + j) ∧ (pf (100 + j) = true → ad' (135 + 4 * j) = ad (135 + 4 * j))) (hC : ∀ v : Int32, c = 0 → ad' (gz_cIx v) = ad (gz_cIx v)) (hv : va_at D cl (a, gz_kc c aC ad pf k g gl) H) : va_at D cl (a, gz_kc c aC ad' pf' k g gl) H := by
  have hKf : ∀ j, (if pf' (100 + j) = true then some (ad' (135 + 4 * j)) else none) = (if pf (100 + j) = true then some (ad (135 + 4 * j)) else none) := by
    intro j
    obtain ⟨h1, h2⟩ := hK j
    rw [h1]
    split
    · rename_i h3; rw [h2 h3]
    · rfl
  revert hm hmod h hC hv
  unfold gz_kc
  split
  · intro hm hmod h hC hv
    have hk := hm rfl
    subst hk
    have e : gz_oX11 aC ad' pf' 0 g gl = gz_oX11 aC ad pf 0 g gl := by
      have h1 : ad' 1 = ad 1 := by have := h 1 (by decide); rwa [Nat.zero_add] at this
      have h3 : ad' 3 = ad 3 := by have := h 3 (by decide); rwa [Nat.zero_add] at this
      have h4 : ad' 4 = ad 4 := by have := h 4 (by decide); rwa [Nat.zero_add] at this
      have h7 : ad' 7 = ad 7 := by have := h 7 (by decide); rwa [Nat.zero_add] at this
      have h11 : ad' 11 = ad 11 := by have := h 11 (by decide); rwa [Nat.zero_add] at this
      have h39 : ad' 39 = ad 39 := by have := h 39 (by decide); rwa [Nat.zero_add] at this
      have h58 : ad' 58 = ad 58 := by have := h 58 (by decide); rwa [Nat.zero_add] at this
      have h69 : ad' 69 = ad 69 := by have := h 69 (by decide); rwa [Nat.zero_add] at this
      have h123 : ad' 123 = ad 123 := by have := h 123 (by decide); rwa [Nat.zero_add] at this
      have h127 : ad' 127 = ad 127 := by have := h 127 (by decide); rwa [Nat.zero_add] at this
      have h131 : ad' 131 = ad 131 := by have := h 131 (by decide); rwa [Nat.zero_add] at this
      have h133 : ad' 133 = ad 133 := by have := h 133 (by decide); rwa [Nat.zero_add] at this
      have h134 : ad' 134 = ad 134 := by have := h 134 (by decide); rwa [Nat.zero_add] at this
      simp only [gz_oX11, hC _ rfl, h1, h3, h4, h7, h11, h39, h58, h69, h123, h127, h131, h133, h134]
    rw [e]
    exact hv
  · intro hm hmod h hC hv
    have e : gz_oX10 aC ad' pf' k g gl = gz_oX10 aC ad pf k g gl := by
      simp only [gz_oX10, h 1 (by decide)]
    rw [e]
    exact hv
  · intro hm hmod h hC hv
    exact hv
  · intro hm hmod h hC hv
    exact hv
  · intro hm hmod h hC hv
    have e : gz_oX1 aC ad' pf' k g gl = gz_oX1 aC ad pf k g gl := by
      simp only [gz_oX1, h 1 (by decide), h 2 (by decide)]
    rw [e]
    exact hv
  · intro hm hmod h hC hv
    exact hv
  · intro hm hmod h hC hv
    have e : gz_oX0 aC ad' pf' k g gl = gz_oX0 aC ad pf k g gl := by
      simp only [gz_oX0, h 1 (by decide), h 2 (by decide)]
    rw [e]
    exact hv
  · intro hm hmod h hC hv
    have e : gz_oX5 aC ad' pf' k g gl = gz_oX5 aC ad pf k g gl := by
      simp only [gz_oX5, h 1 (by decide)]
    rw [e]
    exact hv
  · intro hm hmod h hC hv
    exact hv
  · intro hm hmod h hC hv
    have e : gz_oX7 aC ad' pf' k g gl = gz_oX7 aC ad pf k g gl := by
      simp only [gz_oX7, h 1 (by decide), h 2 (by decide), h 3 (by decide), h 4 (by decide), h 5 (by decide), h 6 (by decide), h 7 (by decide), h 8 (by decide), h 9 (by decide), h 14 (by decide)]
    rw [e]
    exact hv
  · intro hm hmod h hC hv
    exact hv
  · intro hm hmod h hC hv
    exact hv
  · intro hm hmod h hC hv
    exact hv
  · intro hm hmod h hC hv
    have hv2 : H[a]? = some (vp_cell (aC 4) (4, .inr (.inr (.inr (.inr (fun j => some (ad (k + 1 + j)))))))) := hv
    show H[a]? = some (vp_cell (aC 4) (4, .inr (.inr (.inr (.inr (fun j => some (ad' (k + 1 + j))))))))
    rw [hv2, vp_cell_q, vp_cell_q]
    exact congrArg some (gc_arrExt fun j hj => by
      show va_rf (some (ad (k + 1 + j))) = va_rf (some (ad' (k + 1 + j)))
      rw [Nat.add_assoc, h (1 + j) (by show 1 + j ≤ 4; omega)])
  · intro hm hmod h hC hv
    exact hv
  · intro hm hmod h hC hv
    have hv2 : H[a]? = some (vp_cell (aC 4) (4, .inr (.inr (.inr (.inr (fun j => some (ad (k + 1 + j)))))))) := hv
    show H[a]? = some (vp_cell (aC 4) (4, .inr (.inr (.inr (.inr (fun j => some (ad' (k + 1 + j))))))))
    rw [hv2, vp_cell_q, vp_cell_q]
    exact congrArg some (gc_arrExt fun j hj => by
      show va_rf (some (ad (k + 1 + j))) = va_rf (some (ad' (k + 1 + j)))
      rw [Nat.add_assoc, h (1 + j) (by show 1 + j ≤ 4; omega)])
  · intro hm hmod h hC hv
    have e : gz_oX2 aC ad' pf' k g gl = gz_oX2 aC ad pf k g gl := by
      simp only [gz_oX2, h 1 (by decide), h 2 (by decide), h 3 (by decide), h 4 (by decide), h 5 (by decide), h 6 (by decide), h 7 (by decide), h 8 (by decide)]
    rw [e]
    exact hv
  · intro hm hmod h hC hv
    have e : gz_oX6 aC ad' pf' k g gl = gz_oX6 aC ad pf k g gl := by
      simp only [gz_oX6, h 1 (by decide), h 27 (by decide), h 53 (by decide)]
    rw [e]
    exact hv
  · intro hm hmod h hC hv
    have hv2 : H[a]? = some (vp_cell (aC 4) (25, .inr (.inr (.inr (.inr (fun j => some (ad (k + 1 + j)))))))) := hv
    show H[a]? = some (vp_cell (aC 4) (25, .inr (.inr (.inr (.inr (fun j => some (ad' (k + 1 + j))))))))
    rw [hv2, vp_cell_q, vp_cell_q]
    exact congrArg some (gc_arrExt fun j hj => by
      show va_rf (some (ad (k + 1 + j))) = va_rf (some (ad' (k + 1 + j)))
      rw [Nat.add_assoc, h (1 + j) (by show 1 + j ≤ 25; omega)])
  · intro hm hmod h hC hv
    exact hv
  · intro hm hmod h hC hv
    have e : gz_oX8 aC ad' pf' k g gl = gz_oX8 aC ad pf k g gl := by
      simp only [gz_oX8, h 1 (by decide), h 2 (by decide), h 3 (by decide)]
    rw [e]
    exact hv
  · intro hm hmod h hC hv
    exact hv
  · intro hm hmod h hC hv
    have e : gz_oX9 aC ad' pf' k g gl = gz_oX9 aC ad pf k g gl := by
      simp only [gz_oX9, h 1 (by decide), h 2 (by decide), h 3 (by decide)]
    rw [e]
    exact hv
  · intro hm hmod h hC hv
    have e : gz_oX4 aC ad' pf' k g gl = gz_oX4 aC ad pf k g gl := by
      simp only [gz_oX4, h 1 (by decide)]
    rw [e]
    exact hv
  · intro hm hmod h hC hv
    have e : gz_oK 10 0 aC ad' pf' k g gl = gz_oK 10 0 aC ad pf k g gl := by
      simp only [gz_oK, hKf]
    rw [e]
    exact hv
  · intro hm hmod h hC hv
    have e : gz_oK 2 10 aC ad' pf' k g gl = gz_oK 2 10 aC ad pf k g gl := by
      simp only [gz_oK, hKf]
    rw [e]
    exact hv
  · intro hm hmod h hC hv
    exact hv
  · intro hm hmod h hC hv
    exact absurd rfl hmod
  · intro hm hmod h hC hv
    exact hv
  · intro hm hmod h hC hv
    exact hv
  · intro hm hmod h hC hv
    exact hv
  · intro hm hmod h hC hv
    exact hv
  · intro hm hmod h hC hv
    exact hv
  · intro hm hmod h hC hv
    exact hv
  · intro hm hmod h hC hv
    exact hv
  · intro hm hmod h hC hv
    exact hv
  · intro hm hmod h hC hv
    exact hv
  · intro hm hmod h hC hv
    exact hv
  · intro hm hmod h hC hv
    exact hv
  · intro hm hmod h hC hv
    exact hv
  · intro hm hmod h hC hv
    exact hv
end GA
end
section
section GA2
def gz_set (x : gz_X) (ad' : Nat → Nat) (pf' : Nat → Bool) (c' s' : Nat) : gz_X := (gx_p x, gx_l x, gx_e x, gx_R x, gx_s x, gx_m x, gx_args x, gx_below x, gx_meth x, gx_c x, gx_Q x, gx_A x, gx_D x, gx_aC x, gx_cf x, ad', pf', gx_nL x, c', s', gx_cl x)
def gz_U (x : gz_X) (u : Nat) : Prop := gx_cells x = 4 * u ∧ gx_slots x = 109 * u ∧ u ≤ 1 ∧ 4 ≤ (gx_R x).cells ∧ 109 ≤ (gx_R x).slots
def gz_St (x x' : gz_X) : Prop := (∃ ad' pf' c' s', x' = gz_set x ad' pf' c' s') ∧ ∀ k, gz_cfC.1 (gx_pf x) k = true → gz_cfC.1 (gx_pf x') k = true ∧ gx_ad x' k = gx_ad x k
theorem gz_U.c {x : gz_X} {u : Nat} (h : gz_U x u) : gx_cells x ≤ (gx_R x).cells ∧ gx_slots x ≤ (gx_R x).slots := by
  obtain ⟨h1, h2, h3, h4, h5⟩ := h
  exact ⟨by omega, by omega⟩
theorem gz_St.rf {x : gz_X} : gz_St x x := ⟨⟨gx_ad x, gx_pf x, gx_cells x, gx_slots x, rfl⟩, fun k h => ⟨h, rfl⟩⟩
theorem gz_St.tr {x y z : gz_X} (h1 : gz_St x y) (h2 : gz_St y z) : gz_St x z := by
  obtain ⟨⟨a1, p1, c1, s1, rfl⟩, h1⟩ := h1
  obtain ⟨⟨a2, p2, c2, s2, rfl⟩, h2⟩ := h2
  exact ⟨⟨a2, p2, c2, s2, rfl⟩, fun k h => ⟨(h2 k (h1 k h).1).1, ((h2 k (h1 k h).1).2).trans (h1 k h).2⟩⟩
variable {x : gz_X} {cc : ByteArray} {own : String} {nL d pc u : Nat} {pf pf' : Nat → Bool} {l : Launch} {lv lv' : List (Nat × Value)} {st : List Value} {M M' : gz_M}
theorem gz_okSet {ad' : Nat → Nat} {c' s' : Nat} (X : gz_Ok x cc own nL d gz_cfC pf l) (h1 : gz_inj gz_cfC ad' pf') (h2 : ∀ k, gz_cfC.1 pf' k = true → gx_A x (ad' k)) : gz_Ok (gz_set x ad' pf' c' s') cc own nL d gz_cfC pf' l := ⟨X.1, X.2.1, X.2.2.1, by show gz_inj (gx_cf x) ad' pf'; rw [X.hcf]; exact h1, by show ∀ k, (gx_cf x).1 pf' k = true → gx_A x (ad' k); rw [X.hcf]; exact h2, X.hA2, X.hlk, X.hfr, X.hlo, X.hN, X.hcf, rfl, X.hl, X.hcl⟩
def gz_BA (D : va_G) (aC : Nat → ClassId) (ad : Nat → Nat) (pf : Nat → Bool) (M : gz_M) (sz : Nat) : State → Prop := fun U => gz_B D gz_cfC aC ad pf M sz U ∧ gc_AO U
def gz_PA (D : va_G) (aC : Nat → ClassId) (ad : Nat → Nat) (pf : Nat → Bool) (sz : Nat) (M' : gz_M) (pf' : Nat → Bool) : (Nat → Nat) → State → Prop := fun ad' t => (∀ k, gz_cfC.1 pf k = true → gz_cfC.1 pf' k = true ∧ ad' k = ad k) ∧ gz_mw D gz_cls gz_cfC aC ad' pf' M' t.heap ∧ gz_inj gz_cfC ad' pf' ∧ ∀ k, gz_cfC.1 pf' k = true → gz_A gz_cfC ad pf sz (ad' k)
def gz_CAI (l : Launch) (y : MethodName) (cc : ByteArray) (nL d : Nat) (rt : FieldType) (asF : (Nat → Nat) → List Value) (pf : Nat → Bool) (M : gz_M) (r : Int32) (M' : gz_M) (pf' : Nat → Bool) : Prop := ∀ D aC ad sz, Met l y (Cond.code y cc nL (some rt) :: gz_TB) (gz_rm d 4 109) (va_Pc (asF ad) (gz_BA D aC ad pf M sz)) (va_Qi (fun r' (_ : Nat → Nat) => r' = r) (gz_PA D aC ad pf sz M' pf') (gz_A gz_cfC ad pf sz)) 4 109 (gz_A gz_cfC ad pf sz)
def gz_CAV (l : Launch) (y : MethodName) (cc : ByteArray) (nL d : Nat) (asF : (Nat → Nat) → List Value) (pf : Nat → Bool) (M : gz_M) (M' : gz_M) (pf' : Nat → Bool) : Prop := ∀ D aC ad sz, Met l y (Cond.code y cc nL none :: gz_TB) (gz_rm d 4 109) (va_Pc (asF ad) (gz_BA D aC ad pf M sz)) (va_Qv (fun (_ : Nat → Nat) => True) (gz_PA D aC ad pf sz M' pf') (gz_A gz_cfC ad pf sz)) 4 109 (gz_A gz_cfC ad pf sz)
def gz_CAR (l : Launch) (y : MethodName) (cc : ByteArray) (nL d : Nat) (rt : FieldType) (asF : (Nat → Nat) → List Value) (pf : Nat → Bool) (M : gz_M) (r : Nat) (M' : gz_M) (pf' : Nat → Bool) : Prop := ∀ D aC ad sz, Met l y (Cond.code y cc nL (some rt) :: gz_TB) (gz_rm d 4 109) (va_Pc (asF ad) (gz_BA D aC ad pf M sz)) (va_Qr (fun (_ : Nat → Nat) => gz_IsX0 pf' r) (fun ad' a t => a = ad' r ∧ gz_PA D aC ad pf sz M' pf' ad' t) (gz_A gz_cfC ad pf sz)) 4 109 (gz_A gz_cfC ad pf sz)
theorem gz_BAblind {av : List Value} {D : va_G} {aC : Nat → ClassId} {ad : Nat → Nat} {sz : Nat} : FrameBlind (va_Pc av (gz_BA D aC ad pf M sz)) := by
  intro a U g mk q
  obtain ⟨q0, ⟨q1, q2, q3, q4, q5⟩, q6⟩ := q
  exact ⟨q0, ⟨q1, q2, va_K.moved (u := U) (U := U.calling g mk a) (Vm.Alike.refl U.vm) q3, q4, gz_Nst.same (u := U) (U := U.calling g mk a) rfl q5⟩, gc_AO.same (u := U) (U := U.calling g mk a) rfl q6⟩
theorem gz_runVA {y : MethodName} {cc2 : ByteArray} {nL2 n index kb d2 ci N mc ms : Nat} {C : String} {T : u_T} {rt : Option FieldType} {Qc : Array Value → State → Outcome → State → Prop} {free : Addr → Prop} {As : List Value} {fs : List Value} {H : Heap} {locs : List Loc} {ls : Array Slot} {stk : List Value} (X : gz_Ok x cc own nL d gz_cfC pf l) (hAO : gc_AO (gx_s x)) (h1 : gz_mw (gx_D x) (gx_cl x) (gx_cf x) (gx_aC x) (gx_ad x) (gx_pf x) M H) (h3 : ls.size = nL) (hM : Met (gx_l x) y (Cond.code y cc2 nL2 rt :: gz_TB) (gz_rm d2 mc ms) (va_Pc (Value.ref (gx_ad x kb) :: As) (gz_BA (gx_D x) (gx_aC x) (gx_ad x) pf M H.size)) Qc mc ms free) (w : gz_WV own index C y cc2 nL2 n rt) (hn : As.length = n) (hk : (gx_cf x).1 (gx_pf x) kb = true) (hc2 : (gx_cf x).2 (gx_aC x) (gx_ad x) (gx_pf x) kb (M.1 kb) M.2 = .inr (ci, fs)) (hc : gz_cls[ci]? = some (C, T, N)) (hd : d2 < d) (hn2 : nL2 ≤ 20) (hst : stk = As.reverse ++ .ref (gx_ad x kb) :: st) (hW : (st.map fun v => v.category).sum ≤ 8) (hf : gx_cells x + mc ≤ (gx_R x).cells ∧ gx_slots x + ms ≤ (gx_R x).slots) (dg : decode cc pc = .ok (.invokevirtual index, 3)) : va_Run (gx_p x) (gx_l x) (gx_e x) (gx_R x) (gx_s x) (gx_m x) (gx_args x) (gx_below x) (gx_meth x) (gx_c x) H locs (gx_cells x) (gx_slots x) mc ms (F0 (gx_m x) pc ls stk) st (Qc (Value.ref (gx_ad x kb) :: As).toArray) free := by
  obtain ⟨w1, w2, w3, w4, w5, w6⟩ := w
  have hP := gz_one h1 hk hc2
  have hc' : (gx_cl x)[ci]? = some (C, T, N) := by rw [X.hcl]; exact hc
  have hp : PreV (gx_s x) H C (gx_ad x kb) (va_Pc (Value.ref (gx_ad x kb) :: As) (gz_BA (gx_D x) (gx_aC x) (gx_ad x) pf M H.size)) As := ⟨gz_BAblind, va_recv X.hK hP (ci := ci) (q0 := 0) hc' rfl, fun U hU hW2 => by
    have h9 := gz_Bat X h1 (av := Value.ref (gx_ad x kb) :: As) hU hW2
    exact ⟨h9.1, h9.2, hAO.warm hW2⟩⟩
  have hR := gz_room (mc := mc) (ms := ms) X hd hn2
  rcases w1 with w1 | ⟨host, w1⟩
  · exact va_runV X.1 hM ⟨callB_of n X.hts (gz_goodIn w5) rfl rfl rfl (X.hts _ w4) (X.hts _ w1) w6 hR, X.hts _ w2, X.hts _ w3⟩ hp rfl hn h3 hst (lv_room hW) dg hf
  · exact va_runVN X.1 hM ⟨va_cnB n X.hts (gz_goodIn w5) rfl rfl rfl (X.hN _ w1) (X.hts _ w4) w6 hR, X.hts _ w2, X.hts _ w3⟩ hp rfl hn h3 hst (lv_room hW) dg hf
theorem gz_step {ad' : Nat → Nat} {H1 : Heap} {sz : Nat} {t : State} (X : gz_Ok x cc own nL d gz_cfC pf l) (hu : gz_U x u) (hu1 : u + 1 ≤ 1) (hA : ∀ q, gz_A gz_cfC (gx_ad x) pf sz q → gx_A x q) (hB : gz_PA (gx_D x) (gx_aC x) (gx_ad x) pf sz M' pf' ad' t) (ht : t.heap = H1) : gz_St x (gz_set x ad' pf' (gx_cells x + 4) (gx_slots x + 109)) ∧ gz_Ok (gz_set x ad' pf' (gx_cells x + 4) (gx_slots x + 109)) cc own nL d gz_cfC pf' l ∧ gz_U (gz_set x ad' pf' (gx_cells x + 4) (gx_slots x + 109)) (u + 1) ∧ gz_mw (gx_D x) (gx_cl x) (gx_cf x) (gx_aC x) ad' pf' M' H1 := by
  obtain ⟨p1, p2, p3, p4⟩ := hB
  obtain ⟨u1, u2, u3, u4, u5⟩ := hu
  refine ⟨⟨⟨ad', pf', _, _, rfl⟩, fun k hk => p1 k (by rw [← X.hpf]; exact hk)⟩, gz_okSet X p3 (fun k hk => hA _ (p4 k hk)), ⟨?_, ?_, hu1, u4, u5⟩, ?_⟩
  · show gx_cells x + 4 = 4 * (u + 1)
    omega
  · show gx_slots x + 109 = 109 * (u + 1)
    omega
  · rw [X.hcl, X.hcf, ← ht]; exact p2
theorem gz_uf (hu : gz_U x u) (hu1 : u + 1 ≤ 1) : gx_cells x + 4 ≤ (gx_R x).cells ∧ gx_slots x + 109 ≤ (gx_R x).slots := by
  obtain ⟨u1, u2, u3, u4, u5⟩ := hu
  exact ⟨by omega, by omega⟩
theorem gr_callAI {y : MethodName} {cc2 : ByteArray} {nL2 n index kb d2 ci N : Nat} {C : String} {T : u_T} {rt : FieldType} {r : Int32} {asF : (Nat → Nat) → List Value} {fs : List Value} {stk : List Value} (As : List Value) (X : gz_Ok x cc own nL d gz_cfC pf l) (hAO : gc_AO (gx_s x)) (hu : gz_U x u) (hu1 : u + 1 ≤ 1) (hM : gz_CAI l y cc2 nL2 d2 rt asF pf M r M' pf') (has : asF (gx_ad x) = .ref (gx_ad x kb) :: As) (w : gz_WV own index C y cc2 nL2 n (some rt)) (hn : As.length = n) (hk : (gx_cf x).1 (gx_pf x) kb = true) (hc2 : (gx_cf x).2 (gx_aC x) (gx_ad x) (gx_pf x) kb (M.1 kb) M.2 = .inr (ci, fs)) (hc : gz_cls[ci]? = some (C, T, N)) (hd : d2 < d) (hn2 : nL2 ≤ 20) (hst : stk = As.reverse ++ .ref (gx_ad x kb) :: st) (hW : (st.map fun v => v.category).sum ≤ 8) (dg : decode cc pc = .ok (.invokevirtual index, 3)) (kk : ∀ x', gz_St x x' → gz_Ok x' cc own nL d gz_cfC pf' l → gz_U x' (u + 1) → gz_At x' (pc + 3) lv (.int r :: st) M') : gz_At x pc lv stk M := by
  intro H locs ls h1 h2 h3
  have hM1 := hM (gx_D x) (gx_aC x) (gx_ad x) H.size
  rw [has, ← X.hl] at hM1
  refine va_calli (gz_runVA (locs := locs) X hAO h1 (h3.1.trans X.hnL) hM1 w hn hk hc2 hc hd hn2 hst hW (gz_uf hu hu1) dg) h2 (fun q _ h => gz_free X h2 q h) (gz_free X h2) (fun r u9 t H1 locs1 ht hvm hw hB hz hk hS => ?_)
  subst hw
  obtain ⟨g1, g2, g3, g4⟩ := gz_step X hu hu1 (gz_free X h2) hB ht
  exact kk _ g1 g2 g3 H1 locs1 ls g4 hS h3
theorem gr_callAV {y : MethodName} {cc2 : ByteArray} {nL2 n index kb d2 ci N : Nat} {C : String} {T : u_T} {asF : (Nat → Nat) → List Value} {fs : List Value} {stk : List Value} (As : List Value) (X : gz_Ok x cc own nL d gz_cfC pf l) (hAO : gc_AO (gx_s x)) (hu : gz_U x u) (hu1 : u + 1 ≤ 1) (hM : gz_CAV l y cc2 nL2 d2 asF pf M M' pf') (has : asF (gx_ad x) = .ref (gx_ad x kb) :: As) (w : gz_WV own index C y cc2 nL2 n (none)) (hn : As.length = n) (hk : (gx_cf x).1 (gx_pf x) kb = true) (hc2 : (gx_cf x).2 (gx_aC x) (gx_ad x) (gx_pf x) kb (M.1 kb) M.2 = .inr (ci, fs)) (hc : gz_cls[ci]? = some (C, T, N)) (hd : d2 < d) (hn2 : nL2 ≤ 20) (hst : stk = As.reverse ++ .ref (gx_ad x kb) :: st) (hW : (st.map fun v => v.category).sum ≤ 8) (dg : decode cc pc = .ok (.invokevirtual index, 3)) (kk : ∀ x', gz_St x x' → gz_Ok x' cc own nL d gz_cfC pf' l → gz_U x' (u + 1) → gz_At x' (pc + 3) lv (st) M') : gz_At x pc lv stk M := by
  intro H locs ls h1 h2 h3
  have hM1 := hM (gx_D x) (gx_aC x) (gx_ad x) H.size
  rw [has, ← X.hl] at hM1
  refine va_callv (gz_runVA (locs := locs) X hAO h1 (h3.1.trans X.hnL) hM1 w hn hk hc2 hc hd hn2 hst hW (gz_uf hu hu1) dg) h2 (fun q _ h => gz_free X h2 q h) (gz_free X h2) (fun u9 t H1 locs1 ht hvm hw hB hz hk hS => ?_)
  obtain ⟨g1, g2, g3, g4⟩ := gz_step X hu hu1 (gz_free X h2) hB ht
  exact kk _ g1 g2 g3 H1 locs1 ls g4 hS h3
theorem gr_callAR {y : MethodName} {cc2 : ByteArray} {nL2 n index kb d2 ci N : Nat} {C : String} {T : u_T} {rt : FieldType} {r : Nat} {asF : (Nat → Nat) → List Value} {fs : List Value} {stk : List Value} (As : List Value) (X : gz_Ok x cc own nL d gz_cfC pf l) (hAO : gc_AO (gx_s x)) (hu : gz_U x u) (hu1 : u + 1 ≤ 1) (hM : gz_CAR l y cc2 nL2 d2 rt asF pf M r M' pf') (has : asF (gx_ad x) = .ref (gx_ad x kb) :: As) (w : gz_WV own index C y cc2 nL2 n (some rt)) (hn : As.length = n) (hk : (gx_cf x).1 (gx_pf x) kb = true) (hc2 : (gx_cf x).2 (gx_aC x) (gx_ad x) (gx_pf x) kb (M.1 kb) M.2 = .inr (ci, fs)) (hc : gz_cls[ci]? = some (C, T, N)) (hd : d2 < d) (hn2 : nL2 ≤ 20) (hst : stk = As.reverse ++ .ref (gx_ad x kb) :: st) (hW : (st.map fun v => v.category).sum ≤ 8) (dg : decode cc pc = .ok (.invokevirtual index, 3)) (kk : ∀ x', gz_St x x' → gz_Ok x' cc own nL d gz_cfC pf' l → gz_U x' (u + 1) → gz_IsX0 pf' r → gz_At x' (pc + 3) lv (.ref (gx_ad x' r) :: st) M') : gz_At x pc lv stk M := by
  intro H locs ls h1 h2 h3
  have hM1 := hM (gx_D x) (gx_aC x) (gx_ad x) H.size
  rw [has, ← X.hl] at hM1
  refine va_callr (gz_runVA (locs := locs) X hAO h1 (h3.1.trans X.hnL) hM1 w hn hk hc2 hc hd hn2 hst hW (gz_uf hu hu1) dg) h2 (fun q _ h => gz_free X h2 q h) (gz_free X h2) (fun u9 ra t H1 locs1 ht hvm hw hB hz hk hS => ?_)
  obtain ⟨rfl, hB⟩ := hB
  obtain ⟨g1, g2, g3, g4⟩ := gz_step X hu hu1 (gz_free X h2) hB ht
  exact kk _ g1 g2 g3 hw H1 locs1 ls g4 hS h3
def gz_EAI (x : gz_X) (cc : ByteArray) (rt : FieldType) (r : Int32) (M' : gz_M) (pf' : Nat → Bool) : Prop := ∀ x' u own nL d l pc lv, gz_St x x' → gz_Ok x' cc own nL d gz_cfC pf' l → gz_U x' u → narrow rt (.int r) = .int r → decode cc pc = .ok (.ireturn, 1) → gz_At x' pc lv [.int r] M'
theorem gz_EAI.stp {x1 : gz_X} {rt : FieldType} {r : Int32} (hE : gz_EAI x cc rt r M' pf') (h : gz_St x x1) : gz_EAI x1 cc rt r M' pf' := fun x' u own nL d l pc lv h' => hE x' u own nL d l pc lv (h.tr h')
theorem gz_EAIu {rt : FieldType} {r e : Int32} (X : gz_Ok x cc own nL d gz_cfC pf l) (hu : gz_U x u) (hE : gz_EAI x cc rt r M' pf') (hf : some (e, M, pf) = some (r, M', pf')) (hn : narrow rt (.int e) = .int e) (dg : decode cc pc = .ok (.ireturn, 1)) : gz_At x pc lv [.int e] M := by
  have h := Option.some.inj hf
  have h1 : e = r := congrArg Prod.fst h
  have h2 : M = M' := congrArg (fun q => q.2.1) h
  have h3 : pf = pf' := congrArg (fun q => q.2.2) h
  subst h1; subst h2; subst h3
  exact hE x u _ _ _ _ _ _ gz_St.rf X hu hn dg
theorem gz_ofAI {y : MethodName} {rt : FieldType} {r : Int32} {asF : (Nat → Nat) → List Value} (hy : plainFor y = true) (hlen : ∀ ad, (lg_sl (asF ad)).length ≤ nL) (body : ∀ x, gz_Ok x cc y.cls nL d gz_cfC pf l → gc_AO (gx_s x) → gz_U x 0 → gz_EAI x cc rt r M' pf' → gz_At x 0 (lv_args 0 (asF (gx_ad x))) [] M) : gz_CAI l y cc nL d rt asF pf M r M' pf' := by
  intro D aC ad sz
  refine gz_MetF (cc := cc) (maxL := nL) (ret := some rt) hy rfl ?_
  intro p e s9 m args below meth c s₁ B hml hv
  obtain ⟨rfl, ⟨hsz, hP, hK, hI, hN⟩, hAO⟩ := hv
  subst hsz
  have hl := lv_entry (asF ad) (n := nL) (hlen ad)
  rw [lg_entry_eq]
  generalize (lg_sl (asF ad) ++ List.replicate (nL - (lg_sl (asF ad)).length) Slot.unset).toArray = ls at hl ⊢
  let x : gz_X := (p, l, e, (gz_rm d 4 109), s9, m, (asF ad).toArray, below, meth, c, MQ below (va_Qi (fun r' (_ : Nat → Nat) => r' = r) (gz_PA D aC ad pf s9.heap.size M' pf') (gz_A gz_cfC ad pf s9.heap.size)) (asF ad).toArray s9 4 109 (gz_A gz_cfC ad pf s9.heap.size), gz_A gz_cfC ad pf s9.heap.size, D, aC, gz_cfC, ad, pf, nL, 0, 0, gz_cls)
  have X : gz_Ok x cc y.cls nL d gz_cfC pf l := ⟨⟨B.exec, B.bytes, hml, findClass_of_methodNamed B.named, fun w hw => atoms_spec (ws := Cond.code y cc nL (some rt) :: gz_TB) B.pre w (List.mem_cons_of_mem _ hw)⟩, rfl, hK, hI, fun k hk => Or.inl ⟨k, hk, rfl⟩, fun q hq => Or.inr hq, B.notSynchronized, Nat.le_refl _, Nat.le_refl _, hN, rfl, rfl, rfl, rfl⟩
  refine body x X hAO ⟨rfl, rfl, by decide, Nat.le_refl _, Nat.le_refl _⟩ (fun x' u own nL d l' pc lv hst hok hu hn dg H locs ls h1 h2 h3 => ?_) s9.heap [] ls hP va_S.rf hl
  obtain ⟨⟨ad', pf1, c', s', rfl⟩, hst⟩ := hst
  obtain rfl : pf1 = pf' := hok.hpf
  obtain ⟨u1, u2, u3, -, -⟩ := hu
  have u1 : c' = 4 * u := u1
  have u2 : s' = 109 * u := u2
  have hpa : ∀ t : State, t.heap = H → gz_PA D aC ad pf s9.heap.size M' pf1 ad' t := fun t ht => ⟨hst, by rw [ht]; exact h1, hok.hinj, hok.hA⟩
  exact W.widen (k := 4) (n := 109) (by show c' ≤ 4; omega) (by show s' ≤ 109; omega) (W.zret B.exec B.bytes B.returns hn (fun t ht hW => ⟨⟨r, ad', rfl, rfl, hpa t ht⟩, h2.F ht⟩) h2.2.2 dg)
def gz_EAV (x : gz_X) (cc : ByteArray) (M' : gz_M) (pf' : Nat → Bool) : Prop := ∀ x' u own nL d l pc lv, gz_St x x' → gz_Ok x' cc own nL d gz_cfC pf' l → gz_U x' u → decode cc pc = .ok (.return_, 1) → gz_At x' pc lv [] M'
theorem gz_EAV.stp {x1 : gz_X} (hE : gz_EAV x cc M' pf') (h : gz_St x x1) : gz_EAV x1 cc M' pf' := fun x' u own nL d l pc lv h' => hE x' u own nL d l pc lv (h.tr h')
theorem gz_EAVu (X : gz_Ok x cc own nL d gz_cfC pf l) (hu : gz_U x u) (hE : gz_EAV x cc M' pf') (hf : some (M, pf) = some (M', pf')) (dg : decode cc pc = .ok (.return_, 1)) : gz_At x pc lv [] M := by
  have h := Option.some.inj hf
  have h2 : M = M' := congrArg Prod.fst h
  have h3 : pf = pf' := congrArg Prod.snd h
  subst h2; subst h3
  exact hE x u _ _ _ _ _ _ gz_St.rf X hu dg
theorem gz_ofAV {y : MethodName} {asF : (Nat → Nat) → List Value} (hy : plainFor y = true) (hlen : ∀ ad, (lg_sl (asF ad)).length ≤ nL) (body : ∀ x, gz_Ok x cc y.cls nL d gz_cfC pf l → gc_AO (gx_s x) → gz_U x 0 → gz_EAV x cc M' pf' → gz_At x 0 (lv_args 0 (asF (gx_ad x))) [] M) : gz_CAV l y cc nL d asF pf M M' pf' := by
  intro D aC ad sz
  refine gz_MetF (cc := cc) (maxL := nL) (ret := none) hy rfl ?_
  intro p e s9 m args below meth c s₁ B hml hv
  obtain ⟨rfl, ⟨hsz, hP, hK, hI, hN⟩, hAO⟩ := hv
  subst hsz
  have hl := lv_entry (asF ad) (n := nL) (hlen ad)
  rw [lg_entry_eq]
  generalize (lg_sl (asF ad) ++ List.replicate (nL - (lg_sl (asF ad)).length) Slot.unset).toArray = ls at hl ⊢
  let x : gz_X := (p, l, e, (gz_rm d 4 109), s9, m, (asF ad).toArray, below, meth, c, MQ below (va_Qv (fun (_ : Nat → Nat) => True) (gz_PA D aC ad pf s9.heap.size M' pf') (gz_A gz_cfC ad pf s9.heap.size)) (asF ad).toArray s9 4 109 (gz_A gz_cfC ad pf s9.heap.size), gz_A gz_cfC ad pf s9.heap.size, D, aC, gz_cfC, ad, pf, nL, 0, 0, gz_cls)
  have X : gz_Ok x cc y.cls nL d gz_cfC pf l := ⟨⟨B.exec, B.bytes, hml, findClass_of_methodNamed B.named, fun w hw => atoms_spec (ws := Cond.code y cc nL (none) :: gz_TB) B.pre w (List.mem_cons_of_mem _ hw)⟩, rfl, hK, hI, fun k hk => Or.inl ⟨k, hk, rfl⟩, fun q hq => Or.inr hq, B.notSynchronized, Nat.le_refl _, Nat.le_refl _, hN, rfl, rfl, rfl, rfl⟩
  refine body x X hAO ⟨rfl, rfl, by decide, Nat.le_refl _, Nat.le_refl _⟩ (fun x' u own nL d l' pc lv hst hok hu dg H locs ls h1 h2 h3 => ?_) s9.heap [] ls hP va_S.rf hl
  obtain ⟨⟨ad', pf1, c', s', rfl⟩, hst⟩ := hst
  obtain rfl : pf1 = pf' := hok.hpf
  obtain ⟨u1, u2, u3, -, -⟩ := hu
  have u1 : c' = 4 * u := u1
  have u2 : s' = 109 * u := u2
  have hpa : ∀ t : State, t.heap = H → gz_PA D aC ad pf s9.heap.size M' pf1 ad' t := fun t ht => ⟨hst, by rw [ht]; exact h1, hok.hinj, hok.hA⟩
  exact W.widen (k := 4) (n := 109) (by show c' ≤ 4; omega) (by show s' ≤ 109; omega) (W.vret B.exec B.bytes B.returns (fun t ht hW => ⟨⟨ad', rfl, trivial, hpa t ht⟩, h2.F ht⟩) h2.2.2 dg)
def gz_EAR (x : gz_X) (cc : ByteArray) (r : Nat) (M' : gz_M) (pf' : Nat → Bool) : Prop := ∀ x' u own nL d l pc lv, gz_St x x' → gz_Ok x' cc own nL d gz_cfC pf' l → gz_U x' u → gz_IsX0 pf' r → decode cc pc = .ok (.areturn, 1) → gz_At x' pc lv [.ref (gx_ad x' r)] M'
theorem gz_EAR.stp {x1 : gz_X} {r : Nat} (hE : gz_EAR x cc r M' pf') (h : gz_St x x1) : gz_EAR x1 cc r M' pf' := fun x' u own nL d l pc lv h' => hE x' u own nL d l pc lv (h.tr h')
theorem gz_EARu {r e : Nat} (X : gz_Ok x cc own nL d gz_cfC pf l) (hu : gz_U x u) (hE : gz_EAR x cc r M' pf') (hf : some (e, M, pf) = some (r, M', pf')) (hi : gz_IsX0 pf e) (dg : decode cc pc = .ok (.areturn, 1)) : gz_At x pc lv [.ref (gx_ad x e)] M := by
  have h := Option.some.inj hf
  have h1 : e = r := congrArg Prod.fst h
  have h2 : M = M' := congrArg (fun q => q.2.1) h
  have h3 : pf = pf' := congrArg (fun q => q.2.2) h
  subst h1; subst h2; subst h3
  exact hE x u _ _ _ _ _ _ gz_St.rf X hu hi dg
theorem gz_ofAR {y : MethodName} {rt : FieldType} {r : Nat} {asF : (Nat → Nat) → List Value} (hy : plainFor y = true) (hrt : (∃ n, rt = .object n) ∨ ∃ t, rt = .array t) (hlen : ∀ ad, (lg_sl (asF ad)).length ≤ nL) (body : ∀ x, gz_Ok x cc y.cls nL d gz_cfC pf l → gc_AO (gx_s x) → gz_U x 0 → gz_EAR x cc r M' pf' → gz_At x 0 (lv_args 0 (asF (gx_ad x))) [] M) : gz_CAR l y cc nL d rt asF pf M r M' pf' := by
  intro D aC ad sz
  refine gz_MetF (cc := cc) (maxL := nL) (ret := some rt) hy rfl ?_
  intro p e s9 m args below meth c s₁ B hml hv
  obtain ⟨rfl, ⟨hsz, hP, hK, hI, hN⟩, hAO⟩ := hv
  subst hsz
  have hl := lv_entry (asF ad) (n := nL) (hlen ad)
  rw [lg_entry_eq]
  generalize (lg_sl (asF ad) ++ List.replicate (nL - (lg_sl (asF ad)).length) Slot.unset).toArray = ls at hl ⊢
  let x : gz_X := (p, l, e, (gz_rm d 4 109), s9, m, (asF ad).toArray, below, meth, c, MQ below (va_Qr (fun (_ : Nat → Nat) => gz_IsX0 pf' r) (fun ad' a t => a = ad' r ∧ gz_PA D aC ad pf s9.heap.size M' pf' ad' t) (gz_A gz_cfC ad pf s9.heap.size)) (asF ad).toArray s9 4 109 (gz_A gz_cfC ad pf s9.heap.size), gz_A gz_cfC ad pf s9.heap.size, D, aC, gz_cfC, ad, pf, nL, 0, 0, gz_cls)
  have X : gz_Ok x cc y.cls nL d gz_cfC pf l := ⟨⟨B.exec, B.bytes, hml, findClass_of_methodNamed B.named, fun w hw => atoms_spec (ws := Cond.code y cc nL (some rt) :: gz_TB) B.pre w (List.mem_cons_of_mem _ hw)⟩, rfl, hK, hI, fun k hk => Or.inl ⟨k, hk, rfl⟩, fun q hq => Or.inr hq, B.notSynchronized, Nat.le_refl _, Nat.le_refl _, hN, rfl, rfl, rfl, rfl⟩
  refine body x X hAO ⟨rfl, rfl, by decide, Nat.le_refl _, Nat.le_refl _⟩ (fun x' u own nL d l' pc lv hst hok hu hi dg H locs ls h1 h2 h3 => ?_) s9.heap [] ls hP va_S.rf hl
  obtain ⟨⟨ad', pf1, c', s', rfl⟩, hst⟩ := hst
  obtain rfl : pf1 = pf' := hok.hpf
  obtain ⟨u1, u2, u3, -, -⟩ := hu
  have u1 : c' = 4 * u := u1
  have u2 : s' = 109 * u := u2
  have hpa : ∀ t : State, t.heap = H → gz_PA D aC ad pf s9.heap.size M' pf1 ad' t := fun t ht => ⟨hst, by rw [ht]; exact h1, hok.hinj, hok.hA⟩
  exact W.widen (k := 4) (n := 109) (by show c' ≤ 4; omega) (by show s' ≤ 109; omega) (W.aret B.exec B.bytes B.returns hrt (Or.inr ⟨_, rfl⟩) (fun t ht hW => ⟨⟨ad', ad' r, rfl, hi, rfl, hpa t ht⟩, h2.F ht⟩) h2.2.2 dg)
end GA2
end
section
section GA3
variable {x : gz_X} {cc : ByteArray} {own : String} {nL d pc u : Nat} {pf : Nat → Bool} {l : Launch} {lv lv' : List (Nat × Value)} {st : List Value} {M M' : gz_M}
def gz_pfs (pf : Nat → Bool) (j : Nat) : Nat → Bool := fun t => if t = j then true else pf t
def gz_nb (M : gz_M) (j : Nat) : gz_M := (fun a => if 135 + 4 * j ≤ a ∧ a < 135 + 4 * j + 4 then fun _ => 0 else M.1 a, M.2)
theorem gz_prsW {pf : Nat → Bool} {j k : Nat} (hj : j < 12) : gz_cfC.1 (gz_pfs pf j) k = true ↔ gz_cfC.1 pf k = true ∨ (135 + 4 * j ≤ k ∧ k < 135 + 4 * j + 4) := by
  constructor
  · intro h
    rcases gz_prs h with q | ⟨t, d, ht, hd, hp, rfl⟩
    · exact Or.inl (gz_prsS q)
    · by_cases e : t = j
      · subst e; exact Or.inr ⟨by omega, by omega⟩
      · refine Or.inl (gz_prsB ht hd ?_)
        have h2 : (if t = j then true else pf t) = true := hp
        rwa [if_neg e] at h2
  · rintro (h | ⟨h1, h2⟩)
    · rcases gz_prs h with q | ⟨t, d, ht, hd, hp, rfl⟩
      · exact gz_prsS q
      · refine gz_prsB ht hd ?_
        show (if t = j then true else pf t) = true
        split
        · rfl
        · exact hp
    · have e : k = 135 + 4 * j + (k - 135 - 4 * j) := by omega
      rw [e]
      refine gz_prsB hj (by omega) ?_
      show (if j = j then true else pf j) = true
      rw [if_pos rfl]
theorem gz_prsN {pf : Nat → Bool} {j k : Nat} (hp : pf j = false) (h : gz_cfC.1 pf k = true) : ¬ (135 + 4 * j ≤ k ∧ k < 135 + 4 * j + 4) := by
  rintro ⟨h1, h2⟩
  rcases gz_prs h with q | ⟨t, d, ht, hd, hpt, rfl⟩
  · omega
  · rw [show t = j by omega, hp] at hpt
    cases hpt
theorem gr_newB {iN iI j : Nat} (X : gz_Ok x cc own nL d gz_cfC pf l) (hAO : gc_AO (gx_s x)) (hu : gz_U x u) (hu1 : u + 1 ≤ 1) (hd : 2 < d) (hcl : Cond.classLink own iN "LongestTokens$Book" ∈ gz_TB) (hinst : Cond.instantiable "LongestTokens$Book" 3 ∈ gz_TB) (hini : Cond.initialized "LongestTokens$Book" ∈ gz_TB) (hl : gz_ML own iI yX0_init) (hinm : Cond.instanceMethod yX0_init ∈ gz_TB) (hcode : Cond.code yX0_init cX0_init 1 none ∈ gz_TB) (hj : j < 12) (hp : pf j = false) (hp2 : pf (100 + j) = false) (hM : M' = gz_nb M j) (hW : ((Value.ref 0 :: st).map fun v => v.category).sum ≤ 8) (dg1 : decode cc pc = .ok (.new iN, 3)) (dg2 : decode cc (pc + 3) = .ok (.dup, 1)) (dg3 : decode cc (pc + 3 + 1) = .ok (.invokespecial iI, 3)) (kk : ∀ x', gz_St x x' → gz_Ok x' cc own nL d gz_cfC (gz_pfs pf j) l → gz_U x' (u + 1) → gz_At x' (pc + 3 + 1 + 3) lv (.ref (gx_ad x' (135 + 4 * j)) :: st) M') : gz_At x pc lv st M := by
  intro H locs ls h1 h2 h3
  obtain ⟨u1, u2, u3, u4, u5⟩ := id hu
  have hc : (gx_cl x)[0]? = some (RX0, TX0, 3) := by rw [X.hcl]; rfl
  have hKn := X.hK.1 0 _ hc
  refine W.newcK X.hx X.hb X.hown (X.hts _ hcl) (X.hts _ hinst) (X.hts _ hini) rfl dg1 (by omega) (by omega) hKn.2.1 rfl fun H1 kC hkC e1 z1 o1 => ?_
  refine lv_dup X.hx X.hb dg2 rfl ?_
  have hnew : va_at (gx_D x) gz_cls (H.size, .inr (0, [.null, .int 0, .null])) H1 := ⟨_, rfl, (u_born tyX0 X.hts gw_X0 hKn hkC e1 tyX0_ok).to gc_dflt0⟩
  have f1 := X.hfr
  have f2 := X.hlo
  have hR : (gz_rm 2 3 106).frames + 1 ≤ (gx_R x).frames ∧ 8 + (1 + 11) + (gz_rm 2 3 106).locals ≤ (gx_R x).locals := ⟨Nat.le_trans hd f1, by show 8 + (1 + 11) + 40 * 2 ≤ _; omega⟩
  have hp3 : PreS (gx_s x) H1 (va_Pc [.ref H.size] (fun U => U.heap.size = H.size + 1 ∧ va_at (gx_D x) gz_cls (H.size, .inr (0, [.null, .int 0, .null])) U.heap ∧ va_K (gx_D x) gz_cls (gz_tys (gx_aC x)) U ∧ gz_Nst U ∧ gc_AO U)) [.ref H.size] := ⟨gc_blind, fun U hU hW2 => ⟨rfl, by rw [hU]; exact z1, by rw [hU]; exact hnew, by have h := va_K.moved hW2.alike X.hK; rwa [X.hcl] at h, X.hN.warm hW2, hAO.warm hW2⟩⟩
  have hM1 := gc_init0 (l := l) (gx_D x) (gx_aC x) H.size
  rw [← X.hl] at hM1
  have hW2 : ((Value.ref H.size :: st).map fun v => v.category).sum ≤ 8 := hW
  have hfree : ∀ a, H.size ≤ a → gx_A x a := fun a h => X.hA2 a (Nat.le_trans h2.1 h)
  have hrun : va_Run (gx_p x) (gx_l x) (gx_e x) (gx_R x) (gx_s x) (gx_m x) (gx_args x) (gx_below x) (gx_meth x) (gx_c x) H1 locs (gx_cells x + 1) (gx_slots x + 3) 3 106 (F0 (gx_m x) (pc + 3 + 1) ls (.ref H.size :: .ref H.size :: st)) (.ref H.size :: st) (va_Qv (fun (_ : Unit) => True) (fun _ t => t.heap.size = H.size + gc_codes0.length ∧ ∀ i, i < gc_codes0.length → va_at (gx_D x) gz_cls (H.size + i, gc_ct (gx_aC x) gc_codes0 H.size i) t.heap) (fun a => H.size ≤ a) (Value.ref H.size :: []).toArray) (fun a => H.size ≤ a) := by
    rcases hl with hl | ⟨host, hl⟩
    · exact va_runI (As := []) X.1 hM1 (cwI 0 X.hts (gz_goodIn hcode) rfl rfl rfl (X.hts _ hini) (X.hts _ hl) (X.hts _ hinm) rfl (by decide +kernel) hR) hp3 rfl rfl (h3.1.trans X.hnL) rfl (lv_room hW2) dg3 ⟨by omega, by omega⟩
    · exact va_runIN (As := []) X.1 hM1 ⟨va_cnB 0 X.hts (gz_goodIn hcode) rfl rfl rfl (X.hN _ hl) (X.hts _ hini) (by decide +kernel) hR, rfl, X.hts _ hinm⟩ hp3 rfl rfl (h3.1.trans X.hnL) rfl (lv_room hW2) dg3 ⟨by omega, by omega⟩
  have hS1 : va_S (gx_A x) (gx_s x).heap H1 locs := ⟨by have := h2.1; omega, fun y a b => (o1 y (by have := h2.1; omega)).trans (h2.2.1 y a b), h2.2.2⟩
  refine va_callv hrun hS1 (fun a _ h => hfree a h) hfree (fun _ t H2 locs1 ht hvm hw hB hz hk hS => ?_)
  obtain ⟨b1, b2⟩ := hB
  rw [ht] at b1 b2
  have b1 : H2.size = H.size + 4 := b1
  have old : ∀ a, a < H.size → H2[a]? = H[a]? := fun a ha => (hk a (by omega) (by omega)).trans (o1 a ha)
  have hpres : ∀ k, gz_cfC.1 pf k = true → gx_ad x k < H.size := fun k hk => (h1 k (by rw [X.hcf, X.hpf]; exact hk)).lt
  let ad' : Nat → Nat := fun k => if 135 + 4 * j ≤ k ∧ k < 135 + 4 * j + 4 then H.size + (k - (135 + 4 * j)) else gx_ad x k
  have hadO : ∀ k, gz_cfC.1 pf k = true → ad' k = gx_ad x k := fun k hk => if_neg (gz_prsN hp hk)
  have hadN : ∀ i, i < 4 → ad' (135 + 4 * j + i) = H.size + i := fun i hi => by
    show (if 135 + 4 * j ≤ 135 + 4 * j + i ∧ 135 + 4 * j + i < 135 + 4 * j + 4 then H.size + (135 + 4 * j + i - (135 + 4 * j)) else gx_ad x _) = _
    rw [if_pos ⟨by omega, by omega⟩]
    omega
  have hinj : gz_inj gz_cfC ad' (gz_pfs pf j) := by
    intro a b ha hb e
    rcases (gz_prsW hj).mp ha with ha | ha <;> rcases (gz_prsW hj).mp hb with hb | hb
    · rw [hadO a ha, hadO b hb] at e
      exact X.hinj a b (by rw [X.hcf, X.hpf]; exact ha) (by rw [X.hcf, X.hpf]; exact hb) e
    · have h8 := hpres a ha
      rw [hadO a ha, show b = 135 + 4 * j + (b - (135 + 4 * j)) by omega, hadN _ (by omega)] at e
      omega
    · have h8 := hpres b hb
      rw [hadO b hb, show a = 135 + 4 * j + (a - (135 + 4 * j)) by omega, hadN _ (by omega)] at e
      omega
    · rw [show b = 135 + 4 * j + (b - (135 + 4 * j)) by omega, show a = 135 + 4 * j + (a - (135 + 4 * j)) by omega, hadN _ (by omega), hadN _ (by omega)] at e
      omega
  have hA' : ∀ k, gz_cfC.1 (gz_pfs pf j) k = true → gx_A x (ad' k) := by
    intro k hk
    rcases (gz_prsW hj).mp hk with h | h
    · rw [hadO k h]; exact X.hA k (by rw [X.hcf, X.hpf]; exact h)
    · rw [show k = 135 + 4 * j + (k - (135 + 4 * j)) by omega, hadN _ (by omega)]
      exact hfree _ (by omega)
  have hst : gz_St x (gz_set x ad' (gz_pfs pf j) (gx_cells x + 1 + 3) (gx_slots x + 3 + 106)) := ⟨⟨_, _, _, _, rfl⟩, fun k hk => by rw [X.hpf] at hk; exact ⟨(gz_prsW hj).mpr (Or.inl hk), hadO k hk⟩⟩
  have hmw : gz_mw (gx_D x) (gx_cl x) (gx_cf x) (gx_aC x) ad' (gz_pfs pf j) M' H2 := by
    intro k hk
    rw [X.hcf] at hk ⊢
    subst hM
    rcases (gz_prsW hj).mp hk with h | h
    · have h9 := h1 k (by rw [X.hcf, X.hpf]; exact h)
      rw [X.hcf, X.hpf] at h9
      have h10 := h9.kept (old _ (hpres k h))
      have e : (gz_nb M j).1 k = M.1 k := if_neg (gz_prsN hp h)
      rw [e, hadO k h]
      refine gz_atX (ad := gx_ad x) (pf := pf) (fun c0 => gz_main h c0) (fun c0 => ?_) (fun o ho => hadO _ (gz_refs h ho)) (fun t => ⟨?_, fun ht => ?_⟩) (fun v _ => hadO _ (gz_prsS (by unfold gz_cIx; split <;> decide))) h10
      · have hk3 : k < 183 := by rcases gz_prs h with q | ⟨t, d, ht, hd, hpt, rfl⟩ <;> omega
        exact (by decide +kernel : ∀ k, k < 183 → gz_tC.getD k 0 ≠ 27) k hk3 c0
      · show (if 100 + t = j then true else pf (100 + t)) = pf (100 + t)
        rw [if_neg (by omega)]
      · have hne : t ≠ j := fun e => by rw [e, hp2] at ht; cases ht
        show (if 135 + 4 * j ≤ 135 + 4 * t ∧ 135 + 4 * t < 135 + 4 * j + 4 then H.size + (135 + 4 * t - (135 + 4 * j)) else gx_ad x (135 + 4 * t)) = gx_ad x (135 + 4 * t)
        rw [if_neg (by omega)]
    · obtain ⟨i, hi, rfl⟩ : ∃ i, i < 4 ∧ k = 135 + 4 * j + i := ⟨k - (135 + 4 * j), by omega, by omega⟩
      have e : (gz_nb M j).1 (135 + 4 * j + i) = fun _ => 0 := if_pos h
      rw [hadN i hi, X.hcl, e]
      have h9 := b2 i hi
      have hcd : ∀ i, i < 4 → gc_codes0.getD i 0 = gz_tC.getD (135 + 4 * j + i) 0 := fun i hi => ((by decide +kernel : ∀ j, j < 12 → ∀ i, i < 4 → gc_codes0.getD i 0 = gz_tC.getD (135 + 4 * j + i) 0) j hj i hi)
      show va_at (gx_D x) gz_cls (H.size + i, gz_kc (gz_tC.getD (135 + 4 * j + i) 0) (gx_aC x) ad' (gz_pfs pf j) (135 + 4 * j + i) (fun _ => 0) (gz_nb M j).2) H2
      have h0 := hadN 0 (by omega)
      have h11 := hadN 1 (by omega)
      have h12 := hadN 2 (by omega)
      have h13 := hadN 3 (by omega)
      rw [← hcd i hi]
      match i, hi with
      | 0, _ =>
        have e2 : gz_kc (gc_codes0.getD 0 0) (gx_aC x) ad' (gz_pfs pf j) (135 + 4 * j + 0) (fun _ => 0) (gz_nb M j).2 = gc_ct (gx_aC x) gc_codes0 H.size 0 := by
          show (Sum.inr (0, [Value.ref (ad' (135 + 4 * j + 0 + 1)), Value.int 0, Value.ref (ad' (135 + 4 * j + 0 + 2))]) : va_E) = Sum.inr (0, [Value.ref (H.size + (0 + 1)), Value.int 0, Value.ref (H.size + (0 + 2))])
          rw [show 135 + 4 * j + 0 + 1 = 135 + 4 * j + 1 by omega, show 135 + 4 * j + 0 + 2 = 135 + 4 * j + 2 by omega, h11, h12]
        rw [e2]; exact h9
      | 1, _ => exact h9
      | 2, _ =>
        have e2 : gz_kc (gc_codes0.getD 2 0) (gx_aC x) ad' (gz_pfs pf j) (135 + 4 * j + 2) (fun _ => 0) (gz_nb M j).2 = gc_ct (gx_aC x) gc_codes0 H.size 2 := by
          show (Sum.inr (5, [Value.ref (ad' (135 + 4 * j + 2 + 1)), Value.int 0]) : va_E) = Sum.inr (5, [Value.ref (H.size + (2 + 1)), Value.int 0])
          rw [show 135 + 4 * j + 2 + 1 = 135 + 4 * j + 3 by omega, h13]
        rw [e2]; exact h9
      | 3, _ => exact h9
  have hgo := kk _ hst (gz_okSet X hinj hA') ⟨by show gx_cells x + 1 + 3 = 4 * (u + 1); omega, by show gx_slots x + 3 + 106 = 109 * (u + 1); omega, hu1, u4, u5⟩ H2 locs1 ls hmw hS h3
  have h0 : gx_ad (gz_set x ad' (gz_pfs pf j) (gx_cells x + 1 + 3) (gx_slots x + 3 + 106)) (135 + 4 * j) = H.size := hadN 0 (by omega)
  rw [h0] at hgo
  exact hgo
theorem gr_aastK {k n b e : Nat} {i : Int32} (X : gz_Ok x cc own nL d gz_cfC pf l) (hu : gz_U x u) (hk0 : gz_KD gz_cfC pf k (gz_oK n b)) (hkb : (k = 132 ∧ n = 10 ∧ b = 0) ∨ (k = 133 ∧ n = 2 ∧ b = 10)) (hin : vp_in i n) (he : e = 135 + 4 * (b + i.toNatClampNeg)) (hi : gz_IsX0 pf e) (hp : pf (b + i.toNatClampNeg) = true) (dg : decode cc pc = .ok (.aastore, 1)) (kk : ∀ x', gz_St x x' → gz_Ok x' cc own nL d gz_cfC (gz_pfs pf (100 + (b + i.toNatClampNeg))) l → gz_U x' u → gz_At x' (pc + 1) lv st M) : gz_At x pc lv (.ref (gx_ad x e) :: .int i :: .ref (gx_ad x k) :: st) M := by
  intro H locs ls h1 h2 h3
  have hk := X.kd hk0
  have hP := gz_one h1 hk.1 (hk.2 _ _ _ _)
  have hcell : H[gx_ad x k]? = some (vp_cell (gx_aC x 5) (n, .inr (.inr (.inr (.inr (fun j => if gx_pf x (100 + (b + j)) = true then some (gx_ad x (135 + 4 * (b + j))) else none)))))) := hP 0 _ rfl
  have hko := X.kd (gk_X0o hi)
  have hlt := gz_inl hin
  have hob := h1 e (hko.1)
  rw [show (gx_cf x).2 (gx_aC x) (gx_ad x) (gx_pf x) e (M.1 e) M.2 = gz_oX0 (gx_aC x) (gx_ad x) (gx_pf x) e (M.1 e) M.2 from hko.2 _ _ _ _] at hob
  obtain ⟨r, e1, cv, q1, q2, q3, q4⟩ := hob
  have hr : r = (RX0, TX0, 3) := Option.some.inj (e1.symm.trans (by rw [X.hcl]; rfl))
  subst hr
  obtain ⟨hS0, hfc, kC, hkC, hkind⟩ := X.hK.1 0 _ (by rw [X.hcl]; rfl : (gx_cl x)[0]? = some (RX0, TX0, 3))
  obtain ⟨kA, comp, g1, g2, g3, g4⟩ := (X.hK.2 5 _ rfl).2
  have hcomp : comp = (gx_D x).1 0 := Option.some.inj (g3.symm.trans hfc)
  refine W.aast X.hx X.hb hcell (fun q h => by cases h) (fun h => by cases h) g1 g2 rfl (hcomp ▸ hkC) ⟨fun h => hin (Or.inl h), by show _ < (arrV _ _ _).slots.size; rw [arrV_size]; exact hlt⟩ q1 (fun q h => by rw [q3] at h; cases h) (by rw [q2]; exact hkC) (by rw [q2, hcomp]; exact va_assign ⟨hfc, kC, hkC, hkind⟩) rfl rfl dg fun H1 a1 a2 a3 => ?_
  have hpm : ∀ t, gz_cfC.1 (gz_pfs pf (100 + (b + i.toNatClampNeg))) t = gz_cfC.1 pf t := by
    intro t
    show (if t < 135 then true else if t < 183 then gz_pfs pf (100 + (b + i.toNatClampNeg)) ((t - 135) / 4) else false) = (if t < 135 then true else if t < 183 then pf ((t - 135) / 4) else false)
    by_cases h5 : t < 135
    · rw [if_pos h5, if_pos h5]
    · rw [if_neg h5, if_neg h5]
      by_cases h6 : t < 183
      · rw [if_pos h6, if_pos h6]
        show (if (t - 135) / 4 = 100 + (b + i.toNatClampNeg) then true else pf ((t - 135) / 4)) = _
        rw [if_neg (by omega)]
      · rw [if_neg h6, if_neg h6]
  have hmw : gz_mw (gx_D x) (gx_cl x) (gx_cf x) (gx_aC x) (gx_ad x) (gz_pfs pf (100 + (b + i.toNatClampNeg))) M H1 := by
    intro t ht
    rw [X.hcf] at ht ⊢
    rw [hpm] at ht
    have h9 := h1 t (by rw [X.hcf, X.hpf]; exact ht)
    rw [X.hcf, X.hpf] at h9
    by_cases htk : t = k
    · subst htk
      have hk2 : gz_KD gz_cfC (gz_pfs pf (100 + (b + i.toNatClampNeg))) t (gz_oK n b) := by
        rcases hkb with ⟨rfl, rfl, rfl⟩ | ⟨rfl, rfl, rfl⟩
        · exact gk_C132
        · exact gk_C133
      rw [hk2.2]
      show H1[gx_ad x t]? = some (vp_cell _ _)
      rw [a1, vp_cell_q, vp_cell_q, arrV_store]
      refine congrArg some (gc_arrExt fun j hj => ?_)
      by_cases hji : j = i.toNatClampNeg
      · subst hji
        simp [updV, gz_pfs, he, va_rf]
      · show updV _ _ _ j = va_rf (if (if 100 + (b + j) = 100 + (b + i.toNatClampNeg) then true else pf (100 + (b + j))) = true then _ else none)
        rw [if_neg (show ¬ 100 + (b + j) = 100 + (b + i.toNatClampNeg) by omega)]
        simp only [updV, if_neg hji, X.hpf]
    · have h10 := h9.kept (a3 _ (fun q => htk (X.hinj _ _ (by rw [X.hcf, X.hpf]; exact ht) hk.1 q)))
      by_cases hbk : gz_tC.getD t 0 = gz_tC.getD 132 0 ∨ gz_tC.getD t 0 = gz_tC.getD 133 0
      · have ht3 : t < 183 := by rcases gz_prs ht with q | ⟨t, d, ht, hd, hpt, rfl⟩ <;> omega
        have ht4 := (by decide +kernel : ∀ t, t < 183 → (gz_tC.getD t 0 = gz_tC.getD 132 0 ∨ gz_tC.getD t 0 = gz_tC.getD 133 0) → (t = 132 ∨ t = 133)) t ht3 hbk
        have key : ∀ n2 b2 : Nat, (∀ j, j < n2 → b2 + j ≠ b + i.toNatClampNeg) → gz_KD gz_cfC pf t (gz_oK n2 b2) → gz_KD gz_cfC (gz_pfs pf (100 + (b + i.toNatClampNeg))) t (gz_oK n2 b2) → va_at (gx_D x) (gx_cl x) (gx_ad x t, gz_cfC.2 (gx_aC x) (gx_ad x) (gz_pfs pf (100 + (b + i.toNatClampNeg))) t (M.1 t) M.2) H1 := by
          intro n2 b2 hne k1 k2
          rw [k2.2]
          rw [k1.2] at h10
          have h11 : H1[gx_ad x t]? = some (vp_cell (gx_aC x 5) (n2, .inr (.inr (.inr (.inr (fun j => if pf (100 + (b2 + j)) = true then some (gx_ad x (135 + 4 * (b2 + j))) else none)))))) := h10
          show H1[gx_ad x t]? = some (vp_cell (gx_aC x 5) (n2, .inr (.inr (.inr (.inr (fun j => if gz_pfs pf (100 + (b + i.toNatClampNeg)) (100 + (b2 + j)) = true then some (gx_ad x (135 + 4 * (b2 + j))) else none))))))
          rw [h11, vp_cell_q, vp_cell_q]
          refine congrArg some (gc_arrExt fun j hj => ?_)
          have := hne j hj
          show va_rf (if pf (100 + (b2 + j)) = true then _ else none) = va_rf (if (if 100 + (b2 + j) = 100 + (b + i.toNatClampNeg) then true else pf (100 + (b2 + j))) = true then _ else none)
          rw [if_neg (show ¬ 100 + (b2 + j) = 100 + (b + i.toNatClampNeg) by omega)]
        rcases hkb with ⟨rfl, rfl, rfl⟩ | ⟨rfl, rfl, rfl⟩ <;> rcases ht4 with rfl | rfl
        · exact absurd rfl htk
        · exact key 2 10 (fun j _ => by omega) gk_C133 gk_C133
        · exact key 10 0 (fun j _ => by omega) gk_C132 gk_C132
        · exact absurd rfl htk
      · have e5 : ∀ (c : Nat) (g : Nat → Int32) (gl : Nat → Int64), ¬ (c = gz_tC.getD 132 0 ∨ c = gz_tC.getD 133 0) → gz_kc c (gx_aC x) (gx_ad x) (gz_pfs pf (100 + (b + i.toNatClampNeg))) t g gl = gz_kc c (gx_aC x) (gx_ad x) pf t g gl := by
          intro c g gl hc
          unfold gz_kc
          split <;> first | rfl | exact absurd (Or.inl rfl) hc | exact absurd (Or.inr rfl) hc
        show va_at (gx_D x) (gx_cl x) (gx_ad x t, gz_kc (gz_tC.getD t 0) (gx_aC x) (gx_ad x) (gz_pfs pf (100 + (b + i.toNatClampNeg))) t (M.1 t) M.2) H1
        rw [e5 _ _ _ hbk]
        exact h10
  have hst : gz_St x (gz_set x (gx_ad x) (gz_pfs pf (100 + (b + i.toNatClampNeg))) (gx_cells x) (gx_slots x)) := ⟨⟨_, _, _, _, rfl⟩, fun t ht => by rw [X.hpf] at ht; exact ⟨by show gz_cfC.1 (gz_pfs pf (100 + (b + i.toNatClampNeg))) t = true; rw [hpm]; exact ht, rfl⟩⟩
  have hinj : gz_inj gz_cfC (gx_ad x) (gz_pfs pf (100 + (b + i.toNatClampNeg))) := fun a c ha hc => X.hinj a c (by rw [X.hcf, X.hpf, ← hpm]; exact ha) (by rw [X.hcf, X.hpf, ← hpm]; exact hc)
  exact kk _ hst (gz_okSet X hinj (fun t ht => X.hA t (by rw [X.hcf, X.hpf, ← hpm]; exact ht))) hu H1 _ ls hmw (h2.put a2 a3 (X.hA k hk.1)) h3
end GA3
end
section
theorem gz_aoS {x x' : gz_X} (h : gc_AO (gx_s x)) (hs : gz_St x x') : gc_AO (gx_s x') := by
  obtain ⟨⟨a, p, c, s, rfl⟩, -⟩ := hs
  exact h
theorem gz_bnot {b : Bool} (h : (!b) = true) : b = false := by simpa using h
theorem gi_pfs {pf : Nat → Bool} {j k : Nat} (h : gz_IsX0 pf k) : gz_IsX0 (gz_pfs pf j) k := by
  rcases h with h | ⟨t, h1, h2, h3⟩
  · exact Or.inl h
  · refine Or.inr ⟨t, h1, ?_, h3⟩
    show (if t = j then true else pf t) = true
    split
    · rfl
    · exact h2
theorem gi_new {pf : Nat → Bool} {j : Nat} (h : j < 12) : gz_IsX0 (gz_pfs pf j) (135 + 4 * j) := Or.inr ⟨j, h, if_pos rfl, rfl⟩
def gz_bd3 {α β γ δ : Type} (a : Option (α × β × γ)) (f : α → β → γ → Option δ) : Option δ := a.bind fun q => f q.1 q.2.1 q.2.2
theorem gz_bd3e {α β γ δ : Type} {a : Option (α × β × γ)} {f : α → β → γ → Option δ} {r : δ} (h : gz_bd3 a f = some r) : ∃ y z w, a = some (y, z, w) ∧ f y z w = some r := by
  obtain ⟨q, h1, h2⟩ := Option.bind_eq_some_iff.mp h
  exact ⟨q.1, q.2.1, q.2.2, h1, h2⟩
theorem gi_st {x x' : gz_X} {cc : ByteArray} {own : String} {nL d k : Nat} {pf pf' : Nat → Bool} {l : Launch} (X : gz_Ok x cc own nL d gz_cfC pf l) (X' : gz_Ok x' cc own nL d gz_cfC pf' l) (hs : gz_St x x') (h : gz_IsX0 pf k) : gz_IsX0 pf' k := by
  rcases h with h | ⟨t, h1, h2, h3⟩
  · exact Or.inl h
  · refine Or.inr ⟨t, h1, ?_, h3⟩
    have h4 := (hs.2 (135 + 4 * t + 0) (by rw [X.hpf]; exact gz_prsB h1 (by decide) h2)).1
    rw [X'.hpf] at h4
    rcases gz_prs h4 with q | ⟨t', d', g1, g2, g3, g4⟩
    · omega
    · rw [show t = t' by omega]; exact g3
theorem wf_RX11_19 : gz_FL RX11 19 RX11 "grammar" "LLongestTokens$Grammar;" := Or.inl (gz_in 430 (by decide +kernel) rfl)
theorem wc_yX3_faultOfRules : Cond.instanceMethod yX3_faultOfRules ∈ gz_TB ∧ Cond.selects RX3 yX3_faultOfRules yX3_faultOfRules ∈ gz_TB ∧ Cond.initialized yX3_faultOfRules.cls ∈ gz_TB ∧ Cond.code yX3_faultOfRules cX3_faultOfRules 4 (some (.int)) ∈ gz_TB ∧ (yX3_faultOfRules.cls ≠ "java/lang/invoke/MethodHandle" ∧ yX3_faultOfRules.cls ≠ "java/lang/invoke/VarHandle" ∧ (parseMethodDescriptor yX3_faultOfRules.desc).map (fun d => d.parameters.length) = some 1) := ⟨gz_in 500 (by decide +kernel) rfl, gz_in 501 (by decide +kernel) rfl, gz_in 87 (by decide +kernel) rfl, gz_in 502 (by decide +kernel) rfl, by decide +kernel⟩
theorem wm_RX11_114 : gz_WV RX11 114 RX3 yX3_faultOfRules cX3_faultOfRules 4 1 (some (.int)) := ⟨Or.inl (gz_in 499 (by decide +kernel) rfl), wc_yX3_faultOfRules⟩
theorem wc_yX3_faultOfLetters : Cond.instanceMethod yX3_faultOfLetters ∈ gz_TB ∧ Cond.selects RX3 yX3_faultOfLetters yX3_faultOfLetters ∈ gz_TB ∧ Cond.initialized yX3_faultOfLetters.cls ∈ gz_TB ∧ Cond.code yX3_faultOfLetters cX3_faultOfLetters 3 (some (.int)) ∈ gz_TB ∧ (yX3_faultOfLetters.cls ≠ "java/lang/invoke/MethodHandle" ∧ yX3_faultOfLetters.cls ≠ "java/lang/invoke/VarHandle" ∧ (parseMethodDescriptor yX3_faultOfLetters.desc).map (fun d => d.parameters.length) = some 1) := ⟨gz_in 533 (by decide +kernel) rfl, gz_in 534 (by decide +kernel) rfl, gz_in 87 (by decide +kernel) rfl, gz_in 535 (by decide +kernel) rfl, by decide +kernel⟩
theorem wm_RX11_118 : gz_WV RX11 118 RX3 yX3_faultOfLetters cX3_faultOfLetters 3 1 (some (.int)) := ⟨Or.inl (gz_in 532 (by decide +kernel) rfl), wc_yX3_faultOfLetters⟩
theorem wc_yX4_push : Cond.instanceMethod yX4_push ∈ gz_TB ∧ Cond.selects RX4 yX4_push yX4_push ∈ gz_TB ∧ Cond.initialized yX4_push.cls ∈ gz_TB ∧ Cond.code yX4_push cX4_push 3 none ∈ gz_TB ∧ (yX4_push.cls ≠ "java/lang/invoke/MethodHandle" ∧ yX4_push.cls ≠ "java/lang/invoke/VarHandle" ∧ (parseMethodDescriptor yX4_push.desc).map (fun d => d.parameters.length) = some 1) := ⟨gz_in 540 (by decide +kernel) rfl, gz_in 541 (by decide +kernel) rfl, gz_in 96 (by decide +kernel) rfl, gz_in 542 (by decide +kernel) rfl, by decide +kernel⟩
theorem wm_RX11_121 : gz_WV RX11 121 RX4 yX4_push cX4_push 3 1 none := ⟨Or.inl (gz_in 539 (by decide +kernel) rfl), wc_yX4_push⟩
theorem wc_yX0_takeRules : Cond.instanceMethod yX0_takeRules ∈ gz_TB ∧ Cond.selects RX0 yX0_takeRules yX0_takeRules ∈ gz_TB ∧ Cond.initialized yX0_takeRules.cls ∈ gz_TB ∧ Cond.code yX0_takeRules cX0_takeRules 2 none ∈ gz_TB ∧ (yX0_takeRules.cls ≠ "java/lang/invoke/MethodHandle" ∧ yX0_takeRules.cls ≠ "java/lang/invoke/VarHandle" ∧ (parseMethodDescriptor yX0_takeRules.desc).map (fun d => d.parameters.length) = some 1) := ⟨gz_in 564 (by decide +kernel) rfl, gz_in 565 (by decide +kernel) rfl, gz_in 89 (by decide +kernel) rfl, gz_in 566 (by decide +kernel) rfl, by decide +kernel⟩
theorem wm_RX11_125 : gz_WV RX11 125 RX0 yX0_takeRules cX0_takeRules 2 1 none := ⟨Or.inl (gz_in 563 (by decide +kernel) rfl), wc_yX0_takeRules⟩
theorem wc_yX10_empty : Cond.instanceMethod yX10_empty ∈ gz_TB ∧ Cond.selects RX10 yX10_empty yX10_empty ∈ gz_TB ∧ Cond.initialized yX10_empty.cls ∈ gz_TB ∧ Cond.code yX10_empty cX10_empty 1 none ∈ gz_TB ∧ (yX10_empty.cls ≠ "java/lang/invoke/MethodHandle" ∧ yX10_empty.cls ≠ "java/lang/invoke/VarHandle" ∧ (parseMethodDescriptor yX10_empty.desc).map (fun d => d.parameters.length) = some 0) := ⟨gz_in 680 (by decide +kernel) rfl, gz_in 681 (by decide +kernel) rfl, gz_in 86 (by decide +kernel) rfl, gz_in 682 (by decide +kernel) rfl, by decide +kernel⟩
theorem wm_RX11_132 : gz_WV RX11 132 RX10 yX10_empty cX10_empty 1 0 none := ⟨Or.inl (gz_in 679 (by decide +kernel) rfl), wc_yX10_empty⟩
theorem wc_yX3_faultOfLine : Cond.instanceMethod yX3_faultOfLine ∈ gz_TB ∧ Cond.selects RX3 yX3_faultOfLine yX3_faultOfLine ∈ gz_TB ∧ Cond.initialized yX3_faultOfLine.cls ∈ gz_TB ∧ Cond.code yX3_faultOfLine cX3_faultOfLine 3 (some (.int)) ∈ gz_TB ∧ (yX3_faultOfLine.cls ≠ "java/lang/invoke/MethodHandle" ∧ yX3_faultOfLine.cls ≠ "java/lang/invoke/VarHandle" ∧ (parseMethodDescriptor yX3_faultOfLine.desc).map (fun d => d.parameters.length) = some 1) := ⟨gz_in 688 (by decide +kernel) rfl, gz_in 689 (by decide +kernel) rfl, gz_in 87 (by decide +kernel) rfl, gz_in 690 (by decide +kernel) rfl, by decide +kernel⟩
theorem wm_RX11_138 : gz_WV RX11 138 RX3 yX3_faultOfLine cX3_faultOfLine 3 1 (some (.int)) := ⟨Or.inl (gz_in 687 (by decide +kernel) rfl), wc_yX3_faultOfLine⟩
theorem wc_yX5_take : Cond.instanceMethod yX5_take ∈ gz_TB ∧ Cond.selects RX5 yX5_take yX5_take ∈ gz_TB ∧ Cond.initialized yX5_take.cls ∈ gz_TB ∧ Cond.code yX5_take cX5_take 3 none ∈ gz_TB ∧ (yX5_take.cls ≠ "java/lang/invoke/MethodHandle" ∧ yX5_take.cls ≠ "java/lang/invoke/VarHandle" ∧ (parseMethodDescriptor yX5_take.desc).map (fun d => d.parameters.length) = some 1) := ⟨gz_in 692 (by decide +kernel) rfl, gz_in 693 (by decide +kernel) rfl, gz_in 90 (by decide +kernel) rfl, gz_in 694 (by decide +kernel) rfl, by decide +kernel⟩
theorem wm_RX11_144 : gz_WV RX11 144 RX5 yX5_take cX5_take 3 1 none := ⟨Or.inl (gz_in 691 (by decide +kernel) rfl), wc_yX5_take⟩
theorem wm_RX11_387 : gz_WV RX11 387 RX5 yX5_refusal cX5_refusal 6 3 (some (.int)) := ⟨Or.inl (gz_in 953 (by decide +kernel) rfl), wc_yX5_refusal⟩
theorem wc_yX11_tellChange : Cond.instanceMethod yX11_tellChange ∈ gz_TB ∧ Cond.selects RX11 yX11_tellChange yX11_tellChange ∈ gz_TB ∧ Cond.initialized yX11_tellChange.cls ∈ gz_TB ∧ Cond.code yX11_tellChange cX11_tellChange 13 none ∈ gz_TB ∧ (yX11_tellChange.cls ≠ "java/lang/invoke/MethodHandle" ∧ yX11_tellChange.cls ≠ "java/lang/invoke/VarHandle" ∧ (parseMethodDescriptor yX11_tellChange.desc).map (fun d => d.parameters.length) = some 2) := ⟨gz_in 974 (by decide +kernel) rfl, gz_in 29 (by decide +kernel) rfl, gz_in 85 (by decide +kernel) rfl, gz_in 975 (by decide +kernel) rfl, by decide +kernel⟩
theorem wm_RX11_390 : gz_WV RX11 390 RX11 yX11_tellChange cX11_tellChange 13 2 none := ⟨Or.inl (gz_in 972 (by decide +kernel) rfl), wc_yX11_tellChange⟩
theorem wc_yX11_change : Cond.instanceMethod yX11_change ∈ gz_TB ∧ Cond.selects RX11 yX11_change yX11_change ∈ gz_TB ∧ Cond.initialized yX11_change.cls ∈ gz_TB ∧ Cond.code yX11_change cX11_change 6 (some (.int)) ∈ gz_TB ∧ (yX11_change.cls ≠ "java/lang/invoke/MethodHandle" ∧ yX11_change.cls ≠ "java/lang/invoke/VarHandle" ∧ (parseMethodDescriptor yX11_change.desc).map (fun d => d.parameters.length) = some 3) := ⟨gz_in 951 (by decide +kernel) rfl, gz_in 27 (by decide +kernel) rfl, gz_in 85 (by decide +kernel) rfl, gz_in 952 (by decide +kernel) rfl, by decide +kernel⟩
theorem wm_RX11_336 : gz_WV RX11 336 RX11 yX11_change cX11_change 6 3 (some (.int)) := ⟨Or.inl (gz_in 949 (by decide +kernel) rfl), wc_yX11_change⟩
theorem wm_RX11_400 : gz_WV RX11 400 RX10 yX10_get cX10_get 2 1 (some (.int)) := ⟨Or.inl (gz_in 1016 (by decide +kernel) rfl), wc_yX10_get⟩
theorem wm_RX11_401 : gz_WS RX11 401 yX3_kindOfChange cX3_kindOfChange 1 1 (some (.int)) := ⟨Or.inl (gz_in 1017 (by decide +kernel) rfl), wc_yX3_kindOfChange⟩
theorem wc_yX3_faultOfDay : Cond.instanceMethod yX3_faultOfDay ∈ gz_TB ∧ Cond.selects RX3 yX3_faultOfDay yX3_faultOfDay ∈ gz_TB ∧ Cond.initialized yX3_faultOfDay.cls ∈ gz_TB ∧ Cond.code yX3_faultOfDay cX3_faultOfDay 8 (some (.int)) ∈ gz_TB ∧ (yX3_faultOfDay.cls ≠ "java/lang/invoke/MethodHandle" ∧ yX3_faultOfDay.cls ≠ "java/lang/invoke/VarHandle" ∧ (parseMethodDescriptor yX3_faultOfDay.desc).map (fun d => d.parameters.length) = some 1) := ⟨gz_in 1003 (by decide +kernel) rfl, gz_in 1004 (by decide +kernel) rfl, gz_in 87 (by decide +kernel) rfl, gz_in 1005 (by decide +kernel) rfl, by decide +kernel⟩
theorem wm_RX11_347 : gz_WV RX11 347 RX3 yX3_faultOfDay cX3_faultOfDay 8 1 (some (.int)) := ⟨Or.inl (gz_in 1002 (by decide +kernel) rfl), wc_yX3_faultOfDay⟩
theorem wc_yX11_changeByText : Cond.instanceMethod yX11_changeByText ∈ gz_TB ∧ Cond.selects RX11 yX11_changeByText yX11_changeByText ∈ gz_TB ∧ Cond.initialized yX11_changeByText.cls ∈ gz_TB ∧ Cond.code yX11_changeByText cX11_changeByText 8 (some (.int)) ∈ gz_TB ∧ (yX11_changeByText.cls ≠ "java/lang/invoke/MethodHandle" ∧ yX11_changeByText.cls ≠ "java/lang/invoke/VarHandle" ∧ (parseMethodDescriptor yX11_changeByText.desc).map (fun d => d.parameters.length) = some 0) := ⟨gz_in 1014 (by decide +kernel) rfl, gz_in 30 (by decide +kernel) rfl, gz_in 85 (by decide +kernel) rfl, gz_in 1015 (by decide +kernel) rfl, by decide +kernel⟩
theorem wm_RX11_350 : gz_WV RX11 350 RX11 yX11_changeByText cX11_changeByText 8 0 (some (.int)) := ⟨Or.inl (gz_in 1012 (by decide +kernel) rfl), wc_yX11_changeByText⟩
def g4_slotAt_34 (x2 : Int32) (M0 : gz_M) (pf : Nat → Bool) (u : Nat) : Option (Nat × gz_M × (Nat → Bool)) := gz_ck (gz_inb x2 10) <| if pf (100 + (0 + x2.toNatClampNeg)) = true then (gz_ck (pf (0 + x2.toNatClampNeg)) <| some (135 + 4 * (0 + x2.toNatClampNeg), M0, pf)) else (none)
theorem be4_slotAt_34 {l : Launch} {r : Nat} {M' : gz_M} {pf' : Nat → Bool} : ∀ (x : gz_X) (pf : Nat → Bool) (u : Nat), gz_Ok x cX4_slotAt RX4 3 3 gz_cfC pf l → gc_AO (gx_s x) → gz_U x u → gz_EAR x cX4_slotAt r M' pf' → ∀ (x2 : Int32) (M0 : gz_M), g4_slotAt_34 x2 M0 pf u = some (r, M', pf') → gz_At x 34 [(0, .ref (gx_ad x 131)), (2, .int x2)] [] M0 := by
  intro x pf u Xz hAO huz hEz x2 M0  hf
  rw [g4_slotAt_34] at hf
  refine gr_aload_n Xz dX4_slotAt_34 0 rfl rfl ?_
  refine gf4_0 Xz wf_RX4_11 dX4_slotAt_35 ?_
  refine gr_iload_n Xz dX4_slotAt_38 1 rfl rfl ?_
  obtain ⟨h1, hf⟩ := gz_cke hf
  refine gr_aaldK Xz gk_C132 (gz_inp h1) dX4_slotAt_39 (fun h2 => ?_) (fun h2 => ?_)
  · rw [if_pos h2] at hf
    obtain ⟨h3, hf⟩ := gz_cke hf
    exact gz_EARu Xz huz hEz hf (gi_bk (b := 0) h3 (gz_inp h1) (by decide)) dX4_slotAt_40
  · rw [if_neg h2] at hf
    cases hf

def g4_slotAt (a0 : Int32) (M0 : gz_M) (pf : Nat → Bool) : Option (Nat × gz_M × (Nat → Bool)) := gz_bd2 (fJ_floorMod ((M0.1 131 1) + a0) 10 M0) fun v1 M2 => gz_ck (gz_inb v1 10) <| if pf (100 + (0 + v1.toNatClampNeg)) = true then (gz_ck (pf (0 + v1.toNatClampNeg)) <| g4_slotAt_34 v1 M2 pf 0) else (gz_ck (decide (0 + 1 ≤ 1)) <| gz_ck (decide (0 + v1.toNatClampNeg < 12)) <| gz_ck (!(pf (0 + v1.toNatClampNeg))) <| gz_ck (!(pf (100 + (0 + v1.toNatClampNeg)))) <| gz_lt (gz_nb M2 (0 + v1.toNatClampNeg)) fun M12 => gz_ck (gz_inb v1 10) <| gz_ck ((gz_pfs pf (0 + v1.toNatClampNeg)) (0 + v1.toNatClampNeg)) <| gz_ck (decide (135 + 4 * (0 + v1.toNatClampNeg) = 135 + 4 * (0 + v1.toNatClampNeg))) <| g4_slotAt_34 v1 M12 (gz_pfs (gz_pfs pf (0 + v1.toNatClampNeg)) (100 + (0 + v1.toNatClampNeg))) (0 + 1))
set_option maxRecDepth 100000 in
theorem ce4_slotAt {pf pf' : Nat → Bool} {l : Launch} {r : Nat} {M0 M' : gz_M} {a0 : Int32} (hf : g4_slotAt a0 M0 pf = some (r, M', pf')) : gz_CAR l yX4_slotAt cX4_slotAt 3 3 (.object "LongestTokens$Book") (fun ad => [.ref (ad 131), .int a0]) pf M0 r M' pf' := by
  refine gz_ofAR (by decide +kernel) (Or.inl ⟨_, rfl⟩) (fun _ => Nat.le_of_ble_eq_true rfl) (fun x Xz hAO huz hEz => ?_)
  show gz_At x 0 [(0, .ref (gx_ad x 131)), (1, .int a0)] [] M0
  unfold g4_slotAt at hf
  refine gr_aload_n Xz dX4_slotAt_0 0 rfl rfl ?_
  refine gf4_1 Xz wf_RX4_17 dX4_slotAt_1 ?_
  refine gr_iload_n Xz dX4_slotAt_4 1 rfl rfl ?_
  refine gr_iadd Xz dX4_slotAt_5 ?_
  refine gr_bipush 10 Xz dX4_slotAt_6 (by decide) ?_
  obtain ⟨v1, M2, q3, hf⟩ := gz_bd2e hf
  refine gr_callSI (asF := fun _ => [.int ((M0.1 131 1) + a0), .int 10]) [.int ((M0.1 131 1) + a0), .int 10] Xz (cJ_floorMod q3) rfl wm_RX4_32 rfl (by decide) (by decide) rfl (Nat.le_of_ble_eq_true rfl) (huz.c) dX4_slotAt_8 ?_
  refine gr_istore_n [(2, .int v1), (0, .ref (gx_ad x 131)), (1, .int a0)] Xz dX4_slotAt_11 rfl rfl (by decide) rfl ?_
  refine gr_aload_n Xz dX4_slotAt_12 1 rfl rfl ?_
  refine gf4_0 Xz wf_RX4_11 dX4_slotAt_13 ?_
  refine gr_iload_n Xz dX4_slotAt_16 0 rfl rfl ?_
  obtain ⟨h4, hf⟩ := gz_cke hf
  refine gr_aaldK Xz gk_C132 (gz_inp h4) dX4_slotAt_17 (fun h5 => ?_) (fun h5 => ?_)
  · rw [if_pos h5] at hf
    obtain ⟨h6, hf⟩ := gz_cke hf
    refine gr_ifnonnull 34 Xz dX4_slotAt_18 (by decide) ?_
    refine gr_sub (lv' := [(0, .ref (gx_ad x 131)), (2, .int v1)]) [1, 0] rfl ?_
    exact be4_slotAt_34 _ _ _ Xz hAO huz hEz _ _ hf
  · rw [if_neg h5] at hf
    refine gr_ifnonnullN Xz dX4_slotAt_18 ?_
    refine gr_aload_n Xz dX4_slotAt_21 1 rfl rfl ?_
    refine gf4_0 Xz wf_RX4_11 dX4_slotAt_22 ?_
    refine gr_iload_n Xz dX4_slotAt_25 0 rfl rfl ?_
    obtain ⟨h8, hf⟩ := gz_cke hf
    obtain ⟨h9, hf⟩ := gz_cke hf
    obtain ⟨h10, hf⟩ := gz_cke hf
    obtain ⟨h11, hf⟩ := gz_cke hf
    obtain ⟨M12, eM12, hf⟩ := gz_lte hf
    refine gr_newB Xz hAO huz (of_decide_eq_true h8) (by decide) (gz_in 416 (by decide +kernel) rfl) (gz_in 172 (by decide +kernel) rfl) (gz_in 89 (by decide +kernel) rfl) (Or.inr ⟨"LongestTokens", gz_inN 550 (by decide +kernel) rfl⟩) (gz_in 174 (by decide +kernel) rfl) (gz_in 175 (by decide +kernel) rfl) (of_decide_eq_true h9) (gz_bnot h10) (gz_bnot h11) eM12 (Nat.le_of_ble_eq_true rfl) dX4_slotAt_26 dX4_slotAt_29 dX4_slotAt_30 (fun xq7 hs7 X7 hu7 => ?_)
    have hE7 := hEz.stp hs7
    rw [← (hs7.2 131 (gz_prsS (by decide))).2]
    rw [← (hs7.2 132 (gz_prsS (by decide))).2]
    have hAO7 : gc_AO (gx_s xq7) := gz_aoS hAO hs7
    obtain ⟨h14, hf⟩ := gz_cke hf
    obtain ⟨h15, hf⟩ := gz_cke hf
    obtain ⟨h16, hf⟩ := gz_cke hf
    refine gr_aastK X7 hu7 gk_C132 (by decide) (gz_inp h14) (of_decide_eq_true h16) (gi_new (of_decide_eq_true h9)) h15 dX4_slotAt_33 (fun xq13 hs13 X13 hu13 => ?_)
    have hE13 := hE7.stp hs13
    rw [← (hs13.2 131 (gz_prsS (by decide))).2]
    have hAO13 : gc_AO (gx_s xq13) := gz_aoS hAO7 hs13
    refine gr_sub (lv' := [(0, .ref (gx_ad xq13 131)), (2, .int v1)]) [1, 0] rfl ?_
    exact be4_slotAt_34 _ _ _ X13 hAO13 hu13 hE13 _ _ hf

def g4_push_18 (k0 : Nat) (s0 : Int32) (M0 : gz_M) (pf : Nat → Bool) (u : Nat) : Option (gz_M × (Nat → Bool)) := gz_ck (decide (u + 1 ≤ 1)) <| gz_bd3 (g4_slotAt s0 M0 pf) fun v6 M3 pf4 => gz_bd (f0_copy v6 k0 M3) fun M7 => if 10 ≤ (M7.1 131 2) then (gz_ck (!decide (10 = 0)) <| gz_lt (gz_w M7 131 1 (gz_rem ((M7.1 131 1) + 1) 10)) fun M11 => some (M11, pf4)) else (gz_lt (gz_w M7 131 2 ((M7.1 131 2) + 1)) fun M12 => some (M12, pf4))
theorem be4_push_18 {l : Launch} {M' : gz_M} {pf' : Nat → Bool} {k0 : Nat} : ∀ (x : gz_X) (pf : Nat → Bool) (u : Nat), gz_Ok x cX4_push RX4 3 4 gz_cfC pf l → gc_AO (gx_s x) → gz_U x u → gz_EAV x cX4_push M' pf' → gz_IsX0 pf k0 → ∀ (s0 : Int32) (M0 : gz_M), g4_push_18 k0 s0 M0 pf u = some (M', pf') → gz_At x 18 [(0, .ref (gx_ad x 131)), (1, .ref (gx_ad x k0))] [.int s0, .ref (gx_ad x 131)] M0 := by
  intro x pf u Xz hAO huz hEz hk0 s0 M0  hf
  rw [g4_push_18] at hf
  obtain ⟨h2, hf⟩ := gz_cke hf
  obtain ⟨v6, M3, pf4, q5, hf⟩ := gz_bd3e hf
  refine gr_callAR (asF := fun ad => [.ref (ad 131), .int s0]) [.int s0] Xz hAO huz (of_decide_eq_true h2) (ce4_slotAt q5) rfl wm_RX4_24 rfl (Xz.kd gk_C131).1 ((Xz.kd gk_C131).2 _ _ _ _) rfl (by decide) (by decide) rfl (Nat.le_of_ble_eq_true rfl) dX4_push_18 (fun xq1 hs1 X1 hu1 hv6 => ?_)
  have hE1 := hEz.stp hs1
  rw [← (hs1.2 131 (gz_prsS (by decide))).2]
  rw [← (hs1.2 k0 (by rw [Xz.hpf]; exact (gk_X0o (pf := pf) hk0).1)).2]
  have hAO1 : gc_AO (gx_s xq1) := gz_aoS hAO hs1
  refine gr_astore_n [(2, .ref (gx_ad xq1 v6)), (0, .ref (gx_ad xq1 131)), (1, .ref (gx_ad xq1 k0))] X1 dX4_push_21 rfl (by decide) rfl ?_
  refine gr_aload_n X1 dX4_push_22 0 rfl rfl ?_
  refine gr_aload_n X1 dX4_push_23 2 rfl rfl ?_
  obtain ⟨M7, q8, hf⟩ := gz_bde hf
  refine gr_callV (asF := fun ad => [.ref (ad v6), .ref (ad k0)]) [.ref (gx_ad xq1 k0)] X1 (c0_copy hv6 (gi_st Xz X1 hs1 hk0) q8) rfl wm_RX4_28 rfl (X1.kd (gk_X0o hv6)).1 ((X1.kd (gk_X0o hv6)).2 _ _ _ _) rfl (by decide) (by decide) rfl (Nat.le_of_ble_eq_true rfl) (hu1.c) dX4_push_24 ?_
  refine gr_aload_n X1 dX4_push_27 1 rfl rfl ?_
  refine gf4_2 X1 wf_RX4_21 dX4_push_28 ?_
  refine gr_bipush 10 X1 dX4_push_31 (by decide) ?_
  refine gr_icmp_ge 49 X1 dX4_push_33 (by decide) (fun h9 => ?_) (fun h9 => ?_)
  · rw [if_pos h9] at hf
    refine gr_aload_n X1 dX4_push_49 1 rfl rfl ?_
    refine gr_aload_n X1 dX4_push_50 1 rfl rfl ?_
    refine gf4_1 X1 wf_RX4_17 dX4_push_51 ?_
    refine gr_iconst 1 X1 dX4_push_54 (by decide) ?_
    refine gr_iadd X1 dX4_push_55 ?_
    refine gr_bipush 10 X1 dX4_push_56 (by decide) ?_
    obtain ⟨h10, hf⟩ := gz_cke hf
    refine gr_irem X1 dX4_push_58 (gz_nei h10) ?_
    obtain ⟨M11, eM11, hf⟩ := gz_lte hf
    refine gp4_1 X1 wf_RX4_17 eM11 dX4_push_59 ?_
    exact gz_EAVu X1 hu1 hE1 hf dX4_push_62
  · rw [if_neg h9] at hf
    refine gr_aload_n X1 dX4_push_36 1 rfl rfl ?_
    refine gr_dup X1 dX4_push_37 rfl ?_
    refine gf4_2 X1 wf_RX4_21 dX4_push_38 ?_
    refine gr_iconst 1 X1 dX4_push_41 (by decide) ?_
    refine gr_iadd X1 dX4_push_42 ?_
    obtain ⟨M12, eM12, hf⟩ := gz_lte hf
    refine gp4_2 X1 wf_RX4_21 eM12 dX4_push_43 ?_
    refine gr_goto 62 X1 dX4_push_46 (by decide) ?_
    exact gz_EAVu X1 hu1 hE1 hf dX4_push_62

def g4_push (k0 : Nat) (M0 : gz_M) (pf : Nat → Bool) : Option (gz_M × (Nat → Bool)) := if 10 ≤ (M0.1 131 2) then (g4_push_18 k0 0 M0 pf 0) else (g4_push_18 k0 (M0.1 131 2) M0 pf 0)
set_option maxRecDepth 100000 in
theorem ce4_push {pf pf' : Nat → Bool} {l : Launch} {M0 M' : gz_M} {k0 : Nat} (hk0 : gz_IsX0 pf k0) (hf : g4_push k0 M0 pf = some (M', pf')) : gz_CAV l yX4_push cX4_push 3 4 (fun ad => [.ref (ad 131), .ref (ad k0)]) pf M0 M' pf' := by
  refine gz_ofAV (by decide +kernel) (fun _ => Nat.le_of_ble_eq_true rfl) (fun x Xz hAO huz hEz => ?_)
  show gz_At x 0 [(0, .ref (gx_ad x 131)), (1, .ref (gx_ad x k0))] [] M0
  unfold g4_push at hf
  refine gr_aload_n Xz dX4_push_0 0 rfl rfl ?_
  refine gr_aload_n Xz dX4_push_1 0 rfl rfl ?_
  refine gf4_2 Xz wf_RX4_21 dX4_push_2 ?_
  refine gr_bipush 10 Xz dX4_push_5 (by decide) ?_
  refine gr_icmp_ge 17 Xz dX4_push_7 (by decide) (fun h1 => ?_) (fun h1 => ?_)
  · rw [if_pos h1] at hf
    refine gr_iconst 0 Xz dX4_push_17 (by decide) ?_
    exact be4_push_18 _ _ _ Xz hAO huz hEz hk0 _ _ hf
  · rw [if_neg h1] at hf
    refine gr_aload_n Xz dX4_push_10 0 rfl rfl ?_
    refine gf4_2 Xz wf_RX4_21 dX4_push_11 ?_
    refine gr_goto 18 Xz dX4_push_14 (by decide) ?_
    exact be4_push_18 _ _ _ Xz hAO huz hEz hk0 _ _ hf

def g11_rules_58 (x1 : Int32) (M0 : gz_M) (pf : Nat → Bool) (u : Nat) : Option (Int32 × gz_M × (Nat → Bool)) := gz_bd (f10_empty M0) fun M1 => if 0 ≤ x1 then (some (M1.1 11 0, M1, pf)) else (some (x1, M1, pf))
theorem be11_rules_58 {l : Launch} {r : Int32} {M' : gz_M} {pf' : Nat → Bool} : ∀ (x : gz_X) (pf : Nat → Bool) (u : Nat), gz_Ok x cX11_rules RX11 2 7 gz_cfC pf l → gc_AO (gx_s x) → gz_U x u → gz_EAI x cX11_rules .int r M' pf' → ∀ (x1 : Int32) (M0 : gz_M), g11_rules_58 x1 M0 pf u = some (r, M', pf') → gz_At x 58 [(0, .ref (gx_ad x 0)), (1, .int x1)] [] M0 := by
  intro x pf u Xz hAO huz hEz x1 M0  hf
  rw [g11_rules_58] at hf
  refine gr_aload_n Xz dX11_rules_58 0 rfl rfl ?_
  refine gf11_0 Xz wf_RX11_12 dX11_rules_59 ?_
  obtain ⟨M1, q2, hf⟩ := gz_bde hf
  refine gr_callV (asF := fun ad => [.ref (ad 1)]) [] Xz (c10_empty q2) rfl wm_RX11_132 rfl (Xz.kd gk_C1).1 ((Xz.kd gk_C1).2 _ _ _ _) rfl (by decide) (by decide) rfl (Nat.le_of_ble_eq_true rfl) (huz.c) dX11_rules_62 ?_
  refine gr_iload_n Xz dX11_rules_65 1 rfl rfl ?_
  refine gr_if_ge 73 Xz dX11_rules_66 (by decide) (fun h3 => ?_) (fun h3 => ?_)
  · rw [if_pos h3] at hf
    refine gr_aload_n Xz dX11_rules_73 0 rfl rfl ?_
    refine gf11_4 Xz wf_RX11_40 dX11_rules_74 ?_
    refine gf7_0 Xz (gk_X7o gi_table) wf_RX11_135 dX11_rules_77 ?_
    exact gz_EAIu Xz huz hEz hf rfl dX11_rules_80
  · rw [if_neg h3] at hf
    refine gr_iload_n Xz dX11_rules_69 1 rfl rfl ?_
    refine gr_goto 80 Xz dX11_rules_70 (by decide) ?_
    exact gz_EAIu Xz huz hEz hf rfl dX11_rules_80

def g11_rules_28 (x1 : Int32) (M0 : gz_M) (pf : Nat → Bool) (u : Nat) : Option (Int32 × gz_M × (Nat → Bool)) := if x1 = 0 then (gz_ck (decide (u + 1 ≤ 1)) <| gz_bd2 (g4_push 7 M0 pf) fun M4 pf5 => gz_bd (f0_takeRules 7 M4) fun M7 => gz_bd (f11_refresh M7) fun M9 => g11_rules_58 x1 M9 pf5 (u + 1)) else (g11_rules_58 x1 M0 pf u)
theorem be11_rules_28 {l : Launch} {r : Int32} {M' : gz_M} {pf' : Nat → Bool} : ∀ (x : gz_X) (pf : Nat → Bool) (u : Nat), gz_Ok x cX11_rules RX11 2 7 gz_cfC pf l → gc_AO (gx_s x) → gz_U x u → gz_EAI x cX11_rules .int r M' pf' → ∀ (x1 : Int32) (M0 : gz_M), g11_rules_28 x1 M0 pf u = some (r, M', pf') → gz_At x 28 [(0, .ref (gx_ad x 0)), (1, .int x1)] [] M0 := by
  intro x pf u Xz hAO huz hEz x1 M0  hf
  rw [g11_rules_28] at hf
  refine gr_iload_n Xz dX11_rules_28 1 rfl rfl ?_
  refine gr_if_ne 58 Xz dX11_rules_29 (by decide) (fun h1 => ?_) (fun h1 => ?_)
  · rw [if_pos h1] at hf
    refine gr_aload_n Xz dX11_rules_32 0 rfl rfl ?_
    refine gf11_12 Xz wf_RX11_88 dX11_rules_33 ?_
    refine gr_aload_n Xz dX11_rules_36 0 rfl rfl ?_
    refine gf11_3 Xz wf_RX11_33 dX11_rules_37 ?_
    obtain ⟨h3, hf⟩ := gz_cke hf
    obtain ⟨M4, pf5, q6, hf⟩ := gz_bd2e hf
    refine gr_callAV (asF := fun ad => [.ref (ad 131), .ref (ad 7)]) [.ref (gx_ad x 7)] Xz hAO huz (of_decide_eq_true h3) (ce4_push gi_now q6) rfl wm_RX11_121 rfl (Xz.kd gk_C131).1 ((Xz.kd gk_C131).2 _ _ _ _) rfl (by decide) (by decide) rfl (Nat.le_of_ble_eq_true rfl) dX11_rules_40 (fun xq2 hs2 X2 hu2 => ?_)
    have hE2 := hEz.stp hs2
    rw [← (hs2.2 0 (gz_prsS (by decide))).2]
    have hAO2 : gc_AO (gx_s xq2) := gz_aoS hAO hs2
    refine gr_aload_n X2 dX11_rules_43 0 rfl rfl ?_
    refine gf11_3 X2 wf_RX11_33 dX11_rules_44 ?_
    refine gr_aload_n X2 dX11_rules_47 0 rfl rfl ?_
    refine gf11_0 X2 wf_RX11_12 dX11_rules_48 ?_
    obtain ⟨M7, q8, hf⟩ := gz_bde hf
    refine gr_callV (asF := fun ad => [.ref (ad 7), .ref (ad 1)]) [.ref (gx_ad xq2 1)] X2 (c0_takeRules gi_now q8) rfl wm_RX11_125 rfl (X2.kd (gk_X0o gi_now)).1 ((X2.kd (gk_X0o gi_now)).2 _ _ _ _) rfl (by decide) (by decide) rfl (Nat.le_of_ble_eq_true rfl) (hu2.c) dX11_rules_51 ?_
    refine gr_aload_n X2 dX11_rules_54 0 rfl rfl ?_
    obtain ⟨M9, q10, hf⟩ := gz_bde hf
    refine gr_callV (asF := fun ad => [.ref (ad 0)]) [] X2 (c11_refresh q10) rfl wm_RX11_129 rfl (X2.kd gk_C0).1 ((X2.kd gk_C0).2 _ _ _ _) rfl (by decide) (by decide) rfl (Nat.le_of_ble_eq_true rfl) (hu2.c) dX11_rules_55 ?_
    exact be11_rules_58 _ _ _ X2 hAO2 hu2 hE2 _ _ hf
  · rw [if_neg h1] at hf
    exact be11_rules_58 _ _ _ Xz hAO huz hEz _ _ hf

def g11_rules (M0 : gz_M) (pf : Nat → Bool) : Option (Int32 × gz_M × (Nat → Bool)) := gz_bd2 (f3_faultOfRules M0) fun v1 M2 => if v1 = 0 then (gz_bd2 (f3_faultOfLetters M2) fun v5 M6 => g11_rules_28 v5 M6 pf 0) else (g11_rules_28 v1 M2 pf 0)
set_option maxRecDepth 100000 in
theorem ce11_rules {pf pf' : Nat → Bool} {l : Launch} {r : Int32} {M0 M' : gz_M} (hf : g11_rules M0 pf = some (r, M', pf')) : gz_CAI l yX11_rules cX11_rules 2 7 .int (fun ad => [.ref (ad 0)]) pf M0 r M' pf' := by
  refine gz_ofAI (by decide +kernel) (fun _ => Nat.le_of_ble_eq_true rfl) (fun x Xz hAO huz hEz => ?_)
  show gz_At x 0 [(0, .ref (gx_ad x 0))] [] M0
  unfold g11_rules at hf
  refine gr_aload_n Xz dX11_rules_0 0 rfl rfl ?_
  refine gf11_1 Xz wf_RX11_19 dX11_rules_1 ?_
  refine gr_aload_n Xz dX11_rules_4 0 rfl rfl ?_
  refine gf11_0 Xz wf_RX11_12 dX11_rules_5 ?_
  obtain ⟨v1, M2, q3, hf⟩ := gz_bd2e hf
  refine gr_callI (asF := fun ad => [.ref (ad 3), .ref (ad 1)]) [.ref (gx_ad x 1)] Xz (c3_faultOfRules q3) rfl wm_RX11_114 rfl (Xz.kd gk_C3).1 ((Xz.kd gk_C3).2 _ _ _ _) rfl (by decide) (by decide) rfl (Nat.le_of_ble_eq_true rfl) (huz.c) dX11_rules_8 ?_
  refine gr_istore_n [(1, .int v1), (0, .ref (gx_ad x 0))] Xz dX11_rules_11 rfl rfl (by decide) rfl ?_
  refine gr_iload_n Xz dX11_rules_12 0 rfl rfl ?_
  refine gr_if_ne 28 Xz dX11_rules_13 (by decide) (fun h4 => ?_) (fun h4 => ?_)
  · rw [if_pos h4] at hf
    refine gr_aload_n Xz dX11_rules_16 1 rfl rfl ?_
    refine gf11_1 Xz wf_RX11_19 dX11_rules_17 ?_
    refine gr_aload_n Xz dX11_rules_20 1 rfl rfl ?_
    refine gf11_0 Xz wf_RX11_12 dX11_rules_21 ?_
    obtain ⟨v5, M6, q7, hf⟩ := gz_bd2e hf
    refine gr_callI (asF := fun ad => [.ref (ad 3), .ref (ad 1)]) [.ref (gx_ad x 1)] Xz (c3_faultOfLetters q7) rfl wm_RX11_118 rfl (Xz.kd gk_C3).1 ((Xz.kd gk_C3).2 _ _ _ _) rfl (by decide) (by decide) rfl (Nat.le_of_ble_eq_true rfl) (huz.c) dX11_rules_24 ?_
    refine gr_istore_n [(1, .int v5), (0, .ref (gx_ad x 0))] Xz dX11_rules_27 rfl rfl (by decide) rfl ?_
    refine gr_sub (lv' := [(0, .ref (gx_ad x 0)), (1, .int v5)]) [1, 0] rfl ?_
    exact be11_rules_28 _ _ _ Xz hAO huz hEz _ _ hf
  · rw [if_neg h4] at hf
    refine gr_sub (lv' := [(0, .ref (gx_ad x 0)), (1, .int v1)]) [1, 0] rfl ?_
    exact be11_rules_28 _ _ _ Xz hAO huz hEz _ _ hf

def g11_line_45 (x1 : Int32) (M0 : gz_M) (pf : Nat → Bool) (u : Nat) : Option (Int32 × gz_M × (Nat → Bool)) := gz_bd (f10_empty M0) fun M1 => if 0 ≤ x1 then (some (M1.1 (7 + 2) 1, M1, pf)) else (some (x1, M1, pf))
theorem be11_line_45 {l : Launch} {r : Int32} {M' : gz_M} {pf' : Nat → Bool} : ∀ (x : gz_X) (pf : Nat → Bool) (u : Nat), gz_Ok x cX11_line RX11 2 6 gz_cfC pf l → gc_AO (gx_s x) → gz_U x u → gz_EAI x cX11_line .int r M' pf' → ∀ (x1 : Int32) (M0 : gz_M), g11_line_45 x1 M0 pf u = some (r, M', pf') → gz_At x 45 [(0, .ref (gx_ad x 0)), (1, .int x1)] [] M0 := by
  intro x pf u Xz hAO huz hEz x1 M0  hf
  rw [g11_line_45] at hf
  refine gr_aload_n Xz dX11_line_45 0 rfl rfl ?_
  refine gf11_0 Xz wf_RX11_12 dX11_line_46 ?_
  obtain ⟨M1, q2, hf⟩ := gz_bde hf
  refine gr_callV (asF := fun ad => [.ref (ad 1)]) [] Xz (c10_empty q2) rfl wm_RX11_132 rfl (Xz.kd gk_C1).1 ((Xz.kd gk_C1).2 _ _ _ _) rfl (by decide) (by decide) rfl (Nat.le_of_ble_eq_true rfl) (huz.c) dX11_line_49 ?_
  refine gr_iload_n Xz dX11_line_52 1 rfl rfl ?_
  refine gr_if_ge 60 Xz dX11_line_53 (by decide) (fun h3 => ?_) (fun h3 => ?_)
  · rw [if_pos h3] at hf
    refine gr_aload_n Xz dX11_line_60 0 rfl rfl ?_
    refine gf11_3 Xz wf_RX11_33 dX11_line_61 ?_
    refine gf0_2 Xz (gk_X0o gi_now) wf_RX11_141 dX11_line_64 ?_
    refine gf5_1 Xz (gk_X5o (gi_X0line gi_now)) wf_RX11_150 dX11_line_67 ?_
    exact gz_EAIu Xz huz hEz hf rfl dX11_line_70
  · rw [if_neg h3] at hf
    refine gr_iload_n Xz dX11_line_56 1 rfl rfl ?_
    refine gr_goto 70 Xz dX11_line_57 (by decide) ?_
    exact gz_EAIu Xz huz hEz hf rfl dX11_line_70

def g11_line (M0 : gz_M) (pf : Nat → Bool) : Option (Int32 × gz_M × (Nat → Bool)) := gz_bd2 (f3_faultOfLine M0) fun v1 M2 => if v1 = 0 then (gz_ck (decide (0 + 1 ≤ 1)) <| gz_bd2 (g4_push 7 M2 pf) fun M7 pf8 => gz_bd (f5_take (7 + 2) M7) fun M10 => gz_bd (f11_recut M10) fun M12 => g11_line_45 v1 M12 pf8 (0 + 1)) else (g11_line_45 v1 M2 pf 0)
set_option maxRecDepth 100000 in
theorem ce11_line {pf pf' : Nat → Bool} {l : Launch} {r : Int32} {M0 M' : gz_M} (hf : g11_line M0 pf = some (r, M', pf')) : gz_CAI l yX11_line cX11_line 2 6 .int (fun ad => [.ref (ad 0)]) pf M0 r M' pf' := by
  refine gz_ofAI (by decide +kernel) (fun _ => Nat.le_of_ble_eq_true rfl) (fun x Xz hAO huz hEz => ?_)
  show gz_At x 0 [(0, .ref (gx_ad x 0))] [] M0
  unfold g11_line at hf
  refine gr_aload_n Xz dX11_line_0 0 rfl rfl ?_
  refine gf11_1 Xz wf_RX11_19 dX11_line_1 ?_
  refine gr_aload_n Xz dX11_line_4 0 rfl rfl ?_
  refine gf11_0 Xz wf_RX11_12 dX11_line_5 ?_
  obtain ⟨v1, M2, q3, hf⟩ := gz_bd2e hf
  refine gr_callI (asF := fun ad => [.ref (ad 3), .ref (ad 1)]) [.ref (gx_ad x 1)] Xz (c3_faultOfLine q3) rfl wm_RX11_138 rfl (Xz.kd gk_C3).1 ((Xz.kd gk_C3).2 _ _ _ _) rfl (by decide) (by decide) rfl (Nat.le_of_ble_eq_true rfl) (huz.c) dX11_line_8 ?_
  refine gr_istore_n [(1, .int v1), (0, .ref (gx_ad x 0))] Xz dX11_line_11 rfl rfl (by decide) rfl ?_
  refine gr_iload_n Xz dX11_line_12 0 rfl rfl ?_
  refine gr_if_ne 45 Xz dX11_line_13 (by decide) (fun h4 => ?_) (fun h4 => ?_)
  · rw [if_pos h4] at hf
    refine gr_aload_n Xz dX11_line_16 1 rfl rfl ?_
    refine gf11_12 Xz wf_RX11_88 dX11_line_17 ?_
    refine gr_aload_n Xz dX11_line_20 1 rfl rfl ?_
    refine gf11_3 Xz wf_RX11_33 dX11_line_21 ?_
    obtain ⟨h6, hf⟩ := gz_cke hf
    obtain ⟨M7, pf8, q9, hf⟩ := gz_bd2e hf
    refine gr_callAV (asF := fun ad => [.ref (ad 131), .ref (ad 7)]) [.ref (gx_ad x 7)] Xz hAO huz (of_decide_eq_true h6) (ce4_push gi_now q9) rfl wm_RX11_121 rfl (Xz.kd gk_C131).1 ((Xz.kd gk_C131).2 _ _ _ _) rfl (by decide) (by decide) rfl (Nat.le_of_ble_eq_true rfl) dX11_line_24 (fun xq5 hs5 X5 hu5 => ?_)
    have hE5 := hEz.stp hs5
    rw [← (hs5.2 0 (gz_prsS (by decide))).2]
    have hAO5 : gc_AO (gx_s xq5) := gz_aoS hAO hs5
    refine gr_aload_n X5 dX11_line_27 1 rfl rfl ?_
    refine gf11_3 X5 wf_RX11_33 dX11_line_28 ?_
    refine gf0_2 X5 (gk_X0o gi_now) wf_RX11_141 dX11_line_31 ?_
    refine gr_aload_n X5 dX11_line_34 1 rfl rfl ?_
    refine gf11_0 X5 wf_RX11_12 dX11_line_35 ?_
    obtain ⟨M10, q11, hf⟩ := gz_bde hf
    refine gr_callV (asF := fun ad => [.ref (ad (7 + 2)), .ref (ad 1)]) [.ref (gx_ad xq5 1)] X5 (c5_take (gi_X0line gi_now) q11) rfl wm_RX11_144 rfl (X5.kd (gk_X5o (gi_X0line gi_now))).1 ((X5.kd (gk_X5o (gi_X0line gi_now))).2 _ _ _ _) rfl (by decide) (by decide) rfl (Nat.le_of_ble_eq_true rfl) (hu5.c) dX11_line_38 ?_
    refine gr_aload_n X5 dX11_line_41 1 rfl rfl ?_
    obtain ⟨M12, q13, hf⟩ := gz_bde hf
    refine gr_callV (asF := fun ad => [.ref (ad 0)]) [] X5 (c11_recut q13) rfl wm_RX11_147 rfl (X5.kd gk_C0).1 ((X5.kd gk_C0).2 _ _ _ _) rfl (by decide) (by decide) rfl (Nat.le_of_ble_eq_true rfl) (hu5.c) dX11_line_42 ?_
    refine gr_sub (lv' := [(0, .ref (gx_ad xq5 0)), (1, .int v1)]) [1, 0] rfl ?_
    exact be11_line_45 _ _ _ X5 hAO5 hu5 hE5 _ _ hf
  · rw [if_neg h4] at hf
    refine gr_sub (lv' := [(0, .ref (gx_ad x 0)), (1, .int v1)]) [1, 0] rfl ?_
    exact be11_line_45 _ _ _ Xz hAO huz hEz _ _ hf

def g11_change (a0 : Int32) (a1 : Int32) (a2 : Int32) (M0 : gz_M) (pf : Nat → Bool) : Option (Int32 × gz_M × (Nat → Bool)) := gz_bd2 (f5_refusal (7 + 2) a0 a1 a2 M0) fun v1 M2 => if 0 ≤ v1 then (gz_ck (decide (0 + 1 ≤ 1)) <| gz_bd2 (g4_push 7 M2 pf) fun M7 pf8 => gz_lt (gz_w M7 0 5 (gz_cOf (gz_cIx (M7.1 0 8)))) fun M10 => gz_lt (gz_w M10 0 8 (gz_cOf (gz_cIx (M7.1 0 5)))) fun M11 => gz_bd (f5_change (7 + 2) a0 a1 a2 M11) fun M12 => gz_bd (f11_recut M12) fun M14 => gz_bd (f11_tellChange a0 a1 M14) fun M16 => some (M16.1 (gz_cIx (M16.1 0 5)) 0, M16, pf8)) else (some (v1, M2, pf))
set_option maxRecDepth 100000 in
theorem ce11_change {pf pf' : Nat → Bool} {l : Launch} {r : Int32} {M0 M' : gz_M} {a0 : Int32} {a1 : Int32} {a2 : Int32} (hf : g11_change a0 a1 a2 M0 pf = some (r, M', pf')) : gz_CAI l yX11_change cX11_change 6 6 .int (fun ad => [.ref (ad 0), .int a0, .int a1, .int a2]) pf M0 r M' pf' := by
  refine gz_ofAI (by decide +kernel) (fun _ => Nat.le_of_ble_eq_true rfl) (fun x Xz hAO huz hEz => ?_)
  show gz_At x 0 [(0, .ref (gx_ad x 0)), (1, .int a0), (2, .int a1), (3, .int a2)] [] M0
  unfold g11_change at hf
  refine gr_aload_n Xz dX11_change_0 0 rfl rfl ?_
  refine gf11_3 Xz wf_RX11_33 dX11_change_1 ?_
  refine gf0_2 Xz (gk_X0o gi_now) wf_RX11_141 dX11_change_4 ?_
  refine gr_iload_n Xz dX11_change_7 1 rfl rfl ?_
  refine gr_iload_n Xz dX11_change_8 2 rfl rfl ?_
  refine gr_iload_n Xz dX11_change_9 3 rfl rfl ?_
  obtain ⟨v1, M2, q3, hf⟩ := gz_bd2e hf
  refine gr_callI (asF := fun ad => [.ref (ad (7 + 2)), .int a0, .int a1, .int a2]) [.int a0, .int a1, .int a2] Xz (c5_refusal (gi_X0line gi_now) q3) rfl wm_RX11_387 rfl (Xz.kd (gk_X5o (gi_X0line gi_now))).1 ((Xz.kd (gk_X5o (gi_X0line gi_now))).2 _ _ _ _) rfl (by decide) (by decide) rfl (Nat.le_of_ble_eq_true rfl) (huz.c) dX11_change_10 ?_
  refine gr_istore [(4, .int v1), (0, .ref (gx_ad x 0)), (1, .int a0), (2, .int a1), (3, .int a2)] Xz dX11_change_13 rfl (by decide) rfl ?_
  refine gr_iload Xz dX11_change_15 0 rfl ?_
  refine gr_if_ge 23 Xz dX11_change_17 (by decide) (fun h4 => ?_) (fun h4 => ?_)
  · rw [if_pos h4] at hf
    refine gr_aload_n Xz dX11_change_23 1 rfl rfl ?_
    refine gf11_12 Xz wf_RX11_88 dX11_change_24 ?_
    refine gr_aload_n Xz dX11_change_27 1 rfl rfl ?_
    refine gf11_3 Xz wf_RX11_33 dX11_change_28 ?_
    obtain ⟨h6, hf⟩ := gz_cke hf
    obtain ⟨M7, pf8, q9, hf⟩ := gz_bd2e hf
    refine gr_callAV (asF := fun ad => [.ref (ad 131), .ref (ad 7)]) [.ref (gx_ad x 7)] Xz hAO huz (of_decide_eq_true h6) (ce4_push gi_now q9) rfl wm_RX11_121 rfl (Xz.kd gk_C131).1 ((Xz.kd gk_C131).2 _ _ _ _) rfl (by decide) (by decide) rfl (Nat.le_of_ble_eq_true rfl) dX11_change_31 (fun xq5 hs5 X5 hu5 => ?_)
    have hE5 := hEz.stp hs5
    rw [← (hs5.2 0 (gz_prsS (by decide))).2]
    have hAO5 : gc_AO (gx_s xq5) := gz_aoS hAO hs5
    refine gr_aload_n X5 dX11_change_34 1 rfl rfl ?_
    refine gf11_5 X5 wf_RX11_47 dX11_change_35 ?_
    refine gr_astore [(5, .ref (gx_ad xq5 (gz_cIx (M7.1 0 5)))), (4, .int v1), (0, .ref (gx_ad xq5 0)), (1, .int a0), (2, .int a1), (3, .int a2)] X5 dX11_change_38 (by decide) rfl ?_
    refine gr_aload_n X5 dX11_change_40 2 rfl rfl ?_
    refine gr_aload_n X5 dX11_change_41 2 rfl rfl ?_
    refine gf11_8 X5 wf_RX11_61 dX11_change_42 ?_
    obtain ⟨M10, eM10, hf⟩ := gz_lte hf
    refine gp11_5 X5 (gi_cut _) wf_RX11_47 eM10 dX11_change_45 ?_
    refine gr_aload_n X5 dX11_change_48 2 rfl rfl ?_
    refine gr_aload X5 dX11_change_49 0 rfl ?_
    obtain ⟨M11, eM11, hf⟩ := gz_lte hf
    refine gp11_8 X5 (gi_cut _) wf_RX11_61 eM11 dX11_change_51 ?_
    refine gr_aload_n X5 dX11_change_54 2 rfl rfl ?_
    refine gf11_3 X5 wf_RX11_33 dX11_change_55 ?_
    refine gf0_2 X5 (gk_X0o gi_now) wf_RX11_141 dX11_change_58 ?_
    refine gr_iload_n X5 dX11_change_61 3 rfl rfl ?_
    refine gr_iload_n X5 dX11_change_62 4 rfl rfl ?_
    refine gr_iload_n X5 dX11_change_63 5 rfl rfl ?_
    obtain ⟨M12, q13, hf⟩ := gz_bde hf
    refine gr_callV (asF := fun ad => [.ref (ad (7 + 2)), .int a0, .int a1, .int a2]) [.int a0, .int a1, .int a2] X5 (c5_change (gi_X0line gi_now) q13) rfl wm_RX11_364 rfl (X5.kd (gk_X5o (gi_X0line gi_now))).1 ((X5.kd (gk_X5o (gi_X0line gi_now))).2 _ _ _ _) rfl (by decide) (by decide) rfl (Nat.le_of_ble_eq_true rfl) (hu5.c) dX11_change_64 ?_
    refine gr_aload_n X5 dX11_change_67 2 rfl rfl ?_
    obtain ⟨M14, q15, hf⟩ := gz_bde hf
    refine gr_callV (asF := fun ad => [.ref (ad 0)]) [] X5 (c11_recut q15) rfl wm_RX11_147 rfl (X5.kd gk_C0).1 ((X5.kd gk_C0).2 _ _ _ _) rfl (by decide) (by decide) rfl (Nat.le_of_ble_eq_true rfl) (hu5.c) dX11_change_68 ?_
    refine gr_aload_n X5 dX11_change_71 2 rfl rfl ?_
    refine gr_iload_n X5 dX11_change_72 3 rfl rfl ?_
    refine gr_iload_n X5 dX11_change_73 4 rfl rfl ?_
    obtain ⟨M16, q17, hf⟩ := gz_bde hf
    refine gr_callV (asF := fun ad => [.ref (ad 0), .int a0, .int a1]) [.int a0, .int a1] X5 (c11_tellChange q17) rfl wm_RX11_390 rfl (X5.kd gk_C0).1 ((X5.kd gk_C0).2 _ _ _ _) rfl (by decide) (by decide) rfl (Nat.le_of_ble_eq_true rfl) (hu5.c) dX11_change_74 ?_
    refine gr_aload_n X5 dX11_change_77 2 rfl rfl ?_
    refine gf11_5 X5 wf_RX11_47 dX11_change_78 ?_
    refine gf2_0 X5 (gk_X2o (gi_cut _)) wf_RX11_190 dX11_change_81 ?_
    exact gz_EAIu X5 hu5 hE5 hf rfl dX11_change_84
  · rw [if_neg h4] at hf
    refine gr_iload Xz dX11_change_20 0 rfl ?_
    exact gz_EAIu Xz huz hEz hf rfl dX11_change_22

def g11_becomes (a0 : Int32) (a1 : Int32) (M0 : gz_M) (pf : Nat → Bool) : Option (Int32 × gz_M × (Nat → Bool)) := gz_ck (decide (0 + 1 ≤ 1)) <| gz_bd3 (g11_change 0 a0 a1 M0 pf) fun v6 M3 pf4 => some (v6, M3, pf4)
set_option maxRecDepth 100000 in
theorem ce11_becomes {pf pf' : Nat → Bool} {l : Launch} {r : Int32} {M0 M' : gz_M} {a0 : Int32} {a1 : Int32} (hf : g11_becomes a0 a1 M0 pf = some (r, M', pf')) : gz_CAI l yX11_becomes cX11_becomes 3 7 .int (fun ad => [.ref (ad 0), .int a0, .int a1]) pf M0 r M' pf' := by
  refine gz_ofAI (by decide +kernel) (fun _ => Nat.le_of_ble_eq_true rfl) (fun x Xz hAO huz hEz => ?_)
  show gz_At x 0 [(0, .ref (gx_ad x 0)), (1, .int a0), (2, .int a1)] [] M0
  unfold g11_becomes at hf
  refine gr_aload_n Xz dX11_becomes_0 0 rfl rfl ?_
  refine gr_iconst 0 Xz dX11_becomes_1 (by decide) ?_
  refine gr_iload_n Xz dX11_becomes_2 1 rfl rfl ?_
  refine gr_iload_n Xz dX11_becomes_3 2 rfl rfl ?_
  obtain ⟨h2, hf⟩ := gz_cke hf
  obtain ⟨v6, M3, pf4, q5, hf⟩ := gz_bd3e hf
  refine gr_callAI (asF := fun ad => [.ref (ad 0), .int 0, .int a0, .int a1]) [.int 0, .int a0, .int a1] Xz hAO huz (of_decide_eq_true h2) (ce11_change q5) rfl wm_RX11_336 rfl (Xz.kd gk_C0).1 ((Xz.kd gk_C0).2 _ _ _ _) rfl (by decide) (by decide) rfl (Nat.le_of_ble_eq_true rfl) dX11_becomes_4 (fun xq1 hs1 X1 hu1 => ?_)
  have hE1 := hEz.stp hs1
  rw [← (hs1.2 0 (gz_prsS (by decide))).2]
  have hAO1 : gc_AO (gx_s xq1) := gz_aoS hAO hs1
  exact gz_EAIu X1 hu1 hE1 hf rfl dX11_becomes_7

def g11_comes (a0 : Int32) (a1 : Int32) (M0 : gz_M) (pf : Nat → Bool) : Option (Int32 × gz_M × (Nat → Bool)) := gz_ck (decide (0 + 1 ≤ 1)) <| gz_bd3 (g11_change 1 a0 a1 M0 pf) fun v6 M3 pf4 => some (v6, M3, pf4)
set_option maxRecDepth 100000 in
theorem ce11_comes {pf pf' : Nat → Bool} {l : Launch} {r : Int32} {M0 M' : gz_M} {a0 : Int32} {a1 : Int32} (hf : g11_comes a0 a1 M0 pf = some (r, M', pf')) : gz_CAI l yX11_comes cX11_comes 3 7 .int (fun ad => [.ref (ad 0), .int a0, .int a1]) pf M0 r M' pf' := by
  refine gz_ofAI (by decide +kernel) (fun _ => Nat.le_of_ble_eq_true rfl) (fun x Xz hAO huz hEz => ?_)
  show gz_At x 0 [(0, .ref (gx_ad x 0)), (1, .int a0), (2, .int a1)] [] M0
  unfold g11_comes at hf
  refine gr_aload_n Xz dX11_comes_0 0 rfl rfl ?_
  refine gr_iconst 1 Xz dX11_comes_1 (by decide) ?_
  refine gr_iload_n Xz dX11_comes_2 1 rfl rfl ?_
  refine gr_iload_n Xz dX11_comes_3 2 rfl rfl ?_
  obtain ⟨h2, hf⟩ := gz_cke hf
  obtain ⟨v6, M3, pf4, q5, hf⟩ := gz_bd3e hf
  refine gr_callAI (asF := fun ad => [.ref (ad 0), .int 1, .int a0, .int a1]) [.int 1, .int a0, .int a1] Xz hAO huz (of_decide_eq_true h2) (ce11_change q5) rfl wm_RX11_336 rfl (Xz.kd gk_C0).1 ((Xz.kd gk_C0).2 _ _ _ _) rfl (by decide) (by decide) rfl (Nat.le_of_ble_eq_true rfl) dX11_comes_4 (fun xq1 hs1 X1 hu1 => ?_)
  have hE1 := hEz.stp hs1
  rw [← (hs1.2 0 (gz_prsS (by decide))).2]
  have hAO1 : gc_AO (gx_s xq1) := gz_aoS hAO hs1
  exact gz_EAIu X1 hu1 hE1 hf rfl dX11_comes_7

def g11_goes (a0 : Int32) (M0 : gz_M) (pf : Nat → Bool) : Option (Int32 × gz_M × (Nat → Bool)) := gz_ck (decide (0 + 1 ≤ 1)) <| gz_bd3 (g11_change 2 a0 0 M0 pf) fun v6 M3 pf4 => some (v6, M3, pf4)
set_option maxRecDepth 100000 in
theorem ce11_goes {pf pf' : Nat → Bool} {l : Launch} {r : Int32} {M0 M' : gz_M} {a0 : Int32} (hf : g11_goes a0 M0 pf = some (r, M', pf')) : gz_CAI l yX11_goes cX11_goes 2 7 .int (fun ad => [.ref (ad 0), .int a0]) pf M0 r M' pf' := by
  refine gz_ofAI (by decide +kernel) (fun _ => Nat.le_of_ble_eq_true rfl) (fun x Xz hAO huz hEz => ?_)
  show gz_At x 0 [(0, .ref (gx_ad x 0)), (1, .int a0)] [] M0
  unfold g11_goes at hf
  refine gr_aload_n Xz dX11_goes_0 0 rfl rfl ?_
  refine gr_iconst 2 Xz dX11_goes_1 (by decide) ?_
  refine gr_iload_n Xz dX11_goes_2 1 rfl rfl ?_
  refine gr_iconst 0 Xz dX11_goes_3 (by decide) ?_
  obtain ⟨h2, hf⟩ := gz_cke hf
  obtain ⟨v6, M3, pf4, q5, hf⟩ := gz_bd3e hf
  refine gr_callAI (asF := fun ad => [.ref (ad 0), .int 2, .int a0, .int 0]) [.int 2, .int a0, .int 0] Xz hAO huz (of_decide_eq_true h2) (ce11_change q5) rfl wm_RX11_336 rfl (Xz.kd gk_C0).1 ((Xz.kd gk_C0).2 _ _ _ _) rfl (by decide) (by decide) rfl (Nat.le_of_ble_eq_true rfl) dX11_goes_4 (fun xq1 hs1 X1 hu1 => ?_)
  have hE1 := hEz.stp hs1
  rw [← (hs1.2 0 (gz_prsS (by decide))).2]
  have hAO1 : gc_AO (gx_s xq1) := gz_aoS hAO hs1
  exact gz_EAIu X1 hu1 hE1 hf rfl dX11_goes_7

def g11_changeByText_203 (x1 : Int32) (s0 : Int64) (M0 : gz_M) (pf : Nat → Bool) (u : Nat) : Option (Int32 × gz_M × (Nat → Bool)) := gz_bd (f11_tell s0 M0) fun M1 => gz_bd (f11_tell ((M1.1 (gz_cIx (M1.1 0 5)) 0).toInt64) M1) fun M3 => some (x1, M3, pf)
theorem be11_changeByText_203 {l : Launch} {r : Int32} {M' : gz_M} {pf' : Nat → Bool} : ∀ (x : gz_X) (pf : Nat → Bool) (u : Nat), gz_Ok x cX11_changeByText RX11 8 6 gz_cfC pf l → gc_AO (gx_s x) → gz_U x u → gz_EAI x cX11_changeByText .int r M' pf' → ∀ (x1 : Int32) (s0 : Int64) (M0 : gz_M), g11_changeByText_203 x1 s0 M0 pf u = some (r, M', pf') → gz_At x 203 [(0, .ref (gx_ad x 0)), (1, .int x1)] [.long s0, .ref (gx_ad x 0)] M0 := by
  intro x pf u Xz hAO huz hEz x1 s0 M0  hf
  rw [g11_changeByText_203] at hf
  obtain ⟨M1, q2, hf⟩ := gz_bde hf
  refine gr_callV (asF := fun ad => [.ref (ad 0), .long s0]) [.long s0] Xz (c11_tell q2) rfl wm_RX11_196 rfl (Xz.kd gk_C0).1 ((Xz.kd gk_C0).2 _ _ _ _) rfl (by decide) (by decide) rfl (Nat.le_of_ble_eq_true rfl) (huz.c) dX11_changeByText_203 ?_
  refine gr_aload_n Xz dX11_changeByText_206 0 rfl rfl ?_
  refine gr_aload_n Xz dX11_changeByText_207 0 rfl rfl ?_
  refine gf11_5 Xz wf_RX11_47 dX11_changeByText_208 ?_
  refine gf2_0 Xz (gk_X2o (gi_cut _)) wf_RX11_190 dX11_changeByText_211 ?_
  refine gr_i2l Xz dX11_changeByText_214 ?_
  obtain ⟨M3, q4, hf⟩ := gz_bde hf
  refine gr_callV (asF := fun ad => [.ref (ad 0), .long ((M1.1 (gz_cIx (M1.1 0 5)) 0).toInt64)]) [.long ((M1.1 (gz_cIx (M1.1 0 5)) 0).toInt64)] Xz (c11_tell q4) rfl wm_RX11_196 rfl (Xz.kd gk_C0).1 ((Xz.kd gk_C0).2 _ _ _ _) rfl (by decide) (by decide) rfl (Nat.le_of_ble_eq_true rfl) (huz.c) dX11_changeByText_215 ?_
  refine gr_iload_n Xz dX11_changeByText_218 1 rfl rfl ?_
  exact gz_EAIu Xz huz hEz hf rfl dX11_changeByText_219

def g11_changeByText_184 (x1 : Int32) (x2 : Int32) (M0 : gz_M) (pf : Nat → Bool) (u : Nat) : Option (Int32 × gz_M × (Nat → Bool)) := gz_bd (f11_recut M0) fun M1 => gz_lt (gz_w M1 0 15 0) fun M3 => if x2 = 0 then (g11_changeByText_203 x1 0 M3 pf u) else (g11_changeByText_203 x1 1 M3 pf u)
theorem be11_changeByText_184 {l : Launch} {r : Int32} {M' : gz_M} {pf' : Nat → Bool} : ∀ (x : gz_X) (pf : Nat → Bool) (u : Nat), gz_Ok x cX11_changeByText RX11 8 6 gz_cfC pf l → gc_AO (gx_s x) → gz_U x u → gz_EAI x cX11_changeByText .int r M' pf' → ∀ (x1 : Int32) (x2 : Int32) (M0 : gz_M), g11_changeByText_184 x1 x2 M0 pf u = some (r, M', pf') → gz_At x 184 [(0, .ref (gx_ad x 0)), (1, .int x1), (2, .int x2)] [] M0 := by
  intro x pf u Xz hAO huz hEz x1 x2 M0  hf
  rw [g11_changeByText_184] at hf
  refine gr_aload_n Xz dX11_changeByText_184 0 rfl rfl ?_
  obtain ⟨M1, q2, hf⟩ := gz_bde hf
  refine gr_callV (asF := fun ad => [.ref (ad 0)]) [] Xz (c11_recut q2) rfl wm_RX11_147 rfl (Xz.kd gk_C0).1 ((Xz.kd gk_C0).2 _ _ _ _) rfl (by decide) (by decide) rfl (Nat.le_of_ble_eq_true rfl) (huz.c) dX11_changeByText_185 ?_
  refine gr_aload_n Xz dX11_changeByText_188 0 rfl rfl ?_
  refine gr_iconst 0 Xz dX11_changeByText_189 (by decide) ?_
  obtain ⟨M3, eM3, hf⟩ := gz_lte hf
  refine gp11_15 Xz wf_RX11_100 eM3 dX11_changeByText_190 ?_
  refine gr_aload_n Xz dX11_changeByText_193 0 rfl rfl ?_
  refine gr_iload_n Xz dX11_changeByText_194 2 rfl rfl ?_
  refine gr_if_eq 202 Xz dX11_changeByText_195 (by decide) (fun h4 => ?_) (fun h4 => ?_)
  · rw [if_pos h4] at hf
    refine gr_lconst 0 Xz dX11_changeByText_202 rfl ?_
    refine gr_sub (lv' := [(0, .ref (gx_ad x 0)), (1, .int x1)]) [0, 1] rfl ?_
    exact be11_changeByText_203 _ _ _ Xz hAO huz hEz _ _ _ hf
  · rw [if_neg h4] at hf
    refine gr_lconst 1 Xz dX11_changeByText_198 rfl ?_
    refine gr_goto 203 Xz dX11_changeByText_199 (by decide) ?_
    refine gr_sub (lv' := [(0, .ref (gx_ad x 0)), (1, .int x1)]) [0, 1] rfl ?_
    exact be11_changeByText_203 _ _ _ Xz hAO huz hEz _ _ _ hf

def g11_changeByText_159 (c9 : Int32 → Int32 → Int32 → Int32 → gz_M → (Nat → Bool) → Nat → Option (Int32 × gz_M × (Nat → Bool))) (x1 : Int32) (x2 : Int32) (x3 : Int32) (x4 : Int32) (x5 : Int32) (x6 : Int32) (x7 : Int32) (M0 : gz_M) (pf : Nat → Bool) (u : Nat) : Option (Int32 × gz_M × (Nat → Bool)) := gz_bd (f5_change (7 + 2) x5 x6 x7 M0) fun M1 => gz_lt (x1 + 1) fun v3 => gz_lt (x4 + 1) fun v4 => c9 v3 x2 x3 v4 M1 pf u
theorem be11_changeByText_159 {l : Launch} {r : Int32} {M' : gz_M} {pf' : Nat → Bool} {c9 : Int32 → Int32 → Int32 → Int32 → gz_M → (Nat → Bool) → Nat → Option (Int32 × gz_M × (Nat → Bool))} (hc9 : ∀ (x : gz_X) (pf : Nat → Bool) (u : Nat), gz_Ok x cX11_changeByText RX11 8 6 gz_cfC pf l → gc_AO (gx_s x) → gz_U x u → gz_EAI x cX11_changeByText .int r M' pf' → ∀ (x1 : Int32) (x2 : Int32) (x3 : Int32) (x4 : Int32) (M0 : gz_M), c9 x1 x2 x3 x4 M0 pf u = some (r, M', pf') → gz_At x 9 [(0, .ref (gx_ad x 0)), (1, .int x1), (2, .int x2), (3, .int x3), (4, .int x4)] [] M0) : ∀ (x : gz_X) (pf : Nat → Bool) (u : Nat), gz_Ok x cX11_changeByText RX11 8 6 gz_cfC pf l → gc_AO (gx_s x) → gz_U x u → gz_EAI x cX11_changeByText .int r M' pf' → ∀ (x1 : Int32) (x2 : Int32) (x3 : Int32) (x4 : Int32) (x5 : Int32) (x6 : Int32) (x7 : Int32) (M0 : gz_M), g11_changeByText_159 c9 x1 x2 x3 x4 x5 x6 x7 M0 pf u = some (r, M', pf') → gz_At x 159 [(0, .ref (gx_ad x 0)), (1, .int x1), (2, .int x2), (3, .int x3), (4, .int x4), (5, .int x5), (6, .int x6), (7, .int x7)] [] M0 := by
  intro x pf u Xz hAO huz hEz x1 x2 x3 x4 x5 x6 x7 M0  hf
  rw [g11_changeByText_159] at hf
  refine gr_aload_n Xz dX11_changeByText_159 0 rfl rfl ?_
  refine gf11_3 Xz wf_RX11_33 dX11_changeByText_160 ?_
  refine gf0_2 Xz (gk_X0o gi_now) wf_RX11_141 dX11_changeByText_163 ?_
  refine gr_iload Xz dX11_changeByText_166 5 rfl ?_
  refine gr_iload Xz dX11_changeByText_168 6 rfl ?_
  refine gr_iload Xz dX11_changeByText_170 7 rfl ?_
  obtain ⟨M1, q2, hf⟩ := gz_bde hf
  refine gr_callV (asF := fun ad => [.ref (ad (7 + 2)), .int x5, .int x6, .int x7]) [.int x5, .int x6, .int x7] Xz (c5_change (gi_X0line gi_now) q2) rfl wm_RX11_364 rfl (Xz.kd (gk_X5o (gi_X0line gi_now))).1 ((Xz.kd (gk_X5o (gi_X0line gi_now))).2 _ _ _ _) rfl (by decide) (by decide) rfl (Nat.le_of_ble_eq_true rfl) (huz.c) dX11_changeByText_172 ?_
  obtain ⟨v3, ev3, hf⟩ := gz_lte hf
  refine gr_iinc 1 [(1, .int v3), (0, .ref (gx_ad x 0)), (2, .int x2), (3, .int x3), (4, .int x4), (5, .int x5), (6, .int x6), (7, .int x7)] Xz dX11_changeByText_175 1 rfl (by decide) ev3 (by decide) rfl ?_
  obtain ⟨v4, ev4, hf⟩ := gz_lte hf
  refine gr_iinc 1 [(4, .int v4), (1, .int v3), (0, .ref (gx_ad x 0)), (2, .int x2), (3, .int x3), (5, .int x5), (6, .int x6), (7, .int x7)] Xz dX11_changeByText_178 4 rfl (by decide) ev4 (by decide) rfl ?_
  refine gr_goto 9 Xz dX11_changeByText_181 (by decide) ?_
  refine gr_sub (lv' := [(0, .ref (gx_ad x 0)), (1, .int v3), (2, .int x2), (3, .int x3), (4, .int v4)]) [2, 1, 3, 4, 0] rfl ?_
  exact hc9 _ _ _ Xz hAO huz hEz _ _ _ _ _ hf

def g11_changeByText_139 (c9 : Int32 → Int32 → Int32 → Int32 → gz_M → (Nat → Bool) → Nat → Option (Int32 × gz_M × (Nat → Bool))) (x1 : Int32) (x3 : Int32) (x4 : Int32) (x5 : Int32) (x6 : Int32) (x7 : Int32) (s0 : Int32) (M0 : gz_M) (pf : Nat → Bool) (u : Nat) : Option (Int32 × gz_M × (Nat → Bool)) := if s0 = 0 then (if x1 = 0 then (gz_ck (decide (u + 1 ≤ 1)) <| gz_bd2 (g4_push 7 M0 pf) fun M5 pf6 => g11_changeByText_159 c9 x1 s0 x3 x4 x5 x6 x7 M5 pf6 (u + 1)) else (g11_changeByText_159 c9 x1 s0 x3 x4 x5 x6 x7 M0 pf u)) else (gz_lt (x4 + 1) fun v8 => c9 x1 s0 x3 v8 M0 pf u)
theorem be11_changeByText_139 {l : Launch} {r : Int32} {M' : gz_M} {pf' : Nat → Bool} {c9 : Int32 → Int32 → Int32 → Int32 → gz_M → (Nat → Bool) → Nat → Option (Int32 × gz_M × (Nat → Bool))} (hc9 : ∀ (x : gz_X) (pf : Nat → Bool) (u : Nat), gz_Ok x cX11_changeByText RX11 8 6 gz_cfC pf l → gc_AO (gx_s x) → gz_U x u → gz_EAI x cX11_changeByText .int r M' pf' → ∀ (x1 : Int32) (x2 : Int32) (x3 : Int32) (x4 : Int32) (M0 : gz_M), c9 x1 x2 x3 x4 M0 pf u = some (r, M', pf') → gz_At x 9 [(0, .ref (gx_ad x 0)), (1, .int x1), (2, .int x2), (3, .int x3), (4, .int x4)] [] M0) : ∀ (x : gz_X) (pf : Nat → Bool) (u : Nat), gz_Ok x cX11_changeByText RX11 8 6 gz_cfC pf l → gc_AO (gx_s x) → gz_U x u → gz_EAI x cX11_changeByText .int r M' pf' → ∀ (x1 : Int32) (x3 : Int32) (x4 : Int32) (x5 : Int32) (x6 : Int32) (x7 : Int32) (s0 : Int32) (M0 : gz_M), g11_changeByText_139 c9 x1 x3 x4 x5 x6 x7 s0 M0 pf u = some (r, M', pf') → gz_At x 139 [(0, .ref (gx_ad x 0)), (1, .int x1), (3, .int x3), (4, .int x4), (5, .int x5), (6, .int x6), (7, .int x7)] [.int s0] M0 := by
  intro x pf u Xz hAO huz hEz x1 x3 x4 x5 x6 x7 s0 M0  hf
  rw [g11_changeByText_139] at hf
  refine gr_istore_n [(2, .int s0), (0, .ref (gx_ad x 0)), (1, .int x1), (3, .int x3), (4, .int x4), (5, .int x5), (6, .int x6), (7, .int x7)] Xz dX11_changeByText_139 rfl rfl (by decide) rfl ?_
  refine gr_iload_n Xz dX11_changeByText_140 0 rfl rfl ?_
  refine gr_if_ne 178 Xz dX11_changeByText_141 (by decide) (fun h1 => ?_) (fun h1 => ?_)
  · rw [if_pos h1] at hf
    refine gr_iload_n Xz dX11_changeByText_144 2 rfl rfl ?_
    refine gr_if_ne 159 Xz dX11_changeByText_145 (by decide) (fun h2 => ?_) (fun h2 => ?_)
    · rw [if_pos h2] at hf
      refine gr_aload_n Xz dX11_changeByText_148 1 rfl rfl ?_
      refine gf11_12 Xz wf_RX11_88 dX11_changeByText_149 ?_
      refine gr_aload_n Xz dX11_changeByText_152 1 rfl rfl ?_
      refine gf11_3 Xz wf_RX11_33 dX11_changeByText_153 ?_
      obtain ⟨h4, hf⟩ := gz_cke hf
      obtain ⟨M5, pf6, q7, hf⟩ := gz_bd2e hf
      refine gr_callAV (asF := fun ad => [.ref (ad 131), .ref (ad 7)]) [.ref (gx_ad x 7)] Xz hAO huz (of_decide_eq_true h4) (ce4_push gi_now q7) rfl wm_RX11_121 rfl (Xz.kd gk_C131).1 ((Xz.kd gk_C131).2 _ _ _ _) rfl (by decide) (by decide) rfl (Nat.le_of_ble_eq_true rfl) dX11_changeByText_156 (fun xq3 hs3 X3 hu3 => ?_)
      have hE3 := hEz.stp hs3
      rw [← (hs3.2 0 (gz_prsS (by decide))).2]
      have hAO3 : gc_AO (gx_s xq3) := gz_aoS hAO hs3
      refine gr_sub (lv' := [(0, .ref (gx_ad xq3 0)), (1, .int x1), (2, .int s0), (3, .int x3), (4, .int x4), (5, .int x5), (6, .int x6), (7, .int x7)]) [1, 2, 0, 3, 4, 5, 6, 7] rfl ?_
      exact be11_changeByText_159 hc9 _ _ _ X3 hAO3 hu3 hE3 _ _ _ _ _ _ _ _ hf
    · rw [if_neg h2] at hf
      refine gr_sub (lv' := [(0, .ref (gx_ad x 0)), (1, .int x1), (2, .int s0), (3, .int x3), (4, .int x4), (5, .int x5), (6, .int x6), (7, .int x7)]) [1, 2, 0, 3, 4, 5, 6, 7] rfl ?_
      exact be11_changeByText_159 hc9 _ _ _ Xz hAO huz hEz _ _ _ _ _ _ _ _ hf
  · rw [if_neg h1] at hf
    obtain ⟨v8, ev8, hf⟩ := gz_lte hf
    refine gr_iinc 1 [(4, .int v8), (2, .int s0), (0, .ref (gx_ad x 0)), (1, .int x1), (3, .int x3), (5, .int x5), (6, .int x6), (7, .int x7)] Xz dX11_changeByText_178 4 rfl (by decide) ev8 (by decide) rfl ?_
    refine gr_goto 9 Xz dX11_changeByText_181 (by decide) ?_
    refine gr_sub (lv' := [(0, .ref (gx_ad x 0)), (1, .int x1), (2, .int s0), (3, .int x3), (4, .int v8)]) [2, 3, 1, 4, 0] rfl ?_
    exact hc9 _ _ _ Xz hAO huz hEz _ _ _ _ _ hf

def g11_changeByText_113 (c9 : Int32 → Int32 → Int32 → Int32 → gz_M → (Nat → Bool) → Nat → Option (Int32 × gz_M × (Nat → Bool))) (x1 : Int32) (x4 : Int32) (x5 : Int32) (x6 : Int32) (x7 : Int32) (s0 : Int32) (s1 : Int32) (M0 : gz_M) (pf : Nat → Bool) (u : Nat) : Option (Int32 × gz_M × (Nat → Bool)) := gz_lt (s1 + s0) fun v1 => gz_bd2 (f5_refusal (7 + 2) x5 x6 x7 M0) fun v2 M3 => if 0 ≤ v2 then (g11_changeByText_139 c9 x1 v1 x4 x5 x6 x7 0 M3 pf u) else (g11_changeByText_139 c9 x1 v1 x4 x5 x6 x7 1 M3 pf u)
theorem be11_changeByText_113 {l : Launch} {r : Int32} {M' : gz_M} {pf' : Nat → Bool} {c9 : Int32 → Int32 → Int32 → Int32 → gz_M → (Nat → Bool) → Nat → Option (Int32 × gz_M × (Nat → Bool))} (hc9 : ∀ (x : gz_X) (pf : Nat → Bool) (u : Nat), gz_Ok x cX11_changeByText RX11 8 6 gz_cfC pf l → gc_AO (gx_s x) → gz_U x u → gz_EAI x cX11_changeByText .int r M' pf' → ∀ (x1 : Int32) (x2 : Int32) (x3 : Int32) (x4 : Int32) (M0 : gz_M), c9 x1 x2 x3 x4 M0 pf u = some (r, M', pf') → gz_At x 9 [(0, .ref (gx_ad x 0)), (1, .int x1), (2, .int x2), (3, .int x3), (4, .int x4)] [] M0) : ∀ (x : gz_X) (pf : Nat → Bool) (u : Nat), gz_Ok x cX11_changeByText RX11 8 6 gz_cfC pf l → gc_AO (gx_s x) → gz_U x u → gz_EAI x cX11_changeByText .int r M' pf' → ∀ (x1 : Int32) (x4 : Int32) (x5 : Int32) (x6 : Int32) (x7 : Int32) (s0 : Int32) (s1 : Int32) (M0 : gz_M), g11_changeByText_113 c9 x1 x4 x5 x6 x7 s0 s1 M0 pf u = some (r, M', pf') → gz_At x 113 [(0, .ref (gx_ad x 0)), (1, .int x1), (4, .int x4), (5, .int x5), (6, .int x6), (7, .int x7)] [.int s0, .int s1] M0 := by
  intro x pf u Xz hAO huz hEz x1 x4 x5 x6 x7 s0 s1 M0  hf
  rw [g11_changeByText_113] at hf
  refine gr_iadd Xz dX11_changeByText_113 ?_
  obtain ⟨v1, ev1, hf⟩ := gz_lte hf
  refine gr_istore_n [(3, .int v1), (0, .ref (gx_ad x 0)), (1, .int x1), (4, .int x4), (5, .int x5), (6, .int x6), (7, .int x7)] Xz dX11_changeByText_114 ev1 rfl (by decide) rfl ?_
  refine gr_aload_n Xz dX11_changeByText_115 1 rfl rfl ?_
  refine gf11_3 Xz wf_RX11_33 dX11_changeByText_116 ?_
  refine gf0_2 Xz (gk_X0o gi_now) wf_RX11_141 dX11_changeByText_119 ?_
  refine gr_iload Xz dX11_changeByText_122 4 rfl ?_
  refine gr_iload Xz dX11_changeByText_124 5 rfl ?_
  refine gr_iload Xz dX11_changeByText_126 6 rfl ?_
  obtain ⟨v2, M3, q4, hf⟩ := gz_bd2e hf
  refine gr_callI (asF := fun ad => [.ref (ad (7 + 2)), .int x5, .int x6, .int x7]) [.int x5, .int x6, .int x7] Xz (c5_refusal (gi_X0line gi_now) q4) rfl wm_RX11_387 rfl (Xz.kd (gk_X5o (gi_X0line gi_now))).1 ((Xz.kd (gk_X5o (gi_X0line gi_now))).2 _ _ _ _) rfl (by decide) (by decide) rfl (Nat.le_of_ble_eq_true rfl) (huz.c) dX11_changeByText_128 ?_
  refine gr_if_ge 138 Xz dX11_changeByText_131 (by decide) (fun h5 => ?_) (fun h5 => ?_)
  · rw [if_pos h5] at hf
    refine gr_iconst 0 Xz dX11_changeByText_138 (by decide) ?_
    refine gr_sub (lv' := [(0, .ref (gx_ad x 0)), (1, .int x1), (3, .int v1), (4, .int x4), (5, .int x5), (6, .int x6), (7, .int x7)]) [1, 2, 0, 3, 4, 5, 6] rfl ?_
    exact be11_changeByText_139 hc9 _ _ _ Xz hAO huz hEz _ _ _ _ _ _ _ _ hf
  · rw [if_neg h5] at hf
    refine gr_iconst 1 Xz dX11_changeByText_134 (by decide) ?_
    refine gr_goto 139 Xz dX11_changeByText_135 (by decide) ?_
    refine gr_sub (lv' := [(0, .ref (gx_ad x 0)), (1, .int x1), (3, .int v1), (4, .int x4), (5, .int x5), (6, .int x6), (7, .int x7)]) [1, 2, 0, 3, 4, 5, 6] rfl ?_
    exact be11_changeByText_139 hc9 _ _ _ Xz hAO huz hEz _ _ _ _ _ _ _ _ hf

def g11_changeByText_99 (c9 : Int32 → Int32 → Int32 → Int32 → gz_M → (Nat → Bool) → Nat → Option (Int32 × gz_M × (Nat → Bool))) (x1 : Int32) (x3 : Int32) (x4 : Int32) (x5 : Int32) (x6 : Int32) (s0 : Int32) (M0 : gz_M) (pf : Nat → Bool) (u : Nat) : Option (Int32 × gz_M × (Nat → Bool)) := if x5 = 2 then (g11_changeByText_113 c9 x1 x4 x5 x6 s0 3 x3 M0 pf u) else (g11_changeByText_113 c9 x1 x4 x5 x6 s0 4 x3 M0 pf u)
theorem be11_changeByText_99 {l : Launch} {r : Int32} {M' : gz_M} {pf' : Nat → Bool} {c9 : Int32 → Int32 → Int32 → Int32 → gz_M → (Nat → Bool) → Nat → Option (Int32 × gz_M × (Nat → Bool))} (hc9 : ∀ (x : gz_X) (pf : Nat → Bool) (u : Nat), gz_Ok x cX11_changeByText RX11 8 6 gz_cfC pf l → gc_AO (gx_s x) → gz_U x u → gz_EAI x cX11_changeByText .int r M' pf' → ∀ (x1 : Int32) (x2 : Int32) (x3 : Int32) (x4 : Int32) (M0 : gz_M), c9 x1 x2 x3 x4 M0 pf u = some (r, M', pf') → gz_At x 9 [(0, .ref (gx_ad x 0)), (1, .int x1), (2, .int x2), (3, .int x3), (4, .int x4)] [] M0) : ∀ (x : gz_X) (pf : Nat → Bool) (u : Nat), gz_Ok x cX11_changeByText RX11 8 6 gz_cfC pf l → gc_AO (gx_s x) → gz_U x u → gz_EAI x cX11_changeByText .int r M' pf' → ∀ (x1 : Int32) (x3 : Int32) (x4 : Int32) (x5 : Int32) (x6 : Int32) (s0 : Int32) (M0 : gz_M), g11_changeByText_99 c9 x1 x3 x4 x5 x6 s0 M0 pf u = some (r, M', pf') → gz_At x 99 [(0, .ref (gx_ad x 0)), (1, .int x1), (3, .int x3), (4, .int x4), (5, .int x5), (6, .int x6)] [.int s0] M0 := by
  intro x pf u Xz hAO huz hEz x1 x3 x4 x5 x6 s0 M0  hf
  rw [g11_changeByText_99] at hf
  refine gr_istore [(7, .int s0), (0, .ref (gx_ad x 0)), (1, .int x1), (3, .int x3), (4, .int x4), (5, .int x5), (6, .int x6)] Xz dX11_changeByText_99 rfl (by decide) rfl ?_
  refine gr_iload_n Xz dX11_changeByText_101 3 rfl rfl ?_
  refine gr_iload Xz dX11_changeByText_102 5 rfl ?_
  refine gr_iconst 2 Xz dX11_changeByText_104 (by decide) ?_
  refine gr_icmp_ne 112 Xz dX11_changeByText_105 (by decide) (fun h1 => ?_) (fun h1 => ?_)
  · rw [if_pos h1] at hf
    refine gr_iconst 3 Xz dX11_changeByText_108 (by decide) ?_
    refine gr_goto 113 Xz dX11_changeByText_109 (by decide) ?_
    refine gr_sub (lv' := [(0, .ref (gx_ad x 0)), (1, .int x1), (4, .int x4), (5, .int x5), (6, .int x6), (7, .int s0)]) [1, 2, 4, 5, 6, 0] rfl ?_
    exact be11_changeByText_113 hc9 _ _ _ Xz hAO huz hEz _ _ _ _ _ _ _ _ hf
  · rw [if_neg h1] at hf
    refine gr_iconst 4 Xz dX11_changeByText_112 (by decide) ?_
    refine gr_sub (lv' := [(0, .ref (gx_ad x 0)), (1, .int x1), (4, .int x4), (5, .int x5), (6, .int x6), (7, .int s0)]) [1, 2, 4, 5, 6, 0] rfl ?_
    exact be11_changeByText_113 hc9 _ _ _ Xz hAO huz hEz _ _ _ _ _ _ _ _ hf

def g11_changeByText_9 : Nat → Int32 → Int32 → Int32 → Int32 → gz_M → (Nat → Bool) → Nat → Option (Int32 × gz_M × (Nat → Bool))
  | 0, _, _, _, _, _, _, _ => none
  | n + 1, x1, x2, x3, x4, M0, pf, u => if 80 ≤ x4 then (g11_changeByText_184 x1 x2 M0 pf u) else (if (M0.1 1 1) ≤ x3 then (g11_changeByText_184 x1 x2 M0 pf u) else (if x2 = 0 then (gz_bd2 (f10_get x3 M0) fun v4 M5 => gz_bd2 (f3_kindOfChange v4 M5) fun v7 M8 => gz_bd2 (f10_get (x3 + 1) M8) fun v10 M11 => gz_bd2 (f10_get (x3 + 2) M11) fun v13 M14 => gz_lt (((v10 - 48) * 10) + (v13 - 48)) fun v16 => if v7 = 2 then (g11_changeByText_99 (g11_changeByText_9 n) x1 x3 x4 v7 v16 0 M14 pf u) else (gz_bd2 (f10_get (x3 + 3) M14) fun v18 M19 => g11_changeByText_99 (g11_changeByText_9 n) x1 x3 x4 v7 v16 (v18 - 97) M19 pf u)) else (g11_changeByText_184 x1 x2 M0 pf u)))
theorem be11_changeByText_9 {l : Launch} {r : Int32} {M' : gz_M} {pf' : Nat → Bool} : ∀ (n : Nat), ∀ (x : gz_X) (pf : Nat → Bool) (u : Nat), gz_Ok x cX11_changeByText RX11 8 6 gz_cfC pf l → gc_AO (gx_s x) → gz_U x u → gz_EAI x cX11_changeByText .int r M' pf' → ∀ (x1 : Int32) (x2 : Int32) (x3 : Int32) (x4 : Int32) (M0 : gz_M), g11_changeByText_9 n x1 x2 x3 x4 M0 pf u = some (r, M', pf') → gz_At x 9 [(0, .ref (gx_ad x 0)), (1, .int x1), (2, .int x2), (3, .int x3), (4, .int x4)] [] M0 := by
  intro n
  induction n with
  | zero =>
    intro x pf u Xz hAO huz hEz x1 x2 x3 x4 M0  hf
    rw [g11_changeByText_9] at hf
    cases hf
  | succ n ih =>
    intro x pf u Xz hAO huz hEz x1 x2 x3 x4 M0  hf
    rw [g11_changeByText_9] at hf
    refine gr_iload Xz dX11_changeByText_9 4 rfl ?_
    refine gr_bipush 80 Xz dX11_changeByText_11 (by decide) ?_
    refine gr_icmp_ge 184 Xz dX11_changeByText_13 (by decide) (fun h1 => ?_) (fun h1 => ?_)
    · rw [if_pos h1] at hf
      refine gr_sub (lv' := [(0, .ref (gx_ad x 0)), (1, .int x1), (2, .int x2)]) [0, 1, 2] rfl ?_
      exact be11_changeByText_184 _ _ _ Xz hAO huz hEz _ _ _ hf
    · rw [if_neg h1] at hf
      refine gr_iload_n Xz dX11_changeByText_16 3 rfl rfl ?_
      refine gr_aload_n Xz dX11_changeByText_17 0 rfl rfl ?_
      refine gf11_0 Xz wf_RX11_12 dX11_changeByText_18 ?_
      refine gf10_1 Xz wf_RX11_108 dX11_changeByText_21 ?_
      refine gr_icmp_ge 184 Xz dX11_changeByText_24 (by decide) (fun h2 => ?_) (fun h2 => ?_)
      · rw [if_pos h2] at hf
        refine gr_sub (lv' := [(0, .ref (gx_ad x 0)), (1, .int x1), (2, .int x2)]) [0, 1, 2] rfl ?_
        exact be11_changeByText_184 _ _ _ Xz hAO huz hEz _ _ _ hf
      · rw [if_neg h2] at hf
        refine gr_iload_n Xz dX11_changeByText_27 2 rfl rfl ?_
        refine gr_if_ne 184 Xz dX11_changeByText_28 (by decide) (fun h3 => ?_) (fun h3 => ?_)
        · rw [if_pos h3] at hf
          refine gr_aload_n Xz dX11_changeByText_31 0 rfl rfl ?_
          refine gf11_0 Xz wf_RX11_12 dX11_changeByText_32 ?_
          refine gr_iload_n Xz dX11_changeByText_35 3 rfl rfl ?_
          obtain ⟨v4, M5, q6, hf⟩ := gz_bd2e hf
          refine gr_callI (asF := fun ad => [.ref (ad 1), .int x3]) [.int x3] Xz (c10_get q6) rfl wm_RX11_400 rfl (Xz.kd gk_C1).1 ((Xz.kd gk_C1).2 _ _ _ _) rfl (by decide) (by decide) rfl (Nat.le_of_ble_eq_true rfl) (huz.c) dX11_changeByText_36 ?_
          obtain ⟨v7, M8, q9, hf⟩ := gz_bd2e hf
          refine gr_callSI (asF := fun _ => [.int v4]) [.int v4] Xz (c3_kindOfChange q9) rfl wm_RX11_401 rfl (by decide) (by decide) rfl (Nat.le_of_ble_eq_true rfl) (huz.c) dX11_changeByText_39 ?_
          refine gr_istore [(5, .int v7), (0, .ref (gx_ad x 0)), (1, .int x1), (2, .int x2), (3, .int x3), (4, .int x4)] Xz dX11_changeByText_42 rfl (by decide) rfl ?_
          refine gr_aload_n Xz dX11_changeByText_44 1 rfl rfl ?_
          refine gf11_0 Xz wf_RX11_12 dX11_changeByText_45 ?_
          refine gr_iload_n Xz dX11_changeByText_48 4 rfl rfl ?_
          refine gr_iconst 1 Xz dX11_changeByText_49 (by decide) ?_
          refine gr_iadd Xz dX11_changeByText_50 ?_
          obtain ⟨v10, M11, q12, hf⟩ := gz_bd2e hf
          refine gr_callI (asF := fun ad => [.ref (ad 1), .int (x3 + 1)]) [.int (x3 + 1)] Xz (c10_get q12) rfl wm_RX11_400 rfl (Xz.kd gk_C1).1 ((Xz.kd gk_C1).2 _ _ _ _) rfl (by decide) (by decide) rfl (Nat.le_of_ble_eq_true rfl) (huz.c) dX11_changeByText_51 ?_
          refine gr_bipush 48 Xz dX11_changeByText_54 (by decide) ?_
          refine gr_isub Xz dX11_changeByText_56 ?_
          refine gr_bipush 10 Xz dX11_changeByText_57 (by decide) ?_
          refine gr_imul Xz dX11_changeByText_59 ?_
          refine gr_aload_n Xz dX11_changeByText_60 1 rfl rfl ?_
          refine gf11_0 Xz wf_RX11_12 dX11_changeByText_61 ?_
          refine gr_iload_n Xz dX11_changeByText_64 4 rfl rfl ?_
          refine gr_iconst 2 Xz dX11_changeByText_65 (by decide) ?_
          refine gr_iadd Xz dX11_changeByText_66 ?_
          obtain ⟨v13, M14, q15, hf⟩ := gz_bd2e hf
          refine gr_callI (asF := fun ad => [.ref (ad 1), .int (x3 + 2)]) [.int (x3 + 2)] Xz (c10_get q15) rfl wm_RX11_400 rfl (Xz.kd gk_C1).1 ((Xz.kd gk_C1).2 _ _ _ _) rfl (by decide) (by decide) rfl (Nat.le_of_ble_eq_true rfl) (huz.c) dX11_changeByText_67 ?_
          refine gr_bipush 48 Xz dX11_changeByText_70 (by decide) ?_
          refine gr_isub Xz dX11_changeByText_72 ?_
          refine gr_iadd Xz dX11_changeByText_73 ?_
          obtain ⟨v16, ev16, hf⟩ := gz_lte hf
          refine gr_istore [(6, .int v16), (5, .int v7), (0, .ref (gx_ad x 0)), (1, .int x1), (2, .int x2), (3, .int x3), (4, .int x4)] Xz dX11_changeByText_74 ev16 (by decide) rfl ?_
          refine gr_iload Xz dX11_changeByText_76 1 rfl ?_
          refine gr_iconst 2 Xz dX11_changeByText_78 (by decide) ?_
          refine gr_icmp_ne 86 Xz dX11_changeByText_79 (by decide) (fun h17 => ?_) (fun h17 => ?_)
          · rw [if_pos h17] at hf
            refine gr_iconst 0 Xz dX11_changeByText_82 (by decide) ?_
            refine gr_goto 99 Xz dX11_changeByText_83 (by decide) ?_
            refine gr_sub (lv' := [(0, .ref (gx_ad x 0)), (1, .int x1), (3, .int x3), (4, .int x4), (5, .int v7), (6, .int v16)]) [2, 3, 5, 6, 1, 0] rfl ?_
            exact be11_changeByText_99 ih _ _ _ Xz hAO huz hEz _ _ _ _ _ _ _ hf
          · rw [if_neg h17] at hf
            refine gr_aload_n Xz dX11_changeByText_86 2 rfl rfl ?_
            refine gf11_0 Xz wf_RX11_12 dX11_changeByText_87 ?_
            refine gr_iload_n Xz dX11_changeByText_90 5 rfl rfl ?_
            refine gr_iconst 3 Xz dX11_changeByText_91 (by decide) ?_
            refine gr_iadd Xz dX11_changeByText_92 ?_
            obtain ⟨v18, M19, q20, hf⟩ := gz_bd2e hf
            refine gr_callI (asF := fun ad => [.ref (ad 1), .int (x3 + 3)]) [.int (x3 + 3)] Xz (c10_get q20) rfl wm_RX11_400 rfl (Xz.kd gk_C1).1 ((Xz.kd gk_C1).2 _ _ _ _) rfl (by decide) (by decide) rfl (Nat.le_of_ble_eq_true rfl) (huz.c) dX11_changeByText_93 ?_
            refine gr_bipush 97 Xz dX11_changeByText_96 (by decide) ?_
            refine gr_isub Xz dX11_changeByText_98 ?_
            refine gr_sub (lv' := [(0, .ref (gx_ad x 0)), (1, .int x1), (3, .int x3), (4, .int x4), (5, .int v7), (6, .int v16)]) [2, 3, 5, 6, 1, 0] rfl ?_
            exact be11_changeByText_99 ih _ _ _ Xz hAO huz hEz _ _ _ _ _ _ _ hf
        · rw [if_neg h3] at hf
          refine gr_sub (lv' := [(0, .ref (gx_ad x 0)), (1, .int x1), (2, .int x2)]) [0, 1, 2] rfl ?_
          exact be11_changeByText_184 _ _ _ Xz hAO huz hEz _ _ _ hf

def g11_changeByText (M0 : gz_M) (pf : Nat → Bool) : Option (Int32 × gz_M × (Nat → Bool)) := g11_changeByText_9 gz_FU 0 0 0 0 M0 pf 0
set_option maxRecDepth 100000 in
theorem ce11_changeByText {pf pf' : Nat → Bool} {l : Launch} {r : Int32} {M0 M' : gz_M} (hf : g11_changeByText M0 pf = some (r, M', pf')) : gz_CAI l yX11_changeByText cX11_changeByText 8 6 .int (fun ad => [.ref (ad 0)]) pf M0 r M' pf' := by
  refine gz_ofAI (by decide +kernel) (fun _ => Nat.le_of_ble_eq_true rfl) (fun x Xz hAO huz hEz => ?_)
  show gz_At x 0 [(0, .ref (gx_ad x 0))] [] M0
  unfold g11_changeByText at hf
  refine gr_iconst 0 Xz dX11_changeByText_0 (by decide) ?_
  refine gr_istore_n [(1, .int 0), (0, .ref (gx_ad x 0))] Xz dX11_changeByText_1 rfl rfl (by decide) rfl ?_
  refine gr_iconst 0 Xz dX11_changeByText_2 (by decide) ?_
  refine gr_istore_n [(2, .int 0), (1, .int 0), (0, .ref (gx_ad x 0))] Xz dX11_changeByText_3 rfl rfl (by decide) rfl ?_
  refine gr_iconst 0 Xz dX11_changeByText_4 (by decide) ?_
  refine gr_istore_n [(3, .int 0), (2, .int 0), (1, .int 0), (0, .ref (gx_ad x 0))] Xz dX11_changeByText_5 rfl rfl (by decide) rfl ?_
  refine gr_iconst 0 Xz dX11_changeByText_6 (by decide) ?_
  refine gr_istore [(4, .int 0), (3, .int 0), (2, .int 0), (1, .int 0), (0, .ref (gx_ad x 0))] Xz dX11_changeByText_7 rfl (by decide) rfl ?_
  refine gr_sub (lv' := [(0, .ref (gx_ad x 0)), (1, .int 0), (2, .int 0), (3, .int 0), (4, .int 0)]) [4, 3, 2, 1, 0] rfl ?_
  exact be11_changeByText_9 _ _ _ _ Xz hAO huz hEz _ _ _ _ _ hf

def g11_day_24 (s0 : Int32) (M0 : gz_M) (pf : Nat → Bool) (u : Nat) : Option (Int32 × gz_M × (Nat → Bool)) := gz_bd (f10_empty M0) fun M1 => some (s0, M1, pf)
theorem be11_day_24 {l : Launch} {r : Int32} {M' : gz_M} {pf' : Nat → Bool} : ∀ (x : gz_X) (pf : Nat → Bool) (u : Nat), gz_Ok x cX11_day RX11 3 7 gz_cfC pf l → gc_AO (gx_s x) → gz_U x u → gz_EAI x cX11_day .int r M' pf' → ∀ (s0 : Int32) (M0 : gz_M), g11_day_24 s0 M0 pf u = some (r, M', pf') → gz_At x 24 [(0, .ref (gx_ad x 0))] [.int s0] M0 := by
  intro x pf u Xz hAO huz hEz s0 M0  hf
  rw [g11_day_24] at hf
  refine gr_istore_n [(2, .int s0), (0, .ref (gx_ad x 0))] Xz dX11_day_24 rfl rfl (by decide) rfl ?_
  refine gr_aload_n Xz dX11_day_25 1 rfl rfl ?_
  refine gf11_0 Xz wf_RX11_12 dX11_day_26 ?_
  obtain ⟨M1, q2, hf⟩ := gz_bde hf
  refine gr_callV (asF := fun ad => [.ref (ad 1)]) [] Xz (c10_empty q2) rfl wm_RX11_132 rfl (Xz.kd gk_C1).1 ((Xz.kd gk_C1).2 _ _ _ _) rfl (by decide) (by decide) rfl (Nat.le_of_ble_eq_true rfl) (huz.c) dX11_day_29 ?_
  refine gr_iload_n Xz dX11_day_32 0 rfl rfl ?_
  exact gz_EAIu Xz huz hEz hf rfl dX11_day_33

def g11_day (M0 : gz_M) (pf : Nat → Bool) : Option (Int32 × gz_M × (Nat → Bool)) := gz_bd2 (f3_faultOfDay M0) fun v1 M2 => if 0 ≤ v1 then (gz_ck (decide (0 + 1 ≤ 1)) <| gz_bd3 (g11_changeByText M2 pf) fun v10 M7 pf8 => g11_day_24 v10 M7 pf8 (0 + 1)) else (g11_day_24 v1 M2 pf 0)
set_option maxRecDepth 100000 in
theorem ce11_day {pf pf' : Nat → Bool} {l : Launch} {r : Int32} {M0 M' : gz_M} (hf : g11_day M0 pf = some (r, M', pf')) : gz_CAI l yX11_day cX11_day 3 7 .int (fun ad => [.ref (ad 0)]) pf M0 r M' pf' := by
  refine gz_ofAI (by decide +kernel) (fun _ => Nat.le_of_ble_eq_true rfl) (fun x Xz hAO huz hEz => ?_)
  show gz_At x 0 [(0, .ref (gx_ad x 0))] [] M0
  unfold g11_day at hf
  refine gr_aload_n Xz dX11_day_0 0 rfl rfl ?_
  refine gf11_1 Xz wf_RX11_19 dX11_day_1 ?_
  refine gr_aload_n Xz dX11_day_4 0 rfl rfl ?_
  refine gf11_0 Xz wf_RX11_12 dX11_day_5 ?_
  obtain ⟨v1, M2, q3, hf⟩ := gz_bd2e hf
  refine gr_callI (asF := fun ad => [.ref (ad 3), .ref (ad 1)]) [.ref (gx_ad x 1)] Xz (c3_faultOfDay q3) rfl wm_RX11_347 rfl (Xz.kd gk_C3).1 ((Xz.kd gk_C3).2 _ _ _ _) rfl (by decide) (by decide) rfl (Nat.le_of_ble_eq_true rfl) (huz.c) dX11_day_8 ?_
  refine gr_istore_n [(1, .int v1), (0, .ref (gx_ad x 0))] Xz dX11_day_11 rfl rfl (by decide) rfl ?_
  refine gr_iload_n Xz dX11_day_12 0 rfl rfl ?_
  refine gr_if_ge 20 Xz dX11_day_13 (by decide) (fun h4 => ?_) (fun h4 => ?_)
  · rw [if_pos h4] at hf
    refine gr_aload_n Xz dX11_day_20 1 rfl rfl ?_
    obtain ⟨h6, hf⟩ := gz_cke hf
    obtain ⟨v10, M7, pf8, q9, hf⟩ := gz_bd3e hf
    refine gr_callAI (asF := fun ad => [.ref (ad 0)]) [] Xz hAO huz (of_decide_eq_true h6) (ce11_changeByText q9) rfl wm_RX11_350 rfl (Xz.kd gk_C0).1 ((Xz.kd gk_C0).2 _ _ _ _) rfl (by decide) (by decide) rfl (Nat.le_of_ble_eq_true rfl) dX11_day_21 (fun xq5 hs5 X5 hu5 => ?_)
    have hE5 := hEz.stp hs5
    rw [← (hs5.2 0 (gz_prsS (by decide))).2]
    have hAO5 : gc_AO (gx_s xq5) := gz_aoS hAO hs5
    refine gr_sub (lv' := [(0, .ref (gx_ad xq5 0))]) [1] rfl ?_
    exact be11_day_24 _ _ _ X5 hAO5 hu5 hE5 _ _ hf
  · rw [if_neg h4] at hf
    refine gr_iload_n Xz dX11_day_16 0 rfl rfl ?_
    refine gr_goto 24 Xz dX11_day_17 (by decide) ?_
    refine gr_sub (lv' := [(0, .ref (gx_ad x 0))]) [1] rfl ?_
    exact be11_day_24 _ _ _ Xz hAO huz hEz _ _ hf

def g11_keep_37 (x2 : Nat) (M0 : gz_M) (pf : Nat → Bool) (u : Nat) : Option (Int32 × gz_M × (Nat → Bool)) := gz_bd (f0_copy x2 7 M0) fun M1 => some (1, M1, pf)
theorem be11_keep_37 {l : Launch} {r : Int32} {M' : gz_M} {pf' : Nat → Bool} : ∀ (x : gz_X) (pf : Nat → Bool) (u : Nat), gz_Ok x cX11_keep RX11 3 3 gz_cfC pf l → gc_AO (gx_s x) → gz_U x u → gz_EAI x cX11_keep .boolean r M' pf' → ∀ (x2 : Nat) (M0 : gz_M), gz_IsX0 pf x2 → g11_keep_37 x2 M0 pf u = some (r, M', pf') → gz_At x 37 [(0, .ref (gx_ad x 0)), (2, .ref (gx_ad x x2))] [] M0 := by
  intro x pf u Xz hAO huz hEz x2 M0 hx2 hf
  rw [g11_keep_37] at hf
  refine gr_aload_n Xz dX11_keep_37 1 rfl rfl ?_
  refine gr_aload_n Xz dX11_keep_38 0 rfl rfl ?_
  refine gf11_3 Xz wf_RX11_33 dX11_keep_39 ?_
  obtain ⟨M1, q2, hf⟩ := gz_bde hf
  refine gr_callV (asF := fun ad => [.ref (ad x2), .ref (ad 7)]) [.ref (gx_ad x 7)] Xz (c0_copy hx2 gi_now q2) rfl wm_RX11_367 rfl (Xz.kd (gk_X0o hx2)).1 ((Xz.kd (gk_X0o hx2)).2 _ _ _ _) rfl (by decide) (by decide) rfl (Nat.le_of_ble_eq_true rfl) (huz.c) dX11_keep_42 ?_
  refine gr_iconst 1 Xz dX11_keep_45 (by decide) ?_
  exact gz_EAIu Xz huz hEz hf rfl dX11_keep_46

def g11_keep (a0 : Int32) (M0 : gz_M) (pf : Nat → Bool) : Option (Int32 × gz_M × (Nat → Bool)) := if a0 < 0 then (some (0, M0, pf)) else (if a0 < 2 then (gz_ck (gz_inb a0 2) <| if pf (100 + (10 + a0.toNatClampNeg)) = true then (gz_ck (pf (10 + a0.toNatClampNeg)) <| g11_keep_37 (135 + 4 * (10 + a0.toNatClampNeg)) M0 pf 0) else (gz_ck (decide (0 + 1 ≤ 1)) <| gz_ck (decide (10 + a0.toNatClampNeg < 12)) <| gz_ck (!(pf (10 + a0.toNatClampNeg))) <| gz_ck (!(pf (100 + (10 + a0.toNatClampNeg)))) <| gz_lt (gz_nb M0 (10 + a0.toNatClampNeg)) fun M11 => gz_ck (gz_inb a0 2) <| gz_ck ((gz_pfs pf (10 + a0.toNatClampNeg)) (10 + a0.toNatClampNeg)) <| gz_ck (decide (135 + 4 * (10 + a0.toNatClampNeg) = 135 + 4 * (10 + a0.toNatClampNeg))) <| g11_keep_37 (135 + 4 * (10 + a0.toNatClampNeg)) M11 (gz_pfs (gz_pfs pf (10 + a0.toNatClampNeg)) (100 + (10 + a0.toNatClampNeg))) (0 + 1))) else (some (0, M0, pf)))
set_option maxRecDepth 100000 in
theorem ce11_keep {pf pf' : Nat → Bool} {l : Launch} {r : Int32} {M0 M' : gz_M} {a0 : Int32} (hf : g11_keep a0 M0 pf = some (r, M', pf')) : gz_CAI l yX11_keep cX11_keep 3 3 .boolean (fun ad => [.ref (ad 0), .int a0]) pf M0 r M' pf' := by
  refine gz_ofAI (by decide +kernel) (fun _ => Nat.le_of_ble_eq_true rfl) (fun x Xz hAO huz hEz => ?_)
  show gz_At x 0 [(0, .ref (gx_ad x 0)), (1, .int a0)] [] M0
  unfold g11_keep at hf
  refine gr_iload_n Xz dX11_keep_0 1 rfl rfl ?_
  refine gr_if_lt 9 Xz dX11_keep_1 (by decide) (fun h1 => ?_) (fun h1 => ?_)
  · rw [if_pos h1] at hf
    refine gr_iconst 0 Xz dX11_keep_9 (by decide) ?_
    exact gz_EAIu Xz huz hEz hf rfl dX11_keep_10
  · rw [if_neg h1] at hf
    refine gr_iload_n Xz dX11_keep_4 1 rfl rfl ?_
    refine gr_iconst 2 Xz dX11_keep_5 (by decide) ?_
    refine gr_icmp_lt 11 Xz dX11_keep_6 (by decide) (fun h2 => ?_) (fun h2 => ?_)
    · rw [if_pos h2] at hf
      refine gr_aload_n Xz dX11_keep_11 0 rfl rfl ?_
      refine gf11_13 Xz wf_RX11_92 dX11_keep_12 ?_
      refine gr_iload_n Xz dX11_keep_15 1 rfl rfl ?_
      obtain ⟨h3, hf⟩ := gz_cke hf
      refine gr_aaldK Xz gk_C133 (gz_inp h3) dX11_keep_16 (fun h4 => ?_) (fun h4 => ?_)
      · rw [if_pos h4] at hf
        obtain ⟨h5, hf⟩ := gz_cke hf
        refine gr_astore_n [(2, .ref (gx_ad x (135 + 4 * (10 + a0.toNatClampNeg)))), (0, .ref (gx_ad x 0)), (1, .int a0)] Xz dX11_keep_17 rfl (by decide) rfl ?_
        refine gr_aload_n Xz dX11_keep_18 0 rfl rfl ?_
        refine gr_ifnonnull 37 Xz dX11_keep_19 (by decide) ?_
        refine gr_sub (lv' := [(0, .ref (gx_ad x 0)), (2, .ref (gx_ad x (135 + 4 * (10 + a0.toNatClampNeg))))]) [1, 0] rfl ?_
        exact be11_keep_37 _ _ _ Xz hAO huz hEz _ _ (gi_bk (b := 10) h5 (gz_inp h3) (by decide)) hf
      · rw [if_neg h4] at hf
        refine gr_astoreN_n [(2, .null), (0, .ref (gx_ad x 0)), (1, .int a0)] Xz dX11_keep_17 rfl (by decide) rfl ?_
        refine gr_aloadN_n Xz dX11_keep_18 0 rfl rfl ?_
        refine gr_ifnonnullN Xz dX11_keep_19 ?_
        obtain ⟨h7, hf⟩ := gz_cke hf
        obtain ⟨h8, hf⟩ := gz_cke hf
        obtain ⟨h9, hf⟩ := gz_cke hf
        obtain ⟨h10, hf⟩ := gz_cke hf
        obtain ⟨M11, eM11, hf⟩ := gz_lte hf
        refine gr_newB Xz hAO huz (of_decide_eq_true h7) (by decide) (gz_in 171 (by decide +kernel) rfl) (gz_in 172 (by decide +kernel) rfl) (gz_in 89 (by decide +kernel) rfl) (Or.inr ⟨"LongestTokens", gz_inN 173 (by decide +kernel) rfl⟩) (gz_in 174 (by decide +kernel) rfl) (gz_in 175 (by decide +kernel) rfl) (of_decide_eq_true h8) (gz_bnot h9) (gz_bnot h10) eM11 (Nat.le_of_ble_eq_true rfl) dX11_keep_22 dX11_keep_25 dX11_keep_26 (fun xq6 hs6 X6 hu6 => ?_)
        have hE6 := hEz.stp hs6
        rw [← (hs6.2 0 (gz_prsS (by decide))).2]
        have hAO6 : gc_AO (gx_s xq6) := gz_aoS hAO hs6
        refine gr_astore_n [(2, .ref (gx_ad xq6 (135 + 4 * (10 + a0.toNatClampNeg)))), (0, .ref (gx_ad xq6 0)), (1, .int a0)] X6 dX11_keep_29 rfl (by decide) rfl ?_
        refine gr_aload_n X6 dX11_keep_30 1 rfl rfl ?_
        refine gf11_13 X6 wf_RX11_92 dX11_keep_31 ?_
        refine gr_iload_n X6 dX11_keep_34 2 rfl rfl ?_
        refine gr_aload_n X6 dX11_keep_35 0 rfl rfl ?_
        obtain ⟨h13, hf⟩ := gz_cke hf
        obtain ⟨h14, hf⟩ := gz_cke hf
        obtain ⟨h15, hf⟩ := gz_cke hf
        refine gr_aastK X6 hu6 gk_C133 (by decide) (gz_inp h13) (of_decide_eq_true h15) (gi_new (of_decide_eq_true h8)) h14 dX11_keep_36 (fun xq12 hs12 X12 hu12 => ?_)
        have hE12 := hE6.stp hs12
        rw [← (hs12.2 (135 + 4 * (10 + a0.toNatClampNeg)) (by rw [X6.hpf]; exact (gk_X0o (pf := gz_pfs pf (10 + a0.toNatClampNeg)) (gi_new (of_decide_eq_true h8))).1)).2]
        rw [← (hs12.2 0 (gz_prsS (by decide))).2]
        have hAO12 : gc_AO (gx_s xq12) := gz_aoS hAO6 hs12
        refine gr_sub (lv' := [(0, .ref (gx_ad xq12 0)), (2, .ref (gx_ad xq12 (135 + 4 * (10 + a0.toNatClampNeg))))]) [1, 0] rfl ?_
        exact be11_keep_37 _ _ _ X12 hAO12 hu12 hE12 _ _ (gi_pfs (gi_new (of_decide_eq_true h8))) hf
    · rw [if_neg h2] at hf
      refine gr_iconst 0 Xz dX11_keep_9 (by decide) ?_
      exact gz_EAIu Xz huz hEz hf rfl dX11_keep_10
end
