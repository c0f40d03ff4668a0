theorem gc_rowK {aC : Nat → ClassId} {codes : List Nat} {q b N c j : Nat} {o : gz_Lay} (hc : ∀ j, j < N → codes.getD (b + j) 0 = c) (ho : gz_kc c = o) (hg : gc_g c = fun _ => 0) (hj : j < N) : gc_ct aC codes q (b + j) = o aC (fun k => q + k) (fun _ => false) (b + j) (fun _ => 0) (fun _ => 0) := by
  show gz_kc (codes.getD (b + j) 0) _ _ _ _ (gc_g (codes.getD (b + j) 0)) _ = _
  rw [hc j hj, ho, hg]
def gc_codes10 : List Nat := [1, 2]
theorem gc_dflt10 : ∀ j, j < 2 → defaultValue (tyX10 j) = vp_V [.null, .int 0] j
  | 0, _ => rfl
  | 1, _ => rfl
  | j + 2, h => by omega
set_option maxRecDepth 100000 in
theorem gc_init10 {l : Launch} : gc_C l yX10_init cX10_init 1 1 10 gc_codes10 [.null, .int 0] 1 80 := by
  refine gc_of (by decide +kernel) rfl (by decide) (fun x q X hRc hRs hE => ?_)
  refine gc_aload_n X dX10_init_0 0 rfl rfl ?_
  refine gc_objInit X (by decide) (gz_in 119 (by decide +kernel) rfl) (gz_in 112 (by decide +kernel) rfl) (gz_in 113 (by decide +kernel) rfl) (Nat.le_of_ble_eq_true rfl) dX10_init_1 ?_
  refine gc_aload_n X dX10_init_4 0 rfl rfl ?_
  refine gc_bipush 80 X dX10_init_5 (by decide) ?_
  refine gc_newa (N := 80) (t := 0) (ty := .int) X (Nat.le_of_ble_eq_true rfl) rfl rfl (fun _ _ h => h) (gz_in 132 (by decide +kernel) rfl) (by decide) (by decide) (Nat.le_of_ble_eq_true rfl) (by rw [hRc]; exact Nat.le_of_ble_eq_true rfl) (by rw [hRs]; exact Nat.le_of_ble_eq_true rfl) (fun cA hc H h => by subst hc; exact h) dX10_init_7 ?_
  refine gc_put X rfl (Nat.le_of_ble_eq_true rfl) rfl gw_X10 tyX10 tyX10_ok nmX10 (j := 0) (ty := (.array .int)) (by decide) rfl (gz_in 120 (by decide +kernel) rfl) (by decide +kernel) rfl rfl (Nat.le_of_ble_eq_true rfl) dX10_init_9 ?_
  show gc_At x 10 gc_codes10 q 12 _ _ [.ref (q + 1), .int 0] 2 1 80
  refine gc_aload_n X dX10_init_12 0 rfl rfl ?_
  refine gc_iconst 0 X dX10_init_13 (by decide) ?_
  refine gc_put X rfl (Nat.le_of_ble_eq_true rfl) rfl gw_X10 tyX10 tyX10_ok nmX10 (j := 1) (ty := .int) (by decide) rfl (gz_in 122 (by decide +kernel) rfl) (by decide +kernel) rfl rfl (Nat.le_of_ble_eq_true rfl) dX10_init_14 ?_
  show gc_At x 10 gc_codes10 q 17 _ _ [.ref (q + 1), .int 0] 2 1 80
  exact hE _ _ _ (fun _ => rfl) dX10_init_17

def gc_codes3 : List Nat := [3]
theorem gc_dflt3 : ∀ j, j < 2 → defaultValue (tyX3 j) = vp_V [.int 0, .int 0] j
  | 0, _ => rfl
  | 1, _ => rfl
  | j + 2, h => by omega
set_option maxRecDepth 100000 in
theorem gc_init3 {l : Launch} : gc_C l yX3_init cX3_init 1 1 3 gc_codes3 [.int 0, .int 0] 0 0 := by
  refine gc_of (by decide +kernel) rfl (by decide) (fun x q X hRc hRs hE => ?_)
  refine gc_aload_n X dX3_init_0 0 rfl rfl ?_
  refine gc_objInit X (by decide) (gz_in 138 (by decide +kernel) rfl) (gz_in 112 (by decide +kernel) rfl) (gz_in 113 (by decide +kernel) rfl) (Nat.le_of_ble_eq_true rfl) dX3_init_1 ?_
  refine gc_aload_n X dX3_init_4 0 rfl rfl ?_
  refine gc_iconst 0 X dX3_init_5 (by decide) ?_
  refine gc_put X rfl (Nat.le_of_ble_eq_true rfl) rfl gw_X3 tyX3 tyX3_ok nmX3 (j := 0) (ty := .int) (by decide) rfl (gz_in 139 (by decide +kernel) rfl) (by decide +kernel) rfl rfl (Nat.le_of_ble_eq_true rfl) dX3_init_6 ?_
  show gc_At x 3 gc_codes3 q 9 _ _ [.int 0, .int 0] 1 0 0
  refine gc_aload_n X dX3_init_9 0 rfl rfl ?_
  refine gc_iconst 0 X dX3_init_10 (by decide) ?_
  refine gc_put X rfl (Nat.le_of_ble_eq_true rfl) rfl gw_X3 tyX3 tyX3_ok nmX3 (j := 1) (ty := .int) (by decide) rfl (gz_in 140 (by decide +kernel) rfl) (by decide +kernel) rfl rfl (Nat.le_of_ble_eq_true rfl) dX3_init_11 ?_
  show gc_At x 3 gc_codes3 q 14 _ _ [.int 0, .int 0] 1 0 0
  exact hE _ _ _ (fun _ => rfl) dX3_init_14

def gc_codes1 : List Nat := [4, 5, 5]
theorem gc_dflt1 : ∀ j, j < 6 → defaultValue (tyX1 j) = vp_V [.null, .null, .int 0, .int 0, .int 0, .int 0] j
  | 0, _ => rfl
  | 1, _ => rfl
  | 2, _ => rfl
  | 3, _ => rfl
  | 4, _ => rfl
  | 5, _ => rfl
  | j + 6, h => by omega
set_option maxRecDepth 100000 in
theorem gc_init1 {l : Launch} : gc_C l yX1_init cX1_init 1 1 1 gc_codes1 [.null, .null, .int 0, .int 0, .int 0, .int 0] 2 14 := by
  refine gc_of (by decide +kernel) rfl (by decide) (fun x q X hRc hRs hE => ?_)
  refine gc_aload_n X dX1_init_0 0 rfl rfl ?_
  refine gc_objInit X (by decide) (gz_in 151 (by decide +kernel) rfl) (gz_in 112 (by decide +kernel) rfl) (gz_in 113 (by decide +kernel) rfl) (Nat.le_of_ble_eq_true rfl) dX1_init_1 ?_
  refine gc_aload_n X dX1_init_4 0 rfl rfl ?_
  refine gc_bipush 7 X dX1_init_5 (by decide) ?_
  refine gc_newa (N := 7) (t := 0) (ty := .int) X (Nat.le_of_ble_eq_true rfl) rfl rfl (fun _ _ h => h) (gz_in 132 (by decide +kernel) rfl) (by decide) (by decide) (Nat.le_of_ble_eq_true rfl) (by rw [hRc]; exact Nat.le_of_ble_eq_true rfl) (by rw [hRs]; exact Nat.le_of_ble_eq_true rfl) (fun cA hc H h => by subst hc; exact h) dX1_init_7 ?_
  refine gc_put X rfl (Nat.le_of_ble_eq_true rfl) rfl gw_X1 tyX1 tyX1_ok nmX1 (j := 0) (ty := (.array .int)) (by decide) rfl (gz_in 152 (by decide +kernel) rfl) (by decide +kernel) rfl rfl (Nat.le_of_ble_eq_true rfl) dX1_init_9 ?_
  show gc_At x 1 gc_codes1 q 12 _ _ [.ref (q + 1), .null, .int 0, .int 0, .int 0, .int 0] 2 1 7
  refine gc_aload_n X dX1_init_12 0 rfl rfl ?_
  refine gc_bipush 7 X dX1_init_13 (by decide) ?_
  refine gc_newa (N := 7) (t := 0) (ty := .int) X (Nat.le_of_ble_eq_true rfl) rfl rfl (fun _ _ h => h) (gz_in 132 (by decide +kernel) rfl) (by decide) (by decide) (Nat.le_of_ble_eq_true rfl) (by rw [hRc]; exact Nat.le_of_ble_eq_true rfl) (by rw [hRs]; exact Nat.le_of_ble_eq_true rfl) (fun cA hc H h => by subst hc; exact h) dX1_init_15 ?_
  refine gc_put X rfl (Nat.le_of_ble_eq_true rfl) rfl gw_X1 tyX1 tyX1_ok nmX1 (j := 1) (ty := (.array .int)) (by decide) rfl (gz_in 153 (by decide +kernel) rfl) (by decide +kernel) rfl rfl (Nat.le_of_ble_eq_true rfl) dX1_init_17 ?_
  show gc_At x 1 gc_codes1 q 20 _ _ [.ref (q + 1), .ref (q + 2), .int 0, .int 0, .int 0, .int 0] 3 2 14
  refine gc_aload_n X dX1_init_20 0 rfl rfl ?_
  refine gc_iconst 0 X dX1_init_21 (by decide) ?_
  refine gc_put X rfl (Nat.le_of_ble_eq_true rfl) rfl gw_X1 tyX1 tyX1_ok nmX1 (j := 2) (ty := .int) (by decide) rfl (gz_in 154 (by decide +kernel) rfl) (by decide +kernel) rfl rfl (Nat.le_of_ble_eq_true rfl) dX1_init_22 ?_
  show gc_At x 1 gc_codes1 q 25 _ _ [.ref (q + 1), .ref (q + 2), .int 0, .int 0, .int 0, .int 0] 3 2 14
  refine gc_aload_n X dX1_init_25 0 rfl rfl ?_
  refine gc_iconst (-1) X dX1_init_26 (by decide) ?_
  refine gc_put X rfl (Nat.le_of_ble_eq_true rfl) rfl gw_X1 tyX1 tyX1_ok nmX1 (j := 3) (ty := .int) (by decide) rfl (gz_in 155 (by decide +kernel) rfl) (by decide +kernel) rfl rfl (Nat.le_of_ble_eq_true rfl) dX1_init_27 ?_
  show gc_At x 1 gc_codes1 q 30 _ _ [.ref (q + 1), .ref (q + 2), .int 0, .int (-1), .int 0, .int 0] 3 2 14
  refine gc_aload_n X dX1_init_30 0 rfl rfl ?_
  refine gc_iconst 0 X dX1_init_31 (by decide) ?_
  refine gc_put X rfl (Nat.le_of_ble_eq_true rfl) rfl gw_X1 tyX1 tyX1_ok nmX1 (j := 4) (ty := .int) (by decide) rfl (gz_in 156 (by decide +kernel) rfl) (by decide +kernel) rfl rfl (Nat.le_of_ble_eq_true rfl) dX1_init_32 ?_
  show gc_At x 1 gc_codes1 q 35 _ _ [.ref (q + 1), .ref (q + 2), .int 0, .int (-1), .int 0, .int 0] 3 2 14
  refine gc_aload_n X dX1_init_35 0 rfl rfl ?_
  refine gc_iconst 0 X dX1_init_36 (by decide) ?_
  refine gc_put X rfl (Nat.le_of_ble_eq_true rfl) rfl gw_X1 tyX1 tyX1_ok nmX1 (j := 5) (ty := .int) (by decide) rfl (gz_in 157 (by decide +kernel) rfl) (by decide +kernel) rfl rfl (Nat.le_of_ble_eq_true rfl) dX1_init_37 ?_
  show gc_At x 1 gc_codes1 q 40 _ _ [.ref (q + 1), .ref (q + 2), .int 0, .int (-1), .int 0, .int 0] 3 2 14
  exact hE _ _ _ (fun _ => rfl) dX1_init_40

def gc_codes5 : List Nat := [7, 8]
theorem gc_dflt5 : ∀ j, j < 2 → defaultValue (tyX5 j) = vp_V [.null, .int 0] j
  | 0, _ => rfl
  | 1, _ => rfl
  | j + 2, h => by omega
set_option maxRecDepth 100000 in
theorem gc_init5 {l : Launch} : gc_C l yX5_init cX5_init 1 1 5 gc_codes5 [.null, .int 0] 1 24 := by
  refine gc_of (by decide +kernel) rfl (by decide) (fun x q X hRc hRs hE => ?_)
  refine gc_aload_n X dX5_init_0 0 rfl rfl ?_
  refine gc_objInit X (by decide) (gz_in 182 (by decide +kernel) rfl) (gz_in 112 (by decide +kernel) rfl) (gz_in 113 (by decide +kernel) rfl) (Nat.le_of_ble_eq_true rfl) dX5_init_1 ?_
  refine gc_aload_n X dX5_init_4 0 rfl rfl ?_
  refine gc_bipush 24 X dX5_init_5 (by decide) ?_
  refine gc_newa (N := 24) (t := 0) (ty := .int) X (Nat.le_of_ble_eq_true rfl) rfl rfl (fun _ _ h => h) (gz_in 132 (by decide +kernel) rfl) (by decide) (by decide) (Nat.le_of_ble_eq_true rfl) (by rw [hRc]; exact Nat.le_of_ble_eq_true rfl) (by rw [hRs]; exact Nat.le_of_ble_eq_true rfl) (fun cA hc H h => by subst hc; exact h) dX5_init_7 ?_
  refine gc_put X rfl (Nat.le_of_ble_eq_true rfl) rfl gw_X5 tyX5 tyX5_ok nmX5 (j := 0) (ty := (.array .int)) (by decide) rfl (gz_in 183 (by decide +kernel) rfl) (by decide +kernel) rfl rfl (Nat.le_of_ble_eq_true rfl) dX5_init_9 ?_
  show gc_At x 5 gc_codes5 q 12 _ _ [.ref (q + 1), .int 0] 2 1 24
  refine gc_aload_n X dX5_init_12 0 rfl rfl ?_
  refine gc_iconst 0 X dX5_init_13 (by decide) ?_
  refine gc_put X rfl (Nat.le_of_ble_eq_true rfl) rfl gw_X5 tyX5 tyX5_ok nmX5 (j := 1) (ty := .int) (by decide) rfl (gz_in 184 (by decide +kernel) rfl) (by decide +kernel) rfl rfl (Nat.le_of_ble_eq_true rfl) dX5_init_14 ?_
  show gc_At x 5 gc_codes5 q 17 _ _ [.ref (q + 1), .int 0] 2 1 24
  exact hE _ _ _ (fun _ => rfl) dX5_init_17

def gc_codes0 : List Nat := [6, 2, 7, 8]
theorem gc_dflt0 : ∀ j, j < 3 → defaultValue (tyX0 j) = vp_V [.null, .int 0, .null] j
  | 0, _ => rfl
  | 1, _ => rfl
  | 2, _ => rfl
  | j + 3, h => by omega
set_option maxRecDepth 100000 in
theorem gc_init0 {l : Launch} : gc_C l yX0_init cX0_init 1 2 0 gc_codes0 [.null, .int 0, .null] 3 106 := by
  refine gc_of (by decide +kernel) rfl (by decide) (fun x q X hRc hRs hE => ?_)
  refine gc_aload_n X dX0_init_0 0 rfl rfl ?_
  refine gc_objInit X (by decide) (gz_in 176 (by decide +kernel) rfl) (gz_in 112 (by decide +kernel) rfl) (gz_in 113 (by decide +kernel) rfl) (Nat.le_of_ble_eq_true rfl) dX0_init_1 ?_
  refine gc_aload_n X dX0_init_4 0 rfl rfl ?_
  refine gc_bipush 80 X dX0_init_5 (by decide) ?_
  refine gc_newa (N := 80) (t := 0) (ty := .int) X (Nat.le_of_ble_eq_true rfl) rfl rfl (fun _ _ h => h) (gz_in 132 (by decide +kernel) rfl) (by decide) (by decide) (Nat.le_of_ble_eq_true rfl) (by rw [hRc]; exact Nat.le_of_ble_eq_true rfl) (by rw [hRs]; exact Nat.le_of_ble_eq_true rfl) (fun cA hc H h => by subst hc; exact h) dX0_init_7 ?_
  refine gc_put X rfl (Nat.le_of_ble_eq_true rfl) rfl gw_X0 tyX0 tyX0_ok nmX0 (j := 0) (ty := (.array .int)) (by decide) rfl (gz_in 193 (by decide +kernel) rfl) (by decide +kernel) rfl rfl (Nat.le_of_ble_eq_true rfl) dX0_init_9 ?_
  show gc_At x 0 gc_codes0 q 12 _ _ [.ref (q + 1), .int 0, .null] 2 1 80
  refine gc_aload_n X dX0_init_12 0 rfl rfl ?_
  refine gc_iconst 0 X dX0_init_13 (by decide) ?_
  refine gc_put X rfl (Nat.le_of_ble_eq_true rfl) rfl gw_X0 tyX0 tyX0_ok nmX0 (j := 1) (ty := .int) (by decide) rfl (gz_in 195 (by decide +kernel) rfl) (by decide +kernel) rfl rfl (Nat.le_of_ble_eq_true rfl) dX0_init_14 ?_
  show gc_At x 0 gc_codes0 q 17 _ _ [.ref (q + 1), .int 0, .null] 2 1 80
  refine gc_aload_n X dX0_init_17 0 rfl rfl ?_
  refine gc_newC (cj := 5) (N := 2) (fs2 := [.null, .int 0]) (codes2 := gc_codes5) tyX5 X gc_init5 (Nat.le_of_ble_eq_true rfl) gw_X5 tyX5_ok (gz_in 177 (by decide +kernel) rfl) (gz_in 178 (by decide +kernel) rfl) (gz_in 90 (by decide +kernel) rfl) rfl gc_dflt5 (Or.inr ⟨"LongestTokens", gz_inN 179 (by decide +kernel) rfl⟩) (gz_in 180 (by decide +kernel) rfl) (gz_in 90 (by decide +kernel) rfl) (gz_in 181 (by decide +kernel) rfl) rfl (by decide +kernel) (by decide) (by decide) (by rw [hRc]; exact Nat.le_of_ble_eq_true rfl) (by rw [hRs]; exact Nat.le_of_ble_eq_true rfl) (by decide +kernel) (Nat.le_of_ble_eq_true rfl) dX0_init_18 dX0_init_21 dX0_init_22 ?_
  refine gc_put X rfl (Nat.le_of_ble_eq_true rfl) rfl gw_X0 tyX0 tyX0_ok nmX0 (j := 2) (ty := (.object "LongestTokens$Line")) (by decide) rfl (gz_in 197 (by decide +kernel) rfl) (by decide +kernel) rfl rfl (Nat.le_of_ble_eq_true rfl) dX0_init_25 ?_
  show gc_At x 0 gc_codes0 q 28 _ _ [.ref (q + 1), .int 0, .ref (q + 2)] 4 3 106
  exact hE _ _ _ (fun _ => rfl) dX0_init_28

def gc_codes7 : List Nat := [9, 10, 10, 10, 10, 10, 11, 12, 12, 13, 14, 14, 14, 14, 15, 10, 10, 10, 10]
theorem gc_dflt7 : ∀ j, j < 11 → defaultValue (tyX7 j) = vp_V [.int 0, .null, .null, .null, .null, .null, .null, .null, .null, .null, .null] j
  | 0, _ => rfl
  | 1, _ => rfl
  | 2, _ => rfl
  | 3, _ => rfl
  | 4, _ => rfl
  | 5, _ => rfl
  | 6, _ => rfl
  | 7, _ => rfl
  | 8, _ => rfl
  | 9, _ => rfl
  | 10, _ => rfl
  | j + 11, h => by omega
set_option maxRecDepth 100000 in
theorem gc_init7 {l : Launch} : gc_C l yX7_init cX7_init 1 1 7 gc_codes7 [.int 0, .null, .null, .null, .null, .null, .null, .null, .null, .null, .null] 18 136 := by
  refine gc_of (by decide +kernel) rfl (by decide) (fun x q X hRc hRs hE => ?_)
  refine gc_aload_n X dX7_init_0 0 rfl rfl ?_
  refine gc_objInit X (by decide) (gz_in 211 (by decide +kernel) rfl) (gz_in 112 (by decide +kernel) rfl) (gz_in 113 (by decide +kernel) rfl) (Nat.le_of_ble_eq_true rfl) dX7_init_1 ?_
  refine gc_aload_n X dX7_init_4 0 rfl rfl ?_
  refine gc_iconst 0 X dX7_init_5 (by decide) ?_
  refine gc_put X rfl (Nat.le_of_ble_eq_true rfl) rfl gw_X7 tyX7 tyX7_ok nmX7 (j := 0) (ty := .int) (by decide) rfl (gz_in 214 (by decide +kernel) rfl) (by decide +kernel) rfl rfl (Nat.le_of_ble_eq_true rfl) dX7_init_6 ?_
  show gc_At x 7 gc_codes7 q 9 _ _ [.int 0, .null, .null, .null, .null, .null, .null, .null, .null, .null, .null] 1 0 0
  refine gc_aload_n X dX7_init_9 0 rfl rfl ?_
  refine gc_bipush 8 X dX7_init_10 (by decide) ?_
  refine gc_newa (N := 8) (t := 0) (ty := .int) X (Nat.le_of_ble_eq_true rfl) rfl rfl (fun _ _ h => h) (gz_in 132 (by decide +kernel) rfl) (by decide) (by decide) (Nat.le_of_ble_eq_true rfl) (by rw [hRc]; exact Nat.le_of_ble_eq_true rfl) (by rw [hRs]; exact Nat.le_of_ble_eq_true rfl) (fun cA hc H h => by subst hc; exact h) dX7_init_12 ?_
  refine gc_put X rfl (Nat.le_of_ble_eq_true rfl) rfl gw_X7 tyX7 tyX7_ok nmX7 (j := 1) (ty := (.array .int)) (by decide) rfl (gz_in 218 (by decide +kernel) rfl) (by decide +kernel) rfl rfl (Nat.le_of_ble_eq_true rfl) dX7_init_14 ?_
  show gc_At x 7 gc_codes7 q 17 _ _ [.int 0, .ref (q + 1), .null, .null, .null, .null, .null, .null, .null, .null, .null] 2 1 8
  refine gc_aload_n X dX7_init_17 0 rfl rfl ?_
  refine gc_bipush 8 X dX7_init_18 (by decide) ?_
  refine gc_newa (N := 8) (t := 0) (ty := .int) X (Nat.le_of_ble_eq_true rfl) rfl rfl (fun _ _ h => h) (gz_in 132 (by decide +kernel) rfl) (by decide) (by decide) (Nat.le_of_ble_eq_true rfl) (by rw [hRc]; exact Nat.le_of_ble_eq_true rfl) (by rw [hRs]; exact Nat.le_of_ble_eq_true rfl) (fun cA hc H h => by subst hc; exact h) dX7_init_20 ?_
  refine gc_put X rfl (Nat.le_of_ble_eq_true rfl) rfl gw_X7 tyX7 tyX7_ok nmX7 (j := 2) (ty := (.array .int)) (by decide) rfl (gz_in 221 (by decide +kernel) rfl) (by decide +kernel) rfl rfl (Nat.le_of_ble_eq_true rfl) dX7_init_22 ?_
  show gc_At x 7 gc_codes7 q 25 _ _ [.int 0, .ref (q + 1), .ref (q + 2), .null, .null, .null, .null, .null, .null, .null, .null] 3 2 16
  refine gc_aload_n X dX7_init_25 0 rfl rfl ?_
  refine gc_bipush 8 X dX7_init_26 (by decide) ?_
  refine gc_newa (N := 8) (t := 0) (ty := .int) X (Nat.le_of_ble_eq_true rfl) rfl rfl (fun _ _ h => h) (gz_in 132 (by decide +kernel) rfl) (by decide) (by decide) (Nat.le_of_ble_eq_true rfl) (by rw [hRc]; exact Nat.le_of_ble_eq_true rfl) (by rw [hRs]; exact Nat.le_of_ble_eq_true rfl) (fun cA hc H h => by subst hc; exact h) dX7_init_28 ?_
  refine gc_put X rfl (Nat.le_of_ble_eq_true rfl) rfl gw_X7 tyX7 tyX7_ok nmX7 (j := 3) (ty := (.array .int)) (by decide) rfl (gz_in 224 (by decide +kernel) rfl) (by decide +kernel) rfl rfl (Nat.le_of_ble_eq_true rfl) dX7_init_30 ?_
  show gc_At x 7 gc_codes7 q 33 _ _ [.int 0, .ref (q + 1), .ref (q + 2), .ref (q + 3), .null, .null, .null, .null, .null, .null, .null] 4 3 24
  refine gc_aload_n X dX7_init_33 0 rfl rfl ?_
  refine gc_bipush 8 X dX7_init_34 (by decide) ?_
  refine gc_newa (N := 8) (t := 0) (ty := .int) X (Nat.le_of_ble_eq_true rfl) rfl rfl (fun _ _ h => h) (gz_in 132 (by decide +kernel) rfl) (by decide) (by decide) (Nat.le_of_ble_eq_true rfl) (by rw [hRc]; exact Nat.le_of_ble_eq_true rfl) (by rw [hRs]; exact Nat.le_of_ble_eq_true rfl) (fun cA hc H h => by subst hc; exact h) dX7_init_36 ?_
  refine gc_put X rfl (Nat.le_of_ble_eq_true rfl) rfl gw_X7 tyX7 tyX7_ok nmX7 (j := 4) (ty := (.array .int)) (by decide) rfl (gz_in 228 (by decide +kernel) rfl) (by decide +kernel) rfl rfl (Nat.le_of_ble_eq_true rfl) dX7_init_38 ?_
  show gc_At x 7 gc_codes7 q 41 _ _ [.int 0, .ref (q + 1), .ref (q + 2), .ref (q + 3), .ref (q + 4), .null, .null, .null, .null, .null, .null] 5 4 32
  refine gc_aload_n X dX7_init_41 0 rfl rfl ?_
  refine gc_bipush 8 X dX7_init_42 (by decide) ?_
  refine gc_newa (N := 8) (t := 0) (ty := .int) X (Nat.le_of_ble_eq_true rfl) rfl rfl (fun _ _ h => h) (gz_in 132 (by decide +kernel) rfl) (by decide) (by decide) (Nat.le_of_ble_eq_true rfl) (by rw [hRc]; exact Nat.le_of_ble_eq_true rfl) (by rw [hRs]; exact Nat.le_of_ble_eq_true rfl) (fun cA hc H h => by subst hc; exact h) dX7_init_44 ?_
  refine gc_put X rfl (Nat.le_of_ble_eq_true rfl) rfl gw_X7 tyX7 tyX7_ok nmX7 (j := 5) (ty := (.array .int)) (by decide) rfl (gz_in 232 (by decide +kernel) rfl) (by decide +kernel) rfl rfl (Nat.le_of_ble_eq_true rfl) dX7_init_46 ?_
  show gc_At x 7 gc_codes7 q 49 _ _ [.int 0, .ref (q + 1), .ref (q + 2), .ref (q + 3), .ref (q + 4), .ref (q + 5), .null, .null, .null, .null, .null] 6 5 40
  refine gc_aload_n X dX7_init_49 0 rfl rfl ?_
  refine gc_bipush 8 X dX7_init_50 (by decide) ?_
  refine gc_newa (N := 8) (t := 1) (ty := .boolean) X (Nat.le_of_ble_eq_true rfl) rfl rfl (fun _ _ h => h) (gz_in 269 (by decide +kernel) rfl) (by decide) (by decide) (Nat.le_of_ble_eq_true rfl) (by rw [hRc]; exact Nat.le_of_ble_eq_true rfl) (by rw [hRs]; exact Nat.le_of_ble_eq_true rfl) (fun cA hc H h => by subst hc; exact h) dX7_init_52 ?_
  refine gc_put X rfl (Nat.le_of_ble_eq_true rfl) rfl gw_X7 tyX7 tyX7_ok nmX7 (j := 6) (ty := (.array .boolean)) (by decide) rfl (gz_in 235 (by decide +kernel) rfl) (by decide +kernel) rfl rfl (Nat.le_of_ble_eq_true rfl) dX7_init_54 ?_
  show gc_At x 7 gc_codes7 q 57 _ _ [.int 0, .ref (q + 1), .ref (q + 2), .ref (q + 3), .ref (q + 4), .ref (q + 5), .ref (q + 6), .null, .null, .null, .null] 7 6 48
  refine gc_aload_n X dX7_init_57 0 rfl rfl ?_
  refine gc_iconst 4 X dX7_init_58 (by decide) ?_
  refine gc_newa (N := 4) (t := 0) (ty := .int) X (Nat.le_of_ble_eq_true rfl) rfl rfl (fun _ _ h => h) (gz_in 132 (by decide +kernel) rfl) (by decide) (by decide) (Nat.le_of_ble_eq_true rfl) (by rw [hRc]; exact Nat.le_of_ble_eq_true rfl) (by rw [hRs]; exact Nat.le_of_ble_eq_true rfl) (fun cA hc H h => by subst hc; exact h) dX7_init_59 ?_
  refine gc_put X rfl (Nat.le_of_ble_eq_true rfl) rfl gw_X7 tyX7 tyX7_ok nmX7 (j := 7) (ty := (.array .int)) (by decide) rfl (gz_in 238 (by decide +kernel) rfl) (by decide +kernel) rfl rfl (Nat.le_of_ble_eq_true rfl) dX7_init_61 ?_
  show gc_At x 7 gc_codes7 q 64 _ _ [.int 0, .ref (q + 1), .ref (q + 2), .ref (q + 3), .ref (q + 4), .ref (q + 5), .ref (q + 6), .ref (q + 7), .null, .null, .null] 8 7 52
  refine gc_aload_n X dX7_init_64 0 rfl rfl ?_
  refine gc_iconst 4 X dX7_init_65 (by decide) ?_
  refine gc_newa (N := 4) (t := 0) (ty := .int) X (Nat.le_of_ble_eq_true rfl) rfl rfl (fun _ _ h => h) (gz_in 132 (by decide +kernel) rfl) (by decide) (by decide) (Nat.le_of_ble_eq_true rfl) (by rw [hRc]; exact Nat.le_of_ble_eq_true rfl) (by rw [hRs]; exact Nat.le_of_ble_eq_true rfl) (fun cA hc H h => by subst hc; exact h) dX7_init_66 ?_
  refine gc_put X rfl (Nat.le_of_ble_eq_true rfl) rfl gw_X7 tyX7 tyX7_ok nmX7 (j := 8) (ty := (.array .int)) (by decide) rfl (gz_in 240 (by decide +kernel) rfl) (by decide +kernel) rfl rfl (Nat.le_of_ble_eq_true rfl) dX7_init_68 ?_
  show gc_At x 7 gc_codes7 q 71 _ _ [.int 0, .ref (q + 1), .ref (q + 2), .ref (q + 3), .ref (q + 4), .ref (q + 5), .ref (q + 6), .ref (q + 7), .ref (q + 8), .null, .null] 9 8 56
  refine gc_aload_n X dX7_init_71 0 rfl rfl ?_
  refine gc_iconst 4 X dX7_init_72 (by decide) ?_
  refine gc_bipush 10 X dX7_init_73 (by decide) ?_
  refine gc_multi (N := 4) (K := 10) X (Nat.le_of_ble_eq_true rfl) (gz_in 212 (by decide +kernel) rfl) (gz_in 132 (by decide +kernel) rfl) (by decide) (by decide) (by decide) (by decide) (Nat.le_of_ble_eq_true rfl) (Nat.le_of_ble_eq_true rfl) (by rw [hRc]; exact Nat.le_of_ble_eq_true rfl) (by rw [hRs]; exact Nat.le_of_ble_eq_true rfl) (fun _ => rfl) (fun aC j hj => gc_rowK (c := 14) (by decide +kernel) rfl rfl hj) dX7_init_75 ?_
  refine gc_put X rfl (Nat.le_of_ble_eq_true rfl) rfl gw_X7 tyX7 tyX7_ok nmX7 (j := 9) (ty := (.array (.array .int))) (by decide) rfl (gz_in 242 (by decide +kernel) rfl) (by decide +kernel) rfl rfl (Nat.le_of_ble_eq_true rfl) dX7_init_79 ?_
  show gc_At x 7 gc_codes7 q 82 _ _ [.int 0, .ref (q + 1), .ref (q + 2), .ref (q + 3), .ref (q + 4), .ref (q + 5), .ref (q + 6), .ref (q + 7), .ref (q + 8), .ref (q + 9), .null] 14 13 100
  refine gc_aload_n X dX7_init_82 0 rfl rfl ?_
  refine gc_iconst 4 X dX7_init_83 (by decide) ?_
  refine gc_bipush 8 X dX7_init_84 (by decide) ?_
  refine gc_multi (N := 4) (K := 8) X (Nat.le_of_ble_eq_true rfl) (gz_in 212 (by decide +kernel) rfl) (gz_in 132 (by decide +kernel) rfl) (by decide) (by decide) (by decide) (by decide) (Nat.le_of_ble_eq_true rfl) (Nat.le_of_ble_eq_true rfl) (by rw [hRc]; exact Nat.le_of_ble_eq_true rfl) (by rw [hRs]; exact Nat.le_of_ble_eq_true rfl) (fun _ => rfl) (fun aC j hj => gc_rowK (c := 10) (by decide +kernel) rfl rfl hj) dX7_init_86 ?_
  refine gc_put X rfl (Nat.le_of_ble_eq_true rfl) rfl gw_X7 tyX7 tyX7_ok nmX7 (j := 10) (ty := (.array (.array .int))) (by decide) rfl (gz_in 244 (by decide +kernel) rfl) (by decide +kernel) rfl rfl (Nat.le_of_ble_eq_true rfl) dX7_init_90 ?_
  show gc_At x 7 gc_codes7 q 93 _ _ [.int 0, .ref (q + 1), .ref (q + 2), .ref (q + 3), .ref (q + 4), .ref (q + 5), .ref (q + 6), .ref (q + 7), .ref (q + 8), .ref (q + 9), .ref (q + 14)] 19 18 136
  exact hE _ _ _ (fun _ => rfl) dX7_init_93

def gc_codes2 : List Nat := [16, 8, 8, 8, 8, 8, 8, 8, 8]
theorem gc_dflt2 : ∀ j, j < 16 → defaultValue (tyX2 j) = vp_V [.int 0, .int 0, .null, .null, .null, .null, .null, .null, .null, .null, .int 0, .int 0, .int 0, .int 0, .int 0, .int 0] j
  | 0, _ => rfl
  | 1, _ => rfl
  | 2, _ => rfl
  | 3, _ => rfl
  | 4, _ => rfl
  | 5, _ => rfl
  | 6, _ => rfl
  | 7, _ => rfl
  | 8, _ => rfl
  | 9, _ => rfl
  | 10, _ => rfl
  | 11, _ => rfl
  | 12, _ => rfl
  | 13, _ => rfl
  | 14, _ => rfl
  | 15, _ => rfl
  | j + 16, h => by omega
set_option maxRecDepth 100000 in
theorem gc_init2 {l : Launch} : gc_C l yX2_init cX2_init 1 1 2 gc_codes2 [.int 0, .int 0, .null, .null, .null, .null, .null, .null, .null, .null, .int 0, .int 0, .int 0, .int 0, .int 0, .int 0] 8 192 := by
  refine gc_of (by decide +kernel) rfl (by decide) (fun x q X hRc hRs hE => ?_)
  refine gc_aload_n X dX2_init_0 0 rfl rfl ?_
  refine gc_objInit X (by decide) (gz_in 275 (by decide +kernel) rfl) (gz_in 112 (by decide +kernel) rfl) (gz_in 113 (by decide +kernel) rfl) (Nat.le_of_ble_eq_true rfl) dX2_init_1 ?_
  refine gc_aload_n X dX2_init_4 0 rfl rfl ?_
  refine gc_iconst 0 X dX2_init_5 (by decide) ?_
  refine gc_put X rfl (Nat.le_of_ble_eq_true rfl) rfl gw_X2 tyX2 tyX2_ok nmX2 (j := 0) (ty := .int) (by decide) rfl (gz_in 276 (by decide +kernel) rfl) (by decide +kernel) rfl rfl (Nat.le_of_ble_eq_true rfl) dX2_init_6 ?_
  show gc_At x 2 gc_codes2 q 9 _ _ [.int 0, .int 0, .null, .null, .null, .null, .null, .null, .null, .null, .int 0, .int 0, .int 0, .int 0, .int 0, .int 0] 1 0 0
  refine gc_aload_n X dX2_init_9 0 rfl rfl ?_
  refine gc_iconst 1 X dX2_init_10 (by decide) ?_
  refine gc_put X rfl (Nat.le_of_ble_eq_true rfl) rfl gw_X2 tyX2 tyX2_ok nmX2 (j := 1) (ty := .int) (by decide) rfl (gz_in 279 (by decide +kernel) rfl) (by decide +kernel) rfl rfl (Nat.le_of_ble_eq_true rfl) dX2_init_11 ?_
  show gc_At x 2 gc_codes2 q 14 _ _ [.int 0, .int 1, .null, .null, .null, .null, .null, .null, .null, .null, .int 0, .int 0, .int 0, .int 0, .int 0, .int 0] 1 0 0
  refine gc_aload_n X dX2_init_14 0 rfl rfl ?_
  refine gc_bipush 24 X dX2_init_15 (by decide) ?_
  refine gc_newa (N := 24) (t := 0) (ty := .int) X (Nat.le_of_ble_eq_true rfl) rfl rfl (fun _ _ h => h) (gz_in 132 (by decide +kernel) rfl) (by decide) (by decide) (Nat.le_of_ble_eq_true rfl) (by rw [hRc]; exact Nat.le_of_ble_eq_true rfl) (by rw [hRs]; exact Nat.le_of_ble_eq_true rfl) (fun cA hc H h => by subst hc; exact h) dX2_init_17 ?_
  refine gc_put X rfl (Nat.le_of_ble_eq_true rfl) rfl gw_X2 tyX2 tyX2_ok nmX2 (j := 2) (ty := (.array .int)) (by decide) rfl (gz_in 281 (by decide +kernel) rfl) (by decide +kernel) rfl rfl (Nat.le_of_ble_eq_true rfl) dX2_init_19 ?_
  show gc_At x 2 gc_codes2 q 22 _ _ [.int 0, .int 1, .ref (q + 1), .null, .null, .null, .null, .null, .null, .null, .int 0, .int 0, .int 0, .int 0, .int 0, .int 0] 2 1 24
  refine gc_aload_n X dX2_init_22 0 rfl rfl ?_
  refine gc_bipush 24 X dX2_init_23 (by decide) ?_
  refine gc_newa (N := 24) (t := 0) (ty := .int) X (Nat.le_of_ble_eq_true rfl) rfl rfl (fun _ _ h => h) (gz_in 132 (by decide +kernel) rfl) (by decide) (by decide) (Nat.le_of_ble_eq_true rfl) (by rw [hRc]; exact Nat.le_of_ble_eq_true rfl) (by rw [hRs]; exact Nat.le_of_ble_eq_true rfl) (fun cA hc H h => by subst hc; exact h) dX2_init_25 ?_
  refine gc_put X rfl (Nat.le_of_ble_eq_true rfl) rfl gw_X2 tyX2 tyX2_ok nmX2 (j := 3) (ty := (.array .int)) (by decide) rfl (gz_in 284 (by decide +kernel) rfl) (by decide +kernel) rfl rfl (Nat.le_of_ble_eq_true rfl) dX2_init_27 ?_
  show gc_At x 2 gc_codes2 q 30 _ _ [.int 0, .int 1, .ref (q + 1), .ref (q + 2), .null, .null, .null, .null, .null, .null, .int 0, .int 0, .int 0, .int 0, .int 0, .int 0] 3 2 48
  refine gc_aload_n X dX2_init_30 0 rfl rfl ?_
  refine gc_bipush 24 X dX2_init_31 (by decide) ?_
  refine gc_newa (N := 24) (t := 0) (ty := .int) X (Nat.le_of_ble_eq_true rfl) rfl rfl (fun _ _ h => h) (gz_in 132 (by decide +kernel) rfl) (by decide) (by decide) (Nat.le_of_ble_eq_true rfl) (by rw [hRc]; exact Nat.le_of_ble_eq_true rfl) (by rw [hRs]; exact Nat.le_of_ble_eq_true rfl) (fun cA hc H h => by subst hc; exact h) dX2_init_33 ?_
  refine gc_put X rfl (Nat.le_of_ble_eq_true rfl) rfl gw_X2 tyX2 tyX2_ok nmX2 (j := 4) (ty := (.array .int)) (by decide) rfl (gz_in 287 (by decide +kernel) rfl) (by decide +kernel) rfl rfl (Nat.le_of_ble_eq_true rfl) dX2_init_35 ?_
  show gc_At x 2 gc_codes2 q 38 _ _ [.int 0, .int 1, .ref (q + 1), .ref (q + 2), .ref (q + 3), .null, .null, .null, .null, .null, .int 0, .int 0, .int 0, .int 0, .int 0, .int 0] 4 3 72
  refine gc_aload_n X dX2_init_38 0 rfl rfl ?_
  refine gc_bipush 24 X dX2_init_39 (by decide) ?_
  refine gc_newa (N := 24) (t := 0) (ty := .int) X (Nat.le_of_ble_eq_true rfl) rfl rfl (fun _ _ h => h) (gz_in 132 (by decide +kernel) rfl) (by decide) (by decide) (Nat.le_of_ble_eq_true rfl) (by rw [hRc]; exact Nat.le_of_ble_eq_true rfl) (by rw [hRs]; exact Nat.le_of_ble_eq_true rfl) (fun cA hc H h => by subst hc; exact h) dX2_init_41 ?_
  refine gc_put X rfl (Nat.le_of_ble_eq_true rfl) rfl gw_X2 tyX2 tyX2_ok nmX2 (j := 5) (ty := (.array .int)) (by decide) rfl (gz_in 290 (by decide +kernel) rfl) (by decide +kernel) rfl rfl (Nat.le_of_ble_eq_true rfl) dX2_init_43 ?_
  show gc_At x 2 gc_codes2 q 46 _ _ [.int 0, .int 1, .ref (q + 1), .ref (q + 2), .ref (q + 3), .ref (q + 4), .null, .null, .null, .null, .int 0, .int 0, .int 0, .int 0, .int 0, .int 0] 5 4 96
  refine gc_aload_n X dX2_init_46 0 rfl rfl ?_
  refine gc_bipush 24 X dX2_init_47 (by decide) ?_
  refine gc_newa (N := 24) (t := 0) (ty := .int) X (Nat.le_of_ble_eq_true rfl) rfl rfl (fun _ _ h => h) (gz_in 132 (by decide +kernel) rfl) (by decide) (by decide) (Nat.le_of_ble_eq_true rfl) (by rw [hRc]; exact Nat.le_of_ble_eq_true rfl) (by rw [hRs]; exact Nat.le_of_ble_eq_true rfl) (fun cA hc H h => by subst hc; exact h) dX2_init_49 ?_
  refine gc_put X rfl (Nat.le_of_ble_eq_true rfl) rfl gw_X2 tyX2 tyX2_ok nmX2 (j := 6) (ty := (.array .int)) (by decide) rfl (gz_in 293 (by decide +kernel) rfl) (by decide +kernel) rfl rfl (Nat.le_of_ble_eq_true rfl) dX2_init_51 ?_
  show gc_At x 2 gc_codes2 q 54 _ _ [.int 0, .int 1, .ref (q + 1), .ref (q + 2), .ref (q + 3), .ref (q + 4), .ref (q + 5), .null, .null, .null, .int 0, .int 0, .int 0, .int 0, .int 0, .int 0] 6 5 120
  refine gc_aload_n X dX2_init_54 0 rfl rfl ?_
  refine gc_bipush 24 X dX2_init_55 (by decide) ?_
  refine gc_newa (N := 24) (t := 0) (ty := .int) X (Nat.le_of_ble_eq_true rfl) rfl rfl (fun _ _ h => h) (gz_in 132 (by decide +kernel) rfl) (by decide) (by decide) (Nat.le_of_ble_eq_true rfl) (by rw [hRc]; exact Nat.le_of_ble_eq_true rfl) (by rw [hRs]; exact Nat.le_of_ble_eq_true rfl) (fun cA hc H h => by subst hc; exact h) dX2_init_57 ?_
  refine gc_put X rfl (Nat.le_of_ble_eq_true rfl) rfl gw_X2 tyX2 tyX2_ok nmX2 (j := 7) (ty := (.array .int)) (by decide) rfl (gz_in 295 (by decide +kernel) rfl) (by decide +kernel) rfl rfl (Nat.le_of_ble_eq_true rfl) dX2_init_59 ?_
  show gc_At x 2 gc_codes2 q 62 _ _ [.int 0, .int 1, .ref (q + 1), .ref (q + 2), .ref (q + 3), .ref (q + 4), .ref (q + 5), .ref (q + 6), .null, .null, .int 0, .int 0, .int 0, .int 0, .int 0, .int 0] 7 6 144
  refine gc_aload_n X dX2_init_62 0 rfl rfl ?_
  refine gc_bipush 24 X dX2_init_63 (by decide) ?_
  refine gc_newa (N := 24) (t := 0) (ty := .int) X (Nat.le_of_ble_eq_true rfl) rfl rfl (fun _ _ h => h) (gz_in 132 (by decide +kernel) rfl) (by decide) (by decide) (Nat.le_of_ble_eq_true rfl) (by rw [hRc]; exact Nat.le_of_ble_eq_true rfl) (by rw [hRs]; exact Nat.le_of_ble_eq_true rfl) (fun cA hc H h => by subst hc; exact h) dX2_init_65 ?_
  refine gc_put X rfl (Nat.le_of_ble_eq_true rfl) rfl gw_X2 tyX2 tyX2_ok nmX2 (j := 8) (ty := (.array .int)) (by decide) rfl (gz_in 298 (by decide +kernel) rfl) (by decide +kernel) rfl rfl (Nat.le_of_ble_eq_true rfl) dX2_init_67 ?_
  show gc_At x 2 gc_codes2 q 70 _ _ [.int 0, .int 1, .ref (q + 1), .ref (q + 2), .ref (q + 3), .ref (q + 4), .ref (q + 5), .ref (q + 6), .ref (q + 7), .null, .int 0, .int 0, .int 0, .int 0, .int 0, .int 0] 8 7 168
  refine gc_aload_n X dX2_init_70 0 rfl rfl ?_
  refine gc_bipush 24 X dX2_init_71 (by decide) ?_
  refine gc_newa (N := 24) (t := 0) (ty := .int) X (Nat.le_of_ble_eq_true rfl) rfl rfl (fun _ _ h => h) (gz_in 132 (by decide +kernel) rfl) (by decide) (by decide) (Nat.le_of_ble_eq_true rfl) (by rw [hRc]; exact Nat.le_of_ble_eq_true rfl) (by rw [hRs]; exact Nat.le_of_ble_eq_true rfl) (fun cA hc H h => by subst hc; exact h) dX2_init_73 ?_
  refine gc_put X rfl (Nat.le_of_ble_eq_true rfl) rfl gw_X2 tyX2 tyX2_ok nmX2 (j := 9) (ty := (.array .int)) (by decide) rfl (gz_in 300 (by decide +kernel) rfl) (by decide +kernel) rfl rfl (Nat.le_of_ble_eq_true rfl) dX2_init_75 ?_
  show gc_At x 2 gc_codes2 q 78 _ _ [.int 0, .int 1, .ref (q + 1), .ref (q + 2), .ref (q + 3), .ref (q + 4), .ref (q + 5), .ref (q + 6), .ref (q + 7), .ref (q + 8), .int 0, .int 0, .int 0, .int 0, .int 0, .int 0] 9 8 192
  refine gc_aload_n X dX2_init_78 0 rfl rfl ?_
  refine gc_iconst 1 X dX2_init_79 (by decide) ?_
  refine gc_put X rfl (Nat.le_of_ble_eq_true rfl) rfl gw_X2 tyX2 tyX2_ok nmX2 (j := 10) (ty := .int) (by decide) rfl (gz_in 302 (by decide +kernel) rfl) (by decide +kernel) rfl rfl (Nat.le_of_ble_eq_true rfl) dX2_init_80 ?_
  show gc_At x 2 gc_codes2 q 83 _ _ [.int 0, .int 1, .ref (q + 1), .ref (q + 2), .ref (q + 3), .ref (q + 4), .ref (q + 5), .ref (q + 6), .ref (q + 7), .ref (q + 8), .int 1, .int 0, .int 0, .int 0, .int 0, .int 0] 9 8 192
  refine gc_aload_n X dX2_init_83 0 rfl rfl ?_
  refine gc_iconst 0 X dX2_init_84 (by decide) ?_
  refine gc_put X rfl (Nat.le_of_ble_eq_true rfl) rfl gw_X2 tyX2 tyX2_ok nmX2 (j := 11) (ty := .int) (by decide) rfl (gz_in 303 (by decide +kernel) rfl) (by decide +kernel) rfl rfl (Nat.le_of_ble_eq_true rfl) dX2_init_85 ?_
  show gc_At x 2 gc_codes2 q 88 _ _ [.int 0, .int 1, .ref (q + 1), .ref (q + 2), .ref (q + 3), .ref (q + 4), .ref (q + 5), .ref (q + 6), .ref (q + 7), .ref (q + 8), .int 1, .int 0, .int 0, .int 0, .int 0, .int 0] 9 8 192
  refine gc_aload_n X dX2_init_88 0 rfl rfl ?_
  refine gc_iconst (-1) X dX2_init_89 (by decide) ?_
  refine gc_put X rfl (Nat.le_of_ble_eq_true rfl) rfl gw_X2 tyX2 tyX2_ok nmX2 (j := 12) (ty := .int) (by decide) rfl (gz_in 304 (by decide +kernel) rfl) (by decide +kernel) rfl rfl (Nat.le_of_ble_eq_true rfl) dX2_init_90 ?_
  show gc_At x 2 gc_codes2 q 93 _ _ [.int 0, .int 1, .ref (q + 1), .ref (q + 2), .ref (q + 3), .ref (q + 4), .ref (q + 5), .ref (q + 6), .ref (q + 7), .ref (q + 8), .int 1, .int 0, .int (-1), .int 0, .int 0, .int 0] 9 8 192
  refine gc_aload_n X dX2_init_93 0 rfl rfl ?_
  refine gc_iconst 0 X dX2_init_94 (by decide) ?_
  refine gc_put X rfl (Nat.le_of_ble_eq_true rfl) rfl gw_X2 tyX2 tyX2_ok nmX2 (j := 13) (ty := .int) (by decide) rfl (gz_in 306 (by decide +kernel) rfl) (by decide +kernel) rfl rfl (Nat.le_of_ble_eq_true rfl) dX2_init_95 ?_
  show gc_At x 2 gc_codes2 q 98 _ _ [.int 0, .int 1, .ref (q + 1), .ref (q + 2), .ref (q + 3), .ref (q + 4), .ref (q + 5), .ref (q + 6), .ref (q + 7), .ref (q + 8), .int 1, .int 0, .int (-1), .int 0, .int 0, .int 0] 9 8 192
  refine gc_aload_n X dX2_init_98 0 rfl rfl ?_
  refine gc_iconst 0 X dX2_init_99 (by decide) ?_
  refine gc_put X rfl (Nat.le_of_ble_eq_true rfl) rfl gw_X2 tyX2 tyX2_ok nmX2 (j := 14) (ty := .int) (by decide) rfl (gz_in 308 (by decide +kernel) rfl) (by decide +kernel) rfl rfl (Nat.le_of_ble_eq_true rfl) dX2_init_100 ?_
  show gc_At x 2 gc_codes2 q 103 _ _ [.int 0, .int 1, .ref (q + 1), .ref (q + 2), .ref (q + 3), .ref (q + 4), .ref (q + 5), .ref (q + 6), .ref (q + 7), .ref (q + 8), .int 1, .int 0, .int (-1), .int 0, .int 0, .int 0] 9 8 192
  refine gc_aload_n X dX2_init_103 0 rfl rfl ?_
  refine gc_iconst (-1) X dX2_init_104 (by decide) ?_
  refine gc_put X rfl (Nat.le_of_ble_eq_true rfl) rfl gw_X2 tyX2 tyX2_ok nmX2 (j := 15) (ty := .int) (by decide) rfl (gz_in 309 (by decide +kernel) rfl) (by decide +kernel) rfl rfl (Nat.le_of_ble_eq_true rfl) dX2_init_105 ?_
  show gc_At x 2 gc_codes2 q 108 _ _ [.int 0, .int 1, .ref (q + 1), .ref (q + 2), .ref (q + 3), .ref (q + 4), .ref (q + 5), .ref (q + 6), .ref (q + 7), .ref (q + 8), .int 1, .int 0, .int (-1), .int 0, .int 0, .int (-1)] 9 8 192
  exact hE _ _ _ (fun _ => rfl) dX2_init_108

def gc_codes6 : List Nat := [17, 18, 8, 8, 8, 8, 8, 8, 8, 8, 8, 8, 8, 8, 8, 8, 8, 8, 8, 8, 8, 8, 8, 8, 8, 8, 8, 18, 8, 8, 8, 8, 8, 8, 8, 8, 8, 8, 8, 8, 8, 8, 8, 8, 8, 8, 8, 8, 8, 8, 8, 8, 8, 19]
theorem gc_dflt6 : ∀ j, j < 5 → defaultValue (tyX6 j) = vp_V [.null, .null, .null, .int 0, .int 0] j
  | 0, _ => rfl
  | 1, _ => rfl
  | 2, _ => rfl
  | 3, _ => rfl
  | 4, _ => rfl
  | j + 5, h => by omega
set_option maxRecDepth 100000 in
theorem gc_init6 {l : Launch} : gc_C l yX6_init cX6_init 1 1 6 gc_codes6 [.null, .null, .null, .int 0, .int 0] 53 1275 := by
  refine gc_of (by decide +kernel) rfl (by decide) (fun x q X hRc hRs hE => ?_)
  refine gc_aload_n X dX6_init_0 0 rfl rfl ?_
  refine gc_objInit X (by decide) (gz_in 350 (by decide +kernel) rfl) (gz_in 112 (by decide +kernel) rfl) (gz_in 113 (by decide +kernel) rfl) (Nat.le_of_ble_eq_true rfl) dX6_init_1 ?_
  refine gc_aload_n X dX6_init_4 0 rfl rfl ?_
  refine gc_bipush 25 X dX6_init_5 (by decide) ?_
  refine gc_bipush 24 X dX6_init_7 (by decide) ?_
  refine gc_multi (N := 25) (K := 24) X (Nat.le_of_ble_eq_true rfl) (gz_in 351 (by decide +kernel) rfl) (gz_in 132 (by decide +kernel) rfl) (by decide) (by decide) (by decide) (by decide) (Nat.le_of_ble_eq_true rfl) (Nat.le_of_ble_eq_true rfl) (by rw [hRc]; exact Nat.le_of_ble_eq_true rfl) (by rw [hRs]; exact Nat.le_of_ble_eq_true rfl) (fun _ => rfl) (fun aC j hj => gc_rowK (c := 8) (by decide +kernel) rfl rfl hj) dX6_init_9 ?_
  refine gc_put X rfl (Nat.le_of_ble_eq_true rfl) rfl gw_X6 tyX6 tyX6_ok nmX6 (j := 0) (ty := (.array (.array .int))) (by decide) rfl (gz_in 352 (by decide +kernel) rfl) (by decide +kernel) rfl rfl (Nat.le_of_ble_eq_true rfl) dX6_init_13 ?_
  show gc_At x 6 gc_codes6 q 16 _ _ [.ref (q + 1), .null, .null, .int 0, .int 0] 27 26 625
  refine gc_aload_n X dX6_init_16 0 rfl rfl ?_
  refine gc_bipush 25 X dX6_init_17 (by decide) ?_
  refine gc_bipush 24 X dX6_init_19 (by decide) ?_
  refine gc_multi (N := 25) (K := 24) X (Nat.le_of_ble_eq_true rfl) (gz_in 351 (by decide +kernel) rfl) (gz_in 132 (by decide +kernel) rfl) (by decide) (by decide) (by decide) (by decide) (Nat.le_of_ble_eq_true rfl) (Nat.le_of_ble_eq_true rfl) (by rw [hRc]; exact Nat.le_of_ble_eq_true rfl) (by rw [hRs]; exact Nat.le_of_ble_eq_true rfl) (fun _ => rfl) (fun aC j hj => gc_rowK (c := 8) (by decide +kernel) rfl rfl hj) dX6_init_21 ?_
  refine gc_put X rfl (Nat.le_of_ble_eq_true rfl) rfl gw_X6 tyX6 tyX6_ok nmX6 (j := 1) (ty := (.array (.array .int))) (by decide) rfl (gz_in 353 (by decide +kernel) rfl) (by decide +kernel) rfl rfl (Nat.le_of_ble_eq_true rfl) dX6_init_25 ?_
  show gc_At x 6 gc_codes6 q 28 _ _ [.ref (q + 1), .ref (q + 27), .null, .int 0, .int 0] 53 52 1250
  refine gc_aload_n X dX6_init_28 0 rfl rfl ?_
  refine gc_bipush 25 X dX6_init_29 (by decide) ?_
  refine gc_newa (N := 25) (t := 0) (ty := .int) X (Nat.le_of_ble_eq_true rfl) rfl rfl (fun _ _ h => h) (gz_in 132 (by decide +kernel) rfl) (by decide) (by decide) (Nat.le_of_ble_eq_true rfl) (by rw [hRc]; exact Nat.le_of_ble_eq_true rfl) (by rw [hRs]; exact Nat.le_of_ble_eq_true rfl) (fun cA hc H h => by subst hc; exact h) dX6_init_31 ?_
  refine gc_put X rfl (Nat.le_of_ble_eq_true rfl) rfl gw_X6 tyX6 tyX6_ok nmX6 (j := 2) (ty := (.array .int)) (by decide) rfl (gz_in 354 (by decide +kernel) rfl) (by decide +kernel) rfl rfl (Nat.le_of_ble_eq_true rfl) dX6_init_33 ?_
  show gc_At x 6 gc_codes6 q 36 _ _ [.ref (q + 1), .ref (q + 27), .ref (q + 53), .int 0, .int 0] 54 53 1275
  refine gc_aload_n X dX6_init_36 0 rfl rfl ?_
  refine gc_iconst 0 X dX6_init_37 (by decide) ?_
  refine gc_put X rfl (Nat.le_of_ble_eq_true rfl) rfl gw_X6 tyX6 tyX6_ok nmX6 (j := 3) (ty := .int) (by decide) rfl (gz_in 355 (by decide +kernel) rfl) (by decide +kernel) rfl rfl (Nat.le_of_ble_eq_true rfl) dX6_init_38 ?_
  show gc_At x 6 gc_codes6 q 41 _ _ [.ref (q + 1), .ref (q + 27), .ref (q + 53), .int 0, .int 0] 54 53 1275
  refine gc_aload_n X dX6_init_41 0 rfl rfl ?_
  refine gc_iconst 0 X dX6_init_42 (by decide) ?_
  refine gc_put X rfl (Nat.le_of_ble_eq_true rfl) rfl gw_X6 tyX6 tyX6_ok nmX6 (j := 4) (ty := .int) (by decide) rfl (gz_in 357 (by decide +kernel) rfl) (by decide +kernel) rfl rfl (Nat.le_of_ble_eq_true rfl) dX6_init_43 ?_
  show gc_At x 6 gc_codes6 q 46 _ _ [.ref (q + 1), .ref (q + 27), .ref (q + 53), .int 0, .int 0] 54 53 1275
  exact hE _ _ _ (fun _ => rfl) dX6_init_46

def gc_codes8 : List Nat := [20, 21, 21, 21]
theorem gc_dflt8 : ∀ j, j < 4 → defaultValue (tyX8 j) = vp_V [.null, .null, .null, .int 0] j
  | 0, _ => rfl
  | 1, _ => rfl
  | 2, _ => rfl
  | 3, _ => rfl
  | j + 4, h => by omega
set_option maxRecDepth 100000 in
theorem gc_init8 {l : Launch} : gc_C l yX8_init cX8_init 1 1 8 gc_codes8 [.null, .null, .null, .int 0] 3 3072 := by
  refine gc_of (by decide +kernel) rfl (by decide) (fun x q X hRc hRs hE => ?_)
  refine gc_aload_n X dX8_init_0 0 rfl rfl ?_
  refine gc_objInit X (by decide) (gz_in 375 (by decide +kernel) rfl) (gz_in 112 (by decide +kernel) rfl) (gz_in 113 (by decide +kernel) rfl) (Nat.le_of_ble_eq_true rfl) dX8_init_1 ?_
  refine gc_aload_n X dX8_init_4 0 rfl rfl ?_
  refine gc_sipush 1024 X dX8_init_5 (by decide) ?_
  refine gc_newa (N := 1024) (t := 0) (ty := .int) X (Nat.le_of_ble_eq_true rfl) rfl rfl (fun _ _ h => h) (gz_in 132 (by decide +kernel) rfl) (by decide) (by decide) (Nat.le_of_ble_eq_true rfl) (by rw [hRc]; exact Nat.le_of_ble_eq_true rfl) (by rw [hRs]; exact Nat.le_of_ble_eq_true rfl) (fun cA hc H h => by subst hc; exact h) dX8_init_8 ?_
  refine gc_put X rfl (Nat.le_of_ble_eq_true rfl) rfl gw_X8 tyX8 tyX8_ok nmX8 (j := 0) (ty := (.array .int)) (by decide) rfl (gz_in 376 (by decide +kernel) rfl) (by decide +kernel) rfl rfl (Nat.le_of_ble_eq_true rfl) dX8_init_10 ?_
  show gc_At x 8 gc_codes8 q 13 _ _ [.ref (q + 1), .null, .null, .int 0] 2 1 1024
  refine gc_aload_n X dX8_init_13 0 rfl rfl ?_
  refine gc_sipush 1024 X dX8_init_14 (by decide) ?_
  refine gc_newa (N := 1024) (t := 0) (ty := .int) X (Nat.le_of_ble_eq_true rfl) rfl rfl (fun _ _ h => h) (gz_in 132 (by decide +kernel) rfl) (by decide) (by decide) (Nat.le_of_ble_eq_true rfl) (by rw [hRc]; exact Nat.le_of_ble_eq_true rfl) (by rw [hRs]; exact Nat.le_of_ble_eq_true rfl) (fun cA hc H h => by subst hc; exact h) dX8_init_17 ?_
  refine gc_put X rfl (Nat.le_of_ble_eq_true rfl) rfl gw_X8 tyX8 tyX8_ok nmX8 (j := 1) (ty := (.array .int)) (by decide) rfl (gz_in 378 (by decide +kernel) rfl) (by decide +kernel) rfl rfl (Nat.le_of_ble_eq_true rfl) dX8_init_19 ?_
  show gc_At x 8 gc_codes8 q 22 _ _ [.ref (q + 1), .ref (q + 2), .null, .int 0] 3 2 2048
  refine gc_aload_n X dX8_init_22 0 rfl rfl ?_
  refine gc_sipush 1024 X dX8_init_23 (by decide) ?_
  refine gc_newa (N := 1024) (t := 0) (ty := .int) X (Nat.le_of_ble_eq_true rfl) rfl rfl (fun _ _ h => h) (gz_in 132 (by decide +kernel) rfl) (by decide) (by decide) (Nat.le_of_ble_eq_true rfl) (by rw [hRc]; exact Nat.le_of_ble_eq_true rfl) (by rw [hRs]; exact Nat.le_of_ble_eq_true rfl) (fun cA hc H h => by subst hc; exact h) dX8_init_26 ?_
  refine gc_put X rfl (Nat.le_of_ble_eq_true rfl) rfl gw_X8 tyX8 tyX8_ok nmX8 (j := 2) (ty := (.array .int)) (by decide) rfl (gz_in 379 (by decide +kernel) rfl) (by decide +kernel) rfl rfl (Nat.le_of_ble_eq_true rfl) dX8_init_28 ?_
  show gc_At x 8 gc_codes8 q 31 _ _ [.ref (q + 1), .ref (q + 2), .ref (q + 3), .int 0] 4 3 3072
  refine gc_aload_n X dX8_init_31 0 rfl rfl ?_
  refine gc_iconst 0 X dX8_init_32 (by decide) ?_
  refine gc_put X rfl (Nat.le_of_ble_eq_true rfl) rfl gw_X8 tyX8 tyX8_ok nmX8 (j := 3) (ty := .int) (by decide) rfl (gz_in 381 (by decide +kernel) rfl) (by decide +kernel) rfl rfl (Nat.le_of_ble_eq_true rfl) dX8_init_33 ?_
  show gc_At x 8 gc_codes8 q 36 _ _ [.ref (q + 1), .ref (q + 2), .ref (q + 3), .int 0] 4 3 3072
  exact hE _ _ _ (fun _ => rfl) dX8_init_36

def gc_codes9 : List Nat := [22, 19, 19, 19]
theorem gc_dflt9 : ∀ j, j < 3 → defaultValue (tyX9 j) = vp_V [.null, .null, .null] j
  | 0, _ => rfl
  | 1, _ => rfl
  | 2, _ => rfl
  | j + 3, h => by omega
set_option maxRecDepth 100000 in
theorem gc_init9 {l : Launch} : gc_C l yX9_init cX9_init 1 1 9 gc_codes9 [.null, .null, .null] 3 75 := by
  refine gc_of (by decide +kernel) rfl (by decide) (fun x q X hRc hRs hE => ?_)
  refine gc_aload_n X dX9_init_0 0 rfl rfl ?_
  refine gc_objInit X (by decide) (gz_in 397 (by decide +kernel) rfl) (gz_in 112 (by decide +kernel) rfl) (gz_in 113 (by decide +kernel) rfl) (Nat.le_of_ble_eq_true rfl) dX9_init_1 ?_
  refine gc_aload_n X dX9_init_4 0 rfl rfl ?_
  refine gc_bipush 25 X dX9_init_5 (by decide) ?_
  refine gc_newa (N := 25) (t := 0) (ty := .int) X (Nat.le_of_ble_eq_true rfl) rfl rfl (fun _ _ h => h) (gz_in 132 (by decide +kernel) rfl) (by decide) (by decide) (Nat.le_of_ble_eq_true rfl) (by rw [hRc]; exact Nat.le_of_ble_eq_true rfl) (by rw [hRs]; exact Nat.le_of_ble_eq_true rfl) (fun cA hc H h => by subst hc; exact h) dX9_init_7 ?_
  refine gc_put X rfl (Nat.le_of_ble_eq_true rfl) rfl gw_X9 tyX9 tyX9_ok nmX9 (j := 0) (ty := (.array .int)) (by decide) rfl (gz_in 398 (by decide +kernel) rfl) (by decide +kernel) rfl rfl (Nat.le_of_ble_eq_true rfl) dX9_init_9 ?_
  show gc_At x 9 gc_codes9 q 12 _ _ [.ref (q + 1), .null, .null] 2 1 25
  refine gc_aload_n X dX9_init_12 0 rfl rfl ?_
  refine gc_bipush 25 X dX9_init_13 (by decide) ?_
  refine gc_newa (N := 25) (t := 0) (ty := .int) X (Nat.le_of_ble_eq_true rfl) rfl rfl (fun _ _ h => h) (gz_in 132 (by decide +kernel) rfl) (by decide) (by decide) (Nat.le_of_ble_eq_true rfl) (by rw [hRc]; exact Nat.le_of_ble_eq_true rfl) (by rw [hRs]; exact Nat.le_of_ble_eq_true rfl) (fun cA hc H h => by subst hc; exact h) dX9_init_15 ?_
  refine gc_put X rfl (Nat.le_of_ble_eq_true rfl) rfl gw_X9 tyX9 tyX9_ok nmX9 (j := 1) (ty := (.array .int)) (by decide) rfl (gz_in 399 (by decide +kernel) rfl) (by decide +kernel) rfl rfl (Nat.le_of_ble_eq_true rfl) dX9_init_17 ?_
  show gc_At x 9 gc_codes9 q 20 _ _ [.ref (q + 1), .ref (q + 2), .null] 3 2 50
  refine gc_aload_n X dX9_init_20 0 rfl rfl ?_
  refine gc_bipush 25 X dX9_init_21 (by decide) ?_
  refine gc_newa (N := 25) (t := 0) (ty := .int) X (Nat.le_of_ble_eq_true rfl) rfl rfl (fun _ _ h => h) (gz_in 132 (by decide +kernel) rfl) (by decide) (by decide) (Nat.le_of_ble_eq_true rfl) (by rw [hRc]; exact Nat.le_of_ble_eq_true rfl) (by rw [hRs]; exact Nat.le_of_ble_eq_true rfl) (fun cA hc H h => by subst hc; exact h) dX9_init_23 ?_
  refine gc_put X rfl (Nat.le_of_ble_eq_true rfl) rfl gw_X9 tyX9 tyX9_ok nmX9 (j := 2) (ty := (.array .int)) (by decide) rfl (gz_in 401 (by decide +kernel) rfl) (by decide +kernel) rfl rfl (Nat.le_of_ble_eq_true rfl) dX9_init_25 ?_
  show gc_At x 9 gc_codes9 q 28 _ _ [.ref (q + 1), .ref (q + 2), .ref (q + 3)] 4 3 75
  exact hE _ _ _ (fun _ => rfl) dX9_init_28

def gc_codes4 : List Nat := [23, 24]
theorem gc_dflt4 : ∀ j, j < 3 → defaultValue (tyX4 j) = vp_V [.null, .int 0, .int 0] j
  | 0, _ => rfl
  | 1, _ => rfl
  | 2, _ => rfl
  | j + 3, h => by omega
set_option maxRecDepth 100000 in
theorem gc_init4 {l : Launch} : gc_C l yX4_init cX4_init 1 1 4 gc_codes4 [.null, .int 0, .int 0] 1 10 := by
  refine gc_of (by decide +kernel) rfl (by decide) (fun x q X hRc hRs hE => ?_)
  refine gc_aload_n X dX4_init_0 0 rfl rfl ?_
  refine gc_objInit X (by decide) (gz_in 415 (by decide +kernel) rfl) (gz_in 112 (by decide +kernel) rfl) (gz_in 113 (by decide +kernel) rfl) (Nat.le_of_ble_eq_true rfl) dX4_init_1 ?_
  refine gc_aload_n X dX4_init_4 0 rfl rfl ?_
  refine gc_bipush 10 X dX4_init_5 (by decide) ?_
  refine gc_anew (N := 10) (b := 0) X (Nat.le_of_ble_eq_true rfl) (gz_in 416 (by decide +kernel) rfl) (by decide) (by decide) (Nat.le_of_ble_eq_true rfl) (by rw [hRc]; exact Nat.le_of_ble_eq_true rfl) (by rw [hRs]; exact Nat.le_of_ble_eq_true rfl) (fun _ => rfl) dX4_init_7 ?_
  refine gc_put X rfl (Nat.le_of_ble_eq_true rfl) rfl gw_X4 tyX4 tyX4_ok nmX4 (j := 0) (ty := (.array (.object "LongestTokens$Book"))) (by decide) rfl (gz_in 418 (by decide +kernel) rfl) (by decide +kernel) rfl rfl (Nat.le_of_ble_eq_true rfl) dX4_init_10 ?_
  show gc_At x 4 gc_codes4 q 13 _ _ [.ref (q + 1), .int 0, .int 0] 2 1 10
  refine gc_aload_n X dX4_init_13 0 rfl rfl ?_
  refine gc_iconst 0 X dX4_init_14 (by decide) ?_
  refine gc_put X rfl (Nat.le_of_ble_eq_true rfl) rfl gw_X4 tyX4 tyX4_ok nmX4 (j := 1) (ty := .int) (by decide) rfl (gz_in 419 (by decide +kernel) rfl) (by decide +kernel) rfl rfl (Nat.le_of_ble_eq_true rfl) dX4_init_15 ?_
  show gc_At x 4 gc_codes4 q 18 _ _ [.ref (q + 1), .int 0, .int 0] 2 1 10
  refine gc_aload_n X dX4_init_18 0 rfl rfl ?_
  refine gc_iconst 0 X dX4_init_19 (by decide) ?_
  refine gc_put X rfl (Nat.le_of_ble_eq_true rfl) rfl gw_X4 tyX4 tyX4_ok nmX4 (j := 2) (ty := .int) (by decide) rfl (gz_in 420 (by decide +kernel) rfl) (by decide +kernel) rfl rfl (Nat.le_of_ble_eq_true rfl) dX4_init_20 ?_
  show gc_At x 4 gc_codes4 q 23 _ _ [.ref (q + 1), .int 0, .int 0] 2 1 10
  exact hE _ _ _ (fun _ => rfl) dX4_init_23

def gc_codes11 : List Nat := [0, 1, 2, 3, 4, 5, 5, 6, 2, 7, 8, 9, 10, 10, 10, 10, 10, 11, 12, 12, 13, 14, 14, 14, 14, 15, 10, 10, 10, 10, 16, 8, 8, 8, 8, 8, 8, 8, 8, 9, 10, 10, 10, 10, 10, 11, 12, 12, 13, 14, 14, 14, 14, 15, 10, 10, 10, 10, 7, 8, 16, 8, 8, 8, 8, 8, 8, 8, 8, 17, 18, 8, 8, 8, 8, 8, 8, 8, 8, 8, 8, 8, 8, 8, 8, 8, 8, 8, 8, 8, 8, 8, 8, 8, 8, 8, 18, 8, 8, 8, 8, 8, 8, 8, 8, 8, 8, 8, 8, 8, 8, 8, 8, 8, 8, 8, 8, 8, 8, 8, 8, 8, 19, 20, 21, 21, 21, 22, 19, 19, 19, 23, 24, 25, 26]
theorem gc_dflt11 : ∀ j, j < 16 → defaultValue (tyX11 j) = vp_V [.null, .null, .null, .null, .null, .null, .null, .null, .null, .null, .null, .null, .null, .null, .null, .int 0] j
  | 0, _ => rfl
  | 1, _ => rfl
  | 2, _ => rfl
  | 3, _ => rfl
  | 4, _ => rfl
  | 5, _ => rfl
  | 6, _ => rfl
  | 7, _ => rfl
  | 8, _ => rfl
  | 9, _ => rfl
  | 10, _ => rfl
  | 11, _ => rfl
  | 12, _ => rfl
  | 13, _ => rfl
  | 14, _ => rfl
  | 15, _ => rfl
  | j + 16, h => by omega
set_option maxRecDepth 100000 in
theorem gc_init11 {l : Launch} : gc_C l yX11_init cX11_init 1 3 11 gc_codes11 [.null, .null, .null, .null, .null, .null, .null, .null, .null, .null, .null, .null, .null, .null, .null, .int 0] 134 6422 := by
  refine gc_of (by decide +kernel) rfl (by decide) (fun x q X hRc hRs hE => ?_)
  refine gc_aload_n X dX11_init_0 0 rfl rfl ?_
  refine gc_objInit X (by decide) (gz_in 111 (by decide +kernel) rfl) (gz_in 112 (by decide +kernel) rfl) (gz_in 113 (by decide +kernel) rfl) (Nat.le_of_ble_eq_true rfl) dX11_init_1 ?_
  refine gc_aload_n X dX11_init_4 0 rfl rfl ?_
  refine gc_newC (cj := 10) (N := 2) (fs2 := [.null, .int 0]) (codes2 := gc_codes10) tyX10 X gc_init10 (Nat.le_of_ble_eq_true rfl) gw_X10 tyX10_ok (gz_in 114 (by decide +kernel) rfl) (gz_in 115 (by decide +kernel) rfl) (gz_in 86 (by decide +kernel) rfl) rfl gc_dflt10 (Or.inr ⟨"LongestTokens", gz_inN 116 (by decide +kernel) rfl⟩) (gz_in 117 (by decide +kernel) rfl) (gz_in 86 (by decide +kernel) rfl) (gz_in 118 (by decide +kernel) rfl) rfl (by decide +kernel) (by decide) (by decide) (by rw [hRc]; exact Nat.le_of_ble_eq_true rfl) (by rw [hRs]; exact Nat.le_of_ble_eq_true rfl) (by decide +kernel) (Nat.le_of_ble_eq_true rfl) dX11_init_5 dX11_init_8 dX11_init_9 ?_
  refine gc_put X rfl (Nat.le_of_ble_eq_true rfl) rfl gw_X11 tyX11 tyX11_ok nmX11 (j := 0) (ty := (.object "LongestTokens$Text")) (by decide) rfl (gz_in 429 (by decide +kernel) rfl) (by decide +kernel) rfl rfl (Nat.le_of_ble_eq_true rfl) dX11_init_12 ?_
  show gc_At x 11 gc_codes11 q 15 _ _ [.ref (q + 1), .null, .null, .null, .null, .null, .null, .null, .null, .null, .null, .null, .null, .null, .null, .int 0] 3 2 82
  refine gc_aload_n X dX11_init_15 0 rfl rfl ?_
  refine gc_newC (cj := 3) (N := 2) (fs2 := [.int 0, .int 0]) (codes2 := gc_codes3) tyX3 X gc_init3 (Nat.le_of_ble_eq_true rfl) gw_X3 tyX3_ok (gz_in 133 (by decide +kernel) rfl) (gz_in 134 (by decide +kernel) rfl) (gz_in 87 (by decide +kernel) rfl) rfl gc_dflt3 (Or.inr ⟨"LongestTokens", gz_inN 135 (by decide +kernel) rfl⟩) (gz_in 136 (by decide +kernel) rfl) (gz_in 87 (by decide +kernel) rfl) (gz_in 137 (by decide +kernel) rfl) rfl (by decide +kernel) (by decide) (by decide) (by rw [hRc]; exact Nat.le_of_ble_eq_true rfl) (by rw [hRs]; exact Nat.le_of_ble_eq_true rfl) (by decide +kernel) (Nat.le_of_ble_eq_true rfl) dX11_init_16 dX11_init_19 dX11_init_20 ?_
  refine gc_put X rfl (Nat.le_of_ble_eq_true rfl) rfl gw_X11 tyX11 tyX11_ok nmX11 (j := 1) (ty := (.object "LongestTokens$Grammar")) (by decide) rfl (gz_in 430 (by decide +kernel) rfl) (by decide +kernel) rfl rfl (Nat.le_of_ble_eq_true rfl) dX11_init_23 ?_
  show gc_At x 11 gc_codes11 q 26 _ _ [.ref (q + 1), .ref (q + 3), .null, .null, .null, .null, .null, .null, .null, .null, .null, .null, .null, .null, .null, .int 0] 4 3 84
  refine gc_aload_n X dX11_init_26 0 rfl rfl ?_
  refine gc_newC (cj := 1) (N := 6) (fs2 := [.null, .null, .int 0, .int 0, .int 0, .int 0]) (codes2 := gc_codes1) tyX1 X gc_init1 (Nat.le_of_ble_eq_true rfl) gw_X1 tyX1_ok (gz_in 146 (by decide +kernel) rfl) (gz_in 147 (by decide +kernel) rfl) (gz_in 88 (by decide +kernel) rfl) rfl gc_dflt1 (Or.inr ⟨"LongestTokens", gz_inN 148 (by decide +kernel) rfl⟩) (gz_in 149 (by decide +kernel) rfl) (gz_in 88 (by decide +kernel) rfl) (gz_in 150 (by decide +kernel) rfl) rfl (by decide +kernel) (by decide) (by decide) (by rw [hRc]; exact Nat.le_of_ble_eq_true rfl) (by rw [hRs]; exact Nat.le_of_ble_eq_true rfl) (by decide +kernel) (Nat.le_of_ble_eq_true rfl) dX11_init_27 dX11_init_30 dX11_init_31 ?_
  refine gc_put X rfl (Nat.le_of_ble_eq_true rfl) rfl gw_X11 tyX11 tyX11_ok nmX11 (j := 2) (ty := (.object "LongestTokens$Builder")) (by decide) rfl (gz_in 431 (by decide +kernel) rfl) (by decide +kernel) rfl rfl (Nat.le_of_ble_eq_true rfl) dX11_init_34 ?_
  show gc_At x 11 gc_codes11 q 37 _ _ [.ref (q + 1), .ref (q + 3), .ref (q + 4), .null, .null, .null, .null, .null, .null, .null, .null, .null, .null, .null, .null, .int 0] 7 6 104
  refine gc_aload_n X dX11_init_37 0 rfl rfl ?_
  refine gc_newC (cj := 0) (N := 3) (fs2 := [.null, .int 0, .null]) (codes2 := gc_codes0) tyX0 X gc_init0 (Nat.le_of_ble_eq_true rfl) gw_X0 tyX0_ok (gz_in 171 (by decide +kernel) rfl) (gz_in 172 (by decide +kernel) rfl) (gz_in 89 (by decide +kernel) rfl) rfl gc_dflt0 (Or.inr ⟨"LongestTokens", gz_inN 173 (by decide +kernel) rfl⟩) (gz_in 174 (by decide +kernel) rfl) (gz_in 89 (by decide +kernel) rfl) (gz_in 175 (by decide +kernel) rfl) rfl (by decide +kernel) (by decide) (by decide) (by rw [hRc]; exact Nat.le_of_ble_eq_true rfl) (by rw [hRs]; exact Nat.le_of_ble_eq_true rfl) (by decide +kernel) (Nat.le_of_ble_eq_true rfl) dX11_init_38 dX11_init_41 dX11_init_42 ?_
  refine gc_put X rfl (Nat.le_of_ble_eq_true rfl) rfl gw_X11 tyX11 tyX11_ok nmX11 (j := 3) (ty := (.object "LongestTokens$Book")) (by decide) rfl (gz_in 432 (by decide +kernel) rfl) (by decide +kernel) rfl rfl (Nat.le_of_ble_eq_true rfl) dX11_init_45 ?_
  show gc_At x 11 gc_codes11 q 48 _ _ [.ref (q + 1), .ref (q + 3), .ref (q + 4), .ref (q + 7), .null, .null, .null, .null, .null, .null, .null, .null, .null, .null, .null, .int 0] 11 10 213
  refine gc_aload_n X dX11_init_48 0 rfl rfl ?_
  refine gc_newC (cj := 7) (N := 11) (fs2 := [.int 0, .null, .null, .null, .null, .null, .null, .null, .null, .null, .null]) (codes2 := gc_codes7) tyX7 X gc_init7 (Nat.le_of_ble_eq_true rfl) gw_X7 tyX7_ok (gz_in 206 (by decide +kernel) rfl) (gz_in 207 (by decide +kernel) rfl) (gz_in 91 (by decide +kernel) rfl) rfl gc_dflt7 (Or.inr ⟨"LongestTokens", gz_inN 208 (by decide +kernel) rfl⟩) (gz_in 209 (by decide +kernel) rfl) (gz_in 91 (by decide +kernel) rfl) (gz_in 210 (by decide +kernel) rfl) rfl (by decide +kernel) (by decide) (by decide) (by rw [hRc]; exact Nat.le_of_ble_eq_true rfl) (by rw [hRs]; exact Nat.le_of_ble_eq_true rfl) (by decide +kernel) (Nat.le_of_ble_eq_true rfl) dX11_init_49 dX11_init_52 dX11_init_53 ?_
  refine gc_put X rfl (Nat.le_of_ble_eq_true rfl) rfl gw_X11 tyX11 tyX11_ok nmX11 (j := 4) (ty := (.object "LongestTokens$Rules")) (by decide) rfl (gz_in 433 (by decide +kernel) rfl) (by decide +kernel) rfl rfl (Nat.le_of_ble_eq_true rfl) dX11_init_56 ?_
  show gc_At x 11 gc_codes11 q 59 _ _ [.ref (q + 1), .ref (q + 3), .ref (q + 4), .ref (q + 7), .ref (q + 11), .null, .null, .null, .null, .null, .null, .null, .null, .null, .null, .int 0] 30 29 360
  refine gc_aload_n X dX11_init_59 0 rfl rfl ?_
  refine gc_newC (cj := 2) (N := 16) (fs2 := [.int 0, .int 0, .null, .null, .null, .null, .null, .null, .null, .null, .int 0, .int 0, .int 0, .int 0, .int 0, .int 0]) (codes2 := gc_codes2) tyX2 X gc_init2 (Nat.le_of_ble_eq_true rfl) gw_X2 tyX2_ok (gz_in 270 (by decide +kernel) rfl) (gz_in 271 (by decide +kernel) rfl) (gz_in 92 (by decide +kernel) rfl) rfl gc_dflt2 (Or.inr ⟨"LongestTokens", gz_inN 272 (by decide +kernel) rfl⟩) (gz_in 273 (by decide +kernel) rfl) (gz_in 92 (by decide +kernel) rfl) (gz_in 274 (by decide +kernel) rfl) rfl (by decide +kernel) (by decide) (by decide) (by rw [hRc]; exact Nat.le_of_ble_eq_true rfl) (by rw [hRs]; exact Nat.le_of_ble_eq_true rfl) (by decide +kernel) (Nat.le_of_ble_eq_true rfl) dX11_init_60 dX11_init_63 dX11_init_64 ?_
  refine gc_put X rfl (Nat.le_of_ble_eq_true rfl) rfl gw_X11 tyX11 tyX11_ok nmX11 (j := 5) (ty := (.object "LongestTokens$Cutting")) (by decide) rfl (gz_in 434 (by decide +kernel) rfl) (by decide +kernel) rfl rfl (Nat.le_of_ble_eq_true rfl) dX11_init_67 ?_
  show gc_At x 11 gc_codes11 q 70 _ _ [.ref (q + 1), .ref (q + 3), .ref (q + 4), .ref (q + 7), .ref (q + 11), .ref (q + 30), .null, .null, .null, .null, .null, .null, .null, .null, .null, .int 0] 39 38 568
  refine gc_aload_n X dX11_init_70 0 rfl rfl ?_
  refine gc_newC (cj := 7) (N := 11) (fs2 := [.int 0, .null, .null, .null, .null, .null, .null, .null, .null, .null, .null]) (codes2 := gc_codes7) tyX7 X gc_init7 (Nat.le_of_ble_eq_true rfl) gw_X7 tyX7_ok (gz_in 206 (by decide +kernel) rfl) (gz_in 207 (by decide +kernel) rfl) (gz_in 91 (by decide +kernel) rfl) rfl gc_dflt7 (Or.inr ⟨"LongestTokens", gz_inN 208 (by decide +kernel) rfl⟩) (gz_in 209 (by decide +kernel) rfl) (gz_in 91 (by decide +kernel) rfl) (gz_in 210 (by decide +kernel) rfl) rfl (by decide +kernel) (by decide) (by decide) (by rw [hRc]; exact Nat.le_of_ble_eq_true rfl) (by rw [hRs]; exact Nat.le_of_ble_eq_true rfl) (by decide +kernel) (Nat.le_of_ble_eq_true rfl) dX11_init_71 dX11_init_74 dX11_init_75 ?_
  refine gc_put X rfl (Nat.le_of_ble_eq_true rfl) rfl gw_X11 tyX11 tyX11_ok nmX11 (j := 6) (ty := (.object "LongestTokens$Rules")) (by decide) rfl (gz_in 435 (by decide +kernel) rfl) (by decide +kernel) rfl rfl (Nat.le_of_ble_eq_true rfl) dX11_init_78 ?_
  show gc_At x 11 gc_codes11 q 81 _ _ [.ref (q + 1), .ref (q + 3), .ref (q + 4), .ref (q + 7), .ref (q + 11), .ref (q + 30), .ref (q + 39), .null, .null, .null, .null, .null, .null, .null, .null, .int 0] 58 57 715
  refine gc_aload_n X dX11_init_81 0 rfl rfl ?_
  refine gc_newC (cj := 5) (N := 2) (fs2 := [.null, .int 0]) (codes2 := gc_codes5) tyX5 X gc_init5 (Nat.le_of_ble_eq_true rfl) gw_X5 tyX5_ok (gz_in 343 (by decide +kernel) rfl) (gz_in 178 (by decide +kernel) rfl) (gz_in 90 (by decide +kernel) rfl) rfl gc_dflt5 (Or.inr ⟨"LongestTokens", gz_inN 344 (by decide +kernel) rfl⟩) (gz_in 180 (by decide +kernel) rfl) (gz_in 90 (by decide +kernel) rfl) (gz_in 181 (by decide +kernel) rfl) rfl (by decide +kernel) (by decide) (by decide) (by rw [hRc]; exact Nat.le_of_ble_eq_true rfl) (by rw [hRs]; exact Nat.le_of_ble_eq_true rfl) (by decide +kernel) (Nat.le_of_ble_eq_true rfl) dX11_init_82 dX11_init_85 dX11_init_86 ?_
  refine gc_put X rfl (Nat.le_of_ble_eq_true rfl) rfl gw_X11 tyX11 tyX11_ok nmX11 (j := 7) (ty := (.object "LongestTokens$Line")) (by decide) rfl (gz_in 436 (by decide +kernel) rfl) (by decide +kernel) rfl rfl (Nat.le_of_ble_eq_true rfl) dX11_init_89 ?_
  show gc_At x 11 gc_codes11 q 92 _ _ [.ref (q + 1), .ref (q + 3), .ref (q + 4), .ref (q + 7), .ref (q + 11), .ref (q + 30), .ref (q + 39), .ref (q + 58), .null, .null, .null, .null, .null, .null, .null, .int 0] 60 59 741
  refine gc_aload_n X dX11_init_92 0 rfl rfl ?_
  refine gc_newC (cj := 2) (N := 16) (fs2 := [.int 0, .int 0, .null, .null, .null, .null, .null, .null, .null, .null, .int 0, .int 0, .int 0, .int 0, .int 0, .int 0]) (codes2 := gc_codes2) tyX2 X gc_init2 (Nat.le_of_ble_eq_true rfl) gw_X2 tyX2_ok (gz_in 270 (by decide +kernel) rfl) (gz_in 271 (by decide +kernel) rfl) (gz_in 92 (by decide +kernel) rfl) rfl gc_dflt2 (Or.inr ⟨"LongestTokens", gz_inN 272 (by decide +kernel) rfl⟩) (gz_in 273 (by decide +kernel) rfl) (gz_in 92 (by decide +kernel) rfl) (gz_in 274 (by decide +kernel) rfl) rfl (by decide +kernel) (by decide) (by decide) (by rw [hRc]; exact Nat.le_of_ble_eq_true rfl) (by rw [hRs]; exact Nat.le_of_ble_eq_true rfl) (by decide +kernel) (Nat.le_of_ble_eq_true rfl) dX11_init_93 dX11_init_96 dX11_init_97 ?_
  refine gc_put X rfl (Nat.le_of_ble_eq_true rfl) rfl gw_X11 tyX11 tyX11_ok nmX11 (j := 8) (ty := (.object "LongestTokens$Cutting")) (by decide) rfl (gz_in 437 (by decide +kernel) rfl) (by decide +kernel) rfl rfl (Nat.le_of_ble_eq_true rfl) dX11_init_100 ?_
  show gc_At x 11 gc_codes11 q 103 _ _ [.ref (q + 1), .ref (q + 3), .ref (q + 4), .ref (q + 7), .ref (q + 11), .ref (q + 30), .ref (q + 39), .ref (q + 58), .ref (q + 60), .null, .null, .null, .null, .null, .null, .int 0] 69 68 949
  refine gc_aload_n X dX11_init_103 0 rfl rfl ?_
  refine gc_newC (cj := 6) (N := 5) (fs2 := [.null, .null, .null, .int 0, .int 0]) (codes2 := gc_codes6) tyX6 X gc_init6 (Nat.le_of_ble_eq_true rfl) gw_X6 tyX6_ok (gz_in 345 (by decide +kernel) rfl) (gz_in 346 (by decide +kernel) rfl) (gz_in 93 (by decide +kernel) rfl) rfl gc_dflt6 (Or.inr ⟨"LongestTokens", gz_inN 347 (by decide +kernel) rfl⟩) (gz_in 348 (by decide +kernel) rfl) (gz_in 93 (by decide +kernel) rfl) (gz_in 349 (by decide +kernel) rfl) rfl (by decide +kernel) (by decide) (by decide) (by rw [hRc]; exact Nat.le_of_ble_eq_true rfl) (by rw [hRs]; exact Nat.le_of_ble_eq_true rfl) (by decide +kernel) (Nat.le_of_ble_eq_true rfl) dX11_init_104 dX11_init_107 dX11_init_108 ?_
  refine gc_put X rfl (Nat.le_of_ble_eq_true rfl) rfl gw_X11 tyX11 tyX11_ok nmX11 (j := 9) (ty := (.object "LongestTokens$Pairs")) (by decide) rfl (gz_in 438 (by decide +kernel) rfl) (by decide +kernel) rfl rfl (Nat.le_of_ble_eq_true rfl) dX11_init_111 ?_
  show gc_At x 11 gc_codes11 q 114 _ _ [.ref (q + 1), .ref (q + 3), .ref (q + 4), .ref (q + 7), .ref (q + 11), .ref (q + 30), .ref (q + 39), .ref (q + 58), .ref (q + 60), .ref (q + 69), .null, .null, .null, .null, .null, .int 0] 123 122 2229
  refine gc_aload_n X dX11_init_114 0 rfl rfl ?_
  refine gc_newC (cj := 8) (N := 4) (fs2 := [.null, .null, .null, .int 0]) (codes2 := gc_codes8) tyX8 X gc_init8 (Nat.le_of_ble_eq_true rfl) gw_X8 tyX8_ok (gz_in 370 (by decide +kernel) rfl) (gz_in 371 (by decide +kernel) rfl) (gz_in 94 (by decide +kernel) rfl) rfl gc_dflt8 (Or.inr ⟨"LongestTokens", gz_inN 372 (by decide +kernel) rfl⟩) (gz_in 373 (by decide +kernel) rfl) (gz_in 94 (by decide +kernel) rfl) (gz_in 374 (by decide +kernel) rfl) rfl (by decide +kernel) (by decide) (by decide) (by rw [hRc]; exact Nat.le_of_ble_eq_true rfl) (by rw [hRs]; exact Nat.le_of_ble_eq_true rfl) (by decide +kernel) (Nat.le_of_ble_eq_true rfl) dX11_init_115 dX11_init_118 dX11_init_119 ?_
  refine gc_put X rfl (Nat.le_of_ble_eq_true rfl) rfl gw_X11 tyX11 tyX11_ok nmX11 (j := 10) (ty := (.object "LongestTokens$Search")) (by decide) rfl (gz_in 439 (by decide +kernel) rfl) (by decide +kernel) rfl rfl (Nat.le_of_ble_eq_true rfl) dX11_init_122 ?_
  show gc_At x 11 gc_codes11 q 125 _ _ [.ref (q + 1), .ref (q + 3), .ref (q + 4), .ref (q + 7), .ref (q + 11), .ref (q + 30), .ref (q + 39), .ref (q + 58), .ref (q + 60), .ref (q + 69), .ref (q + 123), .null, .null, .null, .null, .int 0] 127 126 5305
  refine gc_aload_n X dX11_init_125 0 rfl rfl ?_
  refine gc_newC (cj := 9) (N := 3) (fs2 := [.null, .null, .null]) (codes2 := gc_codes9) tyX9 X gc_init9 (Nat.le_of_ble_eq_true rfl) gw_X9 tyX9_ok (gz_in 392 (by decide +kernel) rfl) (gz_in 393 (by decide +kernel) rfl) (gz_in 95 (by decide +kernel) rfl) rfl gc_dflt9 (Or.inr ⟨"LongestTokens", gz_inN 394 (by decide +kernel) rfl⟩) (gz_in 395 (by decide +kernel) rfl) (gz_in 95 (by decide +kernel) rfl) (gz_in 396 (by decide +kernel) rfl) rfl (by decide +kernel) (by decide) (by decide) (by rw [hRc]; exact Nat.le_of_ble_eq_true rfl) (by rw [hRs]; exact Nat.le_of_ble_eq_true rfl) (by decide +kernel) (Nat.le_of_ble_eq_true rfl) dX11_init_126 dX11_init_129 dX11_init_130 ?_
  refine gc_put X rfl (Nat.le_of_ble_eq_true rfl) rfl gw_X11 tyX11 tyX11_ok nmX11 (j := 11) (ty := (.object "LongestTokens$Splits")) (by decide) rfl (gz_in 440 (by decide +kernel) rfl) (by decide +kernel) rfl rfl (Nat.le_of_ble_eq_true rfl) dX11_init_133 ?_
  show gc_At x 11 gc_codes11 q 136 _ _ [.ref (q + 1), .ref (q + 3), .ref (q + 4), .ref (q + 7), .ref (q + 11), .ref (q + 30), .ref (q + 39), .ref (q + 58), .ref (q + 60), .ref (q + 69), .ref (q + 123), .ref (q + 127), .null, .null, .null, .int 0] 131 130 5383
  refine gc_aload_n X dX11_init_136 0 rfl rfl ?_
  refine gc_newC (cj := 4) (N := 3) (fs2 := [.null, .int 0, .int 0]) (codes2 := gc_codes4) tyX4 X gc_init4 (Nat.le_of_ble_eq_true rfl) gw_X4 tyX4_ok (gz_in 410 (by decide +kernel) rfl) (gz_in 411 (by decide +kernel) rfl) (gz_in 96 (by decide +kernel) rfl) rfl gc_dflt4 (Or.inr ⟨"LongestTokens", gz_inN 412 (by decide +kernel) rfl⟩) (gz_in 413 (by decide +kernel) rfl) (gz_in 96 (by decide +kernel) rfl) (gz_in 414 (by decide +kernel) rfl) rfl (by decide +kernel) (by decide) (by decide) (by rw [hRc]; exact Nat.le_of_ble_eq_true rfl) (by rw [hRs]; exact Nat.le_of_ble_eq_true rfl) (by decide +kernel) (Nat.le_of_ble_eq_true rfl) dX11_init_137 dX11_init_140 dX11_init_141 ?_
  refine gc_put X rfl (Nat.le_of_ble_eq_true rfl) rfl gw_X11 tyX11 tyX11_ok nmX11 (j := 12) (ty := (.object "LongestTokens$History")) (by decide) rfl (gz_in 441 (by decide +kernel) rfl) (by decide +kernel) rfl rfl (Nat.le_of_ble_eq_true rfl) dX11_init_144 ?_
  show gc_At x 11 gc_codes11 q 147 _ _ [.ref (q + 1), .ref (q + 3), .ref (q + 4), .ref (q + 7), .ref (q + 11), .ref (q + 30), .ref (q + 39), .ref (q + 58), .ref (q + 60), .ref (q + 69), .ref (q + 123), .ref (q + 127), .ref (q + 131), .null, .null, .int 0] 133 132 5396
  refine gc_aload_n X dX11_init_147 0 rfl rfl ?_
  refine gc_iconst 2 X dX11_init_148 (by decide) ?_
  refine gc_anew (N := 2) (b := 10) X (Nat.le_of_ble_eq_true rfl) (gz_in 171 (by decide +kernel) rfl) (by decide) (by decide) (Nat.le_of_ble_eq_true rfl) (by rw [hRc]; exact Nat.le_of_ble_eq_true rfl) (by rw [hRs]; exact Nat.le_of_ble_eq_true rfl) (fun _ => rfl) dX11_init_149 ?_
  refine gc_put X rfl (Nat.le_of_ble_eq_true rfl) rfl gw_X11 tyX11 tyX11_ok nmX11 (j := 13) (ty := (.array (.object "LongestTokens$Book"))) (by decide) rfl (gz_in 442 (by decide +kernel) rfl) (by decide +kernel) rfl rfl (Nat.le_of_ble_eq_true rfl) dX11_init_152 ?_
  show gc_At x 11 gc_codes11 q 155 _ _ [.ref (q + 1), .ref (q + 3), .ref (q + 4), .ref (q + 7), .ref (q + 11), .ref (q + 30), .ref (q + 39), .ref (q + 58), .ref (q + 60), .ref (q + 69), .ref (q + 123), .ref (q + 127), .ref (q + 131), .ref (q + 133), .null, .int 0] 134 133 5398
  refine gc_aload_n X dX11_init_155 0 rfl rfl ?_
  refine gc_sipush 1024 X dX11_init_156 (by decide) ?_
  refine gc_newa (N := 1024) (t := 2) (ty := .long) X (Nat.le_of_ble_eq_true rfl) rfl rfl (fun _ _ h => h) (gz_in 478 (by decide +kernel) rfl) (by decide) (by decide) (Nat.le_of_ble_eq_true rfl) (by rw [hRc]; exact Nat.le_of_ble_eq_true rfl) (by rw [hRs]; exact Nat.le_of_ble_eq_true rfl) (fun cA hc H h => by subst hc; exact h) dX11_init_159 ?_
  refine gc_put X rfl (Nat.le_of_ble_eq_true rfl) rfl gw_X11 tyX11 tyX11_ok nmX11 (j := 14) (ty := (.array .long)) (by decide) rfl (gz_in 443 (by decide +kernel) rfl) (by decide +kernel) rfl rfl (Nat.le_of_ble_eq_true rfl) dX11_init_161 ?_
  show gc_At x 11 gc_codes11 q 164 _ _ [.ref (q + 1), .ref (q + 3), .ref (q + 4), .ref (q + 7), .ref (q + 11), .ref (q + 30), .ref (q + 39), .ref (q + 58), .ref (q + 60), .ref (q + 69), .ref (q + 123), .ref (q + 127), .ref (q + 131), .ref (q + 133), .ref (q + 134), .int 0] 135 134 6422
  refine gc_aload_n X dX11_init_164 0 rfl rfl ?_
  refine gc_iconst 0 X dX11_init_165 (by decide) ?_
  refine gc_put X rfl (Nat.le_of_ble_eq_true rfl) rfl gw_X11 tyX11 tyX11_ok nmX11 (j := 15) (ty := .int) (by decide) rfl (gz_in 444 (by decide +kernel) rfl) (by decide +kernel) rfl rfl (Nat.le_of_ble_eq_true rfl) dX11_init_166 ?_
  show gc_At x 11 gc_codes11 q 169 _ _ [.ref (q + 1), .ref (q + 3), .ref (q + 4), .ref (q + 7), .ref (q + 11), .ref (q + 30), .ref (q + 39), .ref (q + 58), .ref (q + 60), .ref (q + 69), .ref (q + 123), .ref (q + 127), .ref (q + 131), .ref (q + 133), .ref (q + 134), .int 0] 135 134 6422
  exact hE _ _ _ (fun _ => rfl) dX11_init_169

