/-! lines that are changed, on both sides -/
def gp_ins (l : List Nat) (q s : Nat) : List Nat := l.take q ++ s :: l.drop q
def gp_del (l : List Nat) (q : Nat) : List Nat := l.take q ++ l.drop (q + 1)
section
variable {l : List Nat} {q s i : Nat}
theorem gp_ins_len (h : q ≤ l.length) : (gp_ins l q s).length = l.length + 1 := by unfold gp_ins; simp; omega
theorem gp_del_len (h : q < l.length) : (gp_del l q).length = l.length - 1 := by unfold gp_del; simp; omega
theorem gp_ins_D (h : q ≤ l.length) (i : Nat) : (gp_ins l q s).getD i 0 = if i < q then l.getD i 0 else if i = q then s else l.getD (i - 1) 0 := by
  unfold gp_ins
  have ht : (l.take q).length = q := by simp; omega
  by_cases h1 : i < q
  · rw [if_pos h1, List.getD_eq_getElem?_getD, List.getElem?_append_left (by omega), List.getElem?_take, if_pos h1, List.getD_eq_getElem?_getD]
  · rw [if_neg h1, List.getD_eq_getElem?_getD, List.getElem?_append_right (by omega), ht]
    by_cases h2 : i = q
    · rw [if_pos h2, h2, Nat.sub_self]
      rfl
    · rw [if_neg h2]
      obtain ⟨j, rfl⟩ : ∃ j, i = q + (j + 1) := ⟨i - q - 1, by omega⟩
      rw [show q + (j + 1) - q = j + 1 by omega, show q + (j + 1) - 1 = q + j by omega, List.getElem?_cons_succ, List.getElem?_drop, List.getD_eq_getElem?_getD]
theorem gp_del_D (h : q < l.length) (i : Nat) : (gp_del l q).getD i 0 = if i < q then l.getD i 0 else l.getD (i + 1) 0 := by
  unfold gp_del
  have ht : (l.take q).length = q := by simp; omega
  by_cases h1 : i < q
  · rw [if_pos h1, List.getD_eq_getElem?_getD, List.getElem?_append_left (by omega), List.getElem?_take, if_pos h1, List.getD_eq_getElem?_getD]
  · rw [if_neg h1, List.getD_eq_getElem?_getD, List.getElem?_append_right (by omega), ht]
    obtain ⟨j, rfl⟩ : ∃ j, i = q + j := ⟨i - q, by omega⟩
    rw [show q + j - q = j by omega, List.getElem?_drop, List.getD_eq_getElem?_getD, show q + 1 + j = q + j + 1 by omega]
theorem gp_set_D (h : q < l.length) (i : Nat) : (l.set q s).getD i 0 = if i = q then s else l.getD i 0 := by
  by_cases h1 : i = q
  · rw [if_pos h1, h1]
    simp [List.getD, h]
  · rw [if_neg h1]
    simp [List.getD, List.getElem?_set, Ne.symm h1]
end
/-- entries above q go one place on -/
def gp_shd (M : gz_M) (c o q y : Nat) (len : Nat) : gz_M := (fun a i => if a = c ∧ o + y < i ∧ i ≤ o + len then M.1 c (i - 1) else M.1 a i, M.2)
theorem gp_shd_c {M : gz_M} {c o q y len a : Nat} (h : a ≠ c) : (gp_shd M c o q y len).1 a = M.1 a := by
  funext i
  unfold gp_shd
  dsimp only
  rw [if_neg (fun h' => h h'.1)]
theorem gp_shd_i {M : gz_M} {c o q y len i : Nat} : (gp_shd M c o q y len).1 c i = if o + y < i ∧ i ≤ o + len then M.1 c (i - 1) else M.1 c i := by
  unfold gp_shd
  dsimp only
  by_cases h : o + y < i ∧ i ≤ o + len
  · rw [if_pos ⟨rfl, h⟩, if_pos h]
  · rw [if_neg (fun h' => h h'.2), if_neg h]
theorem gp_dnL {β : Type} (f : Nat → Int32 → gz_M → Option β) (K : gz_M → Option β) (M : gz_M) (c o q len : Nat) (hq : q ≤ len) (hend : ∀ n, f (n + 1) (nI q) (gp_shd M c o q q len) = K (gp_shd M c o q q len)) (hstep : ∀ n y, q ≤ y → y < len → f (n + 1) (nI (y + 1)) (gp_shd M c o q (y + 1) len) = f n (nI y) (gz_w (gp_shd M c o q (y + 1) len) c (o + (y + 1)) (M.1 c (o + y)))) (hl : len < gz_FU) : f gz_FU (nI len) M = K (gp_shd M c o q q len) := by
  have st : ∀ y, y < len → gz_w (gp_shd M c o q (y + 1) len) c (o + (y + 1)) (M.1 c (o + y)) = gp_shd M c o q y len := fun y hy => by
    refine Prod.ext (funext fun a => funext fun i => ?_) rfl
    by_cases h : a = c ∧ i = o + (y + 1)
    · rw [h.1, h.2, gp_gs, gp_shd_i, if_pos (by omega), show o + (y + 1) - 1 = o + y by omega]
    · rw [gp_gn h]
      unfold gp_shd
      dsimp only
      by_cases h1 : a = c ∧ o + (y + 1) < i ∧ i ≤ o + len
      · rw [if_pos h1, if_pos (by omega)]
      · rw [if_neg h1, if_neg (by omega)]
  have main : ∀ d y n, y = q + d → y ≤ len → d < n → f n (nI y) (gp_shd M c o q y len) = K (gp_shd M c o q q len) := by
    intro d
    induction d with
    | zero =>
      intro y n hy hl hn
      obtain ⟨n, rfl⟩ : ∃ q, n = q + 1 := ⟨n - 1, by omega⟩
      rw [show y = q by omega]
      exact hend n
    | succ d ih =>
      intro y n hy hl hn
      obtain ⟨n, rfl⟩ : ∃ q, n = q + 1 := ⟨n - 1, by omega⟩
      obtain ⟨z, rfl⟩ : ∃ z, y = z + 1 := ⟨y - 1, by omega⟩
      rw [hstep n z (by omega) (by omega), st z (by omega)]
      exact ih z n (by omega) (by omega) (by omega)
  have e0 : gp_shd M c o q len len = M := by
    refine Prod.ext (funext fun a => funext fun i => ?_) rfl
    unfold gp_shd
    dsimp only
    rw [if_neg (by omega)]
  have := main (len - q) len gz_FU (by omega) (Nat.le_refl _) (by omega)
  rwa [e0] at this
theorem gp_addm (y : Nat) : nI (y + 1) + (-1) = nI y := by
  have := nI_pred y
  rwa [Int32.sub_eq_add_neg] at this
section
variable {M : gz_M} {l : List Nat} {k q s : Nat}
/-- the component's line -/
def gp_lL (k : Nat) (M M' : gz_M) : Prop := M'.2 = M.2 ∧ ∀ c, c ≠ k → c ≠ k + 1 → M'.1 c = M.1 c
theorem gp_putC (h : gp_lC k M l) (hq : q < l.length) (hs : s < 8) : ∃ M', f5_put k (nI q) (nI s) M = some M' ∧ gp_lL k M M' ∧ gp_lC k M' (l.set q s) := by
  have h1 := h.1
  unfold f5_put
  rw [if_neg (nI_pos (by omega)), h.2.1, if_neg (nI_ge hq (by omega)), if_neg (show ¬ (24 : Int32) ≤ nI q from nI_ge (b := 24) (by omega) (by omega)), gp_ckb (show q < 24 by omega) (by omega), gp_eL, nI_clamp (by omega)]
  refine ⟨_, rfl, ⟨rfl, fun c c1 c2 => gp_wc _ c2⟩, by simpa using h.1, by rw [gp_gn (by omega)]; simpa using h.2.1, fun i hi => ?_⟩
  have hi : i < l.length := by simpa using hi
  rw [gp_set_D hq]
  by_cases e : i = q
  · rw [e, gp_gs, if_pos rfl]
    exact ⟨rfl, hs⟩
  · rw [gp_gn (by omega), if_neg e]
    exact h.2.2 i hi
theorem gp_insC (h : gp_lC k M l) (hq : q ≤ l.length) (hs : s < 8) (hl : l.length < 24) : ∃ M', f5_insert k (nI q) (nI s) M = some M' ∧ gp_lL k M M' ∧ gp_lC k M' (gp_ins l q s) := by
  have e := gp_dnL (fun n y M => f5_insert_27 k n (nI q) (nI s) y M) (fun M1 => some (gz_w (gz_w M1 (k + 1) q (nI s)) k 1 (nI (l.length + 1)))) M (k + 1) 0 q l.length hq (fun n => by
    show f5_insert_27 k (n + 1) _ _ _ _ = _
    rw [f5_insert_27, if_pos (nI_le (Nat.le_refl _) (by omega)), gp_ckb (show q < 24 by omega) (by omega), nI_clamp (by omega), gp_eL, gp_gn (by omega), gp_shd_c (by omega), h.2.1, nI_1, gp_eL]) (fun n y h1 h2 => by
    show f5_insert_27 k (n + 1) _ _ _ _ = f5_insert_27 k n _ _ _ _
    rw [f5_insert_27, if_neg (nI_ge (by omega) (by omega)), nI_pred, gp_ckb (show y < 24 by omega) (by omega), gp_ckb (show y + 1 < 24 by omega) (by omega), nI_clamp (by omega), nI_clamp (by omega), gp_shd_i, if_neg (by omega), gp_eL, gp_eL, gp_addm, Nat.zero_add, Nat.zero_add]) (by unfold gz_FU; omega)
  unfold f5_insert
  rw [if_neg (nI_pos (by omega)), h.2.1, if_neg (nI_nlt hq (by omega)), if_pos (show nI l.length < (24 : Int32) from nI_lt (b := 24) hl (by omega)), gp_eL]
  refine ⟨_, e, ⟨rfl, fun c c1 c2 => by rw [gp_wc _ c1, gp_wc _ c2, gp_shd_c c2]⟩, by rw [gp_ins_len hq]; omega, by rw [gp_gs, gp_ins_len hq], fun i hi => ?_⟩
  rw [gp_ins_len hq] at hi
  rw [gp_gn (by omega), gp_ins_D hq]
  by_cases e1 : i = q
  · rw [e1, gp_gs, if_neg (by omega), if_pos rfl]
    exact ⟨rfl, hs⟩
  · rw [gp_gn (by omega), gp_shd_i, Nat.zero_add, Nat.zero_add]
    by_cases e2 : i < q
    · rw [if_neg (by omega), if_pos e2]
      exact h.2.2 i (by omega)
    · rw [if_pos (by omega), if_neg e2, if_neg e1]
      exact h.2.2 (i - 1) (by omega)
theorem gp_delC (h : gp_lC k M l) (hq : q < l.length) : ∃ M', f5_remove k (nI q) M = some M' ∧ gp_lL k M M' ∧ gp_lC k M' (gp_del l q) := by
  have h1 := h.1
  have hlen : nI l.length - 1 = nI (l.length - 1) := by
    obtain ⟨z, hz⟩ : ∃ z, l.length = z + 1 := ⟨l.length - 1, by omega⟩
    rw [hz, nI_pred]
    rfl
  have e := gp_fl_l (M := M) (c := k + 1) (o := q) (N := l.length - 1 - q) (v := fun x => M.1 (k + 1) (q + x + 1)) (fun n x M => f5_remove_24 k n (nI q + x) M) (fun M1 => some (gz_w M1 k 1 (nI (l.length - 1)))) (fun n => by
    show f5_remove_24 k (n + 1) _ _ = _
    rw [nI_add, f5_remove_24, gp_fl_c (by omega), h.2.1, hlen, if_pos (nI_le (by omega) (by omega)), gp_eL]) (fun n x hx => by
    show f5_remove_24 k (n + 1) _ _ = f5_remove_24 k n _ _
    rw [nI_add, nI_add, f5_remove_24, gp_fl_c (by omega), h.2.1, hlen, if_neg (nI_ge (by omega) (by omega)), nI_1, gp_ckb (show q + x + 1 < 24 by omega) (by omega), gp_ckb (show q + x < 24 by omega) (by omega), nI_clamp (by omega), nI_clamp (by omega), gp_fl_n (by omega), gp_eL, gp_eL]
    rfl) gz_FU (by unfold gz_FU; omega)
  unfold f5_remove
  rw [if_neg (nI_pos (by omega)), h.2.1, if_neg (nI_ge hq (by omega)), if_pos (show nI l.length ≤ (24 : Int32) from nI_le (b := 24) h1 (by omega))]
  change f5_remove_24 k gz_FU (nI q + nI 0) M = _ at e
  rw [nI_add, Nat.add_zero] at e
  refine ⟨_, e, ⟨rfl, fun c c1 c2 => by rw [gp_wc _ c1, gp_fl_c c2]⟩, by rw [gp_del_len hq]; omega, by rw [gp_gs, gp_del_len hq], fun i hi => ?_⟩
  rw [gp_del_len hq] at hi
  rw [gp_gn (by omega), gp_del_D hq]
  by_cases e2 : i < q
  · rw [gp_fl_n (by omega), if_pos e2]
    exact h.2.2 i (by omega)
  · rw [if_neg e2]
    obtain ⟨j, rfl⟩ : ∃ j, i = q + j := ⟨i - q, by omega⟩
    rw [gp_fl_i (by omega)]
    exact h.2.2 (q + j + 1) (by omega)
end
/-! another line -/
section
variable {B : Prop} {pf pf' : Nat → Bool} {M M' Mc Mr Mc' Mr' C R : gz_M} {cu cu' o o' : Nat} {x x' t l l' : List Nat} {b u : gp_Bk} {us us' : List gp_Bk} {ks ks' : Nat → Option gp_Bk}
theorem gp_RI.nl (h : gp_RI B pf cu Mc Mr x b us ks o) (hcu' : cu' = 30 ∨ cu' = 60) (k5 : gz_cIx (C.1 0 5) = cu') (k8 : gz_cIx (C.1 0 8) = 90 - cu') (cc : ∀ c, c = 7 ∨ c = 8 ∨ (11 ≤ c ∧ c < 30) ∨ 175 ≤ c → C.1 c = Mc.1 c) (hl : gp_lC 9 C l') (hcut : gp_cC cu' C (gp_cut (gp_tab b.1) l')) (hx : gp_xC C x') (hp : gp_pf pf') (hpk : ∀ j, 10 ≤ j → j < 12 → pf' j = pf j) (hH : gp_H pf' C o' us') (rc : ∀ c, (5 ≤ c ∧ c ≤ 14) ∨ c = 21 ∨ c = 22 → R.1 c = Mr.1 c) (r10 : R.1 0 10 = Mr.1 0 10) (hr : gp_rB 1 0 R (b.1, l')) (htx : gp_txR R x') (hU : gp_uR R us') (hok : ∀ u, u ∈ us' → gp_okB u) (hrw : gp_rw B C R) : gp_RI B pf' cu' C R x' (b.1, l') us' ks o' := by
  obtain ⟨⟨q1, q2, q3, q4, q5, q6, q7, q8⟩, h2, h3, h4, h5, h6, h7, h8, h9, h10, h11⟩ := h
  have hb : gp_okB (b.1, l') := ⟨h2.1, h2.2.1, hl.1, fun i hi => (hl.2.2 i hi).2⟩
  refine ⟨⟨q1, q2.fr (fun c c1 c2 => cc c (by omega)), q3.fr (fun c c1 c2 => rc c (by omega)) r10, hl, hr.lR hb, ⟨hcu', k5, hcut, gp_cut_len⟩, k8, hrw⟩, hb, hx, htx, ?_, hr, hp, hH, hok, hU, h11.fr hpk (fun c hc => cc c (by omega)) (fun c hc => rc c (by omega))⟩
  obtain ⟨a1, a2, a3⟩ := h5
  exact ⟨a1, by rw [cc 7 (by omega)]; exact a2, fun i hi => by rw [cc 8 (by omega)]; exact a3 i hi⟩
/-- the reference sets its line -/
theorem gp_setL {n : Nat} (hn : n ≤ 24) (M : gz_M) : ∃ M', f12_setLine (nI n) M = some M' ∧ M'.2 = M.2 ∧ (∀ c, c ≠ 1 → M'.1 c = M.1 c) ∧ (∀ i, i < 81 → M'.1 1 i = M.1 1 i) ∧ M'.1 1 81 = nI n ∧ ∀ i, i < n → M'.1 1 (82 + i) = M.1 15 i := by
  obtain ⟨N, hN⟩ : ∃ N, N = gz_w M 1 81 (nI n) := ⟨_, rfl⟩
  have e := gp_fl_l (M := N) (c := 1) (o := 82) (N := 24) (v := fun i => if n ≤ i then 0 else M.1 15 i) (fun k a M => f12_setLine_10 k (nI n) a M) (fun M1 => some M1) (fun k => by
    show f12_setLine_10 (k + 1) _ _ _ = _
    rw [f12_setLine_10, if_pos (show (24 : Int32) ≤ nI 24 by decide)]) (fun k i hi => by
    show f12_setLine_10 (k + 1) _ _ _ = f12_setLine_10 k _ _ _
    have e82 : (82 : Int32) + nI i = nI (82 + i) := by rw [show (82 : Int32) = nI 82 from rfl, nI_add]
    rw [f12_setLine_10, if_neg (show ¬ (24 : Int32) ≤ nI i from nI_ge (b := 24) hi (by omega)), e82]
    by_cases h : n ≤ i
    · rw [if_pos (nI_le h (by omega)), gp_ckb (show 82 + i < 106 by omega) (by omega), nI_clamp (by omega), gp_eL, gp_eL, nI_1]
      show f12_setLine_10 k _ _ (gz_w _ _ _ _) = f12_setLine_10 k _ _ (gz_w _ _ _ (if n ≤ i then 0 else M.1 15 i))
      rw [if_pos h]
    · rw [if_neg (nI_ge (by omega) (by omega)), gp_ckb (show i < 24 by omega) (by omega), gp_ckb (show 82 + i < 106 by omega) (by omega), nI_clamp (by omega), nI_clamp (by omega), gp_fl_c (by omega), hN, gp_wc _ (by omega), gp_eL, gp_eL, nI_1]
      show f12_setLine_10 k _ _ (gz_w _ _ _ _) = f12_setLine_10 k _ _ (gz_w _ _ _ (if n ≤ i then 0 else M.1 15 i))
      rw [if_neg h]) gz_FU (by unfold gz_FU; omega)
  unfold f12_setLine
  rw [gp_c81, gp_k81, gp_eL, ← hN, show (0 : Int32) = nI 0 from rfl]
  refine ⟨_, e, by rw [gp_fl_2, hN]; rfl, fun c hc => by rw [gp_fl_c hc, hN, gp_wc _ hc], fun i hi => by rw [gp_fl_n (by omega), hN, gp_gn (by omega)], by rw [gp_fl_n (by omega), hN, gp_gs], fun i hi => ?_⟩
  rw [gp_fl_i (by omega)]
  show (if n ≤ i then 0 else M.1 15 i) = _
  rw [if_neg (by omega)]
end
