/-! what both worlds hold, in full -/
def gp_uR (M : gz_M) (us : List gp_Bk) : Prop := M.1 0 51 = nI us.length ∧ ∀ j, j < us.length → gp_rB 33 (106 * j) M (us.getD j gp_bk0)
def gp_kp1 (pf : Nat → Bool) (Mc Mr : gz_M) (i : Nat) : Option gp_Bk → Prop
  | none => pf (10 + i) = false ∧ Mr.1 22 i = 0
  | some b => gp_okB b ∧ pf (10 + i) = true ∧ gp_bK (135 + 4 * (10 + i)) Mc b ∧ Mr.1 22 i = 1 ∧ gp_rB 21 (106 * i) Mr b
def gp_kp (pf : Nat → Bool) (Mc Mr : gz_M) (ks : Nat → Option gp_Bk) : Prop := ∀ i, i < 2 → gp_kp1 pf Mc Mr i (ks i)
def gp_RI (B : Prop) (pf : Nat → Bool) (cu : Nat) (Mc Mr : gz_M) (x : List Nat) (b : gp_Bk) (us : List gp_Bk) (ks : Nat → Option gp_Bk) (o : Nat) : Prop := gp_Q B cu Mc Mr (gp_tab b.1) b.2 ∧ gp_okB b ∧ gp_xC Mc x ∧ gp_txR Mr x ∧ gp_xK 7 Mc b.1 ∧ gp_rB 1 0 Mr b ∧ gp_pf pf ∧ gp_H pf Mc o us ∧ (∀ u, u ∈ us → gp_okB u) ∧ gp_uR Mr us ∧ gp_kp pf Mc Mr ks
def gp_R (B : Prop) (pf : Nat → Bool) (Mc Mr : gz_M) : Prop := ∃ cu x b us ks o, gp_RI B pf cu Mc Mr x b us ks o
/-- a call: the same answer, and both worlds hold again -/
def gp_call (B : Prop) (a : Option (Int32 × gz_M × (Nat → Bool))) (b : Option (Int32 × gz_M)) : Prop := ∃ v Mc' pf' Mr', a = some (v, Mc', pf') ∧ b = some (v, Mr') ∧ gp_R B pf' Mc' Mr'
section
variable {B : Prop} {pf pf' : Nat → Bool} {M M' Mc Mr Mc' Mr' : gz_M} {cu o : Nat} {x t l : List Nat} {b : gp_Bk} {us : List gp_Bk} {ks : Nat → Option gp_Bk}
theorem gp_rB.cp {c c' o o' : Nat} (h : gp_rB c o M b) (h1 : b.1.length ≤ 80) (h2 : b.2.length ≤ 24) (e : ∀ i, i < 106 → M'.1 c' (o' + i) = M.1 c (o + i)) : gp_rB c' o' M' b := by
  obtain ⟨a1, a2, a3, a4⟩ := h
  refine ⟨?_, fun i hi => ?_, ?_, fun i hi => ?_⟩
  · have := e 0 (by omega)
    rw [Nat.add_zero, Nat.add_zero] at this
    rw [this]
    exact a1
  · have := e (1 + i) (by omega)
    rw [Nat.add_assoc, this, ← Nat.add_assoc]
    exact a2 i hi
  · rw [e 81 (by omega)]
    exact a3
  · have := e (82 + i) (by omega)
    rw [Nat.add_assoc, this, ← Nat.add_assoc]
    exact a4 i hi
theorem gp_rB.fr {c o : Nat} (h : gp_rB c o M b) (e : M'.1 c = M.1 c) : gp_rB c o M' b := by
  unfold gp_rB
  rw [e]
  exact h
theorem gp_rB.lR (h : gp_rB 1 0 M b) (hb : gp_okB b) : gp_lR M b.2 := by
  obtain ⟨a1, a2, a3, a4⟩ := h
  refine ⟨hb.2.2.1, by rw [Nat.zero_add] at a3; exact a3, fun i hi => ⟨?_, hb.2.2.2 i hi⟩⟩
  have := a4 i hi
  rw [Nat.zero_add] at this
  exact this
theorem gp_uR.fr (h : gp_uR M us) (e : M'.1 33 = M.1 33) (e0 : M'.1 0 51 = M.1 0 51) : gp_uR M' us := ⟨by rw [e0]; exact h.1, fun j hj => (h.2 j hj).fr e⟩
theorem gp_H.fr (h : gp_H pf M o us) (e : ∀ c, c = 131 ∨ (135 ≤ c ∧ c < 175) → M'.1 c = M.1 c) : gp_H pf M' o us := by
  obtain ⟨h1, h2, h3, h4, h5⟩ := h
  refine ⟨h1, h2, by rw [e 131 (by omega)]; exact h3, by rw [e 131 (by omega)]; exact h4, fun j hj => ?_⟩
  have := Nat.mod_lt (o + j) (show 10 > 0 by omega)
  exact ⟨(h5 j hj).1, (h5 j hj).2.fr (fun c c1 c2 => e c (by omega))⟩
theorem gp_kp.fr (h : gp_kp pf Mc Mr ks) (ep : ∀ j, 10 ≤ j → j < 12 → pf' j = pf j) (e : ∀ c, 175 ≤ c → Mc'.1 c = Mc.1 c) (e' : ∀ c, c = 21 ∨ c = 22 → Mr'.1 c = Mr.1 c) : gp_kp pf' Mc' Mr' ks := by
  intro i hi
  have h1 := h i hi
  cases hk : ks i with
  | none =>
    rw [hk] at h1
    exact ⟨by rw [ep _ (by omega) (by omega)]; exact h1.1, by rw [e' 22 (by omega)]; exact h1.2⟩
  | some b =>
    rw [hk] at h1
    obtain ⟨a1, a2, a3, a4, a5⟩ := h1
    exact ⟨a1, by rw [ep _ (by omega) (by omega)]; exact a2, a3.fr (fun c c1 c2 => e c (by omega)), by rw [e' 22 (by omega)]; exact a4, a5.fr (e' 21 (by omega))⟩
theorem gp_txR.fr (h : gp_txR M x) (e : M'.1 2 = M.1 2) (e0 : M'.1 0 2 = M.1 0 2) : gp_txR M' x := ⟨h.1, by rw [e0]; exact h.2.1, fun i hi => by rw [e]; exact h.2.2 i hi⟩
theorem gp_rw.fr (h : gp_rw B Mc Mr) (ec : Mc'.2 = Mc.2) (ec0 : Mc'.1 0 15 = Mc.1 0 15) (er : Mr'.2 = Mr.2) (er0 : Mr'.1 0 4 = Mr.1 0 4) : gp_rw B Mc' Mr' := by
  obtain ⟨r, r', h0, h1, h2, h3, h4⟩ := h
  exact ⟨r, r', h0, h1, h2.fr ec ec0, h3.fr er er0, h4⟩
/-- a question leaves what both hold -/
theorem gp_RI.ans (h : gp_RI B pf cu Mc Mr x b us ks o) (e1 : gp_qC cu Mc Mc') (e2 : gp_qR Mr Mr') (hr : gp_rw B Mc' Mr') : gp_RI B pf cu Mc' Mr' x b us ks o := by
  obtain ⟨h1, h2, h3, h4, h5, h6, h7, h8, h9, h10, h11⟩ := h
  have hcu := h1.2.2.2.2.2.1.1
  refine ⟨h1.row hr e1 e2, h2, h3.fr (e1.1 1 (by omega)) (e1.1 2 (by omega)), h4.fr (e2.1 2 (by omega)) e2.2.1, ?_, h6.fr (e2.1 1 (by omega)), h7, h8.fr (fun c hc => e1.1 c (by omega)), h9, h10.fr (e2.1 33 (by omega)) e2.2.2.2, h11.fr (fun _ _ _ => rfl) (fun c hc => e1.1 c (by omega)) (fun c hc => e2.1 c (by omega))⟩
  obtain ⟨a1, a2, a3⟩ := h5
  exact ⟨a1, by rw [e1.1 7 (by omega)]; exact a2, fun i hi => by rw [e1.1 8 (by omega)]; exact a3 i hi⟩
theorem gp_RI.q (h : gp_RI B pf cu Mc Mr x b us ks o) {f : Option (Int32 × gz_M)} {g : Option (Int32 × gz_M)} (a : gp_ans B cu Mc Mr f g) : ∃ v Mc' Mr', f = some (v, Mc') ∧ g = some (v, Mr') ∧ gp_R B pf Mc' Mr' := by
  obtain ⟨v, Mc', Mr', a1, a2, a3, a4, a5⟩ := a
  exact ⟨v, Mc', Mr', a1, a2, cu, x, b, us, ks, o, h.ans a3 a4 a5⟩
/-- the line is cut anew -/
theorem gp_recut (hw : gp_wT (gp_tab t)) (ht : gp_tC 11 M (gp_tab t)) (hl : gp_lC 9 M l) (hcu : cu = 30 ∨ cu = 60) (h5 : gz_cIx (M.1 0 5) = cu) : ∃ M', f11_recut M = some M' ∧ M'.2 = M.2 ∧ (∀ c, c < cu ∨ cu + 9 ≤ c → M'.1 c = M.1 c) ∧ gp_cC cu M' (gp_cut (gp_tab t) l) := by
  obtain ⟨M', e1, e2, e3, e4⟩ := gp_make (k := cu) (k0 := 11) (k1 := 9) hw (by omega) (by omega) ht hl
  unfold f11_recut
  rw [h5, show (7 + 2 : Nat) = 9 from rfl, e1, gp_eB]
  exact ⟨M', rfl, e2, e3, e4⟩
theorem gp_refresh (hok : gp_ok t) (hx : gp_xK 7 M t) (hl : gp_lC 9 M l) (hcu : cu = 30 ∨ cu = 60) (h5 : gz_cIx (M.1 0 5) = cu) : ∃ M', f11_refresh M = some M' ∧ M'.2 = M.2 ∧ (∀ c, c ≠ 4 → c ≠ 5 → c ≠ 6 → c < 11 ∨ 29 < c → c < cu ∨ cu + 9 ≤ c → M'.1 c = M.1 c) ∧ gp_tC 11 M' (gp_tab t) ∧ gp_cC cu M' (gp_cut (gp_tab t) l) := by
  obtain ⟨M1, e1, e2, e3⟩ := gp_bldC (k := 11) (k1 := 7) ⟨by omega, fun c hc => by omega⟩ hok hx
  have hw := gp_tab_w (fun i hi => (hx.2.2 i hi).2) hok
  obtain ⟨M2, f1, f2, f3, f4⟩ := gp_recut (l := l) hw e3 (hl.fr (fun c c1 c2 => e2.2 c (by omega) (by omega) (by omega) (by omega))) hcu (by rw [e2.2 0 (by omega) (by omega) (by omega) (by omega)]; exact h5)
  unfold f11_refresh
  rw [e1, gp_eB, f1, gp_eB]
  exact ⟨M2, rfl, by rw [f2, e2.1], fun c c1 c2 c3 c4 c5 => by rw [f3 c c5, e2.2 c c1 c2 c3 (by omega)], e3.fr (fun c c1 c2 => f3 c (by omega)), f4⟩
/-- the reference notes a book that it has laid aside -/
theorem gp_noteR (h : gp_uR M us) (hl : us.length ≤ 10) (hok : ∀ u, u ∈ us → gp_okB u) (hb : gp_okB b) (hr : gp_rB 34 0 M b) : ∃ M', f12_note M = some M' ∧ M'.2 = M.2 ∧ (∀ c, c ≠ 0 → c ≠ 33 → M'.1 c = M.1 c) ∧ (∀ i, i ≠ 51 → M'.1 0 i = M.1 0 i) ∧ gp_uR M' ((if us.length = 10 then us.drop 1 else us) ++ [b]) := by
  obtain ⟨h1, h2⟩ := h
  -- the copy
  have cpy : ∀ (N : gz_M) (k : Nat), k < 10 → N.1 0 51 = nI k → f12_note_51 gz_FU (nI 0) N = some (gz_w (gp_fl N 33 (106 * k) 106 (fun i => N.1 34 i)) 0 51 (nI (k + 1))) := fun N k hk e51 => by
    refine gp_fl_l (M := N) (c := 33) (o := 106 * k) (N := 106) (v := fun i => N.1 34 i) (fun n a M => f12_note_51 n a M) (fun M1 => some (gz_w M1 0 51 (nI (k + 1)))) (fun n => ?_) (fun n i hi => ?_) gz_FU (by unfold gz_FU; omega)
    · show f12_note_51 (n + 1) _ _ = _
      rw [f12_note_51, if_pos (show (106 : Int32) ≤ nI 106 by decide), gp_fl_c (by omega), e51, nI_1, gp_eL]
    · show f12_note_51 (n + 1) _ _ = f12_note_51 n _ _
      rw [f12_note_51, if_neg (show ¬ (106 : Int32) ≤ nI i from nI_ge (b := 106) hi (by omega)), gp_ckb (show i < 106 by omega) (by omega), gp_fl_c (by omega), e51, show (106 : Int32) = nI 106 from rfl, pk_mul, nI_add, gp_ckb (show 106 * k + i < 1060 by omega) (by omega), nI_clamp (by omega), nI_clamp (by omega), gp_fl_c (by omega), gp_eL, gp_eL, nI_1]
  have fin : ∀ (N : gz_M) (vs : List gp_Bk), vs.length < 10 → N.1 0 51 = nI vs.length → N.2 = M.2 → (∀ c, c ≠ 0 → c ≠ 33 → N.1 c = M.1 c) → (∀ i, i ≠ 51 → N.1 0 i = M.1 0 i) → (∀ j, j < vs.length → gp_rB 33 (106 * j) N (vs.getD j gp_bk0)) → (∀ u, u ∈ vs → gp_okB u) → ∃ M', f12_note_51 gz_FU (nI 0) N = some M' ∧ M'.2 = M.2 ∧ (∀ c, c ≠ 0 → c ≠ 33 → M'.1 c = M.1 c) ∧ (∀ i, i ≠ 51 → M'.1 0 i = M.1 0 i) ∧ gp_uR M' (vs ++ [b]) := by
    intro N vs q1 q2 q3 q4 q5 q6 q7
    refine ⟨_, cpy N vs.length q1 q2, by rw [gp_gl, gp_fl_2, q3], fun c c1 c2 => by rw [gp_wc _ c1, gp_fl_c c2, q4 c c1 c2], fun i hi => by rw [gp_gn (by omega), gp_fl_c (by omega), q5 i hi], ?_, fun j hj => ?_⟩
    · rw [gp_gs, List.length_append]
      rfl
    · have hj : j < vs.length + 1 := by simpa using hj
      by_cases hjj : j = vs.length
      · subst hjj
        rw [gp_getD_r]
        refine hr.cp hb.1.1 hb.2.2.1 (fun i hi => ?_)
        rw [gp_gn (by omega), gp_fl_i hi, Nat.zero_add, q4 34 (by omega) (by omega)]
      · rw [gp_getD_l (by omega)]
        have ho := q7 _ (gp_getD_mem (d := gp_bk0) (show j < vs.length by omega))
        refine (q6 j (by omega)).cp ho.1.1 ho.2.2.1 (fun i hi => ?_)
        rw [gp_gn (by omega), gp_fl_n (by omega)]
  unfold f12_note
  rw [h1]
  by_cases h10 : us.length = 10
  · rw [if_pos (show nI us.length = (10 : Int32) from by rw [h10]; rfl), if_pos h10]
    have shf : f12_note_11 gz_FU (nI 0) M = f12_note_51 gz_FU 0 (gz_w (gp_fl M 33 0 954 (fun i => M.1 33 (i + 106))) 0 51 (nI 9)) := by
      refine gp_fl_l (M := M) (c := 33) (o := 0) (N := 954) (v := fun i => M.1 33 (i + 106)) (fun n a M => f12_note_11 n a M) (fun M1 => f12_note_51 gz_FU 0 (gz_w M1 0 51 (nI 9))) (fun n => ?_) (fun n i hi => ?_) gz_FU (by unfold gz_FU; omega)
      · show f12_note_11 (n + 1) _ _ = _
        rw [f12_note_11, if_pos (show (954 : Int32) ≤ nI 954 by decide), gp_fl_c (by omega), h1, h10, nI_pred, gp_eL]
      · show f12_note_11 (n + 1) _ _ = f12_note_11 n _ _
        rw [f12_note_11, if_neg (show ¬ (954 : Int32) ≤ nI i from nI_ge (b := 954) hi (by omega)), show (106 : Int32) = nI 106 from rfl, nI_add, gp_ckb (show i + 106 < 1060 by omega) (by omega), gp_ckb (show i < 1060 by omega) (by omega), nI_clamp (by omega), nI_clamp (by omega), gp_fl_n (by omega), gp_eL, gp_eL, nI_1, Nat.zero_add]
    rw [show (0 : Int32) = nI 0 from rfl, shf]
    have hdl : (us.drop 1).length = 9 := by simp; omega
    refine fin _ (us.drop 1) (by omega) (by rw [gp_gs, hdl]) rfl (fun c c1 c2 => by rw [gp_wc _ c1, gp_fl_c c2]) (fun i hi => by rw [gp_gn (by omega), gp_fl_c (by omega)]) (fun j hj => ?_) (fun u hu => hok u (List.mem_of_mem_drop hu))
    rw [hdl] at hj
    have e : (us.drop 1).getD j gp_bk0 = us.getD (j + 1) gp_bk0 := by simp [List.getD, List.getElem?_drop, Nat.add_comm]
    have ho := hok _ (gp_getD_mem (d := gp_bk0) (show j + 1 < us.length by omega))
    rw [e]
    refine (h2 (j + 1) (by omega)).cp ho.1.1 ho.2.2.1 (fun i hi => ?_)
    have := gp_fl_i (M := M) (c := 33) (o := 0) (N := 954) (v := fun i => M.1 33 (i + 106)) (show 106 * j + i < 954 by omega)
    rw [Nat.zero_add] at this
    rw [gp_gn (by omega), this]
    show M.1 33 (106 * j + i + 106) = _
    rw [show 106 * j + i + 106 = 106 * (j + 1) + i by omega]
  · rw [if_neg (show ¬ nI us.length = (10 : Int32) from fun h => h10 ((nI_eq (b := 10) (by omega) (by omega)).mp h)), if_neg h10]
    exact fin M us (by omega) h1 rfl (fun _ _ _ => rfl) (fun _ _ => rfl) h2 hok
/-- the reference lays its state aside -/
theorem gp_thenL {β : Type} (f : Nat → Int32 → gz_M → Option β) (K : gz_M → Option β) (hend : ∀ n M1, f (n + 1) (nI 106) M1 = K M1) (hstep : ∀ n i M1, i < 106 → f (n + 1) (nI i) M1 = f n (nI (i + 1)) (gz_w M1 34 i (M1.1 1 i))) (M : gz_M) (hb : gp_okB b) (hr : gp_rB 1 0 M b) : ∃ M', f gz_FU (nI 0) M = K M' ∧ M'.2 = M.2 ∧ (∀ c, c ≠ 34 → M'.1 c = M.1 c) ∧ gp_rB 34 0 M' b := by
  have e := gp_fl_l (M := M) (c := 34) (o := 0) (N := 106) (v := fun i => M.1 1 i) f K (fun n => hend n _) (fun n i hi => by rw [hstep n i _ hi, gp_fl_c (by omega), Nat.zero_add]) gz_FU (by unfold gz_FU; omega)
  refine ⟨_, e, rfl, fun c hc => gp_fl_c hc, hr.cp hb.1.1 hb.2.2.1 (fun i hi => by rw [gp_fl_i hi, Nat.zero_add])⟩
theorem gp_chgR (h : gp_uR M us) (hl : us.length ≤ 10) (hok : ∀ u, u ∈ us → gp_okB u) (hb : gp_okB b) (hr : gp_rB 1 0 M b) : ∃ M', f12_change M = some M' ∧ M'.2 = M.2 ∧ (∀ c, c ≠ 0 → c ≠ 33 → c ≠ 34 → M'.1 c = M.1 c) ∧ (∀ i, i ≠ 51 → M'.1 0 i = M.1 0 i) ∧ gp_uR M' ((if us.length = 10 then us.drop 1 else us) ++ [b]) := by
  obtain ⟨M1, e1, e2, e3, e4⟩ := gp_thenL (f := fun n a M => f12_change_2 n a M) (K := fun M1 => gz_bd (f12_note M1) fun M2 => some M2) (fun n M1 => by
    show f12_change_2 (n + 1) _ _ = _
    rw [f12_change_2, if_pos (show (106 : Int32) ≤ nI 106 by decide)]) (fun n i M1 hi => by
    show f12_change_2 (n + 1) _ _ = f12_change_2 n _ _
    rw [f12_change_2, if_neg (show ¬ (106 : Int32) ≤ nI i from nI_ge (b := 106) hi (by omega)), gp_ckb (show i < 106 by omega) (by omega), gp_ckb (show i < 106 by omega) (by omega), nI_clamp (by omega), gp_eL, gp_eL, nI_1]) M hb hr
  obtain ⟨M2, f1, f2, f3, f4, f5⟩ := gp_noteR (us := us) (h.fr (e3 33 (by omega)) (by rw [e3 0 (by omega)])) hl hok hb e4
  unfold f12_change
  refine ⟨M2, ?_, by rw [f2, e2], fun c c1 c2 c3 => by rw [f3 c c1 c2, e3 c c3], fun i hi => by rw [f4 i hi, e3 0 (by omega)], f5⟩
  rw [show f12_change_2 gz_FU 0 M = _ from e1, f1, gp_eB]
end
