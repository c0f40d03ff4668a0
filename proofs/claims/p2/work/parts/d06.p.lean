/-! the reference cuts with memory -/
section
variable {M M' : gz_M} {T : gp_T} {l : List Nat} {ts : List gp_K} {mks : List Nat}
theorem gq_forget (M : gz_M) : ∃ M', f12_forget M = some M' ∧ M'.2 = M.2 ∧ (∀ c, c ≠ 18 → c ≠ 19 → M'.1 c = M.1 c) ∧ ∀ i, i < 102400 → M'.1 18 i = 0 ∧ M'.1 19 i = 0 := by
  unfold f12_forget
  refine gp_for (fun n x M1 => f12_forget_2 n (nI x) M1) 102400 (fun x M1 => M1.2 = M.2 ∧ (∀ c, c ≠ 18 → c ≠ 19 → M1.1 c = M.1 c) ∧ ∀ i, i < x → M1.1 18 i = 0 ∧ M1.1 19 i = 0) (fun M1 => M1.2 = M.2 ∧ (∀ c, c ≠ 18 → c ≠ 19 → M1.1 c = M.1 c) ∧ ∀ i, i < 102400 → M1.1 18 i = 0 ∧ M1.1 19 i = 0) ?_ ?_ gz_FU 0 M (by omega) (by unfold gz_FU; omega) ⟨rfl, fun _ _ _ => rfl, fun i hi => absurd hi (by omega)⟩
  · intro n M1 h
    exact ⟨M1, by show f12_forget_2 (n + 1) (nI 102400) M1 = _; rw [f12_forget_2, if_pos (show (102400 : Int32) ≤ nI 102400 by decide)], h⟩
  · intro n x M1 hx h
    right
    obtain ⟨h1, h2, h3⟩ := h
    refine ⟨gz_w (gz_w M1 18 x 0) 19 x 0, ?_, by rw [gp_gl, gp_gl]; exact h1, fun c c1 c2 => by rw [gp_wc _ c2, gp_wc _ c1, h2 c c1 c2], fun i hi => ?_⟩
    · show f12_forget_2 (n + 1) (nI x) M1 = f12_forget_2 n (nI (x + 1)) _
      rw [f12_forget_2, if_neg (show ¬ (102400 : Int32) ≤ nI x from nI_ge (b := 102400) hx (by omega)), gp_ckb (show x < 102400 by omega) (by omega), nI_clamp (by omega), gp_eL, gp_ckb (show x < 102400 by omega) (by omega), show vp_nar .boolean 0 = 0 from by decide, gp_eL, gp_eL, nI_1]
    · by_cases e : i = x
      · rw [e]
        exact ⟨by rw [gp_gn (by omega), gp_gs], gp_gs _ _ _ _⟩
      · rw [gp_gn (by omega), gp_gn (by omega), gp_gn (by omega), gp_gn (by omega)]
        exact h3 i (by omega)
theorem gq_stuckR2 {n : Nat} (hw : gp_wT T) (hok : ∀ t, t ∈ ts → gp_tkOk T n t) (h31 : M.1 0 31 = nI ts.length) (hr : ∀ i, i < ts.length → M.1 17 (12 * i) = gp_o (ts.getD i gp_k0).1) (hlen : ts.length ≤ 24) : f12_stuckMany M = some (nI (gp_stk ts), M) := by
  have c : ∃ b, f12_stuckMany_4 gz_FU (nI 0) (nI 0) M = some b ∧ b = (nI (gp_stk ts), M) := by
    refine gp_for (fun n x (a : Int32) => f12_stuckMany_4 n a (nI x) M) ts.length (fun x a => a = nI (gp_stk (ts.take x))) _ (fun n a hI => ?_) (fun n x a hx hI => Or.inr ?_) gz_FU 0 _ (by omega) (by unfold gz_FU; omega) rfl
    · refine ⟨_, ?_, rfl⟩
      show f12_stuckMany_4 (n + 1) a (nI ts.length) M = _
      rw [f12_stuckMany_4, h31, if_pos (nI_le (Nat.le_refl _) (by omega)), hI, List.take_length]
    · refine ⟨_, ?_, rfl⟩
      have eo : f12_of (nI x) 0 M = some (gp_o (ts.getD x gp_k0).1, M) := by
        unfold f12_of
        rw [show (12 : Int32) = nI 12 from rfl, pk_mul, gp_add0, gp_ckb (show 12 * x < 300 by omega) (by omega), nI_clamp (by omega), hr x hx]
      show f12_stuckMany_4 (n + 1) a (nI x) M = f12_stuckMany_4 n _ (nI (x + 1)) M
      rw [f12_stuckMany_4, h31, if_neg (nI_ge hx (by omega)), eo, gp_eB2, gp_itO (gp_rS hw hok hx), hI, gp_take (d := gp_k0) hx, gp_stk_snoc]
      split
      · rw [gp_eL, gp_eL, nI_1, nI_1]
      · rw [gp_eL, gp_eL, nI_1]
        congr 1
        exact nI_add _ 0
  obtain ⟨_, c1, rfl⟩ := c
  exact c1
theorem gq_tkR_cut : ∀ t, t ∈ gp_cut T l → gq_tkR T l t := gq_tkR_cutF 24 0 [0]
/-- what stands remembered -/
def gq_mk19 (M : gz_M) (mks : List Nat) : Prop := ∀ y, y < 102400 → (M.1 19 y ≠ 0 ↔ y ∈ mks)
theorem gq_cutM (hw : gp_wT T) (hl24 : l.length ≤ 24) (h8 : ∀ p, p < l.length → l.getD p 0 < 8) : ∀ (d x m mo rd : Nat) (M : gz_M) (mks : List Nat), x + d = (gp_cut T l).length → d < m → gp_tR M T → gp_lR M l → gp_sR M (gq_st [0] (gp_cut T l) x) → M.1 0 26 = nI (gq_pl 0 (gp_cut T l) x) → M.1 0 31 = nI x → M.1 0 32 = nI rd → mo ≤ 5 → M.1 0 29 = nI mo → gq_mk19 M mks → gq_nwK T l mks → (∀ i, i < x → M.1 17 (12 * i) = gp_o ((gp_cut T l).getD i gp_k0).1) → ∃ M', f12_cutAll_12 m 1 M = some M' ∧ gp_cutL M M' ∧ M'.1 0 31 = nI (gp_cut T l).length ∧ M'.1 0 32 = nI (rd + (gq_mem T l ((gp_cut T l).drop x) mks).2) ∧ gq_mk19 M' (gq_mem T l ((gp_cut T l).drop x) mks).1 ∧ ∀ i, i < (gp_cut T l).length → M'.1 17 (12 * i) = gp_o ((gp_cut T l).getD i gp_k0).1 := by
  intro d
  induction d with
  | zero =>
    intro x m mo rd M mks hx hm hT hL hS h26 h31 h32 hmo h29 hmk hnw hru
    obtain ⟨m, rfl⟩ : ∃ q, m = q + 1 := ⟨m - 1, by omega⟩
    have hlen := gp_cut_len (T := T) (l := l)
    have hend : l.length ≤ gq_pl 0 (gp_cut T l) x := by
      have hd := gq_dropF (T := T) (l := l) 24 0 [0] x (by show x ≤ (gp_cut T l).length; omega)
      rw [show gp_cutF T l 24 0 [0] = gp_cut T l from rfl, List.drop_eq_nil_of_le (show (gp_cut T l).length ≤ x by omega)] at hd
      by_cases h24 : x = 24
      · have := gq_pl_ge (l := l) hw x (by omega)
        omega
      · obtain ⟨y, hy⟩ : ∃ y, 24 - x = y + 1 := ⟨24 - x - 1, by omega⟩
        rw [hy, gp_cutF] at hd
        by_cases hp : gq_pl 0 (gp_cut T l) x < l.length
        · rw [if_pos hp] at hd
          cases hd
        · omega
    have hpl : gq_pl 0 (gp_cut T l) x ≤ 24 := by
      unfold gq_pl
      split
      · omega
      · have o := gp_cut_ok (l := l) hw _ (gp_getD_mem (d := gp_k0) (show x - 1 < (gp_cut T l).length by omega))
        have o1 := o.2.1
        have o2 := o.2.2.1
        omega
    rw [f12_cutAll_12, gp_c81, gp_k81, hL.2.1, h26, if_pos (nI_le hend (by omega)), List.drop_eq_nil_of_le (by omega), gq_mem, ← show x = (gp_cut T l).length by omega]
    exact ⟨M, rfl, ⟨rfl, fun _ _ _ => rfl, fun _ _ _ _ _ _ => rfl⟩, h31, h32, hmk, hru⟩
  | succ d ih =>
    intro x m mo rd M mks hx hm hT hL hS h26 h31 h32 hmo h29 hmk hnw hru
    obtain ⟨m, rfl⟩ : ∃ q, m = q + 1 := ⟨m - 1, by omega⟩
    have hlen := gp_cut_len (T := T) (l := l)
    have hsk := gq_st_sk (l := l) hw (x := x) (by omega)
    have hd := gq_dropF (T := T) (l := l) 24 0 [0] x (by show x ≤ (gp_cut T l).length; omega)
    rw [show gp_cutF T l 24 0 [0] = gp_cut T l from rfl] at hd
    obtain ⟨y, hy⟩ : ∃ y, 24 - x = y + 1 := ⟨24 - x - 1, by omega⟩
    have hdrop : (gp_cut T l).drop x = (gp_cut T l).getD x gp_k0 :: (gp_cut T l).drop (x + 1) := by
      rw [List.drop_eq_getElem_cons (show x < (gp_cut T l).length by omega)]
      simp [List.getD, show x < (gp_cut T l).length by omega]
    rw [hy, gp_cutF, hdrop] at hd
    have hp : gq_pl 0 (gp_cut T l) x < l.length := Classical.byContradiction fun hp => by
      rw [if_neg hp] at hd
      cases hd
    rw [if_pos hp] at hd
    have ht : (gp_cut T l).getD x gp_k0 = gp_tok T l (gq_pl 0 (gp_cut T l) x) (gq_st [0] (gp_cut T l) x) := by
      injection hd
    have hmem := gp_getD_mem (d := gp_k0) (show x < (gp_cut T l).length by omega)
    have o1 := gp_cut_ok (l := l) hw _ hmem
    have rr := gq_tkR_cut (T := T) (l := l) _ hmem
    have e2p : ((gp_cut T l).getD x gp_k0).2.1 = gq_pl 0 (gp_cut T l) x := by rw [ht]; rfl
    have e6m : ((gp_cut T l).getD x gp_k0).2.2.2.2.2.1 = (gq_st [0] (gp_cut T l) x).headD 0 := by rw [ht]; rfl
    have e7s : ((gp_cut T l).getD x gp_k0).2.2.2.2.2.2 = gp_act T ((gp_cut T l).getD x gp_k0).1 (gq_st [0] (gp_cut T l) x) := by rw [ht]; rfl
    have npl : gq_pl 0 (gp_cut T l) (x + 1) = ((gp_cut T l).getD x gp_k0).2.2.1 := by
      unfold gq_pl
      rw [if_neg (by omega), Nat.add_sub_cancel]
    have nst : gq_st [0] (gp_cut T l) (x + 1) = ((gp_cut T l).getD x gp_k0).2.2.2.2.2.2 := by
      unfold gq_st
      rw [if_neg (by omega), Nat.add_sub_cancel]
    generalize hte : (gp_cut T l).getD x gp_k0 = t at *
    have b1 := o1.1
    have b2 := o1.2.1
    have b3 := o1.2.2.1
    have hm4 := o1.2.2.2.2.2.2.1
    have b4 := o1.2.2.2.2.2.2.2
    obtain ⟨g1, g2, g3, g4, g5⟩ := gq_R_f (mks := mks) hw hm4 hl24 h8 rr.2.2.2
    obtain ⟨s1, s2⟩ := gq_R_same hnw t
    have hF : ∀ S p', S < 2 ^ 10 → p' ≤ 24 → (gq_F mks ((gq_st [0] (gp_cut T l) x).headD 0) S p' = true ↔ 1 = 1 ∧ M.1 19 (gp_code ((gq_st [0] (gp_cut T l) x).headD 0) S p') ≠ 0) := fun S p' hS hp' => by
      have hc : gp_code ((gq_st [0] (gp_cut T l) x).headD 0) S p' < 102400 := gp_code_lt (by rw [← e6m]; exact hm4) hS hp'
      rw [hmk _ hc]
      unfold gq_F
      rw [decide_eq_true_iff]
      exact ⟨fun g => ⟨rfl, g.2.2⟩, fun g => ⟨by omega, by omega, g.2⟩⟩
    obtain ⟨M1, e1, e2, e3, e4, ⟨mo2, e5, e5'⟩, e6, e7, e8, e9, e10, e11, e12⟩ := gq_cutOne (F := gq_F mks ((gq_st [0] (gp_cut T l) x).headD 0)) hw 1 (by omega) hT hL hsk hS hmo h29 (show x < 25 by omega) h31 hp h26 hF (gq_R T l mks t) (by unfold gq_R; rw [e2p, e6m])
    have tk1 : (gp_tokO T (gq_pl 0 (gp_cut T l) x) (gq_st [0] (gp_cut T l) x) (gq_R T l mks t)).1 = t.1 := by
      show (gq_R T l mks t).1 = t.1
      rw [s1, ← rr.1]
    have tk3 : (gp_tokO T (gq_pl 0 (gp_cut T l) x) (gq_st [0] (gp_cut T l) x) (gq_R T l mks t)).2.2.1 = t.2.2.1 := by
      show (if (gq_R T l mks t).1.isSome = true then (gq_R T l mks t).2.1 else gq_pl 0 (gp_cut T l) x + 1) = t.2.2.1
      rw [s1, s2, ← e2p]
      exact rr.2.1.symm
    have tk7 : (gp_tokO T (gq_pl 0 (gp_cut T l) x) (gq_st [0] (gp_cut T l) x) (gq_R T l mks t)).2.2.2.2.2.2 = t.2.2.2.2.2.2 := by
      show gp_act T (gq_R T l mks t).1 _ = t.2.2.2.2.2.2
      rw [s1, ← rr.1, e7s]
    rw [tk7] at e3
    rw [tk3] at e4
    have hT1 : gp_tR M1 T := hT.fr (fun c c1 c2 => e2.2.1 c (by omega) (by omega)) (e2.2.2 10 (by omega) (by omega) (by omega) (by omega) (by omega))
    have hL1 : gp_lR M1 l := hL.fr (e2.2.1 1 (by omega) (by omega))
    have hmk1 : gq_mk19 M1 (mks ++ gp_marks t.2.2.2.2.2.1 t.2.1 (gq_R T l mks t)) := fun y hy => by
      have h12 := e12 rfl y
      rw [← e2p, ← e6m] at h12
      rw [List.mem_append]
      by_cases hin : y ∈ gp_marks t.2.2.2.2.2.1 t.2.1 (gq_R T l mks t)
      · rw [h12.1 hin]
        exact ⟨fun _ => Or.inr hin, fun _ => by decide⟩
      · rw [h12.2 hin, hmk y hy]
        exact ⟨Or.inl, fun g => g.resolve_right hin⟩
    obtain ⟨M2, f1, f2, f3, f4, f5, f6⟩ := ih (x + 1) m mo2 (rd + ((gq_R T l mks t).2.2.1 - t.2.1)) M1 _ (by omega) (by omega) hT1 hL1 (by rw [nst]; exact e3) (by rw [npl]; exact e4) e6 (by rw [e7, h32, nI_add, e2p]) e5 e5' hmk1 (hnw.marks hw hm4 hl24 h8 rr.2.2.2) (fun i hi => by
      by_cases ei : i = x
      · rw [ei]
        have := e8.1
        rw [tk1] at this
        rw [this, hte]
      · rw [e9 _ (by omega)]
        exact hru i (by omega))
    refine ⟨M2, ?_, e2.trans f2, f3, ?_, ?_, f6⟩
    · rw [f12_cutAll_12, gp_c81, gp_k81, hL.2.1, h26, if_neg (nI_ge hp (by omega)), show f12_cutOne 1 M = some M1 from e1, gp_eB, f1]
    · rw [hdrop, gq_mem]
      rw [Nat.add_assoc] at f4
      exact f4
    · rw [hdrop, gq_mem]
      exact f5
/-- the whole line, with memory -/
theorem gq_cutAll1 (hw : gp_wT T) (hT : gp_tR M T) (hL : gp_lR M l) : ∃ M', f12_cutAll 1 M = some M' ∧ gp_cutL M M' ∧ M'.1 0 31 = nI (gp_cut T l).length ∧ M'.1 0 32 = nI (gq_mem T l (gp_cut T l) []).2 ∧ gq_mk19 M' (gq_mem T l (gp_cut T l) []).1 ∧ ∀ i, i < (gp_cut T l).length → M'.1 17 (12 * i) = gp_o ((gp_cut T l).getD i gp_k0).1 := by
  have hl24 := hL.1
  obtain ⟨M1, e1, e2, e3, e4, e5, e6, e7⟩ := gp_atFirstR M
  obtain ⟨M2, d1, d2, d3, d4⟩ := gq_forget M1
  have hT2 : gp_tR M2 T := hT.fr (fun c c1 c2 => by rw [d3 c (by omega) (by omega), e3 c (by omega) (by omega)]) (by rw [d3 0 (by omega) (by omega), e2.2.2 10 (by omega) (by omega) (by omega) (by omega) (by omega)])
  have hL2 : gp_lR M2 l := hL.fr (by rw [d3 1 (by omega) (by omega), e3 1 (by omega) (by omega)])
  have l2 : gp_cutL M1 M2 := ⟨d2, fun c c1 c2 => d3 c (by omega) (by omega), fun i _ _ _ _ _ => by rw [d3 0 (by omega) (by omega)]⟩
  obtain ⟨M3, f1, f2, f3, f4, f5, f6⟩ := gq_cutM (l := l) hw hl24 (fun p hp => (hL.2.2 p hp).2) (gp_cut T l).length 0 gz_FU 1 0 M2 [] (by omega) (by have := gp_cut_len (T := T) (l := l); unfold gz_FU; omega) hT2 hL2 ⟨by rw [d3 0 (by omega) (by omega)]; exact e4.1, fun x hx => by rw [d3 16 (by omega) (by omega)]; exact e4.2 x hx⟩ (by rw [d3 0 (by omega) (by omega)]; exact e5) (by rw [d3 0 (by omega) (by omega)]; exact e6.1) (by rw [d3 0 (by omega) (by omega)]; exact e7) (by omega) (by rw [d3 0 (by omega) (by omega)]; exact e6.2.1) (fun y hy => by rw [(d4 y hy).2]; simp) (fun m S p _ _ h => by cases h) (fun i hi => absurd hi (by omega))
  unfold f12_cutAll
  rw [e1, gp_eB, if_neg (by decide), d1, gp_eB]
  rw [List.drop_zero, Nat.zero_add] at f4
  rw [List.drop_zero] at f5
  exact ⟨M3, f1, (e2.trans l2).trans f2, f3, f4, f5, f6⟩
end
