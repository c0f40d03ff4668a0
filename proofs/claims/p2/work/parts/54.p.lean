/-! questions about tokens: 12 holds, 13 stuck, 14 by, 27 touched -/
def gp_stk (ts : List gp_K) : Nat := (ts.filter fun t => t.1.isNone).length
section
variable {B : Prop} {k k0 k1 m S s x p cu : Nat} {M M' Mc Mr Mc' Mr' : gz_M} {T : gp_T} {l : List Nat} {ts : List gp_K} {r : List Int64}
theorem gp_oE {o : Option Nat} (h : ∀ j, o = some j → j < 2 ^ 31) : (gp_o o = -1) = (o.isNone = true) := by
  cases o with
  | none => exact propext ⟨fun _ => rfl, fun _ => rfl⟩
  | some j =>
    rw [gp_oS, gp_m1, gp_ne1 (h j rfl)]
    simp
theorem gp_itO {α : Type} {o : Option Nat} (h : ∀ j, o = some j → j < 2 ^ 31) (A B : α) : (if gp_o o = -1 then A else B) = if o.isNone = true then A else B := by
  simp only [gp_oE h]
theorem gp_stk_snoc (A : List gp_K) (t : gp_K) : gp_stk (A ++ [t]) = gp_stk A + if t.1.isNone = true then 1 else 0 := by
  unfold gp_stk
  rw [List.filter_append, List.length_append]
  congr 1
  by_cases h : t.1.isNone = true <;> simp [List.filter, h]
theorem gp_stk_le (A : List gp_K) : gp_stk A ≤ A.length := List.length_filter_le _ _
/-- rules of tokens are small -/
theorem gp_rS {n : Nat} (hw : gp_wT T) (hok : ∀ t, t ∈ ts → gp_tkOk T n t) (hx : x < ts.length) : ∀ j, (ts.getD x gp_k0).1 = some j → j < 2 ^ 31 := fun j hj => by
  have := (hok _ (gp_getD_mem hx)).2.2.2.1 j hj
  have := hw.1
  omega
theorem gp_stuckC {n : Nat} (hw : gp_wT T) (hok : ∀ t, t ∈ ts → gp_tkOk T n t) (h : gp_cC k M ts) (hlen : ts.length ≤ 24) : f2_stuckTokens k M = some (nI (gp_stk ts), M) := by
  have c : ∃ b, f2_stuckTokens_4 k gz_FU (nI 0) (nI 0) M = some b ∧ b = (nI (gp_stk ts), M) := by
    refine gp_for (fun n x (a : Int32) => f2_stuckTokens_4 k n a (nI x) M) ts.length (fun x a => a = nI (gp_stk (ts.take x))) _ (fun n a hI => ?_) (fun n x a hx hI => Or.inr ?_) gz_FU 0 _ (by omega) (by unfold gz_FU; omega) rfl
    · refine ⟨_, ?_, rfl⟩
      show f2_stuckTokens_4 k (n + 1) a (nI ts.length) M = _
      rw [f2_stuckTokens_4, h.1, if_pos (nI_le (Nat.le_refl _) (by omega)), hI, List.take_length]
    · refine ⟨_, ?_, rfl⟩
      show f2_stuckTokens_4 k (n + 1) a (nI x) M = f2_stuckTokens_4 k n _ (nI (x + 1)) M
      rw [f2_stuckTokens_4, h.1, if_neg (nI_ge hx (by omega)), gp_ckb (by omega) (by omega), nI_clamp (by omega), (h.2.2 x hx).1, gp_itO (gp_rS hw hok hx), hI, gp_take (d := gp_k0) hx, gp_stk_snoc]
      split
      · rw [gp_eL, gp_eL, nI_1, nI_1]
      · rw [gp_eL, gp_eL, nI_1]
        congr 1
        exact nI_add _ 0
  obtain ⟨_, c1, rfl⟩ := c
  exact c1
theorem gp_ofK (h : gp_kR M ts) (hlen : ts.length ≤ 24) {i : Nat} (hi : i < ts.length) : f12_of (nI i) 0 M = some (gp_o (ts.getD i gp_k0).1, M) ∧ f12_of (nI i) 1 M = some (nI (ts.getD i gp_k0).2.1, M) ∧ f12_of (nI i) 2 M = some (nI (ts.getD i gp_k0).2.2.1, M) ∧ f12_of (nI i) 3 M = some (nI (if (ts.getD i gp_k0).2.2.2.2.1.isSome = true then (ts.getD i gp_k0).2.2.2.1 else (ts.getD i gp_k0).2.2.2.1 + 1), M) ∧ f12_of (nI i) 4 M = some (nI (ts.getD i gp_k0).2.2.2.2.2.1, M) ∧ f12_of (nI i) 5 M = some (nI (ts.getD i gp_k0).2.2.2.2.2.2.length, M) ∧ f12_of (nI i) 6 M = some (gp_o (ts.getD i gp_k0).2.2.2.2.1, M) := by
  obtain ⟨h1, h2, h3, h4, h5, h6, h7, h8⟩ := h.2.2 i hi
  refine ⟨?_, ?_, ?_, ?_, ?_, ?_, ?_⟩
  · rw [show (0 : Int32) = nI 0 from rfl, gp_of h hlen hi (by omega), Nat.add_zero, h1]
  · rw [show (1 : Int32) = nI 1 from rfl, gp_of h hlen hi (by omega), h2]
  · rw [show (2 : Int32) = nI 2 from rfl, gp_of h hlen hi (by omega), h3]
  · rw [show (3 : Int32) = nI 3 from rfl, gp_of h hlen hi (by omega), h4]
  · rw [show (4 : Int32) = nI 4 from rfl, gp_of h hlen hi (by omega), h5]
  · rw [show (5 : Int32) = nI 5 from rfl, gp_of h hlen hi (by omega), h6]
  · rw [show (6 : Int32) = nI 6 from rfl, gp_of h hlen hi (by omega), h7]
theorem gp_stuckR {n : Nat} (hw : gp_wT T) (hok : ∀ t, t ∈ ts → gp_tkOk T n t) (h : gp_kR M ts) (hlen : ts.length ≤ 24) : f12_stuckMany M = some (nI (gp_stk ts), M) := by
  have c : ∃ b, f12_stuckMany_4 gz_FU (nI 0) (nI 0) M = some b ∧ b = (nI (gp_stk ts), M) := by
    refine gp_for (fun n x (a : Int32) => f12_stuckMany_4 n a (nI x) M) ts.length (fun x a => a = nI (gp_stk (ts.take x))) _ (fun n a hI => ?_) (fun n x a hx hI => Or.inr ?_) gz_FU 0 _ (by omega) (by unfold gz_FU; omega) rfl
    · refine ⟨_, ?_, rfl⟩
      show f12_stuckMany_4 (n + 1) a (nI ts.length) M = _
      rw [f12_stuckMany_4, h.1, if_pos (nI_le (Nat.le_refl _) (by omega)), hI, List.take_length]
    · refine ⟨_, ?_, rfl⟩
      show f12_stuckMany_4 (n + 1) a (nI x) M = f12_stuckMany_4 n _ (nI (x + 1)) M
      rw [f12_stuckMany_4, h.1, if_neg (nI_ge hx (by omega)), (gp_ofK h hlen hx).1, gp_eB2, gp_itO (gp_rS hw hok hx), hI, gp_take (d := gp_k0) hx, gp_stk_snoc]
      split
      · rw [gp_eL, gp_eL, nI_1, nI_1]
      · rw [gp_eL, gp_eL, nI_1]
        congr 1
        exact nI_add _ 0
  obtain ⟨_, c1, rfl⟩ := c
  exact c1
/-! promise 13: stuck -/
def gp_stT (t : gp_K) : List Int64 := if t.1.isNone = true then [(nI t.2.1).toInt64, (gp_o t.2.2.2.2.1).toInt64] else []
theorem gp_stT_len (A : List gp_K) : (A.flatMap gp_stT).length ≤ 2 * A.length := by
  induction A with
  | nil => simp
  | cons t A ih =>
    rw [List.flatMap_cons, List.length_append, List.length_cons]
    have : (gp_stT t).length ≤ 2 := by unfold gp_stT; split <;> simp
    omega
theorem gp_a13 (h : gp_Q B cu Mc Mr T l) : gp_ans B cu Mc Mr (f11_stuck Mc) (f12_stuck Mr) := by
  have hq := h
  obtain ⟨h1, h2, h3, h4, h5, h6, h7, h8⟩ := h
  have hlen := h6.2.2.2
  have hcu := h6.1
  have hok := gp_cut_ok (l := l) h1
  have h42 : l.length ≤ 24 := h4.1
  obtain ⟨M1, e1, e2, e3, e4, e5, e6, e7, e8, _⟩ := gp_cutT hq
  generalize hts : gp_cut T l = ts at *
  have c : ∃ b, f11_stuck_7 gz_FU (nI 0) (gz_w Mc 0 15 0) = some b ∧ ∃ M', b = (nI (gp_stk ts), M') ∧ gp_fC Mc M' ∧ gp_wC M' (ts.flatMap gp_stT) := by
    refine gp_for (fun n x (M : gz_M) => f11_stuck_7 n (nI x) M) ts.length (fun x M => gp_fC Mc M ∧ gp_wC M ((ts.take x).flatMap gp_stT)) _ (fun n M hI => ?_) (fun n x M hx hI => Or.inr ?_) gz_FU 0 _ (by omega) (by unfold gz_FU; omega) ⟨(gp_wC0 Mc).1, (gp_wC0 Mc).2⟩
    · have hW := h6.fr hI.1
      refine ⟨_, ?_, M, rfl, hI.1, ?_⟩
      · show f11_stuck_7 (n + 1) (nI ts.length) M = _
        rw [f11_stuck_7, hW.2.1, hW.2.2.1.1, if_pos (nI_le (Nat.le_refl _) (by omega)), gp_stuckC h1 hok hW.2.2.1 hlen, gp_eB2]
      · have := hI.2
        rwa [List.take_length] at this
    · have hW := h6.fr hI.1
      have hv := hW.2.2.1.2.2 x hx
      have hl := gp_stT_len (ts.take x)
      rw [List.length_take, Nat.min_eq_left (by omega)] at hl
      by_cases hn : (ts.getD x gp_k0).1.isNone = true
      · obtain ⟨M2, f1, f2, f3⟩ := gp_tellC (nI (ts.getD x gp_k0).2.1).toInt64 hI.2 (by omega)
        have hW2 := hW.fr f2
        obtain ⟨M3, g1, g2, g3⟩ := gp_tellC (gp_o (ts.getD x gp_k0).2.2.2.2.1).toInt64 f3 (by rw [List.length_append, List.length_singleton]; omega)
        refine ⟨M3, ?_, (hI.1.trans f2).trans g2, ?_⟩
        · show f11_stuck_7 (n + 1) (nI x) M = f11_stuck_7 n (nI (x + 1)) M3
          rw [f11_stuck_7, hW.2.1, hW.2.2.1.1, if_neg (nI_ge hx (by omega)), gp_ckb (by omega) (by omega), nI_clamp (by omega), hv.1, gp_itO (gp_rS h1 hok hx), if_pos hn, gp_ckb (by omega) (by omega), hv.2.1, f1, gp_eB, gp_ckb (by omega) (by omega), hW2.2.1, (hW2.2.2.1.2.2 x hx).2.2.2.2.1, g1, gp_eB, gp_eL, nI_1]
        · rw [gp_take (d := gp_k0) hx, List.flatMap_append]
          have : [ts.getD x gp_k0].flatMap gp_stT = [(nI (ts.getD x gp_k0).2.1).toInt64] ++ [(gp_o (ts.getD x gp_k0).2.2.2.2.1).toInt64] := by
            unfold gp_stT
            simp only [List.flatMap_cons, List.flatMap_nil, List.append_nil]
            rw [if_pos hn]; rfl
          rw [this, ← List.append_assoc]
          exact g3
      · refine ⟨M, ?_, hI.1, ?_⟩
        · show f11_stuck_7 (n + 1) (nI x) M = f11_stuck_7 n (nI (x + 1)) M
          rw [f11_stuck_7, hW.2.1, hW.2.2.1.1, if_neg (nI_ge hx (by omega)), gp_ckb (by omega) (by omega), nI_clamp (by omega), hv.1, gp_itO (gp_rS h1 hok hx), if_neg hn, gp_eL, nI_1]
        · rw [gp_take (d := gp_k0) hx, List.flatMap_append]
          have : [ts.getD x gp_k0].flatMap gp_stT = [] := by
            unfold gp_stT
            simp only [List.flatMap_cons, List.flatMap_nil, List.append_nil]
            rw [if_neg hn]
          rw [this, List.append_nil]
          exact hI.2
  have r : ∃ b, f12_stuck_17 gz_FU (nI 0) (gz_w M1 0 4 0) = some b ∧ ∃ M', b = (nI (gp_stk ts), M') ∧ gp_fR M1 M' ∧ gp_wR M' (ts.flatMap gp_stT) := by
    refine gp_for (fun n x (M : gz_M) => f12_stuck_17 n (nI x) M) ts.length (fun x M => gp_fR M1 M ∧ gp_wR M ((ts.take x).flatMap gp_stT)) _ (fun n M hI => ?_) (fun n x M hx hI => Or.inr ?_) gz_FU 0 _ (by omega) (by unfold gz_FU; omega) ⟨(gp_wR0 M1).1, (gp_wR0 M1).2⟩
    · have hW := e3.fr hI.1
      refine ⟨_, ?_, M, rfl, hI.1, ?_⟩
      · show f12_stuck_17 (n + 1) (nI ts.length) M = _
        rw [f12_stuck_17, hW.1, if_pos (nI_le (Nat.le_refl _) (by omega)), gp_stuckR h1 hok hW hlen, gp_eB2]
      · have := hI.2
        rwa [List.take_length] at this
    · have hW := e3.fr hI.1
      have hl := gp_stT_len (ts.take x)
      rw [List.length_take, Nat.min_eq_left (by omega)] at hl
      by_cases hn : (ts.getD x gp_k0).1.isNone = true
      · obtain ⟨M2, f1, f2, f3⟩ := gp_tellR (nI (ts.getD x gp_k0).2.1).toInt64 hI.2 (by omega)
        have hW2 := hW.fr f2
        obtain ⟨M3, g1, g2, g3⟩ := gp_tellR (gp_o (ts.getD x gp_k0).2.2.2.2.1).toInt64 f3 (by rw [List.length_append, List.length_singleton]; omega)
        refine ⟨M3, ?_, (hI.1.trans f2).trans g2, ?_⟩
        · show f12_stuck_17 (n + 1) (nI x) M = f12_stuck_17 n (nI (x + 1)) M3
          rw [f12_stuck_17, hW.1, if_neg (nI_ge hx (by omega)), (gp_ofK hW hlen hx).1, gp_eB2, gp_itO (gp_rS h1 hok hx), if_pos hn, (gp_ofK hW hlen hx).2.1, gp_eB2, f1, gp_eB, (gp_ofK hW2 hlen hx).2.2.2.2.2.2, gp_eB2, g1, gp_eB, gp_eL, nI_1]
        · rw [gp_take (d := gp_k0) hx, List.flatMap_append]
          have : [ts.getD x gp_k0].flatMap gp_stT = [(nI (ts.getD x gp_k0).2.1).toInt64] ++ [(gp_o (ts.getD x gp_k0).2.2.2.2.1).toInt64] := by
            unfold gp_stT
            simp only [List.flatMap_cons, List.flatMap_nil, List.append_nil]
            rw [if_pos hn]; rfl
          rw [this, ← List.append_assoc]
          exact g3
      · refine ⟨M, ?_, hI.1, ?_⟩
        · show f12_stuck_17 (n + 1) (nI x) M = f12_stuck_17 n (nI (x + 1)) M
          rw [f12_stuck_17, hW.1, if_neg (nI_ge hx (by omega)), (gp_ofK hW hlen hx).1, gp_eB2, gp_itO (gp_rS h1 hok hx), if_neg hn, gp_eL, nI_1]
        · rw [gp_take (d := gp_k0) hx, List.flatMap_append]
          have : [ts.getD x gp_k0].flatMap gp_stT = [] := by
            unfold gp_stT
            simp only [List.flatMap_cons, List.flatMap_nil, List.append_nil]
            rw [if_neg hn]
          rw [this, List.append_nil]
          exact hI.2
  obtain ⟨_, c1, Mc', rfl, c2, c3⟩ := c
  obtain ⟨_, r1, Mr', rfl, r2, r3⟩ := r
  refine gp_ansI (v := nI (gp_stk ts)) c1 ?_ (c2.qq (by omega)) (e2.trans r2.qq) c3 r3 ?_
  · unfold f12_stuck
    rw [gp_eL, e1, gp_eB, gp_eL]
    exact r1
  · have := gp_stT_len ts
    omega
end
