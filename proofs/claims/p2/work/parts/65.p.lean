/-! questions about rules: 23 states, 25 idle -/
section
variable {B : Prop} {k k0 k1 m S s x p cu i j nx : Nat} {M M' Mc Mr Mc' Mr' : gz_M} {T : gp_T} {l : List Nat} {E : gp_E}
theorem gp_sL.qq (hcu : cu = 30 ∨ cu = 60) (h : gp_sL M M') : gp_qC cu M M' := ⟨fun c hc => h.2 c (by omega), by rw [h.2 0 (by omega)], by rw [h.2 0 (by omega)]⟩
theorem gp_sLR.qq (h : gp_sLR M M') : gp_qR M M' := ⟨fun c hc => h.2.1 c (by omega) (by omega), h.2.2 _ (by omega), h.2.2 _ (by omega), h.2.2 _ (by omega)⟩
theorem gp_exC.fr (h : gp_exC M E) (e : ∀ c, 123 ≤ c → c < 126 → M'.1 c = M.1 c) : gp_exC M' E := by
  refine ⟨?_, fun i hi => ?_, fun S hS hm => ?_⟩
  · rw [e _ (by omega) (by omega)]; exact h.1
  · rw [e _ (by omega) (by omega), e _ (by omega) (by omega)]; exact h.2.1 i hi
  · rw [e _ (by omega) (by omega)]; exact h.2.2 S hS hm
theorem gp_exR.fr (h : gp_exR M E) (e : ∀ c, 24 ≤ c → c < 28 → M'.1 c = M.1 c) (e0 : M'.1 0 44 = M.1 0 44) : gp_exR M' E := by
  refine ⟨?_, fun i hi => ?_, fun S hS => ?_⟩
  · rw [e0]; exact h.1
  · rw [e _ (by omega) (by omega), e _ (by omega) (by omega), e _ (by omega) (by omega)]; exact h.2.1 i hi
  · rw [e _ (by omega) (by omega)]; exact h.2.2 S hS
theorem gp_itW {α : Type} (hw : gp_wT T) (m S : Nat) (A C : α) : (if gp_o (gp_win T m S) = -1 then A else C) = if (gp_win T m S).isNone = true then A else C := gp_itO (fun j hj => by have := (gp_win_some hj).1; have := hw.1; omega) A C
/-! promise 23: states -/
def gp_wcn (T : gp_T) (m : Nat) (E : gp_E) : Nat → Nat
  | 0 => 0
  | x + 1 => gp_wcn T m E x + if (gp_win T m (E.getD x gp_e0).1).isNone = true then 0 else 1
theorem gp_a23 (h : gp_Q B cu Mc Mr T l) (a : Int32) : gp_ans B cu Mc Mr (f11_states a Mc) (f12_states a Mr) := by
  rcases gp_isModeE a with ⟨_, _, m, hm, rfl⟩ | ⟨_, hE⟩
  · have hq := h
    obtain ⟨h1, h2, h3, h4, h5, h6, h7, h8⟩ := h
    have hcu := h6.1
    have ht : gp_tR (gz_w Mr 0 5 0) T := h3.fr (fun c c1 c2 => gp_wc _ (by omega)) (gp_gn (by omega))
    obtain ⟨M1, e1, e2, e3, e4⟩ := gp_explore (m := m) h1 hm h2
    obtain ⟨N1, n1, n2, n3⟩ := gp_layFound (m := m) h1 hm ht
    have hlen := e4.len
    have htC : gp_tC 11 M1 T := h2.fr (fun c c1 c2 => e2.2 c (by omega))
    have htR : gp_tR N1 T := n2.t ht
    generalize gp_ex T m = E at *
    have c : ∃ b, f11_states_25 gz_FU (nI m) (nI 0) (nI 0) M1 = some b ∧ ∃ M', b = (nI E.length, M') ∧ gp_fC M1 M' ∧ gp_wC M' [(nI (gp_wcn T m E E.length)).toInt64] := by
      refine gp_for (fun n x (a : Int32) => f11_states_25 n (nI m) a (nI x) M1) E.length (fun x a => a = nI (gp_wcn T m E x)) _ (fun n a hI => ?_) (fun n x a hx hI => Or.inr ⟨_, ?_, rfl⟩) gz_FU 0 (nI 0) (by omega) (by unfold gz_FU; omega) rfl
      · subst hI
        obtain ⟨M2, f1, f2, f3⟩ := gp_tellC (nI (gp_wcn T m E E.length)).toInt64 (gp_wC0 M1).2 (by simp)
        refine ⟨_, ?_, M2, rfl, (gp_wC0 M1).1.trans f2, f3⟩
        show f11_states_25 (n + 1) _ _ (nI E.length) M1 = _
        rw [f11_states_25, e3.1, if_pos (nI_le (Nat.le_refl _) (by omega)), gp_eL, f1, gp_eB, f2.1 _ (by omega), gp_gn (by omega), e3.1]
      · subst hI
        show f11_states_25 (n + 1) _ _ (nI x) M1 = f11_states_25 n _ _ (nI (x + 1)) M1
        have hv := (e3.2.1 x hx).1
        have hS := (e4.2 x hx).2.1
        rw [f11_states_25, e3.1, if_neg (nI_ge hx (by omega)), gp_ckb (by omega) (by omega), nI_clamp (by omega), hv, gp_winner h1 htC hm hS, gp_eB2, gp_itW h1, gp_wcn]
        split
        · rw [gp_eL, gp_eL, nI_1, gp_add0]
          rfl
        · rw [gp_eL, gp_eL, nI_1, nI_1]
    have rr : ∃ b, f12_states_23 gz_FU (nI m) (nI 0) (nI 0) N1 = some b ∧ ∃ M', b = (nI E.length, M') ∧ gp_fR N1 M' ∧ gp_wR M' [(nI (gp_wcn T m E E.length)).toInt64] := by
      refine gp_for (fun n x (a : Int32) => f12_states_23 n (nI m) a (nI x) N1) E.length (fun x a => a = nI (gp_wcn T m E x)) _ (fun n a hI => ?_) (fun n x a hx hI => Or.inr ⟨_, ?_, rfl⟩) gz_FU 0 (nI 0) (by omega) (by unfold gz_FU; omega) rfl
      · subst hI
        obtain ⟨M2, f1, f2, f3⟩ := gp_tellR (nI (gp_wcn T m E E.length)).toInt64 (gp_wR0 N1).2 (by simp)
        refine ⟨_, ?_, M2, rfl, (gp_wR0 N1).1.trans f2, f3⟩
        show f12_states_23 (n + 1) _ _ (nI E.length) N1 = _
        rw [f12_states_23, n3.1, if_pos (nI_le (Nat.le_refl _) (by omega)), gp_eL, f1, gp_eB, f2.2 _ (by omega), gp_gn (by omega), n3.1]
      · subst hI
        show f12_states_23 (n + 1) _ _ (nI x) N1 = f12_states_23 n _ _ (nI (x + 1)) N1
        have hv := (n3.2.1 x hx).1
        have hS := (e4.2 x hx).2.1
        rw [f12_states_23, n3.1, if_neg (nI_ge hx (by omega)), gp_ckb (by omega) (by omega), nI_clamp (by omega), hv, gp_winR h1 htR hm hS, gp_eB2, gp_itW h1, gp_wcn]
        split
        · rw [gp_eL, gp_eL, nI_1, gp_add0]
          rfl
        · rw [gp_eL, gp_eL, nI_1, nI_1]
    obtain ⟨_, c1, Mc', rfl, c2, c3⟩ := c
    obtain ⟨_, r1, Mr', rfl, r2, r3⟩ := rr
    refine gp_ansI (v := nI E.length) ?_ ?_ ((e2.qq hcu).trans (c2.qq (by omega))) ((gp_thr 0).1.trans (n2.qq.trans r2.qq)) c3 r3 (by simp)
    · unfold f11_states
      rw [gp_isMode hm, gp_eB2, if_neg (by decide), e1, gp_eB]
      exact c1
    · unfold f12_states
      rw [gp_eL, gp_isModeR hm, gp_eB2, if_neg (by decide), n1, gp_eB]
      exact r1
  · refine gp_ansN h (-1) ?_ ?_
    · unfold f11_states; rw [(hE _).1]; rfl
    · unfold f12_states; rw [gp_eL, (hE _).2]; rfl
/-! promise 25: idle -/
theorem gp_cut1 (A w b : Int32) : (A &&& (w ^^^ (-1))) &&& (b ^^^ (-1)) = A &&& ((w ||| b) ^^^ (-1)) := by
  apply Int32.toBitVec_inj.mp
  apply BitVec.eq_of_getLsbD_eq
  intro i hi
  simp only [Int32.toBitVec_and, Int32.toBitVec_xor, Int32.toBitVec_or, BitVec.getLsbD_and, BitVec.getLsbD_xor, BitVec.getLsbD_or]
  have : ((-1 : Int32).toBitVec).getLsbD i = true := by
    have h : ∀ i, i < 32 → ((-1 : Int32).toBitVec).getLsbD i = true := by decide
    exact h i hi
  rw [this]
  cases A.toBitVec.getLsbD i <;> cases w.toBitVec.getLsbD i <;> cases b.toBitVec.getLsbD i <;> rfl
theorem gp_cut2 (A : Int32) : A &&& ((0 : Int32) ^^^ (-1)) = A := by
  rw [show ((0 : Int32) ^^^ (-1)) = -1 by decide]
  simp
def gp_wi (T : gp_T) (m : Nat) (E : gp_E) (w : Int32) : Nat → Int32
  | 0 => w
  | x + 1 => match gp_win T m (E.getD x gp_e0).1 with
    | none => gp_wi T m E w x
    | some k => gp_wi T m E w x ||| gz_shl 1 (nI k)
theorem gp_idleC (hw : gp_wT T) (hm : m < 4) (ht : gp_tC 11 M T) (hx : gp_exC M E) (hE : gp_wE E) (c4 : Int32 → Int32 → gz_M → Option (Int32 × gz_M)) (w : Int32) : f11_idle_23 c4 gz_FU w (nI m) 0 M = c4 (gp_wi T m E w E.length) (nI (m + 1)) M := by
  have hlen := hE.len
  have main : ∀ (d n x : Nat), x + d = E.length → d < n → f11_idle_23 c4 n (gp_wi T m E w x) (nI m) (nI x) M = c4 (gp_wi T m E w E.length) (nI (m + 1)) M := by
    intro d
    induction d with
    | zero =>
      intro n x hxx hn
      obtain ⟨n, rfl⟩ : ∃ q, n = q + 1 := ⟨n - 1, by omega⟩
      have : x = E.length := by omega
      subst this
      rw [f11_idle_23, hx.1, if_pos (nI_le (Nat.le_refl _) (by omega)), gp_eL, nI_1]
    | succ d ih =>
      intro n x hxx hn
      obtain ⟨n, rfl⟩ : ∃ q, n = q + 1 := ⟨n - 1, by omega⟩
      have hxl : x < E.length := by omega
      have e := ih n (x + 1) (by omega) (by omega)
      have hv := (hx.2.1 x hxl).1
      have hS := (hE.2 x hxl).2.1
      rw [f11_idle_23, hx.1, if_neg (nI_ge hxl (by omega)), gp_ckb (by omega) (by omega), nI_clamp (by omega), hv, gp_winner hw ht hm hS, gp_eB2, gp_itW hw]
      rw [gp_wi] at e
      cases hwin : gp_win T m (E.getD x gp_e0).1 with
      | none =>
        rw [hwin] at e
        rw [if_pos (show (none : Option Nat).isNone = true from rfl), gp_eL, gp_eL, nI_1]
        simp only [Int32.or_zero]
        exact e
      | some k =>
        rw [hwin] at e
        rw [if_neg (by simp), gp_eL, gp_eL, nI_1]
        exact e
  exact main E.length gz_FU 0 (by omega) (by unfold gz_FU; omega)
theorem gp_idleR (hw : gp_wT T) (hm : m < 4) (ht : gp_tR M T) (hx : gp_exR M E) (hE : gp_wE E) (c4 : Int32 → Int32 → gz_M → Option (Int32 × gz_M)) (w A : Int32) : f12_idle_28 c4 gz_FU (A &&& (w ^^^ (-1))) (nI m) 0 M = c4 (A &&& (gp_wi T m E w E.length ^^^ (-1))) (nI (m + 1)) M := by
  have hlen := hE.len
  have main : ∀ (d n x : Nat), x + d = E.length → d < n → f12_idle_28 c4 n (A &&& (gp_wi T m E w x ^^^ (-1))) (nI m) (nI x) M = c4 (A &&& (gp_wi T m E w E.length ^^^ (-1))) (nI (m + 1)) M := by
    intro d
    induction d with
    | zero =>
      intro n x hxx hn
      obtain ⟨n, rfl⟩ : ∃ q, n = q + 1 := ⟨n - 1, by omega⟩
      have : x = E.length := by omega
      subst this
      rw [f12_idle_28, hx.1, if_pos (nI_le (Nat.le_refl _) (by omega)), gp_eL, nI_1]
    | succ d ih =>
      intro n x hxx hn
      obtain ⟨n, rfl⟩ : ∃ q, n = q + 1 := ⟨n - 1, by omega⟩
      have hxl : x < E.length := by omega
      have e := ih n (x + 1) (by omega) (by omega)
      have hv := (hx.2.1 x hxl).1
      have hS := (hE.2 x hxl).2.1
      rw [f12_idle_28, hx.1, if_neg (nI_ge hxl (by omega)), gp_ckb (by omega) (by omega), nI_clamp (by omega), hv, gp_winR hw ht hm hS, gp_eB2, gp_itW hw]
      rw [gp_wi] at e
      cases hwin : gp_win T m (E.getD x gp_e0).1 with
      | none =>
        rw [hwin] at e
        rw [if_pos (show (none : Option Nat).isNone = true from rfl), gp_eL, nI_1]
        exact e
      | some k =>
        rw [hwin] at e
        rw [if_neg (by simp), gp_ckb (by omega) (by omega), hv, gp_winR hw ht hm hS, gp_eB2, hwin, gp_eL, gp_eL, nI_1, gp_oS, gp_cut1]
        exact e
  exact main E.length gz_FU 0 (by omega) (by unfold gz_FU; omega)
def gp_wiM (T : gp_T) : Nat → Int32
  | 0 => 0
  | m + 1 => gp_wi T m (gp_ex T m) (gp_wiM T m) (gp_ex T m).length
theorem gp_a25 (h : gp_Q B cu Mc Mr T l) : gp_ans B cu Mc Mr (f11_idle Mc) (f12_idle Mr) := by
  have hq := h
  obtain ⟨h1, h2, h3, h4, h5, h6, h7, h8⟩ := h
  have hcu := h6.1
  have hw1 := h1.1
  have ht : gp_tR (gz_w Mr 0 5 0) T := h3.fr (fun c c1 c2 => gp_wc _ (by omega)) (gp_gn (by omega))
  generalize hA : (gz_shl 1 (nI T.1)) - 1 = A
  have c : ∃ b, f11_idle_4 gz_FU (gp_wiM T 0) (nI 0) Mc = some b ∧ ∃ M', b = (A &&& (gp_wiM T 4 ^^^ (-1)), M') ∧ gp_qC cu Mc M' ∧ gp_wC M' [(gp_bc (A &&& (gp_wiM T 4 ^^^ (-1)))).toInt64] := by
    refine gp_for (fun n x (a : Int32 × gz_M) => f11_idle_4 n a.1 (nI x) a.2) 4 (fun x a => a.1 = gp_wiM T x ∧ gp_sL Mc a.2) _ (fun n a hI => ?_) (fun n x a hx hI => Or.inr ?_) gz_FU 0 (gp_wiM T 0, Mc) (by omega) (by unfold gz_FU; omega) ⟨rfl, rfl, fun _ _ => rfl⟩
    · obtain ⟨a1, M1⟩ := a
      obtain ⟨i0, i1⟩ := hI
      have i0 : a1 = gp_wiM T 4 := i0
      have i1 : gp_sL Mc M1 := i1
      subst i0
      have htC : gp_tC 11 M1 T := h2.fr (fun c c1 c2 => i1.2 c (by omega))
      obtain ⟨M2, f1, f2, f3⟩ := gp_tellC (gp_bc (A &&& (gp_wiM T 4 ^^^ (-1)))).toInt64 (gp_wC0 M1).2 (by simp)
      refine ⟨_, ?_, M2, rfl, (i1.qq hcu).trans (((gp_wC0 M1).1.trans f2).qq (by omega)), f3⟩
      show f11_idle_4 (n + 1) _ (nI 4) M1 = _
      rw [f11_idle_4, if_pos (by decide), htC.1, hA, gp_eL, gp_eL, gp_bitCount, gp_eB2, f1, gp_eB]
    · obtain ⟨a1, M1⟩ := a
      obtain ⟨i0, i1⟩ := hI
      have i0 : a1 = gp_wiM T x := i0
      have i1 : gp_sL Mc M1 := i1
      subst i0
      have htC : gp_tC 11 M1 T := h2.fr (fun c c1 c2 => i1.2 c (by omega))
      obtain ⟨M2, e1, e2, e3, e4⟩ := gp_explore (m := x) h1 hx htC
      refine ⟨(gp_wiM T (x + 1), M2), ?_, rfl, i1.trans e2⟩
      show f11_idle_4 (n + 1) _ (nI x) M1 = f11_idle_4 n _ (nI (x + 1)) M2
      rw [f11_idle_4, if_neg (by exact nI_ge hx (by decide)), e1, gp_eB, gp_idleC h1 hx (htC.fr (fun c c1 c2 => e2.2 c (by omega))) e3 e4]
      rfl
  have rr : ∃ b, f12_idle_16 gz_FU (A &&& (gp_wiM T 0 ^^^ (-1))) (nI 0) (gz_w Mr 0 5 0) = some b ∧ ∃ M', b = (A &&& (gp_wiM T 4 ^^^ (-1)), M') ∧ gp_qR Mr M' ∧ gp_wR M' [(gp_bc (A &&& (gp_wiM T 4 ^^^ (-1)))).toInt64] := by
    refine gp_for (fun n x (a : Int32 × gz_M) => f12_idle_16 n a.1 (nI x) a.2) 4 (fun x a => a.1 = A &&& (gp_wiM T x ^^^ (-1)) ∧ gp_sLR (gz_w Mr 0 5 0) a.2) _ (fun n a hI => ?_) (fun n x a hx hI => Or.inr ?_) gz_FU 0 (A &&& (gp_wiM T 0 ^^^ (-1)), gz_w Mr 0 5 0) (by omega) (by unfold gz_FU; omega) ⟨rfl, gp_sLR.refl _⟩
    · obtain ⟨a1, M1⟩ := a
      obtain ⟨i0, i1⟩ := hI
      have i0 : a1 = A &&& (gp_wiM T 4 ^^^ (-1)) := i0
      have i1 : gp_sLR (gz_w Mr 0 5 0) M1 := i1
      subst i0
      obtain ⟨M2, f1, f2, f3⟩ := gp_tellR (gp_bc (A &&& (gp_wiM T 4 ^^^ (-1)))).toInt64 (gp_wR0 M1).2 (by simp)
      refine ⟨_, ?_, M2, rfl, (gp_thr 0).1.trans (i1.qq.trans ((gp_wR0 M1).1.trans f2).qq), f3⟩
      show f12_idle_16 (n + 1) _ (nI 4) M1 = _
      rw [f12_idle_16, if_pos (by decide), gp_eL, gp_bitCount, gp_eB2, f1, gp_eB]
    · obtain ⟨a1, M1⟩ := a
      obtain ⟨i0, i1⟩ := hI
      have i0 : a1 = A &&& (gp_wiM T x ^^^ (-1)) := i0
      have i1 : gp_sLR (gz_w Mr 0 5 0) M1 := i1
      subst i0
      have htR : gp_tR M1 T := i1.t ht
      obtain ⟨_, _, _, _, e4⟩ := gp_explore (m := x) h1 hx h2
      obtain ⟨M2, e1, e2, e3⟩ := gp_layFound (m := x) h1 hx htR
      refine ⟨(A &&& (gp_wiM T (x + 1) ^^^ (-1)), M2), ?_, rfl, i1.trans e2⟩
      show f12_idle_16 (n + 1) _ (nI x) M1 = f12_idle_16 n _ (nI (x + 1)) M2
      rw [f12_idle_16, if_neg (by exact nI_ge hx (by decide)), e1, gp_eB, gp_idleR h1 hx (e2.t htR) e3 e4]
      rfl
  obtain ⟨_, c1, Mc', rfl, c2, c3⟩ := c
  obtain ⟨_, r1, Mr', rfl, r2, r3⟩ := rr
  refine gp_ansI (v := A &&& (gp_wiM T 4 ^^^ (-1))) c1 ?_ c2 r2 c3 r3 (by simp)
  unfold f12_idle
  rw [gp_eL, ht.1, hA, gp_eL]
  have r1' : f12_idle_16 gz_FU (A &&& ((0 : Int32) ^^^ (-1))) 0 (gz_w Mr 0 5 0) = some (A &&& (gp_wiM T 4 ^^^ (-1)), Mr') := r1
  rw [gp_cut2] at r1'
  exact r1'
end
