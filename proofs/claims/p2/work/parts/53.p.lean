/-! questions: what both worlds hold, and what a question leaves -/
def gp_qC (cu : Nat) (M M' : gz_M) : Prop := (∀ c, (1 ≤ c ∧ c < 3) ∨ (7 ≤ c ∧ c < 30) ∨ (cu ≤ c ∧ c < cu + 9) ∨ 131 ≤ c → M'.1 c = M.1 c) ∧ M'.1 0 5 = M.1 0 5 ∧ M'.1 0 8 = M.1 0 8
def gp_qR (M M' : gz_M) : Prop := (∀ c, c = 1 ∨ c = 2 ∨ (5 ≤ c ∧ c ≤ 14) ∨ c = 21 ∨ c = 22 ∨ c = 33 → M'.1 c = M.1 c) ∧ M'.1 0 2 = M.1 0 2 ∧ M'.1 0 10 = M.1 0 10 ∧ M'.1 0 51 = M.1 0 51
/-- the rows told: the same ones, where B holds -/
def gp_rw (B : Prop) (Mc Mr : gz_M) : Prop := ∃ r r' : List Int64, r.length ≤ 1024 ∧ r'.length ≤ 64 ∧ gp_wC Mc r ∧ gp_wR Mr r' ∧ (B → r = r')
def gp_ans (B : Prop) (cu : Nat) (Mc Mr : gz_M) (a b : Option (Int32 × gz_M)) : Prop := ∃ v Mc' Mr', a = some (v, Mc') ∧ b = some (v, Mr') ∧ gp_qC cu Mc Mc' ∧ gp_qR Mr Mr' ∧ gp_rw B Mc' Mr'
def gp_cW (cu : Nat) (M : gz_M) (ts : List gp_K) : Prop := (cu = 30 ∨ cu = 60) ∧ gz_cIx (M.1 0 5) = cu ∧ gp_cC cu M ts ∧ ts.length ≤ 24
def gp_Q (B : Prop) (cu : Nat) (Mc Mr : gz_M) (T : gp_T) (l : List Nat) : Prop := gp_wT T ∧ gp_tC 11 Mc T ∧ gp_tR Mr T ∧ gp_lC 9 Mc l ∧ gp_lR Mr l ∧ gp_cW cu Mc (gp_cut T l) ∧ gz_cIx (Mc.1 0 8) = 90 - cu ∧ gp_rw B Mc Mr
section
variable {B : Prop} {k k0 k1 m S s x p cu : Nat} {M M' Mc Mr Mc' Mr' : gz_M} {r : List Int64} {T : gp_T} {l : List Nat} {ts : List gp_K}
theorem gp_qC.refl : gp_qC cu M M := ⟨fun _ _ => rfl, rfl, rfl⟩
theorem gp_qR.refl : gp_qR M M := ⟨fun _ _ => rfl, rfl, rfl, rfl⟩
theorem gp_qC.trans {M1 M2 M3 : gz_M} (a : gp_qC cu M1 M2) (b : gp_qC cu M2 M3) : gp_qC cu M1 M3 := ⟨fun c hc => (b.1 c hc).trans (a.1 c hc), b.2.1.trans a.2.1, b.2.2.trans a.2.2⟩
theorem gp_qR.trans {M1 M2 M3 : gz_M} (a : gp_qR M1 M2) (b : gp_qR M2 M3) : gp_qR M1 M3 := ⟨fun c hc => (b.1 c hc).trans (a.1 c hc), b.2.1.trans a.2.1, b.2.2.1.trans a.2.2.1, b.2.2.2.trans a.2.2.2⟩
theorem gp_fC.qq (hcu : 0 < cu) (h : gp_fC M M') : gp_qC cu M M' := ⟨fun c hc => h.1 c (by omega), h.2 _ (by omega), h.2 _ (by omega)⟩
theorem gp_fR.qq (h : gp_fR M M') : gp_qR M M' := ⟨fun c hc => h.1 c (by omega), h.2 _ (by omega), h.2 _ (by omega), h.2 _ (by omega)⟩
theorem gp_cutL.qq (h : gp_cutL M M') : gp_qR M M' := ⟨fun c hc => h.2.1 c (by omega) (by omega), h.2.2 _ (by omega) (by omega) (by omega) (by omega) (by omega), h.2.2 _ (by omega) (by omega) (by omega) (by omega) (by omega), h.2.2 _ (by omega) (by omega) (by omega) (by omega) (by omega)⟩
/-- thrown is set -/
theorem gp_thr (v : Int32) : gp_qR M (gz_w M 0 5 v) ∧ gp_fR (gz_w M 0 5 v) (gz_w M 0 5 v) := ⟨⟨fun c hc => gp_wc _ (by omega), gp_gn (by omega), gp_gn (by omega), gp_gn (by omega)⟩, gp_fR.refl _⟩
theorem gp_wR.fr (h : gp_wR M r) (e : M'.2 = M.2) (e0 : M'.1 0 4 = M.1 0 4) : gp_wR M' r := ⟨by rw [e0]; exact h.1, fun i hi => by rw [e]; exact h.2 i hi⟩
theorem gp_wC.fr (h : gp_wC M r) (e : M'.2 = M.2) (e0 : M'.1 0 15 = M.1 0 15) : gp_wC M' r := ⟨by rw [e0]; exact h.1, fun i hi => by rw [e]; exact h.2 i hi⟩
theorem gp_cC.fr (h : gp_cC k M ts) (e : ∀ c, k ≤ c → c < k + 9 → M'.1 c = M.1 c) : gp_cC k M' ts := by
  refine ⟨?_, ?_, fun i hi => ?_⟩
  · rw [e _ (by omega) (by omega)]; exact h.1
  · rw [e _ (by omega) (by omega)]; exact h.2.1
  · rw [e _ (by omega) (by omega), e _ (by omega) (by omega), e _ (by omega) (by omega), e _ (by omega) (by omega), e _ (by omega) (by omega), e _ (by omega) (by omega), e _ (by omega) (by omega), e _ (by omega) (by omega)]
    exact h.2.2 i hi
theorem gp_cW.fr (h : gp_cW cu M ts) (e : gp_fC M M') : gp_cW cu M' ts := by
  obtain ⟨h1, h2, h3, h4⟩ := h
  exact ⟨h1, by rw [e.2 _ (by omega)]; exact h2, h3.fr (fun c c1 c2 => e.1 c (by omega)), h4⟩
theorem gp_kR.fr (h : gp_kR M ts) (e : gp_fR M M') : gp_kR M' ts := by
  obtain ⟨h1, h2, h3⟩ := h
  exact ⟨by rw [e.2 _ (by omega)]; exact h1, by rw [e.2 _ (by omega)]; exact h2, fun i hi => (h3 i hi).fr (fun y _ => by rw [e.1 _ (by omega)])⟩
theorem gp_Q.row (h : gp_Q B cu Mc Mr T l) (hr : gp_rw B Mc' Mr') (e : gp_qC cu Mc Mc') (e' : gp_qR Mr Mr') : gp_Q B cu Mc' Mr' T l := by
  obtain ⟨h1, h2, h3, h4, h5, ⟨h6, h7, h8, h9⟩, h10, h11⟩ := h
  exact ⟨h1, h2.fr (fun c c1 c2 => e.1 c (by omega)), h3.fr (fun c c1 c2 => e'.1 c (by omega)) e'.2.2.1, h4.fr (fun c c1 c2 => e.1 c (by omega)), h5.fr (e'.1 1 (by omega)), ⟨h6, by rw [e.2.1]; exact h7, h8.fr (fun c c1 c2 => e.1 c (by omega)), h9⟩, by rw [e.2.2]; exact h10, hr⟩
theorem gp_of (h : gp_kR M ts) {i j : Nat} (hts : ts.length ≤ 24) (hi : i < ts.length) (hj : j < 12) : f12_of (nI i) (nI j) M = some (M.1 17 (12 * i + j), M) := by
  unfold f12_of
  rw [show (12 : Int32) = nI 12 from rfl, pk_mul, nI_add, gp_ckb (by omega) (by omega), nI_clamp (by omega)]
/-- refused: nothing told, thrown 0 -/
theorem gp_ansN (h : gp_Q B cu Mc Mr T l) (v : Int32) {a b : Option (Int32 × gz_M)} (ha : a = some (v, Mc)) (hb : b = some (v, gz_w Mr 0 5 0)) : gp_ans B cu Mc Mr a b := by
  obtain ⟨r, r', h0, h1, h2, h3, h4⟩ := h.2.2.2.2.2.2.2
  exact ⟨v, Mc, _, ha, hb, gp_qC.refl, (gp_thr 0).1, r, r', h0, h1, h2, h3.fr rfl (gp_gn (by omega)), h4⟩
theorem gp_ansI {v : Int32} {a b : Option (Int32 × gz_M)} (ha : a = some (v, Mc')) (hb : b = some (v, Mr')) (q1 : gp_qC cu Mc Mc') (q2 : gp_qR Mr Mr') (c3 : gp_wC Mc' r) (r3 : gp_wR Mr' r) (hr : r.length ≤ 64) : gp_ans B cu Mc Mr a b := ⟨v, Mc', Mr', ha, hb, q1, q2, r, r, by omega, hr, c3, r3, fun _ => rfl⟩
theorem gp_ansK {v : Int32} {a b : Option (Int32 × gz_M)} (ha : a = some (v, Mc')) (hb : b = some (v, Mr')) (q1 : gp_qC cu Mc Mc') (q2 : gp_qR Mr Mr') (h8 : gp_rw B Mc Mr) (ec : Mc'.2 = Mc.2) (ec0 : Mc'.1 0 15 = Mc.1 0 15) (er : Mr'.2 = Mr.2) (er0 : Mr'.1 0 4 = Mr.1 0 4) : gp_ans B cu Mc Mr a b := by
  obtain ⟨r, r', h0, h1, h2, h3, h4⟩ := h8
  exact ⟨v, Mc', Mr', ha, hb, q1, q2, r, r', h0, h1, h2.fr ec ec0, h3.fr er er0, h4⟩
/-- the reference's cut behind thrown -/
theorem gp_cutT (h : gp_Q B cu Mc Mr T l) : ∃ M', f12_cutAll 0 (gz_w Mr 0 5 0) = some M' ∧ gp_qR Mr M' ∧ gp_kR M' (gp_cut T l) ∧ gp_tR M' T ∧ gp_lR M' l ∧ M'.1 0 5 = 0 ∧ M'.2 = Mr.2 ∧ M'.1 0 4 = Mr.1 0 4 ∧ M'.1 0 32 = nI (gp_reads (gp_cut T l)) := by
  obtain ⟨h1, h2, h3, h4, h5, _⟩ := h
  have ht : gp_tR (gz_w Mr 0 5 0) T := h3.fr (fun c c1 c2 => gp_wc _ (by omega)) (gp_gn (by omega))
  have hl : gp_lR (gz_w Mr 0 5 0) l := h5.fr (gp_wc _ (by omega))
  obtain ⟨M', e1, e2, e3, e4, e5, e6⟩ := gp_cutAll0 h1 ht hl
  exact ⟨M', e1, (gp_thr 0).1.trans e2.qq, e4, ht.fr (fun c c1 c2 => e2.2.1 c (by omega) (by omega)) (e2.2.2 _ (by omega) (by omega) (by omega) (by omega) (by omega)), hl.fr (e2.2.1 1 (by omega) (by omega)), (e2.2.2 _ (by omega) (by omega) (by omega) (by omega) (by omega)).trans (gp_gs _ _ _ _), e2.1, (e2.2.2 _ (by omega) (by omega) (by omega) (by omega) (by omega)).trans (gp_gn (by omega)), e5⟩
/-! promise 9: cut -/
theorem gp_a9 (h : gp_Q B cu Mc Mr T l) : gp_ans B cu Mc Mr (f11_cut Mc) (f12_cut Mr) := by
  have hq := h
  obtain ⟨h1, h2, h3, h4, h5, h6, h7, h8⟩ := h
  have hlen := h6.2.2.2
  have hcu := h6.1
  have hok := gp_cut_ok (l := l) h1
  have h42 : l.length ≤ 24 := h4.1
  obtain ⟨M1, e1, e2, e3, e4, e5, e6, e7, e8, _⟩ := gp_cutT hq
  generalize hts : gp_cut T l = ts at *
  -- the component
  have c : ∃ b, f11_cut_7 gz_FU (nI 0) (gz_w Mc 0 15 0) = some b ∧ ∃ M', b = (nI ts.length, M') ∧ gp_fC Mc M' ∧ gp_wC M' (ts.map fun t => (nI t.2.2.1).toInt64) := by
    refine gp_for (fun n x (M : gz_M) => f11_cut_7 n (nI x) M) ts.length (fun x M => gp_fC Mc M ∧ gp_wC M ((ts.take x).map fun t => (nI t.2.2.1).toInt64)) _ (fun n M hI => ?_) (fun n x M hx hI => Or.inr ?_) gz_FU 0 _ (by omega) (by unfold gz_FU; omega) ⟨(gp_wC0 Mc).1, (gp_wC0 Mc).2⟩
    · have hW := h6.fr hI.1
      refine ⟨_, ?_, M, rfl, hI.1, ?_⟩
      · show f11_cut_7 (n + 1) (nI ts.length) M = _
        rw [f11_cut_7, hW.2.1, hW.2.2.1.1, if_pos (nI_le (Nat.le_refl _) (by omega))]
      · have := hI.2
        rwa [List.take_length] at this
    · have hW := h6.fr hI.1
      obtain ⟨M', f1, f2, f3⟩ := gp_tellC (nI (ts.getD x gp_k0).2.2.1).toInt64 hI.2 (by simp; omega)
      refine ⟨M', ?_, hI.1.trans f2, ?_⟩
      · show f11_cut_7 (n + 1) (nI x) M = f11_cut_7 n (nI (x + 1)) M'
        rw [f11_cut_7, hW.2.1, hW.2.2.1.1, if_neg (nI_ge hx (by omega)), gp_ckb (by omega) (by omega), nI_clamp (by omega), (hW.2.2.1.2.2 x hx).2.2.1, f1, gp_eB, gp_eL, nI_1]
      · rw [gp_take (d := gp_k0) hx, List.map_append]
        exact f3
  have r : ∃ b, f12_cut_17 gz_FU (nI 0) (gz_w M1 0 4 0) = some b ∧ ∃ M', b = (nI ts.length, M') ∧ gp_fR M1 M' ∧ gp_wR M' (ts.map fun t => (nI t.2.2.1).toInt64) := by
    refine gp_for (fun n x (M : gz_M) => f12_cut_17 n (nI x) M) ts.length (fun x M => gp_fR M1 M ∧ gp_wR M ((ts.take x).map fun t => (nI t.2.2.1).toInt64)) _ (fun n M hI => ?_) (fun n x M hx hI => Or.inr ?_) gz_FU 0 _ (by omega) (by unfold gz_FU; omega) ⟨(gp_wR0 M1).1, (gp_wR0 M1).2⟩
    · have hW := e3.fr hI.1
      refine ⟨_, ?_, M, rfl, hI.1, ?_⟩
      · show f12_cut_17 (n + 1) (nI ts.length) M = _
        rw [f12_cut_17, hW.1, if_pos (nI_le (Nat.le_refl _) (by omega))]
      · have := hI.2
        rwa [List.take_length] at this
    · have hW := e3.fr hI.1
      obtain ⟨M', f1, f2, f3⟩ := gp_tellR (nI (ts.getD x gp_k0).2.2.1).toInt64 hI.2 (by simp; omega)
      refine ⟨M', ?_, hI.1.trans f2, ?_⟩
      · show f12_cut_17 (n + 1) (nI x) M = f12_cut_17 n (nI (x + 1)) M'
        rw [f12_cut_17, hW.1, if_neg (nI_ge hx (by omega)), show (2 : Int32) = nI 2 from rfl, gp_of hW hlen hx (by omega), gp_eB2, (hW.2.2 x hx).2.2.1, f1, gp_eB, gp_eL, nI_1]
      · rw [gp_take (d := gp_k0) hx, List.map_append]
        exact f3
  obtain ⟨_, c1, Mc', rfl, c2, c3⟩ := c
  obtain ⟨_, r1, Mr', rfl, r2, r3⟩ := r
  refine gp_ansI (v := nI ts.length) ?_ ?_ (c2.qq (by omega)) (e2.trans r2.qq) c3 r3 ?_
  · unfold f11_cut
    exact c1
  · unfold f12_cut
    rw [gp_eL, e1, gp_eB, gp_eL]
    exact r1
  · rw [List.length_map]
    omega
end
