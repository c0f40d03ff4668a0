/-! questions about tokens: 14 by, 16 moded, 11 modes -/
section
variable {B : Prop} {k k0 k1 m S s x p cu : Nat} {M M' Mc Mr Mc' Mr' : gz_M} {T : gp_T} {l : List Nat} {ts : List gp_K} {r : List Int64}
theorem gp_fl1 {α β : Type} {f : α → List β} {n : Nat} (hf : ∀ a, (f a).length ≤ n) (A : List α) : (A.flatMap f).length ≤ n * A.length := by
  induction A with
  | nil => simp
  | cons t A ih =>
    rw [List.flatMap_cons, List.length_append, List.length_cons, Nat.mul_add]
    have := hf t
    omega
theorem gp_fS {α β : Type} {d : α} {f : α → List β} {A : List α} {x : Nat} (h : x < A.length) : (A.take (x + 1)).flatMap f = (A.take x).flatMap f ++ f (A.getD x d) := by
  rw [gp_take (d := d) h, List.flatMap_append]
  simp
theorem gp_fL {α β : Type} {f : α → List β} {n : Nat} (hf : ∀ a, (f a).length ≤ n) {A : List α} {x : Nat} (h : x ≤ A.length) : ((A.take x).flatMap f).length ≤ n * x := by
  have := gp_fl1 hf (A.take x)
  rwa [List.length_take, Nat.min_eq_left h] at this
/-! promise 14: by. The rule looked for as it stands in the row of tokens -/
def gp_byT (o : Int32) (ts : List gp_K) (x : Nat) : List Int64 := if gp_o (ts.getD x gp_k0).1 = o then [(nI x).toInt64] else []
theorem gp_byT_len (o : Int32) (ts : List gp_K) (x : Nat) : (gp_byT o ts x).length ≤ 1 := by unfold gp_byT; split <;> simp
theorem gp_rS2 {α β : Type} {f : Nat → List β} {x : Nat} : (List.range (x + 1)).flatMap f = (List.range x).flatMap f ++ f x := by
  rw [List.range_succ, List.flatMap_append]
  simp
theorem gp_rS3 {β : Type} {f : Nat → List β} {n : Nat} (hf : ∀ a, (f a).length ≤ n) (x : Nat) : ((List.range x).flatMap f).length ≤ n * x := by
  have := gp_fl1 hf (List.range x)
  rwa [List.length_range] at this
theorem gp_a14 (h : gp_Q B cu Mc Mr T l) (a : Int32) : gp_ans B cu Mc Mr (f11_by a Mc) (f12_by a Mr) := by
  have hq := h
  obtain ⟨h1, h2, h3, h4, h5, h6, h7, h8⟩ := h
  have hlen := h6.2.2.2
  have hcu := h6.1
  have hw1 := h1.1
  have hok := gp_cut_ok (l := l) h1
  have h42 : l.length ≤ 24 := h4.1
  obtain ⟨M1, e1, e2, e3, e4, e5, e6, e7, e8, _⟩ := gp_cutT hq
  generalize hts : gp_cut T l = ts at *
  have hthr : (gz_w Mr 0 5 0).1 0 10 = nI T.1 := by rw [gp_gn (by omega)]; exact h3.1
  -- both loops
  have c : ∃ b, f11_by_26 gz_FU a (nI 0) (gz_w Mc 0 15 0) = some b ∧ ∃ M', b = (nI ((List.range ts.length).flatMap (gp_byT a ts)).length, M') ∧ gp_fC Mc M' ∧ gp_wC M' ((List.range ts.length).flatMap (gp_byT a ts)) := by
    refine gp_for (fun n x (M : gz_M) => f11_by_26 n a (nI x) M) ts.length (fun x M => gp_fC Mc M ∧ gp_wC M ((List.range x).flatMap (gp_byT a ts))) _ (fun n M hI => ?_) (fun n x M hx hI => Or.inr ?_) gz_FU 0 _ (by omega) (by unfold gz_FU; omega) ⟨(gp_wC0 Mc).1, (gp_wC0 Mc).2⟩
    · have hW := h6.fr hI.1
      refine ⟨_, ?_, M, rfl, hI.1, hI.2⟩
      show f11_by_26 (n + 1) a (nI ts.length) M = _
      rw [f11_by_26, hW.2.1, hW.2.2.1.1, if_pos (nI_le (Nat.le_refl _) (by omega)), hI.2.1]
    · have hW := h6.fr hI.1
      have hv := hW.2.2.1.2.2 x hx
      have hl := gp_rS3 (gp_byT_len a ts) x
      have e0 : f11_by_26 (n + 1) a (nI x) M = (if gp_o (ts.getD x gp_k0).1 = a then (gz_bd (f11_tell ((nI x).toInt64) M) fun M4 => f11_by_26 n a (nI (x + 1)) M4) else f11_by_26 n a (nI (x + 1)) M) := by
        rw [f11_by_26, hW.2.1, hW.2.2.1.1, if_neg (nI_ge hx (by omega)), gp_ckb (by omega) (by omega), nI_clamp (by omega), hv.1]
        simp only [gp_eL, nI_1]
      simp only [e0, gp_rS2 (α := Nat)]
      by_cases hn : gp_o (ts.getD x gp_k0).1 = a
      · obtain ⟨M2, f1, f2, f3⟩ := gp_tellC (nI x).toInt64 hI.2 (by omega)
        refine ⟨M2, ?_, hI.1.trans f2, ?_⟩
        · rw [if_pos hn, f1, gp_eB]
        · rw [gp_byT, if_pos hn]; exact f3
      · refine ⟨M, ?_, hI.1, ?_⟩
        · rw [if_neg hn]
        · rw [gp_byT, if_neg hn, List.append_nil]; exact hI.2
  have rr : ∃ b, f12_by_34 gz_FU a (nI 0) (gz_w M1 0 4 0) = some b ∧ ∃ M', b = (nI ((List.range ts.length).flatMap (gp_byT a ts)).length, M') ∧ gp_fR M1 M' ∧ gp_wR M' ((List.range ts.length).flatMap (gp_byT a ts)) := by
    refine gp_for (fun n x (M : gz_M) => f12_by_34 n a (nI x) M) ts.length (fun x M => gp_fR M1 M ∧ gp_wR M ((List.range x).flatMap (gp_byT a ts))) _ (fun n M hI => ?_) (fun n x M hx hI => Or.inr ?_) gz_FU 0 _ (by omega) (by unfold gz_FU; omega) ⟨(gp_wR0 M1).1, (gp_wR0 M1).2⟩
    · have hW := e3.fr hI.1
      refine ⟨_, ?_, M, rfl, hI.1, hI.2⟩
      show f12_by_34 (n + 1) a (nI ts.length) M = _
      rw [f12_by_34, hW.1, if_pos (nI_le (Nat.le_refl _) (by omega)), hI.2.1]
    · have hW := e3.fr hI.1
      have hl := gp_rS3 (gp_byT_len a ts) x
      have e0 : f12_by_34 (n + 1) a (nI x) M = (if gp_o (ts.getD x gp_k0).1 = a then (gz_bd (f12_tell ((nI x).toInt64) M) fun M4 => f12_by_34 n a (nI (x + 1)) M4) else f12_by_34 n a (nI (x + 1)) M) := by
        rw [f12_by_34, hW.1, if_neg (nI_ge hx (by omega)), (gp_ofK hW hlen hx).1, gp_eB2]
        simp only [gp_eL, nI_1]
      simp only [e0, gp_rS2 (α := Nat)]
      by_cases hn : gp_o (ts.getD x gp_k0).1 = a
      · obtain ⟨M2, f1, f2, f3⟩ := gp_tellR (nI x).toInt64 hI.2 (by omega)
        refine ⟨M2, ?_, hI.1.trans f2, ?_⟩
        · rw [if_pos hn, f1, gp_eB]
        · rw [gp_byT, if_pos hn]; exact f3
      · refine ⟨M, ?_, hI.1, ?_⟩
        · rw [if_neg hn]
        · rw [gp_byT, if_neg hn, List.append_nil]; exact hI.2
  have hlt := gp_rS3 (gp_byT_len a ts) ts.length
  obtain ⟨_, c1, Mc', rfl, c2, c3⟩ := c
  obtain ⟨_, r1, Mr', rfl, r2, r3⟩ := rr
  have good : f11_by a Mc = f11_by_26 gz_FU a (nI 0) (gz_w Mc 0 15 0) → f12_by a Mr = f12_by_34 gz_FU a (nI 0) (gz_w M1 0 4 0) → gp_ans B cu Mc Mr (f11_by a Mc) (f12_by a Mr) := by
    intro g1 g2
    refine gp_ansI (g1.trans c1) (g2.trans r1) (c2.qq (by omega)) (e2.trans r2.qq) c3 r3 ?_
    omega
  rcases gp_ixm a (n := T.1) (by omega) with ha | ha | ha | ⟨j, hj, ha⟩
  · refine gp_ansN hq (-2) ?_ ?_
    · unfold f11_by; rw [if_pos ha]
    · unfold f12_by; rw [gp_eL, gp_inm0 _ _ ha]; rfl
  · refine good ?_ ?_
    · subst ha
      unfold f11_by
      rw [if_neg (by decide), h2.1, if_pos (by rw [gp_m1, gp_nolt2 (by omega)]; trivial)]
      rfl
    · subst ha
      unfold f12_by
      rw [gp_eL, hthr, gp_inmn _ (by omega), gp_eB2, if_neg (by decide), e1]
      rfl
  · have hge : ¬ a < -1 := by
      intro hlt
      have a1 := Int32.le_iff_toInt_le.mp ha
      have a2 := Int32.lt_iff_toInt_lt.mp hlt
      rw [nI_toInt (by omega)] at a1
      rw [show ((-1 : Int32)).toInt = -1 by decide] at a2
      omega
    refine gp_ansN hq (-2) ?_ ?_
    · unfold f11_by
      rw [if_neg hge, h2.1, if_neg (fun hh => by
        have a1 := Int32.le_iff_toInt_le.mp ha
        have a2 := Int32.lt_iff_toInt_lt.mp hh
        omega)]
    · unfold f12_by; rw [gp_eL, hthr, gp_inm0b _ (by omega) ha]; rfl
  · refine good ?_ ?_
    · subst ha
      unfold f11_by
      rw [if_neg (by rw [gp_m1, gp_nolt (by omega)]; exact id), h2.1, if_pos (nI_lt hj (by omega))]
      rfl
    · subst ha
      unfold f12_by
      rw [gp_eL, hthr, gp_inm1 _ (by omega) hj, gp_eB2, if_neg (by decide), e1]
      rfl
/-! promise 16: moded -/
def gp_moT (m : Nat) (ts : List gp_K) (x : Nat) : Nat × Nat × Nat := ((List.range x).foldl (fun a i => if (ts.getD i gp_k0).2.2.2.2.2.1 = m then (a.1 + 1, a.2.1 + ((ts.getD i gp_k0).2.2.1 - (ts.getD i gp_k0).2.1), a.2.2 + if (ts.getD i gp_k0).1.isNone = true then 1 else 0) else a) (0, 0, 0))
theorem gp_moT_s (m : Nat) (ts : List gp_K) (x : Nat) : gp_moT m ts (x + 1) = if (ts.getD x gp_k0).2.2.2.2.2.1 = m then ((gp_moT m ts x).1 + 1, (gp_moT m ts x).2.1 + ((ts.getD x gp_k0).2.2.1 - (ts.getD x gp_k0).2.1), (gp_moT m ts x).2.2 + if (ts.getD x gp_k0).1.isNone = true then 1 else 0) else gp_moT m ts x := by
  unfold gp_moT
  rw [List.range_succ, List.foldl_append]
  rfl
theorem gp_subI {a b : Nat} (h : b ≤ a) : nI a - nI b = nI (a - b) := pk_sub h
theorem gp_a16 (h : gp_Q B cu Mc Mr T l) (a : Int32) : gp_ans B cu Mc Mr (f11_moded a Mc) (f12_moded a Mr) := by
  rcases gp_isModeE a with ⟨_, _, m, hm, rfl⟩ | ⟨_, hE⟩
  · have hq := h
    obtain ⟨h1, h2, h3, h4, h5, h6, h7, h8⟩ := h
    have hlen := h6.2.2.2
    have hcu := h6.1
    have hok := gp_cut_ok (l := l) h1
    have h42 : l.length ≤ 24 := h4.1
    obtain ⟨M1, e1, e2, e3, e4, e5, e6, e7, e8, _⟩ := gp_cutT hq
    generalize hts : gp_cut T l = ts at *
    have c : ∃ b, f11_moded_19 gz_FU (nI m) (nI 0) (nI 0) (nI 0) (nI 0) Mc = some b ∧ ∃ M', b = (nI (gp_moT m ts ts.length).1, M') ∧ gp_fC Mc M' ∧ gp_wC M' [(nI (gp_moT m ts ts.length).2.1).toInt64, (nI (gp_moT m ts ts.length).2.2).toInt64] := by
      refine gp_for (fun n x (a : Int32 × Int32 × Int32) => f11_moded_19 n (nI m) a.1 a.2.1 a.2.2 (nI x) Mc) ts.length (fun x a => a = (nI (gp_moT m ts x).1, nI (gp_moT m ts x).2.1, nI (gp_moT m ts x).2.2)) _ (fun n a hI => ?_) (fun n x a hx hI => Or.inr ?_) gz_FU 0 (nI 0, nI 0, nI 0) (by omega) (by unfold gz_FU; omega) rfl
      · subst hI
        obtain ⟨M2, f1, f2, f3⟩ := gp_tellC (nI (gp_moT m ts ts.length).2.1).toInt64 (gp_wC0 Mc).2 (by simp)
        obtain ⟨M3, g1, g2, g3⟩ := gp_tellC (nI (gp_moT m ts ts.length).2.2).toInt64 f3 (by simp)
        refine ⟨_, ?_, M3, rfl, ((gp_wC0 Mc).1.trans f2).trans g2, g3⟩
        show f11_moded_19 (n + 1) _ _ _ _ (nI ts.length) _ = _
        rw [f11_moded_19, h6.2.1, h6.2.2.1.1, if_pos (nI_le (Nat.le_refl _) (by omega)), gp_eL, f1, gp_eB, g1, gp_eB]
      · subst hI
        have hv := h6.2.2.1.2.2 x hx
        have hk := hok _ (gp_getD_mem (d := gp_k0) hx)
        refine ⟨_, ?_, rfl⟩
        show f11_moded_19 (n + 1) _ _ _ _ (nI x) _ = f11_moded_19 n _ _ _ _ (nI (x + 1)) _
        rw [f11_moded_19, h6.2.1, h6.2.2.1.1, if_neg (nI_ge hx (by omega)), gp_ckb (by omega) (by omega), nI_clamp (by omega), hv.2.2.2.2.2.1, gp_moT_s]
        have hmm := hk.2.2.2.2.2.2.1
        have hbb := hk.1
        by_cases hc : (ts.getD x gp_k0).2.2.2.2.2.1 = m
        · rw [if_pos (by rw [hc]), if_pos hc, gp_eL, gp_ckb (by omega) (by omega), gp_ckb (by omega) (by omega), gp_eL, hv.2.2.1, hv.2.1, gp_ckb (by omega) (by omega), hv.1, gp_itO (gp_rS h1 hok hx), pk_sub (by omega)]
          split <;> simp only [gp_eL, nI_1, nI_add, show (0 : Int32) = nI 0 from rfl]
        · rw [if_neg (fun e => hc ((nI_eq (by omega) (by omega)).mp e)), if_neg hc, gp_eL, nI_1]
    have rr : ∃ b, f12_moded_29 gz_FU (nI m) (nI 0) (nI 0) (nI 0) (nI 0) M1 = some b ∧ ∃ M', b = (nI (gp_moT m ts ts.length).1, M') ∧ gp_fR M1 M' ∧ gp_wR M' [(nI (gp_moT m ts ts.length).2.1).toInt64, (nI (gp_moT m ts ts.length).2.2).toInt64] := by
      refine gp_for (fun n x (a : Int32 × Int32 × Int32) => f12_moded_29 n (nI m) a.1 a.2.1 a.2.2 (nI x) M1) ts.length (fun x a => a = (nI (gp_moT m ts x).1, nI (gp_moT m ts x).2.1, nI (gp_moT m ts x).2.2)) _ (fun n a hI => ?_) (fun n x a hx hI => Or.inr ?_) gz_FU 0 (nI 0, nI 0, nI 0) (by omega) (by unfold gz_FU; omega) rfl
      · subst hI
        obtain ⟨M2, f1, f2, f3⟩ := gp_tellR (nI (gp_moT m ts ts.length).2.1).toInt64 (gp_wR0 M1).2 (by simp)
        obtain ⟨M3, g1, g2, g3⟩ := gp_tellR (nI (gp_moT m ts ts.length).2.2).toInt64 f3 (by simp)
        refine ⟨_, ?_, M3, rfl, ((gp_wR0 M1).1.trans f2).trans g2, g3⟩
        show f12_moded_29 (n + 1) _ _ _ _ (nI ts.length) _ = _
        rw [f12_moded_29, e3.1, if_pos (nI_le (Nat.le_refl _) (by omega)), gp_eL, f1, gp_eB, g1, gp_eB]
      · subst hI
        have hv := gp_ofK e3 hlen hx
        have hk := hok _ (gp_getD_mem (d := gp_k0) hx)
        refine ⟨_, ?_, rfl⟩
        show f12_moded_29 (n + 1) _ _ _ _ (nI x) _ = f12_moded_29 n _ _ _ _ (nI (x + 1)) _
        rw [f12_moded_29, e3.1, if_neg (nI_ge hx (by omega)), hv.2.2.2.2.1, gp_eB2, gp_moT_s]
        have hmm := hk.2.2.2.2.2.2.1
        have hbb := hk.1
        by_cases hc : (ts.getD x gp_k0).2.2.2.2.2.1 = m
        · rw [if_pos (by rw [hc]), if_pos hc, gp_eL, hv.2.2.1, gp_eB2, hv.2.1, gp_eB2, gp_eL, hv.1, gp_eB2, gp_itO (gp_rS h1 hok hx), pk_sub (by omega)]
          split <;> simp only [gp_eL, nI_1, nI_add, show (0 : Int32) = nI 0 from rfl]
        · rw [if_neg (fun e => hc ((nI_eq (by omega) (by omega)).mp e)), if_neg hc, gp_eL, nI_1]
    obtain ⟨_, c1, Mc', rfl, c2, c3⟩ := c
    obtain ⟨_, r1, Mr', rfl, r2, r3⟩ := rr
    refine gp_ansI ?_ ?_ (c2.qq (by omega)) (e2.trans r2.qq) c3 r3 (by simp) (v := nI (gp_moT m ts ts.length).1)
    · unfold f11_moded
      rw [gp_isMode hm, gp_eB2, if_neg (by decide)]
      exact c1
    · unfold f12_moded
      rw [gp_eL, gp_isModeR hm, gp_eB2, if_neg (by decide), e1, gp_eB]
      exact r1
  · refine gp_ansN h (-1) ?_ ?_
    · unfold f11_moded; rw [(hE _).1]; rfl
    · unfold f12_moded; rw [gp_eL, (hE _).2]; rfl
end
