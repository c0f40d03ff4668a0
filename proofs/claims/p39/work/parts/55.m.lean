section
/-! questions about tokens: 14 by, 16 moded, 11 modes -/
section
variable {B : Prop} {k k0 k1 m S s x p cu : Nat} {M M' Mc Mr Mc' Mr' : gz_M} {T : gp_T} {l : List Nat} {ts : List gp_K} {r : List Int64}
theorem gp_fl1 {α β : Type} {f : α → List β} {n : Nat} (hf : ∀ a, (f a).length ≤ n) (A : List α) : (A.flatMap f).length ≤ n * A.length := by
  induction A with
  | nil => simp
  | cons t A ih =>
    rw [List.flatMap_cons, List.length_append, List.length_cons, Nat.mul_add]
    have := hf t
    omega
theorem gp_fS {α β : Type} {d : α} {f : α → List β} {A : List α} {x : Nat} (h : x < A.length) : (A.take (x + 1)).flatMap f = (A.take x).flatMap f ++ f (A.getD x d) := by
  rw [gp_take (d := d) h, List.flatMap_append]
  simp
theorem gp_fL {α β : Type} {f : α → List β} {n : Nat} (hf : ∀ a, (f a).length ≤ n) {A : List α} {x : Nat} (h : x ≤ A.length) : ((A.take x).flatMap f).length ≤ n * x := by
  have := gp_fl1 hf (A.take x)
  rwa [List.length_take, Nat.min_eq_left h] at this
/-! promise 14: by. The rule looked for as it stands in the row of tokens -/
def gp_byT (o : Int32) (ts : List gp_K) (x : Nat) : List Int64 := if gp_o (ts.getD x gp_k0).1 = o then [(nI x).toInt64] else []
theorem gp_byT_len (o : Int32) (ts : List gp_K) (x : Nat) : (gp_byT o ts x).length ≤ 1 := by unfold gp_byT; split <;> simp
theorem gp_rS2 {α β : Type} {f : Nat → List β} {x : Nat} : (List.range (x + 1)).flatMap f = (List.range x).flatMap f ++ f x := by
  rw [List.range_succ, List.flatMap_append]
  simp
theorem gp_rS3 {β : Type} {f : Nat → List β} {n : Nat} (hf : ∀ a, (f a).length ≤ n) (x : Nat) : ((List.range x).flatMap f).length ≤ n * x := by
  have := gp_fl1 hf (List.range x)
  rwa [List.length_range] at this
theorem gp_a14 (h : gp_Q B cu Mc Mr T l) (a : Int32) : gp_ans B cu Mc Mr (f11_by a Mc) (f12_by a Mr) := by
  have hq := h
  obtain ⟨h1, h2, h3, h4, h5, h6, h7, h8⟩ := h
  have hlen := h6.2.2.2
  have hcu := h6.1
  have hw1 := h1.1
  have hok := gp_cut_ok (l := l) h1
  have h42 : l.length ≤ 24 := h4.1
  obtain ⟨M1, e1, e2, e3, e4, e5, e6, e7, e8, _⟩ := gp_cutT hq
  generalize hts : gp_cut T l = ts at *
  have hthr : (gz_w Mr 0 5 0).1 0 10 = nI T.1 := by rw [gp_gn (by omega)]; exact h3.1
  -- both loops
  have c : ∃ b, f11_by_26 gz_FU a (nI 0) (gz_w Mc 0 15 0) = some b ∧ ∃ M', b = (nI ((List.range ts.length).flatMap (gp_byT a ts)).length, M') ∧ gp_fC Mc M' ∧ gp_wC M' ((List.range ts.length).flatMap (gp_byT a ts)) := by
    refine gp_for (fun n x (M : gz_M) => f11_by_26 n a (nI x) M) ts.length (fun x M => gp_fC Mc M ∧ gp_wC M ((List.range x).flatMap (gp_byT a ts))) _ (fun n M hI => ?_) (fun n x M hx hI => Or.inr ?_) gz_FU 0 _ (by omega) (by unfold gz_FU; omega) ⟨(gp_wC0 Mc).1, (gp_wC0 Mc).2⟩
    · have hW := h6.fr hI.1
      refine ⟨_, ?_, M, rfl, hI.1, hI.2⟩
      show f11_by_26 (n + 1) a (nI ts.length) M = _
      rw [f11_by_26, hW.2.1, hW.2.2.1.1, if_pos (nI_le (Nat.le_refl _) (by omega)), hI.2.1]
    · have hW := h6.fr hI.1
      have hv := hW.2.2.1.2.2 x hx
      have hl := gp_rS3 (gp_byT_len a ts) x
      have e0 : f11_by_26 (n + 1) a (nI x) M = (if gp_o (ts.getD x gp_k0).1 = a then (gz_bd (f11_tell ((nI x).toInt64) M) fun M4 => f11_by_26 n a (nI (x + 1)) M4) else f11_by_26 n a (nI (x + 1)) M) := by
        rw [f11_by_26, hW.2.1, hW.2.2.1.1, if_neg (nI_ge hx (by omega)), gp_ckb (by omega) (by omega), nI_clamp (by omega), hv.1]
        simp only [gp_eL, nI_1]
      simp only [e0, gp_rS2 (α := Nat)]
      by_cases hn : gp_o (ts.getD x gp_k0).1 = a
      · obtain ⟨M2, f1, f2, f3⟩ := gp_tellC (nI x).toInt64 hI.2 (by omega)
        refine ⟨M2, ?_, hI.1.trans f2, ?_⟩
        · rw [if_pos hn, f1, gp_eB]
        · rw [gp_byT, if_pos hn]; exact f3
      · refine ⟨M, ?_, hI.1, ?_⟩
        · rw [if_neg hn]
        · rw [gp_byT, if_neg hn, List.append_nil]; exact hI.2
  have rr : ∃ b, f12_by_34 gz_FU a (nI 0) (gz_w M1 0 4 0) = some b ∧ ∃ M', b = (nI ((List.range ts.length).flatMap (gp_byT a ts)).length, M') ∧ gp_fR M1 M' ∧ gp_wR M' ((List.range ts.length).flatMap (gp_byT a ts)) := by
    refine gp_for (fun n x (M : gz_M) => f12_by_34 n a (nI x) M) ts.length (fun x M => gp_fR M1 M ∧ gp_wR M ((List.range x).flatMap (gp_byT a ts))) _ (fun n M hI => ?_) (fun n x M hx hI => Or.inr ?_) gz_FU 0 _ (by omega) (by unfold gz_FU; omega) ⟨(gp_wR0 M1).1, (gp_wR0 M1).2⟩
    · have hW := e3.fr hI.1
      refine ⟨_, ?_, M, rfl, hI.1, hI.2⟩
      show f12_by_34 (n + 1) a (nI ts.length) M = _
      rw [f12_by_34, hW.1, if_pos (nI_le (Nat.le_refl _) (by omega)), hI.2.1]
    · have hW := e3.fr hI.1
      have hl := gp_rS3 (gp_byT_len a ts) x
      have e0 : f12_by_34 (n + 1) a (nI x) M = (if gp_o (ts.getD x gp_k0).1 = a then (gz_bd (f12_tell ((nI x).toInt64) M) fun M4 => f12_by_34 n a (nI (x + 1)) M4) else f12_by_34 n a (nI (x + 1)) M) := by
        rw [f12_by_34, hW.1, if_neg (nI_ge hx (by omega)), (gp_ofK hW hlen hx).1, gp_eB2]
        simp only [gp_eL, nI_1]
      simp only [e0, gp_rS2 (α := Nat)]
      by_cases hn : gp_o (ts.getD x gp_k0).1 = a
      · obtain ⟨M2, f1, f2, f3⟩ := gp_tellR (nI x).toInt64 hI.2 (by omega)
        refine ⟨M2, ?_, hI.1.trans f2, ?_⟩
        · rw [if_pos hn, f1, gp_eB]
        · rw [gp_byT, if_pos hn]; exact f3
      · refine ⟨M, ?_, hI.1, ?_⟩
        · rw [if_neg hn]
        · rw [gp_byT, if_neg hn, List.append_nil]; exact hI.2
  have hlt := gp_rS3 (gp_byT_len a ts) ts.length
  obtain ⟨_, c1, Mc', rfl, c2, c3⟩ := c
  obtain ⟨_, r1, Mr', rfl, r2, r3⟩ := rr
  have good : f11_by a Mc = f11_by_26 gz_FU a (nI 0) (gz_w Mc 0 15 0) → f12_by a Mr = f12_by_34 gz_FU a (nI 0) (gz_w M1 0 4 0) → gp_ans B cu Mc Mr (f11_by a Mc) (f12_by a Mr) := by
    intro g1 g2
    refine gp_ansI (g1.trans c1) (g2.trans r1) (c2.qq (by omega)) (e2.trans r2.qq) c3 r3 ?_
    omega
  rcases gp_ixm a (n := T.1) (by omega) with ha | ha | ha | ⟨j, hj, ha⟩
  · refine gp_ansN hq (-2) ?_ ?_
    · unfold f11_by; rw [if_pos ha]
    · unfold f12_by; rw [gp_eL, gp_inm0 _ _ ha]; rfl
  · refine good ?_ ?_
    · subst ha
      unfold f11_by
      rw [if_neg (by decide), h2.1, if_pos (by rw [gp_m1, gp_nolt2 (by omega)]; trivial)]
      rfl
    · subst ha
      unfold f12_by
      rw [gp_eL, hthr, gp_inmn _ (by omega), gp_eB2, if_neg (by decide), e1]
      rfl
  · have hge : ¬ a < -1 := by
      intro hlt
      have a1 := Int32.le_iff_toInt_le.mp ha
      have a2 := Int32.lt_iff_toInt_lt.mp hlt
      rw [nI_toInt (by omega)] at a1
      rw [show ((-1 : Int32)).toInt = -1 by decide] at a2
      omega
    refine gp_ansN hq (-2) ?_ ?_
    · unfold f11_by
      rw [if_neg hge, h2.1, if_neg (fun hh => by
        have a1 := Int32.le_iff_toInt_le.mp ha
        have a2 := Int32.lt_iff_toInt_lt.mp hh
        omega)]
    · unfold f12_by; rw [gp_eL, hthr, gp_inm0b _ (by omega) ha]; rfl
  · refine good ?_ ?_
    · subst ha
      unfold f11_by
      rw [if_neg (by rw [gp_m1, gp_nolt (by omega)]; exact id), h2.1, if_pos (nI_lt hj (by omega))]
      rfl
    · subst ha
      unfold f12_by
      rw [gp_eL, hthr, gp_inm1 _ (by omega) hj, gp_eB2, if_neg (by decide), e1]
      rfl
/-! promise 16: moded -/
def gp_moT (m : Nat) (ts : List gp_K) (x : Nat) : Nat × Nat × Nat := ((List.range x).foldl (fun a i => if (ts.getD i gp_k0).2.2.2.2.2.1 = m then (a.1 + 1, a.2.1 + ((ts.getD i gp_k0).2.2.1 - (ts.getD i gp_k0).2.1), a.2.2 + if (ts.getD i gp_k0).1.isNone = true then 1 else 0) else a) (0, 0, 0))
theorem gp_moT_s (m : Nat) (ts : List gp_K) (x : Nat) : gp_moT m ts (x + 1) = if (ts.getD x gp_k0).2.2.2.2.2.1 = m then ((gp_moT m ts x).1 + 1, (gp_moT m ts x).2.1 + ((ts.getD x gp_k0).2.2.1 - (ts.getD x gp_k0).2.1), (gp_moT m ts x).2.2 + if (ts.getD x gp_k0).1.isNone = true then 1 else 0) else gp_moT m ts x := by
  unfold gp_moT
  rw [List.range_succ, List.foldl_append]
  rfl
theorem gp_subI {a b : Nat} (h : b ≤ a) : nI a - nI b = nI (a - b) := pk_sub h
theorem gp_a16 (h : gp_Q B cu Mc Mr T l) (a : Int32) : gp_ans B cu Mc Mr (f11_moded a Mc) (f12_moded a Mr) := by
  rcases gp_isModeE a with ⟨_, _, m, hm, rfl⟩ | ⟨_, hE⟩
  · have hq := h
    obtain ⟨h1, h2, h3, h4, h5, h6, h7, h8⟩ := h
    have hlen := h6.2.2.2
    have hcu := h6.1
    have hok := gp_cut_ok (l := l) h1
    have h42 : l.length ≤ 24 := h4.1
    obtain ⟨M1, e1, e2, e3, e4, e5, e6, e7, e8, _⟩ := gp_cutT hq
    generalize hts : gp_cut T l = ts at *
    have c : ∃ b, f11_moded_19 gz_FU (nI m) (nI 0) (nI 0) (nI 0) (nI 0) Mc = some b ∧ ∃ M', b = (nI (gp_moT m ts ts.length).1, M') ∧ gp_fC Mc M' ∧ gp_wC M' [(nI (gp_moT m ts ts.length).2.1).toInt64, (nI (gp_moT m ts ts.length).2.2).toInt64] := by
      refine gp_for (fun n x (a : Int32 × Int32 × Int32) => f11_moded_19 n (nI m) a.1 a.2.1 a.2.2 (nI x) Mc) ts.length (fun x a => a = (nI (gp_moT m ts x).1, nI (gp_moT m ts x).2.1, nI (gp_moT m ts x).2.2)) _ (fun n a hI => ?_) (fun n x a hx hI => Or.inr ?_) gz_FU 0 (nI 0, nI 0, nI 0) (by omega) (by unfold gz_FU; omega) rfl
      · subst hI
        obtain ⟨M2, f1, f2, f3⟩ := gp_tellC (nI (gp_moT m ts ts.length).2.1).toInt64 (gp_wC0 Mc).2 (by simp)
        obtain ⟨M3, g1, g2, g3⟩ := gp_tellC (nI (gp_moT m ts ts.length).2.2).toInt64 f3 (by simp)
        refine ⟨_, ?_, M3, rfl, ((gp_wC0 Mc).1.trans f2).trans g2, g3⟩
        show f11_moded_19 (n + 1) _ _ _ _ (nI ts.length) _ = _
        rw [f11_moded_19, h6.2.1, h6.2.2.1.1, if_pos (nI_le (Nat.le_refl _) (by omega)), gp_eL, f1, gp_eB, g1, gp_eB]
      · subst hI
        have hv := h6.2.2.1.2.2 x hx
        have hk := hok _ (gp_getD_mem (d := gp_k0) hx)
        refine ⟨_, ?_, rfl⟩
        show f11_moded_19 (n + 1) _ _ _ _ (nI x) _ = f11_moded_19 n _ _ _ _ (nI (x + 1)) _
        rw [f11_moded_19, h6.2.1, h6.2.2.1.1, if_neg (nI_ge hx (by omega)), gp_ckb (by omega) (by omega), nI_clamp (by omega), hv.2.2.2.2.2.1, gp_moT_s]
        have hmm := hk.2.2.2.2.2.2.1
        have hbb := hk.1
        by_cases hc : (ts.getD x gp_k0).2.2.2.2.2.1 = m
        · rw [if_pos (by rw [hc]), if_pos hc, gp_eL, gp_ckb (by omega) (by omega), gp_ckb (by omega) (by omega), gp_eL, hv.2.2.1, hv.2.1, gp_ckb (by omega) (by omega), hv.1, gp_itO (gp_rS h1 hok hx), pk_sub (by omega)]
          split <;> simp only [gp_eL, nI_1, nI_add, show (0 : Int32) = nI 0 from rfl]
        · rw [if_neg (fun e => hc ((nI_eq (by omega) (by omega)).mp e)), if_neg hc, gp_eL, nI_1]
    have rr : ∃ b, f12_moded_29 gz_FU (nI m) (nI 0) (nI 0) (nI 0) (nI 0) M1 = some b ∧ ∃ M', b = (nI (gp_moT m ts ts.length).1, M') ∧ gp_fR M1 M' ∧ gp_wR M' [(nI (gp_moT m ts ts.length).2.1).toInt64, (nI (gp_moT m ts ts.length).2.2).toInt64] := by
      refine gp_for (fun n x (a : Int32 × Int32 × Int32) => f12_moded_29 n (nI m) a.1 a.2.1 a.2.2 (nI x) M1) ts.length (fun x a => a = (nI (gp_moT m ts x).1, nI (gp_moT m ts x).2.1, nI (gp_moT m ts x).2.2)) _ (fun n a hI => ?_) (fun n x a hx hI => Or.inr ?_) gz_FU 0 (nI 0, nI 0, nI 0) (by omega) (by unfold gz_FU; omega) rfl
      · subst hI
        obtain ⟨M2, f1, f2, f3⟩ := gp_tellR (nI (gp_moT m ts ts.length).2.1).toInt64 (gp_wR0 M1).2 (by simp)
        obtain ⟨M3, g1, g2, g3⟩ := gp_tellR (nI (gp_moT m ts ts.length).2.2).toInt64 f3 (by simp)
        refine ⟨_, ?_, M3, rfl, ((gp_wR0 M1).1.trans f2).trans g2, g3⟩
        show f12_moded_29 (n + 1) _ _ _ _ (nI ts.length) _ = _
        rw [f12_moded_29, e3.1, if_pos (nI_le (Nat.le_refl _) (by omega)), gp_eL, f1, gp_eB, g1, gp_eB]
      · subst hI
        have hv := gp_ofK e3 hlen hx
        have hk := hok _ (gp_getD_mem (d := gp_k0) hx)
        refine ⟨_, ?_, rfl⟩
        show f12_moded_29 (n + 1) _ _ _ _ (nI x) _ = f12_moded_29 n _ _ _ _ (nI (x + 1)) _
        rw [f12_moded_29, e3.1, if_neg (nI_ge hx (by omega)), hv.2.2.2.2.1, gp_eB2, gp_moT_s]
        have hmm := hk.2.2.2.2.2.2.1
        have hbb := hk.1
        by_cases hc : (ts.getD x gp_k0).2.2.2.2.2.1 = m
        · rw [if_pos (by rw [hc]), if_pos hc, gp_eL, hv.2.2.1, gp_eB2, hv.2.1, gp_eB2, gp_eL, hv.1, gp_eB2, gp_itO (gp_rS h1 hok hx), pk_sub (by omega)]
          split <;> simp only [gp_eL, nI_1, nI_add, show (0 : Int32) = nI 0 from rfl]
        · rw [if_neg (fun e => hc ((nI_eq (by omega) (by omega)).mp e)), if_neg hc, gp_eL, nI_1]
    obtain ⟨_, c1, Mc', rfl, c2, c3⟩ := c
    obtain ⟨_, r1, Mr', rfl, r2, r3⟩ := rr
    refine gp_ansI ?_ ?_ (c2.qq (by omega)) (e2.trans r2.qq) c3 r3 (by simp) (v := nI (gp_moT m ts ts.length).1)
    · unfold f11_moded
      rw [gp_isMode hm, gp_eB2, if_neg (by decide)]
      exact c1
    · unfold f12_moded
      rw [gp_eL, gp_isModeR hm, gp_eB2, if_neg (by decide), e1, gp_eB]
      exact r1
  · refine gp_ansN h (-1) ?_ ?_
    · unfold f11_moded; rw [(hE _).1]; rfl
    · unfold f12_moded; rw [gp_eL, (hE _).2]; rfl
end
end
section
/-! questions about tokens: 11 modes, 12 holds, 17 readers, 29 touched, 10 token -/
section
variable {B : Prop} {k k0 k1 m S s x p cu : Nat} {M M' Mc Mr Mc' Mr' : gz_M} {T : gp_T} {l : List Nat} {ts : List gp_K} {r : List Int64}
theorem gp_enc_at : ∀ (i : Nat) {stk : List Nat}, (∀ d, d ∈ stk → d < 4) → i < stk.length → (gp_enc stk >>> (2 * i)) % 4 = stk.getD i 0
  | _, [], _, h => absurd h (by simp)
  | 0, d :: t, h, _ => by
    have := h d List.mem_cons_self
    simp [gp_enc]
    omega
  | i + 1, d :: t, h, hi => by
    have h1 := h d List.mem_cons_self
    have h2 := gp_enc_at i (stk := t) (fun x hx => h x (List.mem_cons_of_mem _ hx)) (by simp at hi; omega)
    have e : 2 * (i + 1) = 2 + 2 * i := by omega
    rw [e, Nat.shiftRight_add]
    have e2 : gp_enc (d :: t) >>> 2 = gp_enc t := by
      rw [Nat.shiftRight_eq_div_pow, gp_enc]
      omega
    rw [e2, h2]
    simp
def gp_dn (n x : Nat) : Int32 := nI (n - x) - 1
theorem gp_dn_s {n x : Nat} (h : x < n) : gp_dn n x = nI (n - 1 - x) := by
  unfold gp_dn
  obtain ⟨q, e⟩ : ∃ q, n - x = q + 1 := ⟨n - x - 1, by omega⟩
  rw [e, nI_pred]
  congr 1
  omega
theorem gp_dn_n {n x : Nat} (h : x < n) : gp_dn n x + (-1) = gp_dn n (x + 1) := by
  rw [gp_dn_s h]
  unfold gp_dn
  rw [Int32.sub_eq_add_neg]
  congr 2
  omega
theorem gp_dn_e (n : Nat) : gp_dn n n = -1 := by
  unfold gp_dn
  rw [Nat.sub_self]
  rfl
def gp_mdT (stk : List Nat) (x : Nat) : Int64 := (nI (stk.getD (stk.length - 1 - x) 0)).toInt64
theorem gp_modesC {stk : List Nat} (hs : gp_sk stk) (M : gz_M) : ∃ M', f11_modes_56 (nI stk.length) (nI (gp_enc stk)) M = some (nI stk.length, M') ∧ gp_fC M M' ∧ gp_wC M' ((List.range stk.length).map (gp_mdT stk)) := by
  have h5 := hs.2.1
  have hlt := hs.lt
  have c : ∃ b, f11_modes_67 gz_FU (nI stk.length) (nI (gp_enc stk)) (gp_dn stk.length 0) (gz_w M 0 15 0) = some b ∧ ∃ M', b = (nI stk.length, M') ∧ gp_fC M M' ∧ gp_wC M' ((List.range stk.length).map (gp_mdT stk)) := by
    refine gp_for (fun n x (M : gz_M) => f11_modes_67 n (nI stk.length) (nI (gp_enc stk)) (gp_dn stk.length x) M) stk.length (fun x M1 => gp_fC M M1 ∧ gp_wC M1 ((List.range x).map (gp_mdT stk))) _ (fun n M1 hI => ?_) (fun n x M1 hx hI => Or.inr ?_) gz_FU 0 _ (by omega) (by unfold gz_FU; omega) ⟨(gp_wC0 M).1, (gp_wC0 M).2⟩
    · refine ⟨_, ?_, M1, rfl, hI.1, hI.2⟩
      show f11_modes_67 (n + 1) _ _ (gp_dn stk.length stk.length) M1 = _
      rw [f11_modes_67, gp_dn_e, if_pos (by decide)]
    · obtain ⟨M2, f1, f2, f3⟩ := gp_tellC (gp_mdT stk x) hI.2 (by rw [List.length_map, List.length_range]; omega)
      refine ⟨M2, ?_, hI.1.trans f2, ?_⟩
      · show f11_modes_67 (n + 1) _ _ (gp_dn stk.length x) M1 = f11_modes_67 n _ _ (gp_dn stk.length (x + 1)) M2
        have e3 : gz_shr (nI (gp_enc stk)) (2 * nI (stk.length - 1 - x)) &&& 3 = nI (stk.getD (stk.length - 1 - x) 0) := by
          rw [show (2 : Int32) = nI 2 from rfl, pk_mul, gp_shr (by omega) (by omega), gp_and3, gp_enc_at _ hs.2.2 (by omega)]
        rw [f11_modes_67, gp_dn_n hx |>.symm, gp_dn_s hx, if_neg (nI_pos (by omega)), e3]
        have : (nI (stk.getD (stk.length - 1 - x) 0)).toInt64 = gp_mdT stk x := rfl
        rw [this, f1, gp_eB, gp_eL]
      · rw [List.range_succ, List.map_append]
        exact f3
  obtain ⟨_, c1, M', rfl, c2, c3⟩ := c
  refine ⟨M', ?_, c2, c3⟩
  unfold f11_modes_56
  rw [gp_eL, gp_eL]
  exact c1
theorem gp_a11 (h : gp_Q B cu Mc Mr T l) (a : Int32) : gp_ans B cu Mc Mr (f11_modes a Mc) (f12_modes a Mr) := by
  have hq := h
  obtain ⟨h1, h2, h3, h4, h5, h6, h7, h8⟩ := h
  have hlen := h6.2.2.2
  have hcu := h6.1
  have hok := gp_cut_ok (l := l) h1
  have h42 : l.length ≤ 24 := h4.1
  obtain ⟨M1, e1, e2, e3, e4, e5, e6, e7, e8, _⟩ := gp_cutT hq
  generalize hts : gp_cut T l = ts at *
  rcases gp_ixm a (n := ts.length) (by omega) with ha | ha | ha | ⟨j, hj, rfl⟩
  · refine gp_ansK (v := -2) (Mc' := Mc) (Mr' := M1) ?_ ?_ gp_qC.refl e2 h8 rfl rfl e7 e8
    · unfold f11_modes; rw [if_pos ha]
    · unfold f12_modes; rw [gp_eL, e1, gp_eB, gp_inm0 _ _ ha]; rfl
  · subst ha
    obtain ⟨Mc', f1, f2, f3⟩ := gp_modesC gp_sk0 Mc
    obtain ⟨M2, g1, g2, g3⟩ := gp_tellR 0 (gp_wR0 M1).2 (by simp)
    refine gp_ansI (v := nI 1) ?_ ?_ (f2.qq (by omega)) (e2.trans ((gp_wR0 M1).1.trans g2).qq) f3 g3 (by simp)
    · unfold f11_modes f11_modes_37
      rw [if_neg (by decide), h6.2.1, h6.2.2.1.1, if_pos (by rw [gp_m1, gp_nolt2 (by omega)]; trivial), if_pos rfl, if_pos rfl]
      exact f1
    · unfold f12_modes
      rw [gp_eL, e1, gp_eB, e3.1, gp_inmn _ (by omega), gp_eB2, if_neg (by decide), gp_eL, if_pos rfl, g1, gp_eB]
      show f12_modes_44 (999999 + 1) (-1) 0 M2 = _
      rw [f12_modes_44, if_pos rfl, g3.1]
      rfl
  · have hge : ¬ a < -1 := by
      intro hlt
      have a1 := Int32.le_iff_toInt_le.mp ha
      have a2 := Int32.lt_iff_toInt_lt.mp hlt
      rw [nI_toInt (by omega)] at a1
      rw [show ((-1 : Int32)).toInt = -1 by decide] at a2
      omega
    refine gp_ansK (v := -2) (Mc' := Mc) (Mr' := M1) ?_ ?_ gp_qC.refl e2 h8 rfl rfl e7 e8
    · unfold f11_modes
      rw [if_neg hge, h6.2.1, h6.2.2.1.1, if_neg (fun hh => by
        have a1 := Int32.le_iff_toInt_le.mp ha
        have a2 := Int32.lt_iff_toInt_lt.mp hh
        omega)]
    · unfold f12_modes; rw [gp_eL, e1, gp_eB, e3.1, gp_inm0b _ (by omega) ha]; rfl
  · have hk := hok _ (gp_getD_mem (d := gp_k0) hj)
    have hv := h6.2.2.1.2.2 j hj
    have hsk := hk.2.2.2.2.2.2.2
    have hsk5 := hsk.2.1
    have hne : ¬ nI j = -1 := by rw [gp_m1, gp_ne1 (by omega)]; exact id
    obtain ⟨Mc', f1, f2, f3⟩ := gp_modesC hsk Mc
    have rr : ∃ b, f12_modes_44 gz_FU (nI j) (nI 0) (gz_w M1 0 4 0) = some b ∧ ∃ M', b = (nI (ts.getD j gp_k0).2.2.2.2.2.2.length, M') ∧ gp_fR M1 M' ∧ gp_wR M' ((List.range (ts.getD j gp_k0).2.2.2.2.2.2.length).map (gp_mdT (ts.getD j gp_k0).2.2.2.2.2.2)) := by
      refine gp_for (fun n x (M : gz_M) => f12_modes_44 n (nI j) (nI x) M) (ts.getD j gp_k0).2.2.2.2.2.2.length (fun x M => gp_fR M1 M ∧ gp_wR M ((List.range x).map (gp_mdT (ts.getD j gp_k0).2.2.2.2.2.2))) _ (fun n M hI => ?_) (fun n x M hx hI => Or.inr ?_) gz_FU 0 _ (by omega) (by unfold gz_FU; omega) ⟨(gp_wR0 M1).1, (gp_wR0 M1).2⟩
      · have hW := e3.fr hI.1
        refine ⟨_, ?_, M, rfl, hI.1, hI.2⟩
        show f12_modes_44 (n + 1) (nI j) (nI (ts.getD j gp_k0).2.2.2.2.2.2.length) M = _
        rw [f12_modes_44, if_neg hne, (gp_ofK hW hlen hj).2.2.2.2.2.1, gp_eB2, if_pos (nI_le (Nat.le_refl _) (by omega)), hI.2.1, List.length_map, List.length_range]
      · have hW := e3.fr hI.1
        obtain ⟨M2, g1, g2, g3⟩ := gp_tellR (gp_mdT (ts.getD j gp_k0).2.2.2.2.2.2 x) hI.2 (by rw [List.length_map, List.length_range]; omega)
        refine ⟨M2, ?_, hI.1.trans g2, ?_⟩
        · show f12_modes_44 (n + 1) (nI j) (nI x) M = f12_modes_44 n (nI j) (nI (x + 1)) M2
          have h8 := (hW.2.2 j hj).2.2.2.2.2.2.2 x (by omega)
          rw [if_pos hx, show 12 * j + 7 + x = 12 * j + (7 + x) by omega] at h8
          have e9 : (nI (List.getD (ts.getD j gp_k0).2.2.2.2.2.2 ((ts.getD j gp_k0).2.2.2.2.2.2.length - 1 - x) 0)).toInt64 = gp_mdT (ts.getD j gp_k0).2.2.2.2.2.2 x := rfl
          rw [f12_modes_44, if_neg hne, (gp_ofK hW hlen hj).2.2.2.2.2.1, gp_eB2, if_neg (nI_ge hx (by omega)), show (7 : Int32) = nI 7 from rfl, nI_add, gp_of hW hlen hj (by omega), h8, gp_eB2, e9, g1, gp_eB, gp_eL, nI_1]
        · rw [List.range_succ, List.map_append]
          exact g3
    obtain ⟨_, r1, Mr', rfl, r2, r3⟩ := rr
    refine gp_ansI ?_ ?_ (f2.qq (by omega)) (e2.trans r2.qq) f3 r3 (by rw [List.length_map, List.length_range]; omega) (v := nI (ts.getD j gp_k0).2.2.2.2.2.2.length)
    · unfold f11_modes f11_modes_37
      rw [if_neg (by rw [gp_m1, gp_nolt (by omega)]; exact id), h6.2.1, h6.2.2.1.1, if_pos (nI_lt hj (by omega)), if_neg hne, gp_ckb (by omega) (by omega), if_neg hne, gp_ckb (by omega) (by omega), nI_clamp (by omega), hv.2.2.2.2.2.2.1, hv.2.2.2.2.2.2.2]
      exact f1
    · unfold f12_modes
      rw [gp_eL, e1, gp_eB, e3.1, gp_inm1 _ (by omega) hj, gp_eB2, if_neg (by decide), gp_eL, if_neg hne]
      exact r1
end
end
section
/-! questions about tokens: 12 holds, 17 readers, 29 touched, 10 token -/
def gp_ansX {V : Type} (B : Prop) (cu : Nat) (Mc Mr : gz_M) (a : Option (Option V × gz_M)) (b : Option (V × gz_M)) : Prop := ∃ o v Mc' Mr', a = some (o, Mc') ∧ b = some (v, Mr') ∧ ((o = none ∧ Mr'.1 0 5 = 1) ∨ (o = some v ∧ Mr'.1 0 5 = 0)) ∧ gp_qC cu Mc Mc' ∧ gp_qR Mr Mr' ∧ gp_rw B Mc' Mr'
section
variable {B : Prop} {k k0 k1 m S s x p cu : Nat} {M M' Mc Mr Mc' Mr' : gz_M} {T : gp_T} {l : List Nat} {ts : List gp_K} {r : List Int64}
/-- tokens lie one behind another, from p on, up to the end -/
def gp_ch (l : List Nat) (p : Nat) (ts : List gp_K) : Prop := (∀ i, i < ts.length → (ts.getD i gp_k0).2.1 = if i = 0 then p else (ts.getD (i - 1) gp_k0).2.2.1) ∧ (if ts.length = 0 then l.length ≤ p else l.length ≤ (ts.getD (ts.length - 1) gp_k0).2.2.1)
theorem gp_cutF_ch (hw : gp_wT T) : ∀ (n p : Nat) (stk : List Nat), gp_sk stk → l.length ≤ p + n → gp_ch l p (gp_cutF T l n p stk)
  | 0, p, stk, hs, hn => ⟨fun i hi => absurd hi (by simp [gp_cutF]), by simp [gp_cutF]; omega⟩
  | n + 1, p, stk, hs, hn => by
    rw [gp_cutF]
    split
    · rename_i hp
      have hok := gp_tok_ok (T := T) hw hp hs
      have hf : (gp_tok T l p stk).2.1 = p := rfl
      generalize gp_tok T l p stk = t at *
      obtain ⟨h1, h2⟩ := gp_cutF_ch hw n t.2.2.1 t.2.2.2.2.2.2 hok.2.2.2.2.2.2.2 (by have := hok.1; omega)
      generalize gp_cutF T l n t.2.2.1 t.2.2.2.2.2.2 = ts at *
      refine ⟨fun i hi => ?_, ?_⟩
      · cases i with
        | zero => simpa using hf
        | succ i =>
          have := h1 i (by simp at hi; omega)
          cases i with
          | zero => simpa using this
          | succ i => simpa using this
      · rw [if_neg (by simp)]
        cases ts with
        | nil => simpa using h2
        | cons t' ts' => simpa using h2
    · exact ⟨fun i hi => absurd hi (by simp), by simp; omega⟩
theorem gp_cut_ch (hw : gp_wT T) (hl : l.length ≤ 24) : gp_ch l 0 (gp_cut T l) := gp_cutF_ch hw 24 0 [0] gp_sk0 (by omega)
/-- the last token ends behind each place -/
theorem gp_ch_last (h : gp_ch l 0 ts) (hp : p < l.length) : 0 < ts.length ∧ p < (ts.getD (ts.length - 1) gp_k0).2.2.1 := by
  have h2 := h.2
  split at h2
  · omega
  · exact ⟨by omega, by omega⟩
/-! promise 12: holds -/
theorem gp_a12 (h : gp_Q B cu Mc Mr T l) (a : Int32) : gp_ans B cu Mc Mr (f11_holds a Mc) (f12_holds a Mr) := by
  have hq := h
  obtain ⟨h1, h2, h3, h4, h5, h6, h7, h8⟩ := h
  have hlen := h6.2.2.2
  have hcu := h6.1
  have hok := gp_cut_ok (l := l) h1
  have h42 : l.length ≤ 24 := h4.1
  have hch := gp_cut_ch (T := T) h1 h42
  obtain ⟨M1, e1, e2, e3, e4, e5, e6, e7, e8, _⟩ := gp_cutT hq
  generalize hts : gp_cut T l = ts at *
  have h81 : (gz_w Mr 0 5 0).1 1 81 = nI l.length := by rw [gp_gn (by omega)]; exact h5.2.1
  have out : ∀ M : gz_M, (∀ i, i < ts.length → a < nI (ts.getD i gp_k0).2.1 ∨ nI (ts.getD i gp_k0).2.2.1 ≤ a) → gp_cW cu M ts → f2_holder cu a M = some (-1, M) := by
    intro M hh hW
    have c : f2_holder_2 cu gz_FU a (nI 0) M = some (-1, M) := by
      refine gp_forU (fun n x => f2_holder_2 cu n a (nI x) M) ts.length _ (fun n => ?_) (fun n x hx => ?_) gz_FU (by unfold gz_FU; omega)
      · show f2_holder_2 cu (n + 1) a (nI ts.length) M = _
        rw [f2_holder_2, hW.2.2.1.1, if_pos (nI_le (Nat.le_refl _) (by omega))]
      · show f2_holder_2 cu (n + 1) a (nI x) M = f2_holder_2 cu n a (nI (x + 1)) M
        have hv := hW.2.2.1.2.2 x hx
        rw [f2_holder_2, hW.2.2.1.1, if_neg (nI_ge hx (by omega)), gp_ckb (by omega) (by omega), nI_clamp (by omega), hv.2.1, hv.2.2.1, gp_ckb (by omega) (by omega)]
        by_cases h1 : a < nI (ts.getD x gp_k0).2.1
        · rw [if_pos h1, gp_eL, nI_1]
        · rw [if_neg h1, if_pos ((hh x hx).resolve_left h1), gp_eL, nI_1]
    exact c
  rcases pk_ix a (n := l.length) (by omega) with ha | ha | ⟨j, hj, rfl⟩
  · refine gp_ansN hq (-1) ?_ ?_
    · unfold f11_holds
      rw [h6.2.1, out Mc (fun i hi => Or.inl (Int32.lt_of_lt_of_le ha (nI_pos' (by have h := (hok _ (gp_getD_mem (d := gp_k0) hi)); have h1 := h.1; have h2 := h.2.1; have h3 := h.2.2.1; omega)))) h6, gp_eB2]
    · unfold f12_holds
      rw [gp_eL, gp_c81, gp_k81, h81, gp_in0 _ _ ha]; rfl
  · have h0 : ¬ a < 0 := by
      intro hlt
      have a1 := Int32.le_iff_toInt_le.mp ha
      have a2 := Int32.lt_iff_toInt_lt.mp hlt
      rw [nI_toInt (by omega)] at a1
      rw [show ((0 : Int32)).toInt = 0 by decide] at a2
      omega
    refine gp_ansN hq (-1) ?_ ?_
    · unfold f11_holds
      rw [h6.2.1, out Mc (fun i hi => Or.inr (Int32.le_trans (nI_le (by have := (hok _ (gp_getD_mem (d := gp_k0) hi)); have h1 := this.2.1; have h2 := this.2.2.1; omega) (by omega)) ha)) h6, gp_eB2]
    · unfold f12_holds
      rw [gp_eL, gp_c81, gp_k81, h81, gp_in0b _ (by omega) h0 ha]; rfl
  · obtain ⟨hl0, hlast⟩ := gp_ch_last hch hj
    obtain ⟨kk, hk1, hk2⟩ := pk_least (fun i => i < ts.length ∧ j < (ts.getD i gp_k0).2.2.1) ⟨ts.length - 1, by omega, hlast⟩
    have hbefore : ∀ i, i < kk → (ts.getD i gp_k0).2.2.1 ≤ j := fun i hi => by
      have := hk2 i hi
      have : ¬ j < (ts.getD i gp_k0).2.2.1 := fun h => this ⟨by omega, h⟩
      omega
    have hbnd : ∀ i, i < ts.length → (ts.getD i gp_k0).2.1 < 2 ^ 31 ∧ (ts.getD i gp_k0).2.2.1 < 2 ^ 31 := fun i hi => by
      have := hok _ (gp_getD_mem (d := gp_k0) hi)
      have a1 := this.1
      have a2 := this.2.1
      have a3 := this.2.2.1
      omega
    have hfirst : (ts.getD kk gp_k0).2.1 ≤ j := by
      have := hch.1 kk hk1.1
      split at this
      · omega
      · have := hbefore (kk - 1) (by omega)
        omega
    have c1 : f2_holder_2 cu gz_FU (nI j) (nI 0) Mc = some (nI kk, Mc) := by
      refine gp_forU (fun n x => f2_holder_2 cu n (nI j) (nI x) Mc) kk _ (fun n => ?_) (fun n x hx => ?_) gz_FU (by unfold gz_FU; omega)
      · show f2_holder_2 cu (n + 1) (nI j) (nI kk) Mc = _
        have hv := h6.2.2.1.2.2 kk hk1.1
        have hb := hbnd kk hk1.1
        rw [f2_holder_2, h6.2.2.1.1, if_neg (nI_ge hk1.1 (by omega)), gp_ckb (by omega) (by omega), nI_clamp (by omega), hv.2.1, hv.2.2.1, if_neg (nI_nlt hfirst (by omega)), gp_ckb (by omega) (by omega), if_neg (nI_ge hk1.2 (by omega))]
      · show f2_holder_2 cu (n + 1) (nI j) (nI x) Mc = f2_holder_2 cu n (nI j) (nI (x + 1)) Mc
        have hxl : x < ts.length := by omega
        have hv := h6.2.2.1.2.2 x hxl
        rw [f2_holder_2, h6.2.2.1.1, if_neg (nI_ge hxl (by omega)), gp_ckb (by omega) (by omega), nI_clamp (by omega), hv.2.1, hv.2.2.1, gp_ckb (by omega) (by omega), if_pos (nI_le (hbefore x hx) (by omega)), gp_eL, nI_1, ite_self]
    have r1 : f12_holds_31 gz_FU (nI j) (nI 0) M1 = some (nI kk, M1) := by
      refine gp_forU (fun n x => f12_holds_31 n (nI j) (nI x) M1) kk _ (fun n => ?_) (fun n x hx => ?_) gz_FU (by unfold gz_FU; omega)
      · show f12_holds_31 (n + 1) (nI j) (nI kk) M1 = _
        have hb := hbnd kk hk1.1
        rw [f12_holds_31, (gp_ofK e3 hlen hk1.1).2.2.1, gp_eB2, if_pos (nI_lt hk1.2 (by omega))]
      · show f12_holds_31 (n + 1) (nI j) (nI x) M1 = f12_holds_31 n (nI j) (nI (x + 1)) M1
        rw [f12_holds_31, (gp_ofK e3 hlen (by omega)).2.2.1, gp_eB2, if_neg (nI_nlt (hbefore x hx) (by omega)), gp_eL, nI_1]
    refine gp_ansK (v := nI kk) (Mc' := Mc) (Mr' := M1) ?_ ?_ gp_qC.refl e2 h8 rfl rfl e7 e8
    · unfold f11_holds f2_holder
      rw [h6.2.1]
      have c1' : f2_holder_2 cu gz_FU (nI j) 0 Mc = _ := c1
      rw [c1', gp_eB2]
    · unfold f12_holds
      rw [gp_eL, gp_c81, gp_k81, h81, gp_in1 _ (by omega) hj, gp_eB2, if_neg (by decide), e1]
      exact r1
end
end
section
/-! questions about tokens: 17 readers, 29 touched, 10 token -/
section
variable {B : Prop} {k k0 k1 m S s x p cu : Nat} {M M' Mc Mr Mc' Mr' : gz_M} {T : gp_T} {l : List Nat} {ts : List gp_K} {r : List Int64}
theorem gp_has {M : gz_M} (h : gp_lC k1 M l) (a : Int32) : (a < 0 ∧ f5_has k1 a M = some (0, M)) ∨ (¬ a < 0 ∧ nI l.length ≤ a ∧ f5_has k1 a M = some (0, M)) ∨ ∃ j, j < l.length ∧ a = nI j ∧ f5_has k1 a M = some (1, M) := by
  have h24 := h.1
  rcases pk_ix a (n := l.length) (by omega) with ha | ha | ⟨j, hj, rfl⟩
  · left
    refine ⟨ha, ?_⟩
    unfold f5_has
    rw [if_pos ha]
  · right; left
    have h0 : ¬ a < 0 := by
      intro hlt
      have a1 := Int32.le_iff_toInt_le.mp ha
      have a2 := Int32.lt_iff_toInt_lt.mp hlt
      rw [nI_toInt (by omega)] at a1
      rw [show ((0 : Int32)).toInt = 0 by decide] at a2
      omega
    refine ⟨h0, ha, ?_⟩
    unfold f5_has
    rw [if_neg h0, h.2.1, if_pos ha]
  · right; right
    refine ⟨j, hj, rfl, ?_⟩
    unfold f5_has
    rw [if_neg (nI_pos (by omega)), h.2.1, if_neg (nI_ge hj (by omega))]
/-! promise 17: readers -/
def gp_rdT (p : Nat) (ts : List gp_K) (x : Nat) : Nat × Option Nat × Nat := (List.range x).foldl (fun a i => if (ts.getD i gp_k0).2.1 ≤ p ∧ p < (ts.getD i gp_k0).2.2.2.1 then (a.1 + 1, some (a.2.1.getD i), a.2.2 + if p < (ts.getD i gp_k0).2.2.1 then 1 else 0) else a) (0, none, 0)
theorem gp_rdT_s (p : Nat) (ts : List gp_K) (x : Nat) : gp_rdT p ts (x + 1) = if (ts.getD x gp_k0).2.1 ≤ p ∧ p < (ts.getD x gp_k0).2.2.2.1 then ((gp_rdT p ts x).1 + 1, some ((gp_rdT p ts x).2.1.getD x), (gp_rdT p ts x).2.2 + if p < (ts.getD x gp_k0).2.2.1 then 1 else 0) else gp_rdT p ts x := by
  unfold gp_rdT
  rw [List.range_succ, List.foldl_append]
  rfl
theorem gp_rdT_b (p : Nat) (ts : List gp_K) : ∀ x, ∀ j, (gp_rdT p ts x).2.1 = some j → j < x
  | 0, j, h => by cases h
  | x + 1, j, h => by
    rw [gp_rdT_s] at h
    split at h
    · dsimp only at h
      cases e : (gp_rdT p ts x).2.1 with
      | none => rw [e] at h; simp at h; omega
      | some i =>
        rw [e] at h
        simp at h
        have := gp_rdT_b p ts x i e
        omega
    · have := gp_rdT_b p ts x j h
      omega
theorem gp_oD {o : Option Nat} {α : Type} (h : ∀ j, o = some j → j < 2 ^ 31) (i : Nat) (f : Int32 → α) : (if gp_o o = -1 then f (nI i) else f (gp_o o)) = f (gp_o (some (o.getD i))) := by
  rw [gp_itO h]
  cases o <;> rfl
theorem gp_a17 (h : gp_Q B cu Mc Mr T l) (a : Int32) : gp_ans B cu Mc Mr (f11_readers a Mc) (f12_readers a Mr) := by
  have hq := h
  obtain ⟨h1, h2, h3, h4, h5, h6, h7, h8⟩ := h
  have hlen := h6.2.2.2
  have hcu := h6.1
  have hok := gp_cut_ok (l := l) h1
  have h42 : l.length ≤ 24 := h4.1
  obtain ⟨M1, e1, e2, e3, e4, e5, e6, e7, e8, _⟩ := gp_cutT hq
  generalize hts : gp_cut T l = ts at *
  have h81 : (gz_w Mr 0 5 0).1 1 81 = nI l.length := by rw [gp_gn (by omega)]; exact h5.2.1
  rcases gp_has h4 a with ⟨ha, hf⟩ | ⟨ha, hb, hf⟩ | ⟨j, hj, rfl, hf⟩
  · refine gp_ansN hq (-1) ?_ ?_
    · unfold f11_readers; rw [hf]; rfl
    · unfold f12_readers; rw [gp_eL, gp_c81, gp_k81, h81, gp_in0 _ _ ha]; rfl
  · refine gp_ansN hq (-1) ?_ ?_
    · unfold f11_readers; rw [hf]; rfl
    · unfold f12_readers; rw [gp_eL, gp_c81, gp_k81, h81, gp_in0b _ (by omega) ha hb]; rfl
  · have c : ∃ b, f11_readers_26 gz_FU (nI j) (nI 0) (gp_o none) (nI 0) (nI 0) Mc = some b ∧ ∃ M', b = (nI (gp_rdT j ts ts.length).1, M') ∧ gp_fC Mc M' ∧ gp_wC M' [(gp_o (gp_rdT j ts ts.length).2.1).toInt64, (nI (gp_rdT j ts ts.length).2.2).toInt64] := by
      refine gp_for (fun n x (a : Int32 × Int32 × Int32) => f11_readers_26 n (nI j) a.1 a.2.1 a.2.2 (nI x) Mc) ts.length (fun x a => a = (nI (gp_rdT j ts x).1, gp_o (gp_rdT j ts x).2.1, nI (gp_rdT j ts x).2.2)) _ (fun n a hI => ?_) (fun n x a hx hI => Or.inr ?_) gz_FU 0 (nI 0, gp_o none, nI 0) (by omega) (by unfold gz_FU; omega) rfl
      · subst hI
        obtain ⟨M2, f1, f2, f3⟩ := gp_tellC (gp_o (gp_rdT j ts ts.length).2.1).toInt64 (gp_wC0 Mc).2 (by simp)
        obtain ⟨M3, g1, g2, g3⟩ := gp_tellC (nI (gp_rdT j ts ts.length).2.2).toInt64 f3 (by simp)
        refine ⟨_, ?_, M3, rfl, ((gp_wC0 Mc).1.trans f2).trans g2, g3⟩
        show f11_readers_26 (n + 1) _ _ _ _ (nI ts.length) _ = _
        rw [f11_readers_26, h6.2.1, h6.2.2.1.1, if_pos (nI_le (Nat.le_refl _) (by omega)), gp_eL, f1, gp_eB, g1, gp_eB]
      · subst hI
        have hv := h6.2.2.1.2.2 x hx
        have hk := hok _ (gp_getD_mem (d := gp_k0) hx)
        have b1 := hk.1
        have b2 := hk.2.1
        have b3 := hk.2.2.1
        refine ⟨_, ?_, rfl⟩
        show f11_readers_26 (n + 1) _ _ _ _ (nI x) _ = f11_readers_26 n _ _ _ _ (nI (x + 1)) _
        rw [f11_readers_26, h6.2.1, h6.2.2.1.1, if_neg (nI_ge hx (by omega)), gp_ckb (by omega) (by omega), nI_clamp (by omega), hv.2.1, gp_rdT_s]
        by_cases hc1 : (ts.getD x gp_k0).2.1 ≤ j
        · by_cases hc2 : j < (ts.getD x gp_k0).2.2.2.1
          · have hcc : (ts.getD x gp_k0).2.1 ≤ j ∧ j < (ts.getD x gp_k0).2.2.2.1 := ⟨hc1, hc2⟩
            have e80 : ∀ s0 : Int32, f11_readers_80 (f11_readers_26 n) (nI j) (nI ((gp_rdT j ts x).1 + 1)) (nI (gp_rdT j ts x).2.2) (nI x) s0 Mc = f11_readers_26 n (nI j) (nI ((gp_rdT j ts x).1 + 1)) s0 (nI ((gp_rdT j ts x).2.2 + if j < (ts.getD x gp_k0).2.2.1 then 1 else 0)) (nI (x + 1)) Mc := by
              intro s0
              unfold f11_readers_80
              rw [h6.2.1, gp_ckb (by omega) (by omega), nI_clamp (by omega), hv.2.2.1]
              by_cases hc3 : j < (ts.getD x gp_k0).2.2.1
              · rw [if_neg (nI_ge hc3 (by omega)), if_pos hc3, gp_eL, gp_eL, nI_1, nI_1]
              · rw [if_pos (nI_le (by omega) (by omega)), if_neg hc3, gp_eL, gp_eL, nI_1, gp_add0]
                rfl
            rw [if_neg (nI_nlt hc1 (by omega)), gp_ckb (by omega) (by omega), hv.2.2.2.1, if_neg (nI_ge hc2 (by omega)), gp_eL, nI_1, if_pos hcc]
            simp only [e80]
            exact gp_oD (fun i hi => by have := gp_rdT_b j ts x i hi; omega) x (fun s0 => f11_readers_26 n (nI j) (nI ((gp_rdT j ts x).1 + 1)) s0 (nI ((gp_rdT j ts x).2.2 + if j < (ts.getD x gp_k0).2.2.1 then 1 else 0)) (nI (x + 1)) Mc)
          · rw [if_neg (nI_nlt hc1 (by omega)), gp_ckb (by omega) (by omega), hv.2.2.2.1, if_pos (nI_le (by omega) (by omega)), gp_eL, nI_1, if_neg (fun h => hc2 h.2)]
        · rw [if_pos (nI_lt (by omega) (by omega)), gp_eL, nI_1, if_neg (fun h => hc1 h.1)]
    have rr : ∃ b, f12_readers_39 gz_FU (nI j) (nI 0) (gp_o none) (nI 0) (nI 0) M1 = some b ∧ ∃ M', b = (nI (gp_rdT j ts ts.length).1, M') ∧ gp_fR M1 M' ∧ gp_wR M' [(gp_o (gp_rdT j ts ts.length).2.1).toInt64, (nI (gp_rdT j ts ts.length).2.2).toInt64] := by
      refine gp_for (fun n x (a : Int32 × Int32 × Int32) => f12_readers_39 n (nI j) a.1 a.2.1 a.2.2 (nI x) M1) ts.length (fun x a => a = (nI (gp_rdT j ts x).1, gp_o (gp_rdT j ts x).2.1, nI (gp_rdT j ts x).2.2)) _ (fun n a hI => ?_) (fun n x a hx hI => Or.inr ?_) gz_FU 0 (nI 0, gp_o none, nI 0) (by omega) (by unfold gz_FU; omega) rfl
      · subst hI
        obtain ⟨M2, f1, f2, f3⟩ := gp_tellR (gp_o (gp_rdT j ts ts.length).2.1).toInt64 (gp_wR0 M1).2 (by simp)
        obtain ⟨M3, g1, g2, g3⟩ := gp_tellR (nI (gp_rdT j ts ts.length).2.2).toInt64 f3 (by simp)
        refine ⟨_, ?_, M3, rfl, ((gp_wR0 M1).1.trans f2).trans g2, g3⟩
        show f12_readers_39 (n + 1) _ _ _ _ (nI ts.length) _ = _
        rw [f12_readers_39, e3.1, if_pos (nI_le (Nat.le_refl _) (by omega)), gp_eL, f1, gp_eB, g1, gp_eB]
      · subst hI
        have hv := gp_ofK e3 hlen hx
        have hk := hok _ (gp_getD_mem (d := gp_k0) hx)
        have b1 := hk.1
        have b2 := hk.2.1
        have b3 := hk.2.2.1
        refine ⟨_, ?_, rfl⟩
        show f12_readers_39 (n + 1) _ _ _ _ (nI x) _ = f12_readers_39 n _ _ _ _ (nI (x + 1)) _
        rw [f12_readers_39, e3.1, if_neg (nI_ge hx (by omega)), hv.2.1, gp_eB2, gp_rdT_s]
        have hmin : gz_min (nI (if (ts.getD x gp_k0).2.2.2.2.1.isSome = true then (ts.getD x gp_k0).2.2.2.1 else (ts.getD x gp_k0).2.2.2.1 + 1)) (nI l.length) = nI (ts.getD x gp_k0).2.2.2.1 := by
          rw [gp_min (by split <;> omega) (by omega)]
          congr 1
          split
          · omega
          · rename_i hn
            have := hk.2.2.2.2.2.1 (by simpa using hn)
            omega
        by_cases hc1 : (ts.getD x gp_k0).2.1 ≤ j
        · rw [if_neg (nI_nlt hc1 (by omega)), hv.2.2.2.1, gp_eB2, gp_c81, gp_k81, e5.2.1, hmin]
          by_cases hc2 : j < (ts.getD x gp_k0).2.2.2.1
          · have hcc : (ts.getD x gp_k0).2.1 ≤ j ∧ j < (ts.getD x gp_k0).2.2.2.1 := ⟨hc1, hc2⟩
            have e94 : ∀ s0 : Int32, f12_readers_94 (f12_readers_39 n) (nI j) (nI (gp_rdT j ts x).1) (nI (gp_rdT j ts x).2.2) (nI x) s0 M1 = f12_readers_39 n (nI j) (nI ((gp_rdT j ts x).1 + 1)) s0 (nI ((gp_rdT j ts x).2.2 + if j < (ts.getD x gp_k0).2.2.1 then 1 else 0)) (nI (x + 1)) M1 := by
              intro s0
              unfold f12_readers_94
              rw [gp_eL, nI_1, hv.2.2.1, gp_eB2]
              by_cases hc3 : j < (ts.getD x gp_k0).2.2.1
              · rw [if_neg (nI_ge hc3 (by omega)), if_pos hc3, gp_eL, gp_eL, nI_1, nI_1]
              · rw [if_pos (nI_le (by omega) (by omega)), if_neg hc3, gp_eL, gp_eL, nI_1, gp_add0]
                rfl
            rw [if_pos (nI_lt hc2 (by omega)), if_pos hcc]
            simp only [e94]
            exact gp_oD (fun i hi => by have := gp_rdT_b j ts x i hi; omega) x (fun s0 => f12_readers_39 n (nI j) (nI ((gp_rdT j ts x).1 + 1)) s0 (nI ((gp_rdT j ts x).2.2 + if j < (ts.getD x gp_k0).2.2.1 then 1 else 0)) (nI (x + 1)) M1)
          · rw [if_neg (nI_nlt (by omega) (by omega)), gp_eL, nI_1, if_neg (fun h => hc2 h.2)]
        · rw [if_pos (nI_lt (by omega) (by omega)), gp_eL, nI_1, if_neg (fun h => hc1 h.1)]
    obtain ⟨_, c1, Mc', rfl, c2, c3⟩ := c
    obtain ⟨_, r1, Mr', rfl, r2, r3⟩ := rr
    refine gp_ansI ?_ ?_ (c2.qq (by omega)) (e2.trans r2.qq) c3 r3 (by simp) (v := nI (gp_rdT j ts ts.length).1)
    · unfold f11_readers
      rw [hf, gp_eB2, if_neg (by decide)]
      exact c1
    · unfold f12_readers
      rw [gp_eL, gp_c81, gp_k81, h81, gp_in1 _ (by omega) hj, gp_eB2, if_neg (by decide), e1, gp_eB]
      exact r1
/-! promise 29: touched -/
def gp_rch (t : gp_K) : Nat := if t.2.2.2.2.1.isSome = true then t.2.2.2.1 else t.2.2.2.1 + 1
theorem gp_reachC (h : gp_cC k M ts) (hlen : ts.length ≤ 24) {n : Nat} (hok : ∀ t, t ∈ ts → gp_tkOk T n t) (hn : n ≤ 24) (hx : x < ts.length) : f2_reach k (nI x) M = some (nI (gp_rch (ts.getD x gp_k0)), M) := by
  have hv := h.2.2 x hx
  have hk := hok _ (gp_getD_mem (d := gp_k0) hx)
  have b3 := hk.2.2.1
  unfold f2_reach
  rw [if_neg (nI_pos (by omega)), h.1, if_pos (nI_lt hx (by omega)), gp_ckb (by omega) (by omega), nI_clamp (by omega), hv.2.2.2.2.1, gp_itO (fun j hj => by have := (hk.2.2.2.2.1 j hj).1; omega), gp_ckb (by omega) (by omega), gp_ckb (by omega) (by omega), hv.2.2.2.1, nI_1]
  unfold gp_rch
  cases (ts.getD x gp_k0).2.2.2.2.1 <;> rfl
/-- how many of the first tokens a change at q doesn't reach -/
def gp_ahd (q : Nat) : List gp_K → Nat
  | [] => 0
  | t :: ts => if gp_rch t ≤ q then gp_ahd q ts + 1 else 0
theorem gp_ahd_f (q : Nat) : ∀ ts : List gp_K, gp_ahd q ts ≤ ts.length ∧ (∀ i, i < gp_ahd q ts → gp_rch (ts.getD i gp_k0) ≤ q) ∧ (gp_ahd q ts < ts.length → q < gp_rch (ts.getD (gp_ahd q ts) gp_k0))
  | [] => by simp [gp_ahd]
  | t :: ts => by
    obtain ⟨h1, h2, h3⟩ := gp_ahd_f q ts
    rw [gp_ahd]
    split
    · rename_i h
      refine ⟨by simp; omega, fun i hi => ?_, fun hl => ?_⟩
      · cases i with
        | zero => simpa using h
        | succ i => simpa using h2 i (by omega)
      · simpa using h3 (by simp at hl; omega)
    · exact ⟨by omega, fun i hi => absurd hi (by omega), fun _ => by simp; omega⟩
theorem gp_rch_lt {n : Nat} {t : gp_K} (h : gp_tkOk T n t) (hn : n ≤ 24) : gp_rch t ≤ 25 := by
  have := h.2.2.1
  unfold gp_rch
  split <;> omega
theorem gp_aheadC (h : gp_cC k M ts) (hlen : ts.length ≤ 24) {n : Nat} (hok : ∀ t, t ∈ ts → gp_tkOk T n t) (hn : n ≤ 24) {q : Nat} (hq : q < 2 ^ 30) : f2_aheadOf k (nI q) M = some (nI (gp_ahd q ts), M) := by
  obtain ⟨a1, a2, a3⟩ := gp_ahd_f q ts
  have c : f2_aheadOf_4 k (999999 + 1) (nI q) (nI 0) (nI 0) M = some (nI (gp_ahd q ts), M) := by
    refine gp_forU (fun n x => f2_aheadOf_4 k (n + 1) (nI q) (nI x) (nI x) M) (gp_ahd q ts) _ (fun n => ?_) (fun n x hx => ?_) 999999 (by omega)
    · show f2_aheadOf_4 k (n + 1 + 1) (nI q) (nI (gp_ahd q ts)) (nI (gp_ahd q ts)) M = _
      rw [f2_aheadOf_4, h.1]
      by_cases hl : gp_ahd q ts < ts.length
      · have b := gp_rch_lt (hok _ (gp_getD_mem (d := gp_k0) hl)) hn
        rw [if_neg (nI_ge hl (by omega)), if_pos rfl, gp_reachC h hlen hok hn hl, gp_eB2, if_pos (nI_lt (a3 hl) (by omega)), gp_eL, gp_eL, nI_1, f2_aheadOf_4, h.1, gp_add0]
        split
        · rfl
        · rw [if_neg (fun e => by have := (nI_eq (by omega) (by omega)).mp e; omega)]
      · rw [if_pos (nI_le (by omega) (by omega))]
    · show f2_aheadOf_4 k (n + 1 + 1) (nI q) (nI x) (nI x) M = f2_aheadOf_4 k (n + 1) (nI q) (nI (x + 1)) (nI (x + 1)) M
      rw [f2_aheadOf_4, h.1, if_neg (nI_ge (by omega) (by omega)), if_pos rfl, gp_reachC h hlen hok hn (by omega), gp_eB2, if_neg (nI_nlt (a2 x hx) (by omega)), gp_eL, gp_eL, nI_1]
  exact c
theorem gp_a29 (h : gp_Q B cu Mc Mr T l) (a : Int32) : gp_ans B cu Mc Mr (f11_touched a Mc) (f12_touched a Mr) := by
  have hq := h
  obtain ⟨h1, h2, h3, h4, h5, h6, h7, h8⟩ := h
  have hlen := h6.2.2.2
  have hcu := h6.1
  have hok := gp_cut_ok (l := l) h1
  have h42 : l.length ≤ 24 := h4.1
  have hch := gp_cut_ch (T := T) h1 h42
  obtain ⟨M1, e1, e2, e3, e4, e5, e6, e7, e8, _⟩ := gp_cutT hq
  generalize hts : gp_cut T l = ts at *
  have h81 : (gz_w Mr 0 5 0).1 1 81 = nI l.length := by rw [gp_gn (by omega)]; exact h5.2.1
  rcases gp_has h4 a with ⟨ha, hf⟩ | ⟨ha, hb, hf⟩ | ⟨j, hj, rfl, hf⟩
  · refine gp_ansN hq (-1) ?_ ?_
    · unfold f11_touched; rw [hf]; rfl
    · unfold f12_touched; rw [gp_eL, gp_c81, gp_k81, h81, gp_in0 _ _ ha]; rfl
  · refine gp_ansN hq (-1) ?_ ?_
    · unfold f11_touched; rw [hf]; rfl
    · unfold f12_touched; rw [gp_eL, gp_c81, gp_k81, h81, gp_in0b _ (by omega) ha hb]; rfl
  · obtain ⟨hl0, hlast⟩ := gp_ch_last hch hj
    obtain ⟨a1, a2, a3⟩ := gp_ahd_f j ts
    have hlt : gp_ahd j ts < ts.length := by
      apply Classical.byContradiction
      intro hn
      have b1 := a2 (ts.length - 1) (by omega)
      have b2 := (hok _ (gp_getD_mem (d := gp_k0) (show ts.length - 1 < ts.length by omega))).2.1
      unfold gp_rch at b1
      split at b1 <;> omega
    have hv := h6.2.2.1.2.2 _ hlt
    obtain ⟨M2, f1, f2, f3⟩ := gp_tellC (nI (gp_ahd j ts)).toInt64 (gp_wC0 Mc).2 (by simp)
    have hW1 := h6.fr (gp_wC0 Mc).1
    have hW2 := hW1.fr f2
    obtain ⟨M3, g1, g2, g3⟩ := gp_tellC (nI (ts.getD (gp_ahd j ts) gp_k0).2.1).toInt64 f3 (by simp)
    have hW3 := hW2.fr g2
    obtain ⟨N2, i1, i2, i3⟩ := gp_tellR (nI (gp_ahd j ts)).toInt64 (gp_wR0 M1).2 (by simp)
    have hN1 := e3.fr (gp_wR0 M1).1
    have hN2 := hN1.fr i2
    obtain ⟨N3, j1, j2, j3⟩ := gp_tellR (nI (ts.getD (gp_ahd j ts) gp_k0).2.1).toInt64 i3 (by simp)
    have hN3 := hN2.fr j2
    refine gp_ansI (v := nI (ts.length - gp_ahd j ts)) ?_ ?_ ((((gp_wC0 Mc).1.trans f2).trans g2).qq (by omega)) (e2.trans ((((gp_wR0 M1).1.trans i2).trans j2).qq)) g3 j3 (by simp)
    · unfold f11_touched
      rw [hf, gp_eB2, if_neg (by decide), h6.2.1, gp_aheadC h6.2.2.1 hlen hok h42 (by omega), gp_eB2, gp_eL, f1, gp_eB, hW2.2.1, hW2.2.2.1.1, if_neg (nI_ge hlt (by omega)), gp_ckb (by omega) (by omega), nI_clamp (by omega), (hW2.2.2.1.2.2 _ hlt).2.1]
      unfold f11_touched_72
      rw [g1, gp_eB, hW3.2.1, hW3.2.2.1.1, pk_sub (by omega)]
    · have rr : f12_touched_31 gz_FU (nI j) (nI 0) M1 = some (nI (ts.length - gp_ahd j ts), N3) := by
        refine gp_forU (fun n x => f12_touched_31 n (nI j) (nI x) M1) (gp_ahd j ts) _ (fun n => ?_) (fun n x hx => ?_) gz_FU (by unfold gz_FU; omega)
        · show f12_touched_31 (n + 1) (nI j) (nI (gp_ahd j ts)) M1 = _
          have b := gp_rch_lt (hok _ (gp_getD_mem (d := gp_k0) hlt)) h42
          have a3' := a3 hlt
          unfold gp_rch at a3' b
          rw [f12_touched_31, (gp_ofK e3 hlen hlt).2.2.2.1, gp_eB2, if_pos (nI_lt a3' (by omega)), gp_eL, i1, gp_eB, (gp_ofK hN2 hlen hlt).2.1, gp_eB2, j1, gp_eB, hN3.1, pk_sub (by omega)]
        · show f12_touched_31 (n + 1) (nI j) (nI x) M1 = f12_touched_31 n (nI j) (nI (x + 1)) M1
          have a2' := a2 x hx
          unfold gp_rch at a2'
          rw [f12_touched_31, (gp_ofK e3 hlen (by omega)).2.2.2.1, gp_eB2, if_neg (nI_nlt a2' (by omega)), gp_eL, nI_1]
      unfold f12_touched
      rw [gp_eL, gp_c81, gp_k81, h81, gp_in1 _ (by omega) hj, gp_eB2, if_neg (by decide), e1, gp_eB]
      exact rr
/-! promise 10: token -/
theorem gp_a10 (h : gp_Q B cu Mc Mr T l) (a w : Int32) : gp_ansX B cu Mc Mr (f11_token a w Mc) (f12_token a w Mr) := by
  have hq := h
  obtain ⟨h1, h2, h3, h4, h5, h6, h7, h8⟩ := h
  have hlen := h6.2.2.2
  have hcu := h6.1
  have hok := gp_cut_ok (l := l) h1
  have h42 : l.length ≤ 24 := h4.1
  obtain ⟨M1, e1, e2, e3, e4, e5, e6, e7, e8, _⟩ := gp_cutT hq
  generalize hts : gp_cut T l = ts at *
  obtain ⟨r, r', p0, p1, p2, p3, p4⟩ := h8
  have none' : f11_token a w Mc = some (none, Mc) → f12_token a w Mr = some (0, gz_w M1 0 5 1) → gp_ansX B cu Mc Mr (f11_token a w Mc) (f12_token a w Mr) := fun g1 g2 =>
    ⟨none, 0, Mc, _, g1, g2, Or.inl ⟨rfl, gp_gs _ _ _ _⟩, gp_qC.refl, e2.trans (gp_thr 1).1, r, r', p0, p1, p2, p3.fr e7 ((gp_gn (by omega)).trans e8), p4⟩
  have some' : ∀ v, f11_token a w Mc = some (some v, Mc) → f12_token a w Mr = some (v, M1) → gp_ansX B cu Mc Mr (f11_token a w Mc) (f12_token a w Mr) := fun v g1 g2 =>
    ⟨some v, v, Mc, M1, g1, g2, Or.inr ⟨rfl, e6⟩, gp_qC.refl, e2, r, r', p0, p1, p2, p3.fr e7 e8, p4⟩
  rcases pk_ix a (n := ts.length) (by omega) with ha | ha | ⟨j, hj, rfl⟩
  · refine none' ?_ ?_
    · unfold f11_token; rw [if_pos ha]; rfl
    · unfold f12_token; rw [gp_eL, e1, gp_eB, gp_in0 _ _ ha]; rfl
  · have h0 : ¬ a < 0 := by
      intro hlt
      have a1 := Int32.le_iff_toInt_le.mp ha
      have a2 := Int32.lt_iff_toInt_lt.mp hlt
      rw [nI_toInt (by omega)] at a1
      rw [show ((0 : Int32)).toInt = 0 by decide] at a2
      omega
    refine none' ?_ ?_
    · unfold f11_token
      rw [if_neg h0, h6.2.1, h6.2.2.1.1, if_neg (fun hh => by
        have a1 := Int32.le_iff_toInt_le.mp ha
        have a2 := Int32.lt_iff_toInt_lt.mp hh
        omega)]; rfl
    · unfold f12_token; rw [gp_eL, e1, gp_eB, e3.1, gp_in0b _ (by omega) h0 ha]; rfl
  · have c0 : f11_token (nI j) w Mc = (if w.toInt < 0 ∨ 5 < w.toInt then (some (none, Mc)) else if w = 0 then (gz_ck (gz_inb (nI j) 24) <| some (some (Mc.1 (cu + 1) (nI j).toNatClampNeg), Mc)) else if w = 1 then (gz_ck (gz_inb (nI j) 24) <| some (some (Mc.1 (cu + 2) (nI j).toNatClampNeg), Mc)) else if w = 2 then (gz_ck (gz_inb (nI j) 24) <| some (some (Mc.1 (cu + 3) (nI j).toNatClampNeg), Mc)) else if w = 3 then (gz_bd2 (f2_reach cu (nI j) Mc) fun v11 M12 => some (some v11, M12)) else if w = 4 then (gz_ck (gz_inb (nI j) 24) <| some (some (Mc.1 (cu + 6) (nI j).toNatClampNeg), Mc)) else if w = 5 then (gz_ck (gz_inb (nI j) 24) <| some (some (Mc.1 (cu + 7) (nI j).toNatClampNeg), Mc)) else none) := by
      unfold f11_token
      rw [if_neg (nI_pos (by omega)), h6.2.1, h6.2.2.1.1, if_pos (nI_lt hj (by omega))]
    have r0 : f12_token (nI j) w Mr = (gz_bd2 (f12_in w 0 5 M1) fun v8 M9 => if v8 = 0 then (f12_token_42 M9) else (gz_bd2 (f12_of (nI j) w M9) fun v12 M13 => some (v12, M13))) := by
      unfold f12_token
      rw [gp_eL, e1, gp_eB, e3.1, gp_in1 _ (by omega) hj, gp_eB2, if_neg (by decide)]
    have hv := h6.2.2.1.2.2 j hj
    have ho := gp_ofK e3 hlen hj
    rw [gp_ckb (by omega) (by omega), gp_ckb (by omega) (by omega), gp_ckb (by omega) (by omega), gp_ckb (by omega) (by omega), gp_ckb (by omega) (by omega), nI_clamp (by omega), gp_reachC h6.2.2.1 hlen hok h42 hj, gp_eB2, hv.1, hv.2.1, hv.2.2.1, hv.2.2.2.2.2.1, hv.2.2.2.2.2.2.1] at c0
    rw [show (5 : Int32) = nI 6 - 1 by decide] at r0
    rcases pk_ix w (n := 6) (by omega) with hw | hw | ⟨i, hi, rfl⟩
    · refine none' ?_ ?_
      · rw [c0, if_pos]
        left
        have := Int32.lt_iff_toInt_lt.mp hw
        rwa [show ((0 : Int32)).toInt = 0 by decide] at this
      · rw [r0, gp_in0 _ _ hw]; rfl
    · have h0 : ¬ w < 0 := by
        intro hlt
        have a1 := Int32.le_iff_toInt_le.mp hw
        have a2 := Int32.lt_iff_toInt_lt.mp hlt
        rw [nI_toInt (by omega)] at a1
        rw [show ((0 : Int32)).toInt = 0 by decide] at a2
        omega
      refine none' ?_ ?_
      · rw [c0, if_pos]
        right
        have := Int32.le_iff_toInt_le.mp hw
        rw [nI_toInt (by omega)] at this
        omega
      · rw [r0, gp_in0b _ (by omega) h0 hw]; rfl
    · rw [gp_in1 _ (by omega) hi, gp_eB2, if_neg (by decide)] at r0
      rw [nI_toInt (by omega), if_neg (by omega)] at c0
      have hc : i = 0 ∨ i = 1 ∨ i = 2 ∨ i = 3 ∨ i = 4 ∨ i = 5 := by omega
      rcases hc with rfl | rfl | rfl | rfl | rfl | rfl
      · refine some' _ c0 ?_
        rw [r0, show nI 0 = 0 from rfl, ho.1, gp_eB2]
      · refine some' _ c0 ?_
        rw [r0, show nI 1 = 1 from rfl, ho.2.1, gp_eB2]
      · refine some' _ c0 ?_
        rw [r0, show nI 2 = 2 from rfl, ho.2.2.1, gp_eB2]
      · refine some' _ c0 ?_
        rw [r0, show nI 3 = 3 from rfl, ho.2.2.2.1, gp_eB2]
        rfl
      · refine some' _ c0 ?_
        rw [r0, show nI 4 = 4 from rfl, ho.2.2.2.2.1, gp_eB2]
      · refine some' _ c0 ?_
        rw [r0, show nI 5 = 5 from rfl, ho.2.2.2.2.2.1, gp_eB2]
end
end
section
/-! standings of stretches: 20 longest, 22 stands, 30 same -/
/-- behind t signs from place i on: what may come, what stands -/
def gp_ss (T : gp_T) (m : Nat) (l : List Nat) (i : Nat) : Nat → Nat × Nat
  | 0 => (T.2.2 8 m, 0)
  | t + 1 => (gp_aft T m ((gp_ss T m l i t).1 &&& T.2.2 (15 + m) (l.getD (i + t) 0)), (gp_ss T m l i t).1 &&& T.2.2 (15 + m) (l.getD (i + t) 0))
def gp_bc (a : Int32) : Int32 := match fJ_bitCount a ((fun _ _ => 0), fun _ => 0) with
  | some v => v.1
  | none => 0
theorem gp_bitCount (a : Int32) (M : gz_M) : fJ_bitCount a M = some (gp_bc a, M) := rfl
section
variable {B : Prop} {k k0 k1 m S s x p cu i j : Nat} {M M' Mc Mr Mc' Mr' : gz_M} {T : gp_T} {l : List Nat} {ts : List gp_K} {r : List Int64}
theorem gp_ss_lt (hw : gp_wT T) (hm : m < 4) (hl : ∀ p, p < l.length → l.getD p 0 < 8) : ∀ t, i + t ≤ l.length → (gp_ss T m l i t).1 < 2 ^ T.2.2 7 m ∧ (gp_ss T m l i t).2 < 2 ^ T.2.2 7 m
  | 0, _ => ⟨(hw.2.2 m hm).2.1, Nat.two_pow_pos _⟩
  | t + 1, h => ⟨gp_aft_lt hw hm _, Nat.lt_of_le_of_lt Nat.and_le_right ((hw.2.2 m hm).2.2.2 _ (hl _ (by omega)))⟩
theorem gp_aft0 (T : gp_T) (m : Nat) : gp_aft T m 0 = 0 := by
  unfold gp_aft
  have : ∀ n, gp_orN (fun x => if (0 : Nat).testBit x = true then T.2.2 (10 + m) x else 0) n = 0 := by
    intro n
    induction n with
    | zero => rfl
    | succ n ih => rw [gp_orN, ih]; simp
  exact this 10
theorem gp_ss_dead (T : gp_T) (m : Nat) (l : List Nat) (i : Nat) : ∀ t d, (gp_ss T m l i (t + 1)).2 = 0 → (gp_ss T m l i (t + 1 + d)).2 = 0 ∧ (gp_ss T m l i (t + 1 + d)).1 = 0
  | t, 0, h => ⟨h, by
    show gp_aft T m (gp_ss T m l i (t + 1)).2 = 0
    rw [h, gp_aft0]⟩
  | t, d + 1, h => by
    obtain ⟨h1, h2⟩ := gp_ss_dead T m l i t d h
    have : (gp_ss T m l i (t + 1 + d + 1)).2 = 0 := by
      show (gp_ss T m l i (t + 1 + d)).1 &&& _ = 0
      rw [h2, Nat.zero_and]
    refine ⟨this, ?_⟩
    show gp_aft T m (gp_ss T m l i (t + 1 + d + 1)).2 = 0
    rw [this, gp_aft0]
theorem gp_standing (hw : gp_wT T) (h : gp_tC k0 M T) (hl : gp_lC k1 M l) (hm : m < 4) (hij : i ≤ j) (hj : j ≤ l.length) : f7_standing k0 k1 (nI m) (nI i) (nI j) M = some (nI (gp_ss T m l i (j - i)).2, M) := by
  have hl1 := hl.1
  unfold f7_standing
  rw [gp_atFirst h hm, gp_eB2]
  refine gp_forE (fun n x (a : Int32 × Int32) => f7_standing_13 k0 k1 n (nI m) (nI j) a.1 a.2 (nI (i + x)) M) (j - i) (fun x a => a = (nI (gp_ss T m l i x).1, nI (gp_ss T m l i x).2)) _ (fun n a hI => ?_) (fun n x a hx hI => Or.inr ?_) gz_FU 0 (nI (T.2.2 8 m), nI 0) (by omega) (by unfold gz_FU; omega) rfl
  · subst hI
    show f7_standing_13 k0 k1 (n + 1) (nI m) (nI j) _ _ (nI (i + (j - i))) M = _
    rw [f7_standing_13, if_pos (nI_le (by omega) (by omega))]
  · subst hI
    refine ⟨_, ?_, rfl⟩
    show f7_standing_13 k0 k1 (n + 1) (nI m) (nI j) _ _ (nI (i + x)) M = f7_standing_13 k0 k1 n (nI m) (nI j) _ _ (nI (i + (x + 1))) M
    have hs := (hl.2.2 (i + x) (by omega)).2
    have h1 := gp_ss_lt (T := T) (i := i) hw hm (fun p hp => (hl.2.2 p hp).2) (x + 1) (by omega)
    rw [f7_standing_13, if_neg (nI_ge (by omega) (by omega)), gp_lget hl (by omega), gp_eB2, gp_takersOf h hm hs, gp_eB2, gp_eL, gp_and, show (gp_ss T m l i x).1 &&& T.2.2 (15 + m) (l.getD (i + x) 0) = (gp_ss T m l i (x + 1)).2 from rfl, gp_after h hm (gp_lt10 hw hm h1.2), gp_eB2, gp_eL, nI_1]
    rfl
theorem gp_stepS (hw : gp_wT T) (h : gp_tR M T) (hl : gp_lR M l) (hm : m < 4) (t : Nat) (ht : i + t < l.length) (s0 : Int32) (hs0 : s0 = if t = 0 then 1 else 0) : gz_ck (gz_inb (82 + nI (i + t)) 106) (f12_step (nI m) (nI (gp_ss T m l i t).2) s0 (M.1 1 (82 + nI (i + t)).toNatClampNeg) M) = some (nI (gp_ss T m l i (t + 1)).2, M) := by
  have hl1 := hl.1
  have hv := hl.2.2 (i + t) ht
  rw [show (82 : Int32) = nI 82 from rfl, nI_add, gp_ckb (by omega) (by omega), nI_clamp (by omega), hv.1]
  cases t with
  | zero =>
    rw [if_pos rfl] at hs0
    subst hs0
    rw [gp_stepR1 hw h hm hv.2]
    rfl
  | succ t =>
    rw [if_neg (by omega)] at hs0
    subst hs0
    have h1 := gp_ss_lt (T := T) (i := i) hw hm (fun p hp => (hl.2.2 p hp).2) (t + 1) (by omega)
    rw [gp_stepR hw h hm hv.2 h1.2]
    rfl
theorem gp_standR (hw : gp_wT T) (h : gp_tR M T) (hl : gp_lR M l) (hm : m < 4) (hij : i ≤ j) (hj : j ≤ l.length) : f12_standingBehind (nI m) (nI i) (nI j) M = some (nI (gp_ss T m l i (j - i)).2, M) := by
  have hl1 := hl.1
  unfold f12_standingBehind
  refine gp_forE (fun n x (a : Int32) => f12_standingBehind_6 n (nI m) (nI i) (nI j) a (nI (i + x)) M) (j - i) (fun x a => a = nI (gp_ss T m l i x).2) _ (fun n a hI => ?_) (fun n x a hx hI => ?_) gz_FU 0 (nI 0) (by omega) (by unfold gz_FU; omega) rfl
  · subst hI
    show f12_standingBehind_6 (n + 1) (nI m) (nI i) (nI j) _ (nI (i + (j - i))) M = _
    rw [f12_standingBehind_6, if_pos (nI_le (by omega) (by omega))]
  · subst hI
    show f12_standingBehind_6 (n + 1) (nI m) (nI i) (nI j) _ (nI (i + x)) M = _ ∨ ∃ s', f12_standingBehind_6 (n + 1) (nI m) (nI i) (nI j) _ (nI (i + x)) M = f12_standingBehind_6 n (nI m) (nI i) (nI j) s' (nI (i + (x + 1))) M ∧ s' = nI (gp_ss T m l i (x + 1)).2
    have e23 : f12_standingBehind_23 (f12_standingBehind_6 n) (nI m) (nI i) (nI j) (nI (gp_ss T m l i x).2) (nI (i + x)) M = f12_standingBehind_6 n (nI m) (nI i) (nI j) (nI (gp_ss T m l i (x + 1)).2) (nI (i + (x + 1))) M := by
      have e38 : ∀ s0 : Int32, (s0 = if x = 0 then 1 else 0) → f12_standingBehind_38 (f12_standingBehind_6 n) (nI m) (nI i) (nI j) (nI (i + x)) s0 (nI (gp_ss T m l i x).2) (nI m) M = f12_standingBehind_6 n (nI m) (nI i) (nI j) (nI (gp_ss T m l i (x + 1)).2) (nI (i + (x + 1))) M := by
        intro s0 hs0
        have e := gp_stepS (i := i) hw h hl hm x (by omega) s0 hs0
        unfold f12_standingBehind_38
        have hck : gz_inb (82 + nI (i + x)) 106 = true := by rw [show (82 : Int32) = nI 82 from rfl, nI_add]; exact gp_inb (by omega) (by omega)
        rw [hck, gp_eC] at e ⊢
        rw [e, gp_eB2, gp_eL, nI_1]
        rfl
      unfold f12_standingBehind_23
      by_cases hx0 : x = 0
      · rw [if_pos (by rw [hx0]; rfl), e38 1 (by rw [if_pos hx0])]
      · rw [if_neg (fun e => by have := (nI_eq (by omega) (by omega)).mp e; omega), e38 0 (by rw [if_neg hx0])]
    rw [f12_standingBehind_6, if_neg (nI_ge (by omega) (by omega)), e23]
    by_cases hx0 : x = 0
    · right
      exact ⟨_, if_pos (by rw [hx0]; rfl), rfl⟩
    · rw [if_neg (show ¬ nI (i + x) = nI i from fun e => by have := (nI_eq (by omega) (by omega)).mp e; omega)]
      by_cases hz : (gp_ss T m l i x).2 = 0
      · left
        rw [hz, if_pos nI_0]
        obtain ⟨t, rfl⟩ : ∃ t, x = t + 1 := ⟨x - 1, by omega⟩
        have := (gp_ss_dead T m l i t (j - i - (t + 1)) hz).1
        rw [show t + 1 + (j - i - (t + 1)) = j - i by omega] at this
        rw [this]
      · right
        have h1 := gp_ss_lt (T := T) (i := i) hw hm (fun p hp => (hl.2.2 p hp).2) x (by omega)
        have := gp_lt10 hw hm h1.2
        exact ⟨_, if_neg (show ¬ nI (gp_ss T m l i x).2 = (0 : Int32) from fun e => hz ((nI_eq (b := 0) (by omega) (by omega)).mp e)), rfl⟩
/-- stretches: both sides say the same -/
theorem gp_strE {Mc Mr : gz_M} (hc : gp_lC 9 Mc l) (hr : gp_lR Mr l) (a b : Int32) : (f11_isStretch a b Mc = some (0, Mc) ∧ f12_isStretch a b Mr = some (0, Mr)) ∨ (∃ i j, i ≤ j ∧ j ≤ l.length ∧ a = nI i ∧ b = nI j ∧ f11_isStretch a b Mc = some (1, Mc) ∧ f12_isStretch a b Mr = some (1, Mr)) := by
  have h24 := hc.1
  unfold f11_isStretch f12_isStretch
  rw [gp_c81, gp_k81, hr.2.1, show (7 + 2 : Nat) = 9 from rfl, hc.2.1]
  by_cases h1 : a < 0
  · left
    rw [if_pos h1, if_pos h1]
    exact ⟨rfl, rfl⟩
  · rw [if_neg h1, if_neg h1]
    by_cases h2 : b < a
    · left
      rw [if_pos h2, if_pos h2]
      exact ⟨rfl, rfl⟩
    · rw [if_neg h2, if_neg h2]
      by_cases h3 : nI l.length < b
      · left
        rw [if_pos h3, if_pos h3]
        exact ⟨rfl, rfl⟩
      · right
        rw [if_neg h3, if_neg h3]
        obtain ⟨i, hi, rfl⟩ := nI_of h1
        have hb0 : ¬ b < 0 := fun h => h1 (by
          have a1 : ¬ b.toInt < (nI i).toInt := fun h => h2 (Int32.lt_iff_toInt_lt.mpr h)
          have a2 := Int32.lt_iff_toInt_lt.mp h
          rw [nI_toInt hi] at a1
          rw [show ((0 : Int32)).toInt = 0 by decide] at a2
          omega)
        obtain ⟨j, hj, rfl⟩ := nI_of hb0
        refine ⟨i, j, ?_, ?_, rfl, rfl, rfl, rfl⟩
        · apply Classical.byContradiction
          intro h
          exact h2 (nI_lt (by omega) hi)
        · apply Classical.byContradiction
          intro h
          exact h3 (nI_lt (by omega) hj)
/-! promise 30: same -/
theorem gp_a30 (h : gp_Q B cu Mc Mr T l) (a b c d e : Int32) : gp_ans B cu Mc Mr (f11_same a b c d e Mc) (f12_same a b c d e Mr) := by
  have hq := h
  obtain ⟨h1, h2, h3, h4, h5, h6, h7, h8⟩ := h
  have hcu := h6.1
  have ht : gp_tR (gz_w Mr 0 5 0) T := h3.fr (fun c c1 c2 => gp_wc _ (by omega)) (gp_gn (by omega))
  have hl : gp_lR (gz_w Mr 0 5 0) l := h5.fr (gp_wc _ (by omega))
  have no : f11_same a b c d e Mc = some (-1, Mc) → f12_same a b c d e Mr = some (-1, gz_w Mr 0 5 0) → gp_ans B cu Mc Mr (f11_same a b c d e Mc) (f12_same a b c d e Mr) := gp_ansN hq (-1)
  rcases gp_isModeE a with ⟨_, _, m, hm, rfl⟩ | ⟨_, hE⟩
  · rcases gp_strE h4 hl b c with ⟨e1, e2⟩ | ⟨i, j, hij, hj, rfl, rfl, e1, e2⟩
    · refine no ?_ ?_
      · unfold f11_same; rw [gp_isMode hm, gp_eB2, if_neg (by decide), e1]; rfl
      · unfold f12_same; rw [gp_eL, gp_isModeR hm, gp_eB2, if_neg (by decide), e2]; rfl
    · rcases gp_strE h4 hl d e with ⟨f1, f2⟩ | ⟨k, n, hkn, hn, rfl, rfl, f1, f2⟩
      · refine no ?_ ?_
        · unfold f11_same
          rw [gp_isMode hm, gp_eB2, if_neg (by decide), e1, gp_eB2, if_neg (by decide), f1]
          split <;> rfl
        · unfold f12_same; rw [gp_eL, gp_isModeR hm, gp_eB2, if_neg (by decide), e2, gp_eB2, if_neg (by decide), f2]; rfl
      · by_cases hz1 : nI i = nI j
        · refine no ?_ ?_
          · unfold f11_same
            rw [gp_isMode hm, gp_eB2, if_neg (by decide), e1, gp_eB2, if_neg (by decide), if_pos hz1]
          · unfold f12_same; rw [gp_eL, gp_isModeR hm, gp_eB2, if_neg (by decide), e2, gp_eB2, if_neg (by decide), f2, gp_eB2, if_neg (by decide), if_pos hz1]
        · by_cases hz2 : nI k = nI n
          · refine no ?_ ?_
            · unfold f11_same
              rw [gp_isMode hm, gp_eB2, if_neg (by decide), e1, gp_eB2, if_neg (by decide), if_neg hz1, f1, gp_eB2, if_neg (by decide), if_pos hz2]
            · unfold f12_same; rw [gp_eL, gp_isModeR hm, gp_eB2, if_neg (by decide), e2, gp_eB2, if_neg (by decide), f2, gp_eB2, if_neg (by decide), if_neg hz1, if_pos hz2]
          · obtain ⟨M2, g1, g2, g3⟩ := gp_tellC (gp_bc (nI (gp_ss T m l i (j - i)).2 &&& nI (gp_ss T m l k (n - k)).2)).toInt64 (gp_wC0 Mc).2 (by simp)
            obtain ⟨N2, n1, n2, n3⟩ := gp_tellR (gp_bc (nI (gp_ss T m l i (j - i)).2 &&& nI (gp_ss T m l k (n - k)).2)).toInt64 (gp_wR0 (gz_w Mr 0 5 0)).2 (by simp)
            refine gp_ansI (v := if nI (gp_ss T m l i (j - i)).2 = nI (gp_ss T m l k (n - k)).2 then 1 else 0) ?_ ?_ (((gp_wC0 Mc).1.trans g2).qq (by omega)) ((gp_thr 0).1.trans ((gp_wR0 _).1.trans n2).qq) g3 n3 (by simp)
            · unfold f11_same
              rw [gp_isMode hm, gp_eB2, if_neg (by decide), e1, gp_eB2, if_neg (by decide), if_neg hz1, f1, gp_eB2, if_neg (by decide), if_neg hz2, gp_standing h1 h2 h4 hm hij hj, gp_eB2, gp_standing h1 h2 h4 hm hkn hn, gp_eB2, gp_eL, gp_bitCount, gp_eB2, g1, gp_eB]
              split <;> rfl
            · unfold f12_same
              rw [gp_eL, gp_isModeR hm, gp_eB2, if_neg (by decide), e2, gp_eB2, if_neg (by decide), f2, gp_eB2, if_neg (by decide), if_neg hz1, if_neg hz2, gp_standR h1 ht hl hm hij hj, gp_eB2, gp_standR h1 ht hl hm hkn hn, gp_eB2, gp_eL, gp_bitCount, gp_eB2, n1, gp_eB]
              split <;> rfl
  · refine no ?_ ?_
    · unfold f11_same; rw [(hE _).1]; rfl
    · unfold f12_same; rw [gp_eL, (hE _).2]; rfl
end
end
section
/-! questions about stretches: 20 longest, 21 matches, 22 stands -/
section
variable {B : Prop} {k k0 k1 m S s x p cu i j : Nat} {M M' Mc Mr Mc' Mr' : gz_M} {T : gp_T} {l : List Nat} {ts : List gp_K} {r : List Int64}
/-! promise 22: stands -/
def gp_tkB (T : gp_T) (m A : Nat) (x : Nat) : Nat := gp_orN (fun s => if A &&& T.2.2 (15 + m) s ≠ 0 then 1 <<< s else 0) x
theorem gp_signsTaken (hw : gp_wT T) (h : gp_tC k0 M T) (hm : m < 4) (A : Nat) (hA : A < 2 ^ 10) : f7_signsTakenBy k0 (nI m) (nI A) M = some (nI (gp_tkB T m A 8), M) := by
  unfold f7_signsTakenBy
  refine gp_forE (fun n x (a : Int32) => f7_signsTakenBy_5 k0 n (nI m) (nI A) a (nI x) M) 8 (fun x a => a = nI (gp_tkB T m A x)) _ (fun n a hI => ?_) (fun n x a hx hI => Or.inr ?_) gz_FU 0 (nI 0) (by omega) (by unfold gz_FU; omega) rfl
  · subst hI
    show f7_signsTakenBy_5 k0 (n + 1) (nI m) (nI A) _ (nI 8) M = _
    rw [f7_signsTakenBy_5, if_pos (by decide)]
  · subst hI
    refine ⟨_, ?_, rfl⟩
    show f7_signsTakenBy_5 k0 (n + 1) (nI m) (nI A) _ (nI x) M = f7_signsTakenBy_5 k0 n (nI m) (nI A) _ (nI (x + 1)) M
    have hlt : A &&& T.2.2 (15 + m) x < 2 ^ 10 := Nat.lt_of_le_of_lt Nat.and_le_left hA
    rw [f7_signsTakenBy_5, if_neg (by exact nI_ge hx (by decide)), gp_takersOf h hm hx, gp_eB2, gp_and]
    by_cases hz : A &&& T.2.2 (15 + m) x = 0
    · have e : gp_tkB T m A (x + 1) = gp_tkB T m A x ||| 0 := by unfold gp_tkB; rw [gp_orN, if_neg (by simp [hz])]
      rw [if_pos (by rw [hz]; rfl), gp_eL, gp_eL, nI_1, e, ← gp_or]
      rfl
    · have e : gp_tkB T m A (x + 1) = gp_tkB T m A x ||| 1 <<< x := by unfold gp_tkB; rw [gp_orN, if_pos hz]
      rw [if_neg (show ¬ nI (A &&& T.2.2 (15 + m) x) = (0 : Int32) from fun e => hz ((nI_eq (b := 0) (by omega) (by omega)).mp e)), gp_eL, gp_eL, nI_1, e, ← gp_or, show (1 : Int32) = nI 1 from rfl, gp_shl1 (by omega)]
theorem gp_a22 (h : gp_Q B cu Mc Mr T l) (a b c : Int32) : gp_ans B cu Mc Mr (f11_stands a b c Mc) (f12_stands a b c Mr) := by
  have hq := h
  obtain ⟨h1, h2, h3, h4, h5, h6, h7, h8⟩ := h
  have hcu := h6.1
  have ht : gp_tR (gz_w Mr 0 5 0) T := h3.fr (fun c c1 c2 => gp_wc _ (by omega)) (gp_gn (by omega))
  have hl : gp_lR (gz_w Mr 0 5 0) l := h5.fr (gp_wc _ (by omega))
  have no : f11_stands a b c Mc = some (-1, Mc) → f12_stands a b c Mr = some (-1, gz_w Mr 0 5 0) → gp_ans B cu Mc Mr (f11_stands a b c Mc) (f12_stands a b c Mr) := gp_ansN hq (-1)
  rcases gp_isModeE a with ⟨_, _, m, hm, rfl⟩ | ⟨_, hE⟩
  · rcases gp_strE h4 hl b c with ⟨e1, e2⟩ | ⟨i, j, hij, hj, rfl, rfl, e1, e2⟩
    · refine no ?_ ?_
      · unfold f11_stands; rw [gp_isMode hm, gp_eB2, if_neg (by decide), e1]; rfl
      · unfold f12_stands; rw [gp_eL, gp_isModeR hm, gp_eB2, if_neg (by decide), e2]; rfl
    · by_cases hz1 : nI i = nI j
      · refine no ?_ ?_
        · unfold f11_stands
          rw [gp_isMode hm, gp_eB2, if_neg (by decide), e1, gp_eB2, if_neg (by decide), if_pos hz1]
        · unfold f12_stands; rw [gp_eL, gp_isModeR hm, gp_eB2, if_neg (by decide), e2, gp_eB2, if_neg (by decide), if_pos hz1]
      · have hS := (gp_ss_lt (T := T) (i := i) h1 hm (fun p hp => (h4.2.2 p hp).2) (j - i) (by omega)).2
        have hS' := gp_lt10 h1 hm hS
        generalize hSe : (gp_ss T m l i (j - i)).2 = S at hS hS'
        have hA := gp_lt10 h1 hm (gp_aft_lt h1 hm S)
        obtain ⟨M2, g1, g2, g3⟩ := gp_tellC (nI (gp_tkB T m (gp_aft T m S) 8)).toInt64 (gp_wC0 Mc).2 (by simp)
        obtain ⟨N2, n1, n2, n3⟩ := gp_tellR (nI (gp_tkB T m (gp_aft T m S) 8)).toInt64 (gp_wR0 (gz_w Mr 0 5 0)).2 (by simp)
        refine gp_ansI (v := gp_bc (nI S)) ?_ ?_ (((gp_wC0 Mc).1.trans g2).qq (by omega)) ((gp_thr 0).1.trans ((gp_wR0 _).1.trans n2).qq) g3 n3 (by simp)
        · have h2' : gp_tC 11 (gz_w Mc 0 15 0) T := h2.fr (fun c c1 c2 => gp_wc _ (by omega))
          unfold f11_stands
          rw [gp_isMode hm, gp_eB2, if_neg (by decide), e1, gp_eB2, if_neg (by decide), if_neg hz1, gp_standing h1 h2 h4 hm hij hj, gp_eB2, hSe, gp_eL, gp_after h2' hm hS', gp_eB2, gp_signsTaken h1 h2' hm _ hA, gp_eB2, g1, gp_eB, gp_bitCount]
          rfl
        · have e87 : ∀ v : Nat, v = gp_tkB T m (gp_aft T m S) 8 → f12_stands_87 (nI S) (nI v) (gz_w Mr 0 5 0) = some (gp_bc (nI S), N2) := by
            intro v hv
            unfold f12_stands_87
            rw [gp_eL, hv, n1, gp_eB, gp_bitCount]
            rfl
          unfold f12_stands
          rw [gp_eL, gp_isModeR hm, gp_eB2, if_neg (by decide), e2, gp_eB2, if_neg (by decide), if_neg hz1, gp_standR h1 ht hl hm hij hj, gp_eB2, hSe]
          refine gp_forE (fun n x (a : Int32) => f12_stands_43 n (nI m) (nI S) a (nI x) (gz_w Mr 0 5 0)) 8 (fun x a => a = nI (gp_tkB T m (gp_aft T m S) x)) _ (fun n a hI => ?_) (fun n x a hx hI => ?_) gz_FU 0 (nI 0) (by omega) (by unfold gz_FU; omega) rfl
          · subst hI
            show f12_stands_43 (n + 1) (nI m) (nI S) _ (nI 8) _ = _
            rw [f12_stands_43, if_pos (by decide), e87 _ rfl]
          · subst hI
            show f12_stands_43 (n + 1) (nI m) (nI S) _ (nI x) _ = _ ∨ ∃ s', f12_stands_43 (n + 1) (nI m) (nI S) _ (nI x) _ = f12_stands_43 n (nI m) (nI S) s' (nI (x + 1)) _ ∧ s' = nI (gp_tkB T m (gp_aft T m S) (x + 1))
            rw [f12_stands_43, if_neg (by exact nI_ge hx (by decide))]
            by_cases hz : S = 0
            · left
              subst hz
              rw [if_pos nI_0]
              refine e87 _ ?_
              have : ∀ n, gp_tkB T m (gp_aft T m 0) n = 0 := by
                intro n
                induction n with
                | zero => rfl
                | succ n ih =>
                  unfold gp_tkB at ih ⊢
                  rw [gp_orN, ih, gp_aft0]
                  simp
              rw [this, this]
            · right
              rw [if_neg (show ¬ nI S = (0 : Int32) from fun e => hz ((nI_eq (b := 0) (by omega) (by omega)).mp e)), gp_stepR h1 ht hm hx hS, gp_eB2]
              have hlt : gp_st T m S x < 2 ^ 10 := gp_lt10 h1 hm (gp_st_lt h1 hm S x)
              by_cases hz : gp_st T m S x = 0
              · have e : gp_tkB T m (gp_aft T m S) (x + 1) = gp_tkB T m (gp_aft T m S) x ||| 0 := by unfold gp_tkB; rw [gp_orN, if_neg (by simpa [gp_st] using hz)]
                refine ⟨_, ?_, rfl⟩
                rw [if_pos (by rw [hz]; rfl), gp_eL, gp_eL, nI_1, e, ← gp_or]
                rfl
              · have e : gp_tkB T m (gp_aft T m S) (x + 1) = gp_tkB T m (gp_aft T m S) x ||| 1 <<< x := by unfold gp_tkB; rw [gp_orN, if_pos (show gp_aft T m S &&& T.2.2 (15 + m) x ≠ 0 from hz)]
                refine ⟨_, ?_, rfl⟩
                rw [if_neg (show ¬ nI (gp_st T m S x) = (0 : Int32) from fun e => hz ((nI_eq (b := 0) (by omega) (by omega)).mp e)), gp_eL, gp_eL, nI_1, e, ← gp_or, show (1 : Int32) = nI 1 from rfl, gp_shl1 (by omega)]
  · refine no ?_ ?_
    · unfold f11_stands; rw [(hE _).1]; rfl
    · unfold f12_stands; rw [gp_eL, (hE _).2]; rfl
end
end
section
/-! questions about stretches: 20 longest -/
def gp_best (p : Nat) (r : Option Nat) (b : Nat) : Int32 := if r.isSome = true then nI (b - p) else -2
section
variable {B : Prop} {k k0 k1 m S s x p cu i j : Nat} {M M' Mc Mr Mc' Mr' : gz_M} {T : gp_T} {l : List Nat} {ts : List gp_K} {r : List Int64}
theorem gp_win0 (T : gp_T) (m : Nat) : gp_win T m 0 = none := by
  cases e : gp_win T m 0 with
  | none => rfl
  | some j => exact absurd (Nat.and_zero _) (gp_win_some e).2.2
theorem gp_longR (hw : gp_wT T) (h : gp_tR M T) (hl : gp_lR M l) (hm : m < 4) (hp : p ≤ l.length) : ∀ (d n x b : Nat) (r : Option Nat), x + d = l.length → d < n → p ≤ x →
    f12_longest_41 n (nI m) (nI p) (nI (gp_ss T m l p (x - p)).2) (gp_best p r b) (gp_o r) (nI x) M = f12_longest_126 (gp_best p (gp_rm T m gp_F0 (l.drop x) x (gp_ss T m l p (x - p)).1 r b).1 (gp_rm T m gp_F0 (l.drop x) x (gp_ss T m l p (x - p)).1 r b).2.1) (gp_o (gp_rm T m gp_F0 (l.drop x) x (gp_ss T m l p (x - p)).1 r b).1) M := by
  have hl1 := hl.1
  intro d
  induction d with
  | zero =>
    intro n x b r hx hn hpx
    obtain ⟨n, rfl⟩ : ∃ q, n = q + 1 := ⟨n - 1, by omega⟩
    have : x = l.length := by omega
    subst this
    rw [f12_longest_41, gp_c81, gp_k81, hl.2.1, if_pos (nI_le (Nat.le_refl _) (by omega)), List.drop_length]
    rfl
  | succ d ih =>
    intro n x b r hx hn hpx
    obtain ⟨n, rfl⟩ : ∃ q, n = q + 1 := ⟨n - 1, by omega⟩
    have hs := (hl.2.2 x (by omega)).2
    have hss := gp_ss_lt (T := T) (i := p) hw hm (fun p hp => (hl.2.2 p hp).2) (x - p + 1) (by omega)
    have hS : (gp_ss T m l p (x - p + 1)).2 = (gp_ss T m l p (x - p)).1 &&& T.2.2 (15 + m) (l.getD x 0) := by
      show (gp_ss T m l p (x - p)).1 &&& T.2.2 (15 + m) (l.getD (p + (x - p)) 0) = _
      rw [show p + (x - p) = x by omega]
    have hN : (gp_ss T m l p (x - p + 1)).1 = gp_aft T m (gp_ss T m l p (x - p + 1)).2 := rfl
    have hx1 : x - p + 1 = x + 1 - p := by omega
    have hS10 := gp_lt10 hw hm hss.2
    rw [f12_longest_41, gp_c81, gp_k81, hl.2.1, if_neg (nI_ge (by omega) (by omega)), gp_drop (by omega : x < l.length), gp_rm, ← hS]
    have e63 : f12_longest_63 (f12_longest_41 n) (nI m) (nI p) (nI (gp_ss T m l p (x - p)).2) (gp_best p r b) (gp_o r) (nI x) M = f12_longest_41 n (nI m) (nI p) (nI (gp_ss T m l p (x + 1 - p)).2) (gp_best p ((gp_win T m (gp_ss T m l p (x - p + 1)).2).or r) (if (gp_win T m (gp_ss T m l p (x - p + 1)).2).isSome = true then x + 1 else b)) (gp_o ((gp_win T m (gp_ss T m l p (x - p + 1)).2).or r)) (nI (x + 1)) M := by
      have e77 : ∀ s0 : Int32, (s0 = if x - p = 0 then 1 else 0) → f12_longest_77 (f12_longest_41 n) (nI m) (nI p) (gp_best p r b) (gp_o r) (nI x) s0 (nI (gp_ss T m l p (x - p)).2) (nI m) M = f12_longest_41 n (nI m) (nI p) (nI (gp_ss T m l p (x + 1 - p)).2) (gp_best p ((gp_win T m (gp_ss T m l p (x - p + 1)).2).or r) (if (gp_win T m (gp_ss T m l p (x - p + 1)).2).isSome = true then x + 1 else b)) (gp_o ((gp_win T m (gp_ss T m l p (x - p + 1)).2).or r)) (nI (x + 1)) M := by
        intro s0 hs0
        have e := gp_stepS (i := p) hw h hl hm (x - p) (by omega) s0 hs0
        rw [show p + (x - p) = x by omega] at e
        unfold f12_longest_77
        have hck : gz_inb (82 + nI x) 106 = true := by rw [show (82 : Int32) = nI 82 from rfl, nI_add]; exact gp_inb (by omega) (by omega)
        rw [hck, gp_eC] at e ⊢
        rw [e, gp_eB2, gp_winR hw h hm hS10, gp_eB2, hx1]
        cases hwin : gp_win T m (gp_ss T m l p (x + 1 - p)).2 with
        | none =>
          rw [if_pos (by rfl), gp_eL, nI_1]
          rfl
        | some j =>
          have hj := (gp_win_some hwin).1
          have hw1 := hw.1
          rw [if_neg (by rw [gp_m1, gp_oS, gp_ne1 (by omega)]; exact id), gp_eL, gp_eL, nI_1, pk_sub (by omega)]
          rfl
      unfold f12_longest_63
      by_cases hx0 : x = p
      · rw [if_pos (by rw [hx0]), e77 1 (by rw [if_pos (by omega)])]
      · rw [if_neg (fun e => hx0 ((nI_eq (by omega) (by omega)).mp e)), e77 0 (by rw [if_neg (by omega)])]
    rw [e63]
    have go := ih n (x + 1) (if (gp_win T m (gp_ss T m l p (x - p + 1)).2).isSome = true then x + 1 else b) ((gp_win T m (gp_ss T m l p (x - p + 1)).2).or r) (by omega) (by omega) (by omega)
    -- where it goes on: dead or not
    have goD : (gp_ss T m l p (x - p + 1)).2 = 0 → f12_longest_41 n (nI m) (nI p) (nI (gp_ss T m l p (x + 1 - p)).2) (gp_best p ((gp_win T m (gp_ss T m l p (x - p + 1)).2).or r) (if (gp_win T m (gp_ss T m l p (x - p + 1)).2).isSome = true then x + 1 else b)) (gp_o ((gp_win T m (gp_ss T m l p (x - p + 1)).2).or r)) (nI (x + 1)) M = f12_longest_126 (gp_best p r b) (gp_o r) M := by
      intro hz
      rw [go, ← hx1, hN, hz, gp_win0, gp_aft0]
      have : ∀ (L : List Nat) (q : Nat), (gp_rm T m gp_F0 L q 0 ((none : Option Nat).or r) (if (none : Option Nat).isSome = true then x + 1 else b)).1 = r ∧ (gp_rm T m gp_F0 L q 0 ((none : Option Nat).or r) (if (none : Option Nat).isSome = true then x + 1 else b)).2.1 = b := by
        intro L q
        cases L with
        | nil => exact ⟨rfl, rfl⟩
        | cons s L => rw [gp_rm, Nat.zero_and, if_pos rfl]; exact ⟨rfl, rfl⟩
      rw [(this _ _).1, (this _ _).2]
    have main : (f12_longest_41 n (nI m) (nI p) (nI (gp_ss T m l p (x + 1 - p)).2) (gp_best p ((gp_win T m (gp_ss T m l p (x - p + 1)).2).or r) (if (gp_win T m (gp_ss T m l p (x - p + 1)).2).isSome = true then x + 1 else b)) (gp_o ((gp_win T m (gp_ss T m l p (x - p + 1)).2).or r)) (nI (x + 1)) M) = f12_longest_126 (gp_best p (if (gp_ss T m l p (x - p + 1)).2 = 0 then (r, b, x + 1, some x, ([] : List Nat)) else gp_rm T m gp_F0 (l.getD x 0 :: l.drop (x + 1)) x (gp_ss T m l p (x - p)).1 r b).1 (if (gp_ss T m l p (x - p + 1)).2 = 0 then (r, b, x + 1, some x, ([] : List Nat)) else gp_rm T m gp_F0 (l.getD x 0 :: l.drop (x + 1)) x (gp_ss T m l p (x - p)).1 r b).2.1) (gp_o (if (gp_ss T m l p (x - p + 1)).2 = 0 then (r, b, x + 1, some x, ([] : List Nat)) else gp_rm T m gp_F0 (l.getD x 0 :: l.drop (x + 1)) x (gp_ss T m l p (x - p)).1 r b).1) M := by
      by_cases hz : (gp_ss T m l p (x - p + 1)).2 = 0
      · rw [goD hz]
        simp only [hz, if_true]
      · simp only [hz, if_false]
        rw [go, gp_rm, ← hS, if_neg hz, hx1]
        simp only [gp_F0, Bool.false_eq_true, if_false]
        rw [← hx1, hN, hx1]
    have fin : (if nI x = nI p then (f12_longest_41 n (nI m) (nI p) (nI (gp_ss T m l p (x + 1 - p)).2) (gp_best p ((gp_win T m (gp_ss T m l p (x - p + 1)).2).or r) (if (gp_win T m (gp_ss T m l p (x - p + 1)).2).isSome = true then x + 1 else b)) (gp_o ((gp_win T m (gp_ss T m l p (x - p + 1)).2).or r)) (nI (x + 1)) M) else if nI (gp_ss T m l p (x - p)).2 = 0 then f12_longest_126 (gp_best p r b) (gp_o r) M else (f12_longest_41 n (nI m) (nI p) (nI (gp_ss T m l p (x + 1 - p)).2) (gp_best p ((gp_win T m (gp_ss T m l p (x - p + 1)).2).or r) (if (gp_win T m (gp_ss T m l p (x - p + 1)).2).isSome = true then x + 1 else b)) (gp_o ((gp_win T m (gp_ss T m l p (x - p + 1)).2).or r)) (nI (x + 1)) M)) = (f12_longest_41 n (nI m) (nI p) (nI (gp_ss T m l p (x + 1 - p)).2) (gp_best p ((gp_win T m (gp_ss T m l p (x - p + 1)).2).or r) (if (gp_win T m (gp_ss T m l p (x - p + 1)).2).isSome = true then x + 1 else b)) (gp_o ((gp_win T m (gp_ss T m l p (x - p + 1)).2).or r)) (nI (x + 1)) M) := by
      by_cases hx0 : x = p
      · rw [if_pos (by rw [hx0])]
      · rw [if_neg (fun e => hx0 ((nI_eq (by omega) (by omega)).mp e))]
        by_cases hz : (gp_ss T m l p (x - p)).2 = 0
        · rw [if_pos (by rw [hz]; rfl)]
          obtain ⟨t, e⟩ : ∃ t, x - p = t + 1 := ⟨x - p - 1, by omega⟩
          have hd := (gp_ss_dead T m l p t 1 (by rw [← e]; exact hz)).1
          rw [goD (by rw [e]; exact hd)]
        · have h1 := gp_ss_lt (T := T) (i := p) hw hm (fun p hp => (hl.2.2 p hp).2) (x - p) (by omega)
          have := gp_lt10 hw hm h1.2
          rw [if_neg (show ¬ nI (gp_ss T m l p (x - p)).2 = (0 : Int32) from fun e => hz ((nI_eq (b := 0) (by omega) (by omega)).mp e))]
    rw [fin, main]
    by_cases hz : (gp_ss T m l p (x - p + 1)).2 = 0
    · simp only [hz, if_true]
    · simp only [hz, if_false]
      rw [gp_rm, ← hS, if_neg hz]
theorem gp_a20 (h : gp_Q B cu Mc Mr T l) (a b : Int32) : gp_ans B cu Mc Mr (f11_longest a b Mc) (f12_longest a b Mr) := by
  have hq := h
  obtain ⟨h1, h2, h3, h4, h5, h6, h7, h8⟩ := h
  have hcu := h6.1
  have h24 := h4.1
  have ht : gp_tR (gz_w Mr 0 5 0) T := h3.fr (fun c c1 c2 => gp_wc _ (by omega)) (gp_gn (by omega))
  have hl : gp_lR (gz_w Mr 0 5 0) l := h5.fr (gp_wc _ (by omega))
  have no : f11_longest a b Mc = some (-1, Mc) → f12_longest a b Mr = some (-1, gz_w Mr 0 5 0) → gp_ans B cu Mc Mr (f11_longest a b Mc) (f12_longest a b Mr) := gp_ansN hq (-1)
  have hin : nI l.length = nI (l.length + 1) - 1 := (nI_pred _).symm
  rcases gp_isModeE a with ⟨_, _, m, hm, rfl⟩ | ⟨_, hE⟩
  · have cc : f11_longest (nI m) b Mc = (if b < 0 then (some ((-1), Mc)) else (if b ≤ nI l.length then (gz_bd (f2_readFrom (90 - cu) 11 9 (nI m) b Mc) fun M7 => if (M7.1 (gz_cIx (M7.1 0 8)) 12) = (-1) then (some ((-2), M7)) else (gz_lt (gz_w M7 0 15 0) fun M10 => gz_bd (f11_tell ((M10.1 (gz_cIx (M10.1 0 8)) 12).toInt64) M10) fun M11 => some ((M11.1 (gz_cIx (M11.1 0 8)) 13) - b, M11))) else (some ((-1), Mc)))) := by
      unfold f11_longest
      rw [gp_isMode hm, gp_eB2, if_neg (by decide), h7, show (7 + 2 : Nat) = 9 from rfl, h4.2.1]
    have rc : f12_longest (nI m) b Mr = (gz_bd2 (f12_in b 0 (nI (l.length + 1) - 1) (gz_w Mr 0 5 0)) fun v7 M8 => if v7 = 0 then (some ((-1), M8)) else (f12_longest_41 gz_FU (nI m) b 0 (-2) (-1) b M8)) := by
      unfold f12_longest
      rw [gp_eL, gp_isModeR hm, gp_eB2, if_neg (by decide), gp_c81, gp_k81, hl.2.1, hin]
    rcases pk_ix b (n := l.length + 1) (by omega) with hb | hb | ⟨p, hp, rfl⟩
    · refine no ?_ ?_
      · rw [cc, if_pos hb]
      · rw [rc, gp_in0 _ _ hb]; rfl
    · have h0 : ¬ b < 0 := by
        intro hlt
        have a1 := Int32.le_iff_toInt_le.mp hb
        have a2 := Int32.lt_iff_toInt_lt.mp hlt
        rw [nI_toInt (by omega)] at a1
        rw [show ((0 : Int32)).toInt = 0 by decide] at a2
        omega
      refine no ?_ ?_
      · rw [cc, if_neg h0, if_neg (fun hh => by
          have a1 := Int32.le_iff_toInt_le.mp hb
          have a2 := Int32.le_iff_toInt_le.mp hh
          rw [nI_toInt (by omega)] at a1
          rw [nI_toInt (by omega)] at a2
          omega)]
      · rw [rc, gp_in0b _ (by omega) h0 hb]; rfl
    · have hpl : p ≤ l.length := by omega
      obtain ⟨M1, e1, e2, e3, e4, e5, e6, _⟩ := gp_readFrom (k := 90 - cu) (p := p) h1 hm (by omega) (by omega) h2 h4 hpl
      have rr := gp_longR h1 ht hl hm hpl (l.length - p) gz_FU p p none (by omega) (by unfold gz_FU; omega) (Nat.le_refl _)
      rw [Nat.sub_self] at rr
      have hss0 : (gp_ss T m l p 0).1 = T.2.2 8 m := rfl
      rw [hss0] at rr
      obtain ⟨a1, a2, a3, a4, a5, a6, a7, a8, a9⟩ := gp_rm_f (T := T) (m := m) (F := gp_F0) (l.drop p) p (T.2.2 8 m) none p (by simp) (by simp)
      have hdl : (l.drop p).length = l.length - p := List.length_drop
      generalize gp_rm T m gp_F0 (l.drop p) p (T.2.2 8 m) none p = R at *
      have rr' : f12_longest_41 gz_FU (nI m) (nI p) 0 (-2) (-1) (nI p) (gz_w Mr 0 5 0) = f12_longest_126 (gp_best p R.1 R.2.1) (gp_o R.1) (gz_w Mr 0 5 0) := rr
      rw [if_neg (nI_pos (by omega)), if_pos (nI_le hpl (by omega)), e1, gp_eB, e3 0 (by omega), h7, e5] at cc
      rw [gp_in1 _ (by omega) hp, gp_eB2, if_neg (by decide), rr'] at rc
      have q1 : gp_qC cu Mc M1 := ⟨fun c hc => e3 c (by omega), by rw [e3 0 (by omega)], by rw [e3 0 (by omega)]⟩
      cases hR : R.1 with
      | none =>
        rw [hR] at cc rc
        refine gp_ansK (v := -2) ?_ ?_ q1 (gp_thr 0).1 h8 e2 (by rw [e3 0 (by omega)]) rfl (gp_gn (by omega))
        · rw [cc, if_pos (by rfl)]
        · rw [rc]
          unfold gp_best f12_longest_126
          rw [if_neg (by simp), if_neg (by decide)]
      | some j =>
        rw [hR] at cc rc a4 a5 a6
        have hj := a6 j rfl
        have hw1 := h1.1
        have hb1 := a4 rfl
        have hb2 := a5 rfl rfl
        have b0 : (gz_w M1 0 15 0).1 0 8 = Mc.1 0 8 := by rw [gp_gn (by omega), e3 0 (by omega)]
        have b12 : (gz_w M1 0 15 0).1 (90 - cu) 12 = gp_o (some j) := by rw [gp_gn (by omega), e5, hR]
        obtain ⟨M2, g1, g2, g3⟩ := gp_tellC (gp_o (some j)).toInt64 (gp_wC0 M1).2 (by simp)
        obtain ⟨N2, n1, n2, n3⟩ := gp_tellR (gp_o (some j)).toInt64 (gp_wR0 (gz_w Mr 0 5 0)).2 (by simp)
        have b8 : M2.1 0 8 = Mc.1 0 8 := by rw [g2.2 _ (by omega), b0]
        have b13 : M2.1 (90 - cu) 13 = nI R.2.1 := by rw [g2.1 _ (by omega), gp_gn (by omega), e6]
        refine gp_ansI (v := nI (R.2.1 - p)) ?_ ?_ (q1.trans (((gp_wC0 M1).1.trans g2).qq (by omega))) ((gp_thr 0).1.trans ((gp_wR0 _).1.trans n2).qq) g3 n3 (by simp)
        · rw [cc, if_neg (by rw [gp_m1, gp_oS, gp_ne1 (by omega)]; exact id), gp_eL, b0, h7, b12, g1, gp_eB, b8, h7, b13, pk_sub (by omega)]
        · rw [rc]
          have eb : gp_best p (some j) R.2.1 = nI (R.2.1 - p) := rfl
          rw [eb]
          unfold f12_longest_126
          rw [if_pos (nI_pos' (by omega)), gp_eL, n1, gp_eB]
  · refine no ?_ ?_
    · unfold f11_longest; rw [(hE _).1]; rfl
    · unfold f12_longest; rw [gp_eL, (hE _).2]; rfl
end
end
section
/-! questions about stretches: 21 matches -/
theorem gp_bitL {a i : Nat} (ha : a < 2 ^ 31) (hi : i < 32) : ((gz_shr (nI a) (nI i) &&& (1 : Int32)) = (0 : Int32)) = (a.testBit i = false) := gp_bit ha hi
theorem gp_bit1L {a i : Nat} (ha : a < 2 ^ 31) (hi : i < 32) : ((gz_shr (nI a) (nI i) &&& (1 : Int32)) = (1 : Int32)) = (a.testBit i = true) := gp_bit1 ha hi
/-- rule k matches the signs from i up to j -/
def gp_mt (T : gp_T) (l : List Nat) (i j k : Nat) : Prop := if i = j then T.2.2 6 k ≠ 0 else T.2.2 5 k &&& (gp_ss T (T.2.2 1 k) l i (j - i)).2 ≠ 0
theorem gp_mtD (T : gp_T) (l : List Nat) (i j k : Nat) : gp_mt T l i j k ∨ ¬ gp_mt T l i j k := Classical.em _
/-- as a bit -/
def gp_mb (T : gp_T) (l : List Nat) (i j k : Nat) : Bool := if i = j then decide (T.2.2 6 k ≠ 0) else decide (T.2.2 5 k &&& (gp_ss T (T.2.2 1 k) l i (j - i)).2 ≠ 0)
def gp_mP (T : gp_T) (l : List Nat) (i j m k : Nat) : Bool := decide (T.2.2 1 k = m) && gp_mb T l i j k
def gp_mB (p : Nat → Bool) (n : Nat) : Nat := gp_orN (fun k => if p k = true then 1 <<< k else 0) n
theorem gp_mB_bit (p : Nat → Bool) (n k : Nat) : (gp_mB p n).testBit k = (decide (k < n) && p k) := by
  unfold gp_mB
  rw [Bool.eq_iff_iff, gp_orN_bit]
  simp only [Bool.and_eq_true, decide_eq_true_eq]
  constructor
  · rintro ⟨i, h1, h2⟩
    split at h2
    · rename_i h3
      rw [Nat.one_shiftLeft, Nat.testBit_two_pow, decide_eq_true_iff] at h2
      subst h2
      exact ⟨h1, h3⟩
    · simp at h2
  · rintro ⟨h1, h2⟩
    exact ⟨k, h1, by rw [if_pos h2, Nat.one_shiftLeft, Nat.testBit_two_pow]; simp⟩
theorem gp_mB_lt (p : Nat → Bool) {n b : Nat} (h : n ≤ b) : gp_mB p n < 2 ^ b := by
  unfold gp_mB
  refine gp_orN_lt (fun i hi => ?_)
  split
  · rw [Nat.one_shiftLeft]
    exact Nat.pow_lt_pow_right (by decide) (by omega)
  · exact Nat.two_pow_pos _
theorem gp_mB_s (p : Nat → Bool) (n : Nat) : gp_mB p (n + 1) = gp_mB p n ||| if p n = true then 1 <<< n else 0 := rfl
theorem gp_fst_ext {p q : Nat → Bool} : ∀ (n i : Nat), (∀ k, i ≤ k → k < i + n → p k = q k) → gp_fst p n i = gp_fst q n i
  | 0, i, _ => rfl
  | n + 1, i, h => by rw [gp_fst, gp_fst, h i (by omega) (by omega), gp_fst_ext n (i + 1) (fun k h1 h2 => h k (by omega) (by omega))]
theorem gp_fst_f {p : Nat → Bool} : ∀ (n i : Nat), (∀ k, i ≤ k → k < i + n → p k = false) → gp_fst p n i = none
  | 0, i, _ => rfl
  | n + 1, i, h => by rw [gp_fst, h i (by omega) (by omega), gp_fst_f n (i + 1) (fun k h1 h2 => h k (by omega) (by omega))]; rfl
theorem gp_fst_add {p : Nat → Bool} : ∀ (n d i : Nat), (∀ k, i + n ≤ k → k < i + n + d → p k = false) → gp_fst p (n + d) i = gp_fst p n i
  | 0, d, i, h => by rw [Nat.zero_add, gp_fst_f d i (fun k h1 h2 => h k (by omega) (by omega))]; rfl
  | n + 1, d, i, h => by
    rw [show n + 1 + d = (n + d) + 1 by omega, gp_fst, gp_fst, gp_fst_add n d (i + 1) (fun k h1 h2 => h k (by omega) (by omega))]
section
variable {B : Prop} {k k0 k1 m S s x p cu i j : Nat} {M M' Mc Mr Mc' Mr' : gz_M} {T : gp_T} {l : List Nat} {ts : List gp_K} {r : List Int64}
theorem gp_firstOf (b : Nat) (hb : b < 2 ^ 31) (M : gz_M) : f11_firstOf (nI b) M = some (gp_o (gp_fst (fun k => b.testBit k) 8 0), M) := by
  have main : ∀ (d n x : Nat), x + d = 8 → d < n → f11_firstOf_2 n (nI b) (nI x) M = some (gp_o (gp_fst (fun k => b.testBit k) d x), M) := by
    intro d
    induction d with
    | zero =>
      intro n x hx hn
      obtain ⟨n, rfl⟩ : ∃ q, n = q + 1 := ⟨n - 1, by omega⟩
      have : x = 8 := by omega
      subst this
      rw [f11_firstOf_2, if_pos (by decide)]
      rfl
    | succ d ih =>
      intro n x hx hn
      obtain ⟨n, rfl⟩ : ∃ q, n = q + 1 := ⟨n - 1, by omega⟩
      rw [f11_firstOf_2, if_neg (by exact nI_ge (show x < 8 by omega) (by decide)), gp_fst]
      have e := gp_bitL (a := b) (i := x) hb (by omega)
      by_cases ht : b.testBit x = true
      · rw [if_pos ht, if_neg (show ¬ (gz_shr (nI b) (nI x) &&& (1 : Int32)) = (0 : Int32) by rw [e, ht]; simp)]
        rfl
      · rw [if_neg ht, if_pos (show (gz_shr (nI b) (nI x) &&& (1 : Int32)) = (0 : Int32) by rw [e]; simpa using ht), gp_eL, nI_1]
        exact ih n (x + 1) (by omega) (by omega)
  exact main 8 gz_FU 0 rfl (by unfold gz_FU; omega)
theorem gp_firstP (p : Nat → Bool) {n : Nat} (hn : n ≤ 8) (M : gz_M) : f11_firstOf (nI (gp_mB p n)) M = some (gp_o (gp_fst p n 0), M) := by
  have h1 := gp_mB_lt p hn
  rw [gp_firstOf _ (by omega)]
  congr 3
  obtain ⟨d, hd⟩ : ∃ d, 8 = n + d := ⟨8 - n, by omega⟩
  rw [hd, gp_fst_add n d 0 (fun k h1 h2 => by rw [gp_mB_bit]; simp; omega)]
  exact gp_fst_ext n 0 (fun k h1 h2 => by rw [gp_mB_bit]; simp; omega)
theorem gp_matching (hw : gp_wT T) (h : gp_tC k0 M T) (hm : m < 4) (hS : S < 2 ^ 10) : f7_matching k0 (nI m) (nI S) M = some (nI (gp_mB (fun k => decide (T.2.2 1 k = m) && decide (T.2.2 5 k &&& S ≠ 0)) T.1), M) := by
  have hw1 := hw.1
  unfold f7_matching
  refine gp_forE (fun n x (a : Int32) => f7_matching_5 k0 n (nI m) (nI S) a (nI x) M) T.1 (fun x a => a = nI (gp_mB (fun k => decide (T.2.2 1 k = m) && decide (T.2.2 5 k &&& S ≠ 0)) x)) _ (fun n a hI => ?_) (fun n x a hx hI => Or.inr ⟨_, ?_, rfl⟩) gz_FU 0 (nI 0) (by omega) (by unfold gz_FU; omega) rfl
  · subst hI
    show f7_matching_5 k0 (n + 1) _ _ _ (nI T.1) M = _
    rw [f7_matching_5, h.1, if_pos (nI_le (Nat.le_refl _) (by omega))]
  · subst hI
    show f7_matching_5 k0 (n + 1) _ _ _ (nI x) M = f7_matching_5 k0 n _ _ _ (nI (x + 1)) M
    have hv := h.2.1 x hx
    have hwx := hw.2.1 x hx
    have hlt : T.2.2 5 x &&& S < 2 ^ 10 := Nat.lt_of_le_of_lt Nat.and_le_right hS
    rw [f7_matching_5, h.1, if_neg (nI_ge hx (by omega)), gp_ckb (by omega) (by omega), nI_clamp (by omega), hv.1, gp_mB_s]
    by_cases hc : T.2.2 1 x = m
    · rw [if_pos (by rw [hc]), gp_ckb (by omega) (by omega), hv.2.2.2.2.1, gp_and]
      by_cases hz : T.2.2 5 x &&& S = 0
      · rw [if_pos (by rw [hz]; rfl), gp_eL, gp_eL, nI_1, if_neg (by simp [hz]), show (0 : Int32) = nI 0 from rfl, gp_or]
      · rw [if_neg (show ¬ nI (T.2.2 5 x &&& S) = (0 : Int32) from fun e => hz ((nI_eq (b := 0) (by omega) (by omega)).mp e)), gp_eL, gp_eL, nI_1, if_pos (by simp [hz, hc]), show (1 : Int32) = nI 1 from rfl, gp_shl1 (by omega), gp_or]
    · rw [if_neg (fun e => hc ((nI_eq (by omega) (by omega)).mp e)), gp_eL, gp_eL, nI_1, if_neg (by simp [hc]), show (0 : Int32) = nI 0 from rfl, gp_or]
theorem gp_matching0 (hw : gp_wT T) (h : gp_tC k0 M T) (hm : m < 4) : f7_matchingNothing k0 (nI m) M = some (nI (gp_mB (fun k => decide (T.2.2 1 k = m) && decide (T.2.2 6 k ≠ 0)) T.1), M) := by
  have hw1 := hw.1
  unfold f7_matchingNothing
  refine gp_forE (fun n x (a : Int32) => f7_matchingNothing_4 k0 n (nI m) a (nI x) M) T.1 (fun x a => a = nI (gp_mB (fun k => decide (T.2.2 1 k = m) && decide (T.2.2 6 k ≠ 0)) x)) _ (fun n a hI => ?_) (fun n x a hx hI => Or.inr ⟨_, ?_, rfl⟩) gz_FU 0 (nI 0) (by omega) (by unfold gz_FU; omega) rfl
  · subst hI
    show f7_matchingNothing_4 k0 (n + 1) _ _ (nI T.1) M = _
    rw [f7_matchingNothing_4, h.1, if_pos (nI_le (Nat.le_refl _) (by omega))]
  · subst hI
    show f7_matchingNothing_4 k0 (n + 1) _ _ (nI x) M = f7_matchingNothing_4 k0 n _ _ (nI (x + 1)) M
    have hv := h.2.1 x hx
    have hwx := hw.2.1 x hx
    rw [f7_matchingNothing_4, h.1, if_neg (nI_ge hx (by omega)), gp_ckb (by omega) (by omega), nI_clamp (by omega), hv.1, gp_mB_s]
    by_cases hc : T.2.2 1 x = m
    · rw [if_pos (by rw [hc]), gp_ckb (by omega) (by omega), hv.2.2.2.2.2]
      by_cases hz : T.2.2 6 x = 0
      · rw [if_pos (by rw [hz]; rfl), gp_eL, gp_eL, nI_1, if_neg (by simp [hz]), show (0 : Int32) = nI 0 from rfl, gp_or]
      · rw [if_neg (show ¬ nI (T.2.2 6 x) = (0 : Int32) from fun e => hz ((nI_eq (b := 0) (by omega) (by omega)).mp e)), gp_eL, gp_eL, nI_1, if_pos (by simp [hz, hc]), show (1 : Int32) = nI 1 from rfl, gp_shl1 (by omega), gp_or]
    · rw [if_neg (fun e => hc ((nI_eq (by omega) (by omega)).mp e)), gp_eL, gp_eL, nI_1, if_neg (by simp [hc]), show (0 : Int32) = nI 0 from rfl, gp_or]
theorem gp_mB_ext {p q : Nat → Bool} {n : Nat} (h : ∀ k, k < n → p k = q k) : gp_mB p n = gp_mB q n := gp_orN_ext (fun k hk => by simp only [h k hk])
/-- bits of the first modes -/
theorem gp_mB_modes (hw : gp_wT T) : gp_orN (fun m => gp_mB (gp_mP T l i j m) T.1) 4 = gp_mB (gp_mb T l i j) T.1 := by
  apply Nat.eq_of_testBit_eq
  intro k
  rw [Bool.eq_iff_iff, gp_orN_bit]
  simp only [gp_mB_bit, Bool.and_eq_true, decide_eq_true_eq, gp_mP]
  constructor
  · rintro ⟨m, _, h1, _, h2⟩
    exact ⟨h1, h2⟩
  · rintro ⟨h1, h2⟩
    exact ⟨_, (hw.2.1 k h1).1, h1, rfl, h2⟩
theorem gp_doesMatch (hw : gp_wT T) (h : gp_tR M T) (hl : gp_lR M l) (hij : i ≤ j) (hj : j ≤ l.length) (hk : k < T.1) : f12_doesMatch (nI k) (nI i) (nI j) M = some ((if gp_mb T l i j k = true then 1 else 0), M) := by
  have hl1 := hl.1
  have hw1 := hw.1
  have hv := h.2.1 k hk
  have hwk := hw.2.1 k hk
  unfold f12_doesMatch gp_mb
  by_cases hz : i = j
  · rw [if_pos (by rw [hz]), gp_ckb (by omega) (by omega), nI_clamp (by omega), hv.2.2.2.2.1, if_pos hz]
    have : T.2.2 6 k = 0 ∨ T.2.2 6 k = 1 := by omega
    rcases this with e | e <;> rw [e] <;> rfl
  · have hS := (gp_ss_lt (T := T) (i := i) hw hwk.1 (fun p hp => (hl.2.2 p hp).2) (j - i) (by omega)).2
    have hS10 := gp_lt10 hw hwk.1 hS
    rw [if_neg (fun e => hz ((nI_eq (by omega) (by omega)).mp e)), gp_ckb (by omega) (by omega), nI_clamp (by omega), hv.1, gp_standR hw h hl hwk.1 hij hj, gp_eB2, gp_ckb (by omega) (by omega), hv.2.2.2.2.2, gp_and, if_neg hz, Nat.and_comm]
    have hlt : T.2.2 5 k &&& (gp_ss T (T.2.2 1 k) l i (j - i)).2 < 2 ^ 10 := Nat.lt_of_le_of_lt Nat.and_le_right hS10
    by_cases hc : T.2.2 5 k &&& (gp_ss T (T.2.2 1 k) l i (j - i)).2 = 0
    · rw [if_pos (by rw [hc]; rfl), if_neg (by simp [hc])]
    · rw [if_neg (show ¬ nI (T.2.2 5 k &&& (gp_ss T (T.2.2 1 k) l i (j - i)).2) = (0 : Int32) from fun e => hc ((nI_eq (b := 0) (by omega) (by omega)).mp e)), if_pos (by simp [hc])]
def gp_mrow (T : gp_T) (l : List Nat) (i j : Nat) (m : Nat) : Int64 := (gp_o (gp_fst (gp_mP T l i j m) T.1 0)).toInt64
theorem gp_a21 (h : gp_Q B cu Mc Mr T l) (a b : Int32) : gp_ans B cu Mc Mr (f11_matches a b Mc) (f12_matches a b Mr) := by
  have hq := h
  obtain ⟨h1, h2, h3, h4, h5, h6, h7, h8⟩ := h
  have hcu := h6.1
  have h24 := h4.1
  have hw1 := h1.1
  have ht : gp_tR (gz_w Mr 0 5 0) T := h3.fr (fun c c1 c2 => gp_wc _ (by omega)) (gp_gn (by omega))
  have hl : gp_lR (gz_w Mr 0 5 0) l := h5.fr (gp_wc _ (by omega))
  rcases gp_strE h4 hl a b with ⟨e1, e2⟩ | ⟨i, j, hij, hj, rfl, rfl, e1, e2⟩
  · refine gp_ansN hq (-1) ?_ ?_
    · unfold f11_matches; rw [e1]; rfl
    · unfold f12_matches; rw [gp_eL, e2]; rfl
  · have c : ∃ b, f11_matches_21 gz_FU (nI i) (nI j) (nI 0) (nI 0) (gz_w Mc 0 15 0) = some b ∧ ∃ M', b = (nI (gp_mB (gp_mb T l i j) T.1), M') ∧ gp_fC Mc M' ∧ gp_wC M' ((List.range 4).map (gp_mrow T l i j)) := by
      refine gp_for (fun n x (a : Int32 × gz_M) => f11_matches_21 n (nI i) (nI j) a.1 (nI x) a.2) 4 (fun x a => a.1 = nI (gp_orN (fun m => gp_mB (gp_mP T l i j m) T.1) x) ∧ gp_fC Mc a.2 ∧ gp_wC a.2 ((List.range x).map (gp_mrow T l i j))) _ (fun n a hI => ?_) (fun n x a hx hI => Or.inr ?_) gz_FU 0 (nI 0, gz_w Mc 0 15 0) (by omega) (by unfold gz_FU; omega) ⟨rfl, (gp_wC0 Mc).1, (gp_wC0 Mc).2⟩
      · obtain ⟨a1, M1⟩ := a
        obtain ⟨rfl, i1, i2⟩ := hI
        refine ⟨_, ?_, M1, rfl, i1, i2⟩
        show f11_matches_21 (n + 1) _ _ _ (nI 4) M1 = _
        rw [f11_matches_21, if_pos (by decide), gp_mB_modes h1]
      · obtain ⟨a1, M1⟩ := a
        obtain ⟨i0, i1, i2⟩ := hI
        have i0 : a1 = nI (gp_orN (fun m => gp_mB (gp_mP T l i j m) T.1) x) := i0
        subst i0
        have i1 : gp_fC Mc M1 := i1
        have h2' : gp_tC 11 M1 T := h2.fr (fun c c1 c2 => i1.1 c (by omega))
        have h4' : gp_lC 9 M1 l := h4.fr (fun c c1 c2 => i1.1 c (by omega))
        obtain ⟨M2, g1, g2, g3⟩ := gp_tellC (gp_mrow T l i j x) i2 (by rw [List.length_map, List.length_range]; omega)
        have hS := (gp_ss_lt (T := T) (i := i) h1 hx (fun p hp => (h4.2.2 p hp).2) (j - i) (by omega)).2
        have hS10 := gp_lt10 h1 hx hS
        have e75 : ∀ v : Nat, v = gp_mB (gp_mP T l i j x) T.1 → f11_matches_75 (f11_matches_21 n) (nI i) (nI j) (nI (gp_orN (fun m => gp_mB (gp_mP T l i j m) T.1) x)) (nI x) (nI v) M1 = f11_matches_21 n (nI i) (nI j) (nI (gp_orN (fun m => gp_mB (gp_mP T l i j m) T.1) (x + 1))) (nI (x + 1)) M2 := by
          intro v hv
          unfold f11_matches_75
          have : (gp_o (gp_fst (gp_mP T l i j x) T.1 0)).toInt64 = gp_mrow T l i j x := rfl
          rw [gp_eL, hv, gp_firstP _ hw1, gp_eB2, this, g1, gp_eB, gp_eL, nI_1, gp_or]
          rfl
        refine ⟨(nI (gp_orN (fun m => gp_mB (gp_mP T l i j m) T.1) (x + 1)), M2), ?_, rfl, i1.trans g2, ?_⟩
        · show f11_matches_21 (n + 1) _ _ _ (nI x) M1 = _
          rw [f11_matches_21, if_neg (by exact nI_ge hx (by decide)), gp_standing h1 h2' h4' hx hij hj, gp_eB2]
          by_cases hz : i = j
          · rw [if_pos (by rw [hz]), gp_matching0 h1 h2' hx, gp_eB2]
            refine e75 _ (gp_mB_ext (fun k hk => ?_))
            unfold gp_mP gp_mb
            rw [if_pos hz]
          · rw [if_neg (fun e => hz ((nI_eq (by omega) (by omega)).mp e)), gp_matching h1 h2' hx hS10, gp_eB2]
            refine e75 _ (gp_mB_ext (fun k hk => ?_))
            unfold gp_mP gp_mb
            rw [if_neg hz]
            by_cases hm : T.2.2 1 k = x
            · rw [hm]
            · simp [hm]
        · rw [List.range_succ, List.map_append]
          exact g3
    -- the reference: bits
    have rb : f12_matches_21 gz_FU (nI i) (nI j) (nI 0) (nI 0) (gz_w Mr 0 5 0) = f12_matches_66 gz_FU (nI (gp_mB (gp_mb T l i j) T.1)) 0 (gz_w (gz_w Mr 0 5 0) 0 4 0) := by
      have key : ∃ b, f12_matches_66 gz_FU (nI (gp_mB (gp_mb T l i j) T.1)) 0 (gz_w (gz_w Mr 0 5 0) 0 4 0) = b := ⟨_, rfl⟩
      obtain ⟨b, hb⟩ := key
      rw [hb]
      have main : ∀ (d n x : Nat), x + d = T.1 → d < n → f12_matches_21 n (nI i) (nI j) (nI (gp_mB (gp_mb T l i j) x)) (nI x) (gz_w Mr 0 5 0) = b := by
        intro d
        induction d with
        | zero =>
          intro n x hx hn
          obtain ⟨n, rfl⟩ : ∃ q, n = q + 1 := ⟨n - 1, by omega⟩
          have : x = T.1 := by omega
          subst this
          rw [f12_matches_21, ht.1, if_pos (nI_le (Nat.le_refl _) (by omega)), gp_eL]
          exact hb
        | succ d ih =>
          intro n x hx hn
          obtain ⟨n, rfl⟩ : ∃ q, n = q + 1 := ⟨n - 1, by omega⟩
          have e := ih n (x + 1) (by omega) (by omega)
          rw [gp_mB_s] at e
          rw [f12_matches_21, ht.1, if_neg (nI_ge (by omega) (by omega)), gp_doesMatch h1 ht hl hij hj (by omega), gp_eB2]
          by_cases hc : gp_mb T l i j x = true
          · simp only [hc, if_true] at e ⊢
            rw [if_neg (by decide), gp_eL, gp_eL, nI_1, show (1 : Int32) = nI 1 from rfl, gp_shl1 (by omega), gp_or]
            exact e
          · simp only [hc, Bool.false_eq_true, if_false] at e ⊢
            rw [if_pos trivial, gp_eL, gp_eL, nI_1, show (0 : Int32) = nI 0 from rfl, gp_or]
            exact e
      exact main T.1 gz_FU 0 (by omega) (by unfold gz_FU; omega)
    have hB8 : gp_mB (gp_mb T l i j) T.1 < 2 ^ 8 := gp_mB_lt _ hw1
    have rr : ∃ b, f12_matches_66 gz_FU (nI (gp_mB (gp_mb T l i j) T.1)) (nI 0) (gz_w (gz_w Mr 0 5 0) 0 4 0) = some b ∧ ∃ M', b = (nI (gp_mB (gp_mb T l i j) T.1), M') ∧ gp_fR (gz_w Mr 0 5 0) M' ∧ gp_wR M' ((List.range 4).map (gp_mrow T l i j)) := by
      refine gp_for (fun n x (M1 : gz_M) => f12_matches_66 n (nI (gp_mB (gp_mb T l i j) T.1)) (nI x) M1) 4 (fun x M1 => gp_fR (gz_w Mr 0 5 0) M1 ∧ gp_wR M1 ((List.range x).map (gp_mrow T l i j))) _ (fun n M1 hI => ?_) (fun n x M1 hx hI => Or.inr ?_) gz_FU 0 (gz_w (gz_w Mr 0 5 0) 0 4 0) (by omega) (by unfold gz_FU; omega) ⟨(gp_wR0 _).1, (gp_wR0 _).2⟩
      · obtain ⟨i1, i2⟩ := hI
        refine ⟨_, ?_, M1, rfl, i1, i2⟩
        show f12_matches_66 (n + 1) _ (nI 4) M1 = _
        rw [f12_matches_66, if_pos (by decide)]
      · obtain ⟨i1, i2⟩ := hI
        have ht1 : gp_tR M1 T := ht.fr (fun c c1 c2 => i1.1 c (by omega)) (i1.2 _ (by omega))
        obtain ⟨M2, g1, g2, g3⟩ := gp_tellR (gp_mrow T l i j x) i2 (by rw [List.length_map, List.length_range]; omega)
        refine ⟨M2, ?_, i1.trans g2, ?_⟩
        · show f12_matches_66 (n + 1) _ (nI x) M1 = f12_matches_66 n _ (nI (x + 1)) M2
          rw [f12_matches_66, if_neg (by exact nI_ge hx (by decide)), ht1.1, gp_eL]
          have key : ∃ b, f12_matches_66 n (nI (gp_mB (gp_mb T l i j) T.1)) (nI (x + 1)) M2 = b := ⟨_, rfl⟩
          obtain ⟨b, hb⟩ := key
          rw [hb]
          have main : ∀ (d n' t : Nat), t + d = T.1 → d < n' → f12_matches_83 (f12_matches_66 n) n' (nI (gp_mB (gp_mb T l i j) T.1)) (nI x) (gp_o (gp_fst (gp_mP T l i j x) t (T.1 - t))) (gp_dn T.1 t) M1 = b := by
            intro d
            induction d with
            | zero =>
              intro n' t htt hn
              obtain ⟨n', rfl⟩ : ∃ q, n' = q + 1 := ⟨n' - 1, by omega⟩
              have : t = T.1 := by omega
              subst this
              rw [f12_matches_83, gp_dn_e, if_pos (by decide), Nat.sub_self]
              have : (gp_o (gp_fst (gp_mP T l i j x) T.1 0)).toInt64 = gp_mrow T l i j x := rfl
              rw [this, g1, gp_eB, gp_eL, nI_1]
              exact hb
            | succ d ih =>
              intro n' t htt hn
              obtain ⟨n', rfl⟩ : ∃ q, n' = q + 1 := ⟨n' - 1, by omega⟩
              have e := ih n' (t + 1) (by omega) (by omega)
              have hkk : T.1 - 1 - t < T.1 := by omega
              rw [gp_fst, show T.1 - (t + 1) = T.1 - 1 - t by omega, show T.1 - 1 - t + 1 = T.1 - t by omega] at e
              have hv := ht1.2.1 _ hkk
              have hwk := (h1.2.1 _ hkk).1
              rw [f12_matches_83, gp_dn_n (by omega), gp_dn_s (by omega), if_neg (nI_pos (by omega)), gp_ckb (by omega) (by omega), nI_clamp (by omega), hv.1]
              have ebit := gp_bit1L (a := gp_mB (gp_mb T l i j) T.1) (i := T.1 - 1 - t) (by omega) (by omega)
              rw [gp_mB_bit] at ebit
              by_cases hc : T.2.2 1 (T.1 - 1 - t) = x
              · rw [if_pos (by rw [hc])]
                by_cases hb2 : gp_mb T l i j (T.1 - 1 - t) = true
                · rw [if_pos (show (gz_shr (nI (gp_mB (gp_mb T l i j) T.1)) (nI (T.1 - 1 - t)) &&& (1 : Int32)) = (1 : Int32) by rw [ebit]; simp [hb2, hkk]), gp_eL]
                  rw [if_pos (by unfold gp_mP; simp [hc, hb2])] at e
                  exact e
                · rw [if_neg (show ¬ (gz_shr (nI (gp_mB (gp_mb T l i j) T.1)) (nI (T.1 - 1 - t)) &&& (1 : Int32)) = (1 : Int32) by rw [ebit]; simp [hb2]), gp_eL]
                  rw [if_neg (by unfold gp_mP; simp [hb2])] at e
                  exact e
              · rw [if_neg (fun e => hc ((nI_eq (by omega) (by omega)).mp e)), gp_eL]
                rw [if_neg (by unfold gp_mP; simp [hc])] at e
                exact e
          exact main T.1 gz_FU 0 (by omega) (by unfold gz_FU; omega)
        · rw [List.range_succ, List.map_append]
          exact g3
    obtain ⟨_, c1, Mc', rfl, c2, c3⟩ := c
    obtain ⟨_, r1, Mr', rfl, r2, r3⟩ := rr
    refine gp_ansI (v := nI (gp_mB (gp_mb T l i j) T.1)) ?_ ?_ (c2.qq (by omega)) ((gp_thr 0).1.trans r2.qq) c3 r3 (by simp)
    · unfold f11_matches
      rw [e1, gp_eB2, if_neg (by decide), gp_eL]
      exact c1
    · unfold f12_matches
      rw [gp_eL, e2, gp_eB2, if_neg (by decide)]
      exact rb.trans r1
end
end
section
/-! all standings that can be come to: standing, from which entry (none: at first), by which sign -/
abbrev gp_E : Type := List (Nat × Option Nat × Nat)
def gp_e0 : Nat × Option Nat × Nat := (0, none, 0)
def gp_fnd (E : gp_E) (S : Nat) (fr : Option Nat) (s : Nat) : gp_E := if S = 0 ∨ S ∈ E.map (fun e => e.1) then E else E ++ [(S, fr, s)]
def gp_spr (T : gp_T) (m nx : Nat) (fr : Option Nat) (E : gp_E) : Nat → gp_E
  | 0 => E
  | x + 1 => gp_fnd (gp_spr T m nx fr E x) (nx &&& T.2.2 (15 + m) x) fr x
def gp_exF (T : gp_T) (m : Nat) : Nat → Nat → gp_E → gp_E
  | 0, _, E => E
  | d + 1, h, E => if h < E.length then gp_exF T m d (h + 1) (gp_spr T m (gp_aft T m (E.getD h gp_e0).1) (some h) E 8) else E
def gp_ex (T : gp_T) (m : Nat) : gp_E := gp_exF T m 1024 0 (gp_spr T m (T.2.2 8 m) none [] 8)
def gp_wE (E : gp_E) : Prop := (E.map (fun e => e.1)).Nodup ∧ ∀ i, i < E.length → 0 < (E.getD i gp_e0).1 ∧ (E.getD i gp_e0).1 < 1024 ∧ (E.getD i gp_e0).2.2 < 8 ∧ ∀ g, (E.getD i gp_e0).2.1 = some g → g < i
def gp_frS (E : gp_E) (fr : Option Nat) : Nat := match fr with
  | none => 0
  | some g => (E.getD g gp_e0).1
def gp_exC (M : gz_M) (E : gp_E) : Prop := M.1 123 3 = nI E.length ∧ (∀ i, i < E.length → M.1 124 i = nI (E.getD i gp_e0).1 ∧ M.1 125 (E.getD i gp_e0).1 = nI (8 * gp_frS E (E.getD i gp_e0).2.1 + (E.getD i gp_e0).2.2)) ∧ ∀ S, S < 1024 → S ∉ E.map (fun e => e.1) → M.1 125 S = gp_no
def gp_exR (M : gz_M) (E : gp_E) : Prop := M.1 0 44 = nI E.length ∧ (∀ i, i < E.length → M.1 24 i = nI (E.getD i gp_e0).1 ∧ M.1 25 i = gp_o (E.getD i gp_e0).2.1 ∧ M.1 26 i = nI (E.getD i gp_e0).2.2) ∧ ∀ S, S < 1024 → (S ∈ E.map (fun e => e.1) → M.1 27 S = 1) ∧ (S ∉ E.map (fun e => e.1) → M.1 27 S = 0)
theorem gp_pig : ∀ (N : Nat) (L : List Nat), L.Nodup → (∀ x, x ∈ L → x < N) → L.length ≤ N
  | 0, L, _, h => by
    cases L with
    | nil => simp
    | cons a L => exact absurd (h a List.mem_cons_self) (by omega)
  | N + 1, L, hn, h => by
    by_cases hN : N ∈ L
    · have h1 := gp_pig N (L.erase N) (hn.erase N) (fun x hx => by
        have h2 := h x (List.mem_of_mem_erase hx)
        have h3 : x ≠ N := fun e => by
          subst e
          exact (List.Nodup.mem_erase_iff hn).mp hx |>.1 rfl
        omega)
      rw [List.length_erase_of_mem hN] at h1
      omega
    · have h1 := gp_pig N L hn (fun x hx => by
        have h2 := h x hx
        have h3 : x ≠ N := fun e => hN (e ▸ hx)
        omega)
      omega
theorem gp_wE.len {E : gp_E} (h : gp_wE E) : E.length ≤ 1023 := by
  have h1 := gp_pig 1024 (0 :: E.map (fun e => e.1)) (List.nodup_cons.mpr ⟨fun h0 => by
    obtain ⟨e, he, he2⟩ := List.mem_map.mp h0
    obtain ⟨i, hi, hi2⟩ := List.mem_iff_getElem.mp he
    have := (h.2 i hi).1
    simp [List.getD, hi, hi2, he2] at this, h.1⟩) (fun x hx => by
    rcases List.mem_cons.mp hx with rfl | hx
    · decide
    · obtain ⟨e, he, he2⟩ := List.mem_map.mp hx
      obtain ⟨i, hi, hi2⟩ := List.mem_iff_getElem.mp he
      have := (h.2 i hi).2.1
      simp [List.getD, hi, hi2, he2] at this
      exact this)
  simp at h1
  omega
theorem gp_wE.fnd {E : gp_E} (h : gp_wE E) {S s : Nat} {fr : Option Nat} (hS : S < 1024) (hs : s < 8) (hf : ∀ g, fr = some g → g < E.length) : gp_wE (gp_fnd E S fr s) := by
  unfold gp_fnd
  split
  · exact h
  · rename_i hc
    refine ⟨?_, fun i hi => ?_⟩
    · rw [List.map_append, List.map_singleton]
      refine List.nodup_append.mpr ⟨h.1, by simp, fun a ha b hb => ?_⟩
      simp at hb
      intro e
      exact hc (Or.inr (by rw [← hb, ← e]; exact ha))
    · rw [List.length_append, List.length_singleton] at hi
      by_cases h1 : i < E.length
      · rw [gp_getD_l h1]
        exact h.2 i h1
      · have : i = E.length := by omega
        subst this
        rw [gp_getD_r]
        exact ⟨by omega, hS, hs, hf⟩
theorem gp_fnd_len (E : gp_E) (S s : Nat) (fr : Option Nat) : E.length ≤ (gp_fnd E S fr s).length := by
  unfold gp_fnd
  split <;> simp
theorem gp_frA {E : gp_E} {e : Nat × Option Nat × Nat} {fr : Option Nat} (hf : ∀ g, fr = some g → g < E.length) : gp_frS (E ++ [e]) fr = gp_frS E fr := by
  cases fr with
  | none => rfl
  | some g =>
    unfold gp_frS
    dsimp only
    rw [gp_getD_l (hf g rfl)]
section
variable {B : Prop} {k k0 k1 m S s x p cu i j nx : Nat} {M M' Mc Mr Mc' Mr' : gz_M} {T : gp_T} {l : List Nat} {E : gp_E} {fr : Option Nat}
theorem gp_spr_f (hw : gp_wT T) (hm : m < 4) (h : gp_wE E) (hn : nx < 1024) (hf : ∀ g, fr = some g → g < E.length) : ∀ x, x ≤ 8 → gp_wE (gp_spr T m nx fr E x) ∧ E.length ≤ (gp_spr T m nx fr E x).length
  | 0, _ => ⟨h, Nat.le_refl _⟩
  | x + 1, hx => by
    obtain ⟨h1, h2⟩ := gp_spr_f hw hm h hn hf x (by omega)
    refine ⟨h1.fnd (Nat.lt_of_le_of_lt Nat.and_le_left hn) (by omega) (fun g hg => by have := hf g hg; omega), ?_⟩
    have := gp_fnd_len (gp_spr T m nx fr E x) (nx &&& T.2.2 (15 + m) x) x fr
    show E.length ≤ (gp_fnd _ _ _ _).length
    omega
/-- what the search of the component leaves -/
def gp_sL (M M' : gz_M) : Prop := M'.2 = M.2 ∧ ∀ c, c < 123 ∨ 126 ≤ c → M'.1 c = M.1 c
theorem gp_sL.trans {M1 M2 M3 : gz_M} (a : gp_sL M1 M2) (b : gp_sL M2 M3) : gp_sL M1 M3 := ⟨b.1.trans a.1, fun c hc => (b.2 c hc).trans (a.2 c hc)⟩
theorem gp_shl3 {a : Nat} : gz_shl (nI a) 3 = nI (a * 8) := by
  unfold gz_shl
  apply Int32.toBitVec_inj.mp
  have e : (nI a <<< ((3 : Int32) &&& 31)).toBitVec = (nI a).toBitVec <<< (3 : Nat) := by
    rw [Int32.toBitVec_shiftLeft]
    rfl
  rw [e]
  apply BitVec.eq_of_toNat_eq
  simp [nI, Nat.shiftLeft_eq]
theorem gp_by3 {a s : Nat} (hs : s < 8) : gz_shl (nI a) 3 ||| nI s = nI (8 * a + s) := by
  rw [gp_shl3, gp_or]
  have := Nat.shiftLeft_add_eq_or_of_lt (i := 3) (b := s) (by omega) a
  rw [Nat.shiftLeft_eq] at this
  have h8 : a * 8 ||| s = a * 8 + s := this.symm
  rw [h8]
  congr 1
  omega
theorem gp_spread (hw : gp_wT T) (hm : m < 4) (h : gp_wE E) (hn : nx < 1024) (hf : ∀ g, fr = some g → g < E.length) (ht : gp_tC 11 M T) (hE : gp_exC M E) : ∃ M', f8_spread 11 (nI m) (nI (gp_frS E fr)) (nI nx) M = some M' ∧ gp_sL M M' ∧ gp_exC M' (gp_spr T m nx fr E 8) := by
  have hfS : ∀ x, x ≤ 8 → gp_frS (gp_spr T m nx fr E x) fr = gp_frS E fr := by
    intro x
    induction x with
    | zero => intro _; rfl
    | succ x ih =>
      intro hx
      rw [← ih (by omega), gp_spr]
      unfold gp_fnd
      split
      · rfl
      · exact gp_frA (fun g hg => by
          have := hf g hg
          have := (gp_spr_f (T := T) (m := m) hw hm h hn hf x (by omega)).2
          omega)
  have hfb : gp_frS E fr < 1024 := by
    cases fr with
    | none => show 0 < 1024; decide
    | some g => exact (h.2 g (hf g rfl)).2.1
  have c : ∃ b, f8_spread_3 11 gz_FU (nI m) (nI (gp_frS E fr)) (nI nx) (nI 0) M = some b ∧ (gp_sL M b ∧ gp_exC b (gp_spr T m nx fr E 8)) := by
    refine gp_for (fun n x (M1 : gz_M) => f8_spread_3 11 n (nI m) (nI (gp_frS E fr)) (nI nx) (nI x) M1) 8 (fun x M1 => gp_sL M M1 ∧ gp_exC M1 (gp_spr T m nx fr E x)) _ (fun n M1 hI => ?_) (fun n x M1 hx hI => Or.inr ?_) gz_FU 0 M (by omega) (by unfold gz_FU; omega) ⟨⟨rfl, fun _ _ => rfl⟩, hE⟩
    · refine ⟨M1, ?_, hI.1, hI.2⟩
      show f8_spread_3 11 (n + 1) _ _ _ (nI 8) M1 = _
      rw [f8_spread_3, if_pos (by decide)]
    · obtain ⟨i1, i2⟩ := hI
      have ht1 : gp_tC 11 M1 T := ht.fr (fun c c1 c2 => i1.2 c (by omega))
      obtain ⟨hwx, hlx⟩ := gp_spr_f (T := T) (m := m) hw hm h hn hf x (by omega)
      have hlen := hwx.len
      have hS : nx &&& T.2.2 (15 + m) x < 1024 := Nat.lt_of_le_of_lt Nat.and_le_left hn
      have hspr : gp_spr T m nx fr E (x + 1) = gp_fnd (gp_spr T m nx fr E x) (nx &&& T.2.2 (15 + m) x) fr x := rfl
      rw [hspr]
      have hfSx := hfS x (by omega)
      generalize gp_spr T m nx fr E x = E1 at *
      obtain ⟨S, hSe⟩ : ∃ S, nx &&& T.2.2 (15 + m) x = S := ⟨_, rfl⟩
      rw [hSe] at hS ⊢
      have no51 : f8_spread_51 11 (f8_spread_3 11 n) (nI m) (nI (gp_frS E fr)) (nI nx) (nI x) (nI S) 0 M1 = f8_spread_3 11 n (nI m) (nI (gp_frS E fr)) (nI nx) (nI (x + 1)) M1 := by
        unfold f8_spread_51
        rw [if_pos rfl, gp_eL, nI_1]
      have e3 : f8_spread_3 11 (n + 1) (nI m) (nI (gp_frS E fr)) (nI nx) (nI x) M1 = (if nI S ≤ 0 then (f8_spread_51 11 (f8_spread_3 11 n) (nI m) (nI (gp_frS E fr)) (nI nx) (nI x) (nI S) 0 M1) else (if 1024 ≤ nI S then (f8_spread_51 11 (f8_spread_3 11 n) (nI m) (nI (gp_frS E fr)) (nI nx) (nI x) (nI S) 0 M1) else (gz_ck (gz_inb (nI S) 1024) <| if (M1.1 125 (nI S).toNatClampNeg) = (-1) then (f8_spread_51 11 (f8_spread_3 11 n) (nI m) (nI (gp_frS E fr)) (nI nx) (nI x) (nI S) 1 M1) else (f8_spread_51 11 (f8_spread_3 11 n) (nI m) (nI (gp_frS E fr)) (nI nx) (nI x) (nI S) 0 M1)))) := by
        rw [f8_spread_3, if_neg (by exact nI_ge hx (by decide)), gp_takersOf ht1 hm hx, gp_eB2, gp_eL, gp_and, hSe]
      by_cases hz : S = 0
      · refine ⟨M1, ?_, i1, ?_⟩
        · show f8_spread_3 11 (n + 1) _ _ _ (nI x) M1 = f8_spread_3 11 n _ _ _ (nI (x + 1)) M1
          rw [e3, if_pos (by rw [hz]; decide), no51]
        · unfold gp_fnd
          rw [if_pos (Or.inl hz)]
          exact i2
      · have e4 : f8_spread_3 11 (n + 1) (nI m) (nI (gp_frS E fr)) (nI nx) (nI x) M1 = (if (M1.1 125 S) = (-1) then (f8_spread_51 11 (f8_spread_3 11 n) (nI m) (nI (gp_frS E fr)) (nI nx) (nI x) (nI S) 1 M1) else (f8_spread_51 11 (f8_spread_3 11 n) (nI m) (nI (gp_frS E fr)) (nI nx) (nI x) (nI S) 0 M1)) := by
          rw [e3, if_neg (by exact nI_nle (by omega) (by omega)), if_neg (by exact nI_ge hS (by decide)), gp_ckb hS (by omega), nI_clamp (by omega)]
        by_cases hmem : S ∈ E1.map (fun e => e.1)
        · obtain ⟨e, he, he2⟩ := List.mem_map.mp hmem
          obtain ⟨q, hq, hq2⟩ := List.mem_iff_getElem.mp he
          have hqS : (E1.getD q gp_e0).1 = S := by simp [List.getD, hq, hq2, he2]
          have hv := (i2.2.1 q hq).2
          rw [hqS] at hv
          have hb : gp_frS E1 (E1.getD q gp_e0).2.1 < 1024 := by
            cases hfr : (E1.getD q gp_e0).2.1 with
            | none => show 0 < 1024; decide
            | some g => exact (hwx.2 g (by have := (hwx.2 q hq).2.2.2 g hfr; omega)).2.1
          have hs8 := (hwx.2 q hq).2.2.1
          refine ⟨M1, ?_, i1, ?_⟩
          · show f8_spread_3 11 (n + 1) _ _ _ (nI x) M1 = f8_spread_3 11 n _ _ _ (nI (x + 1)) M1
            rw [e4, hv, if_neg (by rw [gp_m1, gp_ne1 (by omega)]; exact id), no51]
          · unfold gp_fnd
            rw [if_pos (Or.inr hmem)]
            exact i2
        · have hv := i2.2.2 S hS hmem
          have hfnd : gp_fnd E1 S fr x = E1 ++ [(S, fr, x)] := by
            unfold gp_fnd
            rw [if_neg (by rintro (h | h); exact hz h; exact hmem h)]
          rw [hfnd]
          refine ⟨gz_w (gz_w (gz_w M1 125 S (nI (8 * gp_frS E fr + x))) 124 E1.length (nI S)) 123 3 (nI (E1.length + 1)), ?_, ⟨?_, fun c hc => ?_⟩, ?_, fun i hi => ?_, fun S' hS' hm' => ?_⟩
          · show f8_spread_3 11 (n + 1) _ _ _ (nI x) M1 = f8_spread_3 11 n _ _ _ (nI (x + 1)) _
            rw [e4, hv, if_pos (by rfl)]
            unfold f8_spread_51
            rw [if_neg (by decide), i2.1, if_neg (by exact nI_ge (show E1.length < 1024 by omega) (by decide)), gp_ckb hS (by omega), gp_eL, gp_by3 hx, nI_clamp (by omega), gp_gn (by omega), i2.1, gp_ckb (by omega) (by omega), gp_eL, nI_clamp (by omega), gp_gn (by omega), gp_gn (by omega), i2.1, gp_eL, gp_eL, nI_1, nI_1]
          · rw [gp_gl, gp_gl, gp_gl, i1.1]
          · rw [gp_wc _ (by omega), gp_wc _ (by omega), gp_wc _ (by omega), i1.2 c hc]
          · rw [gp_gs, List.length_append]
            rfl
          · rw [List.length_append, List.length_singleton] at hi
            by_cases hi1 : i < E1.length
            · have hne : (E1.getD i gp_e0).1 ≠ S := fun e => hmem (List.mem_map.mpr ⟨_, gp_getD_mem (d := gp_e0) hi1, e⟩)
              rw [gp_getD_l hi1, gp_frA (fun g hg => by have := (hwx.2 i hi1).2.2.2 g hg; omega), gp_gn (by omega), gp_gn (by omega), gp_gn (by omega), gp_gn (by omega), gp_gn (by omega), gp_gn (by omega)]
              exact i2.2.1 i hi1
            · have : i = E1.length := by omega
              subst this
              rw [gp_getD_r, gp_gn (by omega), gp_gs, gp_gn (by omega), gp_gn (by omega), gp_gs]
              refine ⟨rfl, ?_⟩
              rw [gp_frA (fun g hg => by have := hf g hg; omega), hfSx]
          · rw [List.map_append, List.mem_append, not_or] at hm'
            have hne : S' ≠ S := fun e => hm'.2 (by simp [e])
            rw [gp_gn (by omega), gp_gn (by omega), gp_gn (by omega)]
            exact i2.2.2 S' hS' hm'.1
  obtain ⟨M', c1, c2, c3⟩ := c
  exact ⟨M', c1, c2, c3⟩
theorem gp_fill (k0 n0 : Nat) (v : Int32) (hn : n0 < 999999) (M : gz_M) : ∃ M', fJ_fill k0 n0 v M = some M' ∧ M'.2 = M.2 ∧ (∀ c, c ≠ k0 → M'.1 c = M.1 c) ∧ (∀ i, i < n0 → M'.1 k0 i = v) ∧ ∀ i, n0 ≤ i → M'.1 k0 i = M.1 k0 i := by
  have main : ∀ (d n x : Nat) (M1 : gz_M), x + d = n0 → d < n → ∃ M', fJ_fill_5 k0 n0 n v (nI x) (nI n0) M1 = some M' ∧ M'.2 = M1.2 ∧ (∀ c, c ≠ k0 → M'.1 c = M1.1 c) ∧ (∀ i, x ≤ i → i < n0 → M'.1 k0 i = v) ∧ ∀ i, i < x ∨ n0 ≤ i → M'.1 k0 i = M1.1 k0 i := by
    intro d
    induction d with
    | zero =>
      intro n x M1 hx hn'
      obtain ⟨n, rfl⟩ : ∃ q, n = q + 1 := ⟨n - 1, by omega⟩
      have : x = n0 := by omega
      subst this
      rw [fJ_fill_5, if_pos (nI_le (Nat.le_refl _) (by omega))]
      exact ⟨M1, rfl, rfl, fun _ _ => rfl, fun i h1 h2 => absurd h1 (by omega), fun _ _ => rfl⟩
    | succ d ih =>
      intro n x M1 hx hn'
      obtain ⟨n, rfl⟩ : ∃ q, n = q + 1 := ⟨n - 1, by omega⟩
      rw [fJ_fill_5, if_neg (nI_ge (by omega) (by omega)), gp_ckb (by omega) (by omega), gp_eL, gp_eL, nI_clamp (by omega), nI_1]
      obtain ⟨M', e1, e2, e3, e4, e5⟩ := ih n (x + 1) (gz_w M1 k0 x v) (by omega) (by omega)
      refine ⟨M', e1, e2, fun c hc => (e3 c hc).trans (gp_wc _ hc), fun i h1 h2 => ?_, fun i hi => (e5 i (by omega)).trans (gp_gn (by omega))⟩
      by_cases h : i = x
      · subst h
        rw [e5 i (by omega), gp_gs]
      · exact e4 i (by omega) h2
  unfold fJ_fill
  rw [gp_eL]
  obtain ⟨M', e1, e2, e3, e4, e5⟩ := main n0 gz_FU 0 M (by omega) (by unfold gz_FU; omega)
  exact ⟨M', e1, e2, e3, fun i hi => e4 i (by omega) hi, fun i hi => e5 i (Or.inr hi)⟩
theorem gp_explore27 (hw : gp_wT T) (hm : m < 4) : ∀ (d n h : Nat) (E : gp_E) (M : gz_M), h + d = 1024 → d < n → gp_tC 11 M T → gp_wE E → gp_exC M E → ∃ M', f8_explore_27 11 n (nI m) (nI h) M = some M' ∧ gp_sL M M' ∧ gp_exC M' (gp_exF T m d h E) ∧ gp_wE (gp_exF T m d h E) := by
  intro d
  induction d with
  | zero =>
    intro n h E M hh hn ht hE hx
    obtain ⟨n, rfl⟩ : ∃ q, n = q + 1 := ⟨n - 1, by omega⟩
    have hlen := hE.len
    rw [f8_explore_27, hx.1, if_pos (nI_le (by omega) (by omega))]
    exact ⟨M, rfl, ⟨rfl, fun _ _ => rfl⟩, hx, hE⟩
  | succ d ih =>
    intro n h E M hh hn ht hE hx
    obtain ⟨n, rfl⟩ : ∃ q, n = q + 1 := ⟨n - 1, by omega⟩
    have hlen := hE.len
    rw [f8_explore_27, hx.1, gp_exF]
    by_cases hl : h < E.length
    · have hv := (hx.2.1 h hl).1
      have hS := (hE.2 h hl).2.1
      have hA := gp_lt10 hw hm (gp_aft_lt hw hm (E.getD h gp_e0).1)
      obtain ⟨M1, e1, e2, e3⟩ := gp_spread (fr := some h) hw hm hE hA (fun g hg => by cases hg; exact hl) ht hx
      obtain ⟨w1, w2⟩ := gp_spr_f (fr := some h) (T := T) (m := m) hw hm hE hA (fun g hg => by cases hg; exact hl) 8 (by omega)
      rw [if_neg (nI_ge hl (by omega)), if_neg (by exact nI_ge (show h < 1024 by omega) (by decide)), if_pos hl, gp_ckb (by omega) (by omega), gp_ckb (by omega) (by omega), nI_clamp (by omega), hv, gp_after ht hm hS, gp_eB2]
      have e1' : f8_spread 11 (nI m) (nI (E.getD h gp_e0).1) (nI (gp_aft T m (E.getD h gp_e0).1)) M = some M1 := e1
      rw [e1', gp_eB, gp_eL, nI_1]
      obtain ⟨M', f1, f2, f3⟩ := ih n (h + 1) _ M1 (by omega) (by omega) (ht.fr (fun c c1 c2 => e2.2 c (by omega))) w1 e3
      exact ⟨M', f1, e2.trans f2, f3⟩
    · rw [if_pos (nI_le (by omega) (by omega)), if_neg hl]
      exact ⟨M, rfl, ⟨rfl, fun _ _ => rfl⟩, hx, hE⟩
theorem gp_explore (hw : gp_wT T) (hm : m < 4) (ht : gp_tC 11 M T) : ∃ M', f8_explore 11 (nI m) M = some M' ∧ gp_sL M M' ∧ gp_exC M' (gp_ex T m) ∧ gp_wE (gp_ex T m) := by
  unfold f8_explore
  obtain ⟨M1, e1, e2, e3, e4, e5⟩ := gp_fill 125 1024 (-1) (by omega) M
  have ht1 : gp_tC 11 (gz_w M1 123 3 0) T := ht.fr (fun c c1 c2 => by rw [gp_wc _ (by omega), e3 c (by omega)])
  have hA := gp_lt10 hw hm (hw.2.2 m hm).2.1
  have w0 : gp_wE [] := ⟨by simp, fun i hi => absurd hi (by simp)⟩
  obtain ⟨w1, w2⟩ := gp_spr_f (fr := none) (T := T) (m := m) hw hm w0 hA (fun g hg => by cases hg) 8 (by omega)
  obtain ⟨M2, f1, f2, f3⟩ := gp_spread (fr := none) (E := []) hw hm w0 hA (fun g hg => by cases hg) ht1 ⟨by rw [gp_gs]; rfl, fun i hi => absurd hi (by simp), fun S hS _ => by rw [gp_gn (by omega), e4 S hS]; rfl⟩
  obtain ⟨M', g1, g2, g3, g4⟩ := gp_explore27 hw hm 1024 gz_FU 0 _ M2 (by omega) (by unfold gz_FU; omega) (ht1.fr (fun c c1 c2 => f2.2 c (by omega))) w1 f3
  have f1' : f8_spread 11 (nI m) 0 (nI (T.2.2 8 m)) (gz_w M1 123 3 0) = some M2 := f1
  rw [e1, gp_eB, gp_eL, gp_atFirst ht1 hm, gp_eB2, f1', gp_eB]
  exact ⟨M', g1, (show gp_sL M (gz_w M1 123 3 0) from ⟨e2, fun c hc => by rw [gp_wc _ (by omega), e3 c (by omega)]⟩).trans (f2.trans g2), g3, g4⟩
end
end
section
/-! all standings that can be come to: the reference -/
section
variable {B : Prop} {k k0 k1 m S s x p cu i j nx : Nat} {M M' Mc Mr Mc' Mr' : gz_M} {T : gp_T} {l : List Nat} {E : gp_E} {fr : Option Nat}
/-- what the search of the reference leaves -/
def gp_sLR (M M' : gz_M) : Prop := M'.2 = M.2 ∧ (∀ c, c ≠ 0 → c < 24 ∨ 28 ≤ c → M'.1 c = M.1 c) ∧ ∀ i, i ≠ 44 → M'.1 0 i = M.1 0 i
theorem gp_sLR.refl (M : gz_M) : gp_sLR M M := ⟨rfl, fun _ _ _ => rfl, fun _ _ => rfl⟩
theorem gp_sLR.trans {M1 M2 M3 : gz_M} (a : gp_sLR M1 M2) (b : gp_sLR M2 M3) : gp_sLR M1 M3 := ⟨b.1.trans a.1, fun c h1 h2 => (b.2.1 c h1 h2).trans (a.2.1 c h1 h2), fun i h => (b.2.2 i h).trans (a.2.2 i h)⟩
theorem gp_sLR.t (h : gp_sLR M M') (ht : gp_tR M T) : gp_tR M' T := ht.fr (fun c c1 c2 => h.2.1 c (by omega) (by omega)) (h.2.2 _ (by omega))
theorem gp_find (hE : gp_wE E) (hx : gp_exR M E) (hS : S < 1024) (hs : s < 8) (hf : ∀ g, fr = some g → g < E.length) : ∃ M', f12_find (nI S) (gp_o fr) (nI s) M = some M' ∧ gp_sLR M M' ∧ gp_exR M' (gp_fnd E S fr s) := by
  have hlen := hE.len
  unfold f12_find gp_fnd
  by_cases hz : S = 0
  · rw [if_pos (by rw [hz]; rfl), if_pos (Or.inl hz)]
    exact ⟨M, rfl, gp_sLR.refl M, hx⟩
  · rw [if_neg (show ¬ nI S = (0 : Int32) from fun e => hz ((nI_eq (b := 0) (by omega) (by omega)).mp e)), gp_ckb hS (by omega), nI_clamp (by omega)]
    by_cases hm : S ∈ E.map (fun e => e.1)
    · rw [(hx.2.2 S hS).1 hm, if_neg (by decide), if_pos (Or.inr hm)]
      exact ⟨M, rfl, gp_sLR.refl M, hx⟩
    · rw [(hx.2.2 S hS).2 hm, if_pos rfl, if_neg (by rintro (h | h); exact hz h; exact hm h), gp_ckb hS (by omega), gp_eL, gp_gn (by omega), hx.1, gp_ckb (by omega) (by omega), gp_eL, nI_clamp (by omega)]
      rw [gp_gn (by omega), gp_gn (by omega), hx.1, gp_ckb (by omega) (by omega), gp_eL, nI_clamp (by omega), gp_gn (by omega), gp_gn (by omega), gp_gn (by omega), hx.1, gp_ckb (by omega) (by omega), gp_eL, nI_clamp (by omega), gp_gn (by omega), gp_gn (by omega), gp_gn (by omega), gp_gn (by omega), hx.1, gp_eL, nI_1]
      refine ⟨_, rfl, ⟨rfl, fun c c1 c2 => ?_, fun i hi => ?_⟩, ?_, fun i hi => ?_, fun S' hS' => ?_⟩
      · rw [gp_wc _ c1, gp_wc _ (by omega), gp_wc _ (by omega), gp_wc _ (by omega), gp_wc _ (by omega)]
      · rw [gp_gn (by omega), gp_gn (by omega), gp_gn (by omega), gp_gn (by omega), gp_gn (by omega)]
      · rw [gp_gs, List.length_append]
        rfl
      · rw [List.length_append, List.length_singleton] at hi
        by_cases hi1 : i < E.length
        · rw [gp_getD_l hi1, gp_gn (by omega), gp_gn (by omega), gp_gn (by omega), gp_gn (by omega), gp_gn (by omega), gp_gn (by omega), gp_gn (by omega), gp_gn (by omega), gp_gn (by omega), gp_gn (by omega), gp_gn (by omega), gp_gn (by omega), gp_gn (by omega), gp_gn (by omega), gp_gn (by omega)]
          exact hx.2.1 i hi1
        · have : i = E.length := by omega
          subst this
          rw [gp_getD_r]
          refine ⟨?_, ?_, ?_⟩
          · rw [gp_gn (by omega), gp_gn (by omega), gp_gn (by omega), gp_gs]
          · rw [gp_gn (by omega), gp_gn (by omega), gp_gs]
          · rw [gp_gn (by omega), gp_gs]
      · rw [gp_gn (by omega), gp_gn (by omega), gp_gn (by omega), gp_gn (by omega), List.map_append, List.mem_append]
        by_cases hy : S' = S
        · subst hy
          rw [gp_gs]
          exact ⟨fun _ => by decide, fun h => absurd (Or.inr (by simp)) h⟩
        · rw [gp_gn (by omega)]
          refine ⟨fun h => (hx.2.2 S' hS').1 ?_, fun h => (hx.2.2 S' hS').2 (fun h' => h (Or.inl h'))⟩
          rcases h with h | h
          · exact h
          · simp at h
            exact absurd h hy
def gp_wEm (T : gp_T) (m : Nat) (E : gp_E) : Prop := ∀ i, i < E.length → (E.getD i gp_e0).1 < 2 ^ T.2.2 7 m
theorem gp_fnd_get {i : Nat} (h : i < E.length) : (gp_fnd E S fr s).getD i gp_e0 = E.getD i gp_e0 := by
  unfold gp_fnd
  split
  · rfl
  · exact gp_getD_l h
theorem gp_spr_get {i : Nat} (h : i < E.length) : ∀ x, E.length ≤ (gp_spr T m nx fr E x).length ∧ (gp_spr T m nx fr E x).getD i gp_e0 = E.getD i gp_e0
  | 0 => ⟨Nat.le_refl _, rfl⟩
  | x + 1 => by
    obtain ⟨h1, h2⟩ := gp_spr_get h x
    have := gp_fnd_len (gp_spr T m nx fr E x) (nx &&& T.2.2 (15 + m) x) x fr
    refine ⟨Nat.le_trans h1 this, ?_⟩
    rw [← h2]
    exact gp_fnd_get (by omega)
theorem gp_wEm.spr (hw : gp_wT T) (hm : m < 4) (h : gp_wEm T m E) : ∀ x, x ≤ 8 → gp_wEm T m (gp_spr T m nx fr E x)
  | 0, _ => h
  | x + 1, hx => by
    have ih := gp_wEm.spr hw hm h x (by omega)
    intro i hi
    have hi : i < (gp_fnd (gp_spr T m nx fr E x) (nx &&& T.2.2 (15 + m) x) fr x).length := hi
    show ((gp_fnd (gp_spr T m nx fr E x) (nx &&& T.2.2 (15 + m) x) fr x).getD i gp_e0).1 < _
    by_cases h1 : i < (gp_spr T m nx fr E x).length
    · rw [gp_fnd_get h1]
      exact ih i h1
    · unfold gp_fnd at hi ⊢
      split
      · rename_i hc
        rw [if_pos hc] at hi
        exact absurd hi h1
      · rename_i hc
        rw [if_neg hc, List.length_append, List.length_singleton] at hi
        have : i = (gp_spr T m nx fr E x).length := by omega
        subst this
        rw [gp_getD_r]
        exact Nat.lt_of_le_of_lt Nat.and_le_right ((hw.2.2 m hm).2.2.2 x (by omega))
theorem gp_layF67 (hw : gp_wT T) (hm : m < 4) (c57 : Int32 → Int32 → gz_M → Option gz_M) {h : Nat} (E0 : gp_E) (hE0 : gp_wE E0) (hEm : gp_wEm T m E0) (hh : h < E0.length) : ∀ (d n x : Nat) (M : gz_M), x + d = 8 → d < n → gp_tR M T → gp_exR M (gp_spr T m (gp_aft T m (E0.getD h gp_e0).1) (some h) E0 x) → ∃ M', gp_sLR M M' ∧ gp_exR M' (gp_spr T m (gp_aft T m (E0.getD h gp_e0).1) (some h) E0 8) ∧ f12_layFound_67 c57 n (nI m) (nI h) (nI x) M = c57 (nI m) (nI (h + 1)) M' := by
  have hEh := hE0.2 h hh
  have hA := gp_lt10 hw hm (gp_aft_lt hw hm (E0.getD h gp_e0).1)
  intro d
  induction d with
  | zero =>
    intro n x M hx hn ht hX
    obtain ⟨n, rfl⟩ : ∃ q, n = q + 1 := ⟨n - 1, by omega⟩
    have : x = 8 := by omega
    subst this
    refine ⟨M, gp_sLR.refl M, hX, ?_⟩
    rw [f12_layFound_67, if_pos (by decide), gp_eL, nI_1]
  | succ d ih =>
    intro n x M hx hn ht hX
    obtain ⟨n, rfl⟩ : ∃ q, n = q + 1 := ⟨n - 1, by omega⟩
    obtain ⟨hwx, hlx⟩ := gp_spr_f (T := T) (m := m) (fr := some h) hw hm hE0 hA (fun g hg => by cases hg; exact hh) x (by omega)
    have hlen := hwx.len
    have hS : gp_aft T m (E0.getD h gp_e0).1 &&& T.2.2 (15 + m) x < 1024 := Nat.lt_of_le_of_lt Nat.and_le_left hA
    have hEhx : ((gp_spr T m (gp_aft T m (E0.getD h gp_e0).1) (some h) E0 x).getD h gp_e0) = E0.getD h gp_e0 := (gp_spr_get hh x).2
    have hv := (hX.2.1 h (by omega)).1
    rw [hEhx] at hv
    have hS7 : (E0.getD h gp_e0).1 < 2 ^ T.2.2 7 m := hEm h hh
    rw [f12_layFound_67, if_neg (by exact nI_ge (show x < 8 by omega) (by decide)), gp_ckb (by omega) (by omega), nI_clamp (by omega), hv, gp_stepR hw ht hm (by omega) hS7, gp_eB2]
    obtain ⟨M1, e1, e2, e3⟩ := gp_find (fr := some h) (s := x) hwx hX hS (by omega) (fun g hg => by cases hg; omega)
    have e1' : f12_find (nI (gp_st T m (E0.getD h gp_e0).1 x)) (nI h) (nI x) M = some M1 := e1
    rw [e1', gp_eB, gp_eL, nI_1]
    obtain ⟨M', f1, f2, f3⟩ := ih n (x + 1) M1 (by omega) (by omega) (e2.t ht) e3
    exact ⟨M', e2.trans f1, f2, f3⟩
theorem gp_layF57 (hw : gp_wT T) (hm : m < 4) : ∀ (d n h : Nat) (E : gp_E) (M : gz_M), h + d = 1024 → d < n → gp_tR M T → gp_wE E → gp_wEm T m E → gp_exR M E → ∃ M', f12_layFound_57 n (nI m) (nI h) M = some M' ∧ gp_sLR M M' ∧ gp_exR M' (gp_exF T m d h E) := by
  intro d
  induction d with
  | zero =>
    intro n h E M hh hn ht hE hEm hx
    obtain ⟨n, rfl⟩ : ∃ q, n = q + 1 := ⟨n - 1, by omega⟩
    have hlen := hE.len
    rw [f12_layFound_57, hx.1, if_pos (nI_le (by omega) (by omega))]
    exact ⟨M, rfl, gp_sLR.refl M, hx⟩
  | succ d ih =>
    intro n h E M hh hn ht hE hEm hx
    obtain ⟨n, rfl⟩ : ∃ q, n = q + 1 := ⟨n - 1, by omega⟩
    have hlen := hE.len
    rw [f12_layFound_57, hx.1, gp_exF]
    by_cases hl : h < E.length
    · rw [if_neg (nI_ge hl (by omega)), if_pos hl]
      have hA := gp_lt10 hw hm (gp_aft_lt hw hm (E.getD h gp_e0).1)
      obtain ⟨w1, w2⟩ := gp_spr_f (fr := some h) (T := T) (m := m) hw hm hE hA (fun g hg => by cases hg; exact hl) 8 (by omega)
      have w3 := hEm.spr (nx := gp_aft T m (E.getD h gp_e0).1) (fr := some h) hw hm 8 (by omega)
      obtain ⟨M1, i1, i2, i3⟩ := gp_layF67 hw hm (f12_layFound_57 n) E hE hEm hl 8 gz_FU 0 M (by omega) (by unfold gz_FU; omega) ht hx
      obtain ⟨M', f1, f2, f3⟩ := ih n (h + 1) _ M1 (by omega) (by omega) (i1.t ht) w1 w3 i2
      exact ⟨M', i3.trans f1, i1.trans f2, f3⟩
    · rw [if_pos (nI_le (by omega) (by omega)), if_neg hl]
      exact ⟨M, rfl, gp_sLR.refl M, hx⟩
theorem gp_layFound (hw : gp_wT T) (hm : m < 4) (ht : gp_tR M T) : ∃ M', f12_layFound (nI m) M = some M' ∧ gp_sLR M M' ∧ gp_exR M' (gp_ex T m) := by
  have w0 : gp_wE [] := ⟨by simp, fun i hi => absurd hi (by simp)⟩
  have hA := gp_lt10 hw hm (hw.2.2 m hm).2.1
  have m0 : gp_wEm T m [] := fun i hi => absurd hi (by simp)
  -- the first signs
  have first : ∀ (d n x : Nat) (M1 : gz_M), x + d = 8 → d < n → gp_tR M1 T → gp_exR M1 (gp_spr T m (T.2.2 8 m) none [] x) → ∃ M', f12_layFound_29 n (nI m) (nI x) M1 = some M' ∧ gp_sLR M1 M' ∧ gp_exR M' (gp_ex T m) := by
    intro d
    induction d with
    | zero =>
      intro n x M1 hx hn ht hX
      obtain ⟨n, rfl⟩ : ∃ q, n = q + 1 := ⟨n - 1, by omega⟩
      have : x = 8 := by omega
      subst this
      obtain ⟨w1, w2⟩ := gp_spr_f (fr := none) (T := T) (m := m) hw hm w0 hA (fun g hg => by cases hg) 8 (by omega)
      rw [f12_layFound_29, if_pos (by decide)]
      exact gp_layF57 hw hm 1024 gz_FU 0 _ M1 (by omega) (by unfold gz_FU; omega) ht w1 (m0.spr hw hm 8 (by omega)) hX
    | succ d ih =>
      intro n x M1 hx hn ht hX
      obtain ⟨n, rfl⟩ : ∃ q, n = q + 1 := ⟨n - 1, by omega⟩
      obtain ⟨w1, w2⟩ := gp_spr_f (fr := none) (T := T) (m := m) hw hm w0 hA (fun g hg => by cases hg) x (by omega)
      have hS : T.2.2 8 m &&& T.2.2 (15 + m) x < 1024 := Nat.lt_of_le_of_lt Nat.and_le_left hA
      rw [f12_layFound_29, if_neg (by exact nI_ge (show x < 8 by omega) (by decide)), gp_stepR1 hw ht hm (by omega), gp_eB2]
      obtain ⟨M2, e1, e2, e3⟩ := gp_find (fr := none) (s := x) w1 hX hS (by omega) (fun g hg => by cases hg)
      have e1' : f12_find (nI (gp_st1 T m x)) (-1) (nI x) M1 = some M2 := e1
      rw [e1', gp_eB, gp_eL, nI_1]
      obtain ⟨M', f1, f2, f3⟩ := ih n (x + 1) M2 (by omega) (by omega) (e2.t ht) e3
      exact ⟨M', f1, e2.trans f2, f3⟩
  -- the row of what is found is emptied
  have clear : ∀ (d n x : Nat) (M1 : gz_M), x + d = 1024 → d < n → gp_tR M1 T → M1.1 0 44 = nI 0 → (∀ y, y < x → M1.1 27 y = 0) → ∃ M', f12_layFound_7 n (nI m) (nI x) M1 = some M' ∧ gp_sLR M1 M' ∧ gp_exR M' (gp_ex T m) := by
    intro d
    induction d with
    | zero =>
      intro n x M1 hx hn ht h44 h27
      obtain ⟨n, rfl⟩ : ∃ q, n = q + 1 := ⟨n - 1, by omega⟩
      have : x = 1024 := by omega
      subst this
      rw [f12_layFound_7, if_pos (by decide)]
      exact first 8 gz_FU 0 M1 (by omega) (by unfold gz_FU; omega) ht ⟨h44, fun i hi => absurd hi (by simp [gp_spr]), fun S hS => ⟨fun h => absurd h (by simp [gp_spr]), fun _ => h27 S hS⟩⟩
    | succ d ih =>
      intro n x M1 hx hn ht h44 h27
      obtain ⟨n, rfl⟩ : ∃ q, n = q + 1 := ⟨n - 1, by omega⟩
      rw [f12_layFound_7, if_neg (by exact nI_ge (show x < 1024 by omega) (by decide)), gp_ckb (by omega) (by omega), gp_eL, gp_eL, nI_clamp (by omega), nI_1]
      have l0 : gp_sLR M1 (gz_w M1 27 x (vp_nar .boolean 0)) := ⟨rfl, fun c c1 c2 => gp_wc _ (by omega), fun i hi => gp_gn (by omega)⟩
      obtain ⟨M', f1, f2, f3⟩ := ih n (x + 1) (gz_w M1 27 x (vp_nar .boolean 0)) (by omega) (by omega) (l0.t ht) (by rw [gp_gn (by omega), h44]) (fun y hy => by
        by_cases h : y = x
        · subst h; rw [gp_gs]; decide
        · rw [gp_gn (by omega)]; exact h27 y (by omega))
      exact ⟨M', f1, l0.trans f2, f3⟩
  unfold f12_layFound
  rw [gp_eL]
  have l0 : gp_sLR M (gz_w M 0 44 0) := ⟨rfl, fun c c1 c2 => gp_wc _ c1, fun i hi => gp_gn (by omega)⟩
  obtain ⟨M', f1, f2, f3⟩ := clear 1024 gz_FU 0 (gz_w M 0 44 0) (by omega) (by unfold gz_FU; omega) (l0.t ht) (by rw [gp_gs]; rfl) (fun y hy => absurd hy (by omega))
  exact ⟨M', f1, l0.trans f2, f3⟩
end
end
section
/-! questions about rules: 23 states, 25 idle -/
section
variable {B : Prop} {k k0 k1 m S s x p cu i j nx : Nat} {M M' Mc Mr Mc' Mr' : gz_M} {T : gp_T} {l : List Nat} {E : gp_E}
theorem gp_sL.qq (hcu : cu = 30 ∨ cu = 60) (h : gp_sL M M') : gp_qC cu M M' := ⟨fun c hc => h.2 c (by omega), by rw [h.2 0 (by omega)], by rw [h.2 0 (by omega)]⟩
theorem gp_sLR.qq (h : gp_sLR M M') : gp_qR M M' := ⟨fun c hc => h.2.1 c (by omega) (by omega), h.2.2 _ (by omega), h.2.2 _ (by omega), h.2.2 _ (by omega)⟩
theorem gp_exC.fr (h : gp_exC M E) (e : ∀ c, 123 ≤ c → c < 126 → M'.1 c = M.1 c) : gp_exC M' E := by
  refine ⟨?_, fun i hi => ?_, fun S hS hm => ?_⟩
  · rw [e _ (by omega) (by omega)]; exact h.1
  · rw [e _ (by omega) (by omega), e _ (by omega) (by omega)]; exact h.2.1 i hi
  · rw [e _ (by omega) (by omega)]; exact h.2.2 S hS hm
theorem gp_exR.fr (h : gp_exR M E) (e : ∀ c, 24 ≤ c → c < 28 → M'.1 c = M.1 c) (e0 : M'.1 0 44 = M.1 0 44) : gp_exR M' E := by
  refine ⟨?_, fun i hi => ?_, fun S hS => ?_⟩
  · rw [e0]; exact h.1
  · rw [e _ (by omega) (by omega), e _ (by omega) (by omega), e _ (by omega) (by omega)]; exact h.2.1 i hi
  · rw [e _ (by omega) (by omega)]; exact h.2.2 S hS
theorem gp_itW {α : Type} (hw : gp_wT T) (m S : Nat) (A C : α) : (if gp_o (gp_win T m S) = -1 then A else C) = if (gp_win T m S).isNone = true then A else C := gp_itO (fun j hj => by have := (gp_win_some hj).1; have := hw.1; omega) A C
/-! promise 23: states -/
def gp_wcn (T : gp_T) (m : Nat) (E : gp_E) : Nat → Nat
  | 0 => 0
  | x + 1 => gp_wcn T m E x + if (gp_win T m (E.getD x gp_e0).1).isNone = true then 0 else 1
theorem gp_a23 (h : gp_Q B cu Mc Mr T l) (a : Int32) : gp_ans B cu Mc Mr (f11_states a Mc) (f12_states a Mr) := by
  rcases gp_isModeE a with ⟨_, _, m, hm, rfl⟩ | ⟨_, hE⟩
  · have hq := h
    obtain ⟨h1, h2, h3, h4, h5, h6, h7, h8⟩ := h
    have hcu := h6.1
    have ht : gp_tR (gz_w Mr 0 5 0) T := h3.fr (fun c c1 c2 => gp_wc _ (by omega)) (gp_gn (by omega))
    obtain ⟨M1, e1, e2, e3, e4⟩ := gp_explore (m := m) h1 hm h2
    obtain ⟨N1, n1, n2, n3⟩ := gp_layFound (m := m) h1 hm ht
    have hlen := e4.len
    have htC : gp_tC 11 M1 T := h2.fr (fun c c1 c2 => e2.2 c (by omega))
    have htR : gp_tR N1 T := n2.t ht
    generalize gp_ex T m = E at *
    have c : ∃ b, f11_states_25 gz_FU (nI m) (nI 0) (nI 0) M1 = some b ∧ ∃ M', b = (nI E.length, M') ∧ gp_fC M1 M' ∧ gp_wC M' [(nI (gp_wcn T m E E.length)).toInt64] := by
      refine gp_for (fun n x (a : Int32) => f11_states_25 n (nI m) a (nI x) M1) E.length (fun x a => a = nI (gp_wcn T m E x)) _ (fun n a hI => ?_) (fun n x a hx hI => Or.inr ⟨_, ?_, rfl⟩) gz_FU 0 (nI 0) (by omega) (by unfold gz_FU; omega) rfl
      · subst hI
        obtain ⟨M2, f1, f2, f3⟩ := gp_tellC (nI (gp_wcn T m E E.length)).toInt64 (gp_wC0 M1).2 (by simp)
        refine ⟨_, ?_, M2, rfl, (gp_wC0 M1).1.trans f2, f3⟩
        show f11_states_25 (n + 1) _ _ (nI E.length) M1 = _
        rw [f11_states_25, e3.1, if_pos (nI_le (Nat.le_refl _) (by omega)), gp_eL, f1, gp_eB, f2.1 _ (by omega), gp_gn (by omega), e3.1]
      · subst hI
        show f11_states_25 (n + 1) _ _ (nI x) M1 = f11_states_25 n _ _ (nI (x + 1)) M1
        have hv := (e3.2.1 x hx).1
        have hS := (e4.2 x hx).2.1
        rw [f11_states_25, e3.1, if_neg (nI_ge hx (by omega)), gp_ckb (by omega) (by omega), nI_clamp (by omega), hv, gp_winner h1 htC hm hS, gp_eB2, gp_itW h1, gp_wcn]
        split
        · rw [gp_eL, gp_eL, nI_1, gp_add0]
          rfl
        · rw [gp_eL, gp_eL, nI_1, nI_1]
    have rr : ∃ b, f12_states_23 gz_FU (nI m) (nI 0) (nI 0) N1 = some b ∧ ∃ M', b = (nI E.length, M') ∧ gp_fR N1 M' ∧ gp_wR M' [(nI (gp_wcn T m E E.length)).toInt64] := by
      refine gp_for (fun n x (a : Int32) => f12_states_23 n (nI m) a (nI x) N1) E.length (fun x a => a = nI (gp_wcn T m E x)) _ (fun n a hI => ?_) (fun n x a hx hI => Or.inr ⟨_, ?_, rfl⟩) gz_FU 0 (nI 0) (by omega) (by unfold gz_FU; omega) rfl
      · subst hI
        obtain ⟨M2, f1, f2, f3⟩ := gp_tellR (nI (gp_wcn T m E E.length)).toInt64 (gp_wR0 N1).2 (by simp)
        refine ⟨_, ?_, M2, rfl, (gp_wR0 N1).1.trans f2, f3⟩
        show f12_states_23 (n + 1) _ _ (nI E.length) N1 = _
        rw [f12_states_23, n3.1, if_pos (nI_le (Nat.le_refl _) (by omega)), gp_eL, f1, gp_eB, f2.2 _ (by omega), gp_gn (by omega), n3.1]
      · subst hI
        show f12_states_23 (n + 1) _ _ (nI x) N1 = f12_states_23 n _ _ (nI (x + 1)) N1
        have hv := (n3.2.1 x hx).1
        have hS := (e4.2 x hx).2.1
        rw [f12_states_23, n3.1, if_neg (nI_ge hx (by omega)), gp_ckb (by omega) (by omega), nI_clamp (by omega), hv, gp_winR h1 htR hm hS, gp_eB2, gp_itW h1, gp_wcn]
        split
        · rw [gp_eL, gp_eL, nI_1, gp_add0]
          rfl
        · rw [gp_eL, gp_eL, nI_1, nI_1]
    obtain ⟨_, c1, Mc', rfl, c2, c3⟩ := c
    obtain ⟨_, r1, Mr', rfl, r2, r3⟩ := rr
    refine gp_ansI (v := nI E.length) ?_ ?_ ((e2.qq hcu).trans (c2.qq (by omega))) ((gp_thr 0).1.trans (n2.qq.trans r2.qq)) c3 r3 (by simp)
    · unfold f11_states
      rw [gp_isMode hm, gp_eB2, if_neg (by decide), e1, gp_eB]
      exact c1
    · unfold f12_states
      rw [gp_eL, gp_isModeR hm, gp_eB2, if_neg (by decide), n1, gp_eB]
      exact r1
  · refine gp_ansN h (-1) ?_ ?_
    · unfold f11_states; rw [(hE _).1]; rfl
    · unfold f12_states; rw [gp_eL, (hE _).2]; rfl
/-! promise 25: idle -/
theorem gp_cut1 (A w b : Int32) : (A &&& (w ^^^ (-1))) &&& (b ^^^ (-1)) = A &&& ((w ||| b) ^^^ (-1)) := by
  apply Int32.toBitVec_inj.mp
  apply BitVec.eq_of_getLsbD_eq
  intro i hi
  simp only [Int32.toBitVec_and, Int32.toBitVec_xor, Int32.toBitVec_or, BitVec.getLsbD_and, BitVec.getLsbD_xor, BitVec.getLsbD_or]
  have : ((-1 : Int32).toBitVec).getLsbD i = true := by
    have h : ∀ i, i < 32 → ((-1 : Int32).toBitVec).getLsbD i = true := by decide
    exact h i hi
  rw [this]
  cases A.toBitVec.getLsbD i <;> cases w.toBitVec.getLsbD i <;> cases b.toBitVec.getLsbD i <;> rfl
theorem gp_cut2 (A : Int32) : A &&& ((0 : Int32) ^^^ (-1)) = A := by
  rw [show ((0 : Int32) ^^^ (-1)) = -1 by decide]
  simp
def gp_wi (T : gp_T) (m : Nat) (E : gp_E) (w : Int32) : Nat → Int32
  | 0 => w
  | x + 1 => match gp_win T m (E.getD x gp_e0).1 with
    | none => gp_wi T m E w x
    | some k => gp_wi T m E w x ||| gz_shl 1 (nI k)
theorem gp_idleC (hw : gp_wT T) (hm : m < 4) (ht : gp_tC 11 M T) (hx : gp_exC M E) (hE : gp_wE E) (c4 : Int32 → Int32 → gz_M → Option (Int32 × gz_M)) (w : Int32) : f11_idle_23 c4 gz_FU w (nI m) 0 M = c4 (gp_wi T m E w E.length) (nI (m + 1)) M := by
  have hlen := hE.len
  have main : ∀ (d n x : Nat), x + d = E.length → d < n → f11_idle_23 c4 n (gp_wi T m E w x) (nI m) (nI x) M = c4 (gp_wi T m E w E.length) (nI (m + 1)) M := by
    intro d
    induction d with
    | zero =>
      intro n x hxx hn
      obtain ⟨n, rfl⟩ : ∃ q, n = q + 1 := ⟨n - 1, by omega⟩
      have : x = E.length := by omega
      subst this
      rw [f11_idle_23, hx.1, if_pos (nI_le (Nat.le_refl _) (by omega)), gp_eL, nI_1]
    | succ d ih =>
      intro n x hxx hn
      obtain ⟨n, rfl⟩ : ∃ q, n = q + 1 := ⟨n - 1, by omega⟩
      have hxl : x < E.length := by omega
      have e := ih n (x + 1) (by omega) (by omega)
      have hv := (hx.2.1 x hxl).1
      have hS := (hE.2 x hxl).2.1
      rw [f11_idle_23, hx.1, if_neg (nI_ge hxl (by omega)), gp_ckb (by omega) (by omega), nI_clamp (by omega), hv, gp_winner hw ht hm hS, gp_eB2, gp_itW hw]
      rw [gp_wi] at e
      cases hwin : gp_win T m (E.getD x gp_e0).1 with
      | none =>
        rw [hwin] at e
        rw [if_pos (show (none : Option Nat).isNone = true from rfl), gp_eL, gp_eL, nI_1]
        simp only [Int32.or_zero]
        exact e
      | some k =>
        rw [hwin] at e
        rw [if_neg (by simp), gp_eL, gp_eL, nI_1]
        exact e
  exact main E.length gz_FU 0 (by omega) (by unfold gz_FU; omega)
theorem gp_idleR (hw : gp_wT T) (hm : m < 4) (ht : gp_tR M T) (hx : gp_exR M E) (hE : gp_wE E) (c4 : Int32 → Int32 → gz_M → Option (Int32 × gz_M)) (w A : Int32) : f12_idle_28 c4 gz_FU (A &&& (w ^^^ (-1))) (nI m) 0 M = c4 (A &&& (gp_wi T m E w E.length ^^^ (-1))) (nI (m + 1)) M := by
  have hlen := hE.len
  have main : ∀ (d n x : Nat), x + d = E.length → d < n → f12_idle_28 c4 n (A &&& (gp_wi T m E w x ^^^ (-1))) (nI m) (nI x) M = c4 (A &&& (gp_wi T m E w E.length ^^^ (-1))) (nI (m + 1)) M := by
    intro d
    induction d with
    | zero =>
      intro n x hxx hn
      obtain ⟨n, rfl⟩ : ∃ q, n = q + 1 := ⟨n - 1, by omega⟩
      have : x = E.length := by omega
      subst this
      rw [f12_idle_28, hx.1, if_pos (nI_le (Nat.le_refl _) (by omega)), gp_eL, nI_1]
    | succ d ih =>
      intro n x hxx hn
      obtain ⟨n, rfl⟩ : ∃ q, n = q + 1 := ⟨n - 1, by omega⟩
      have hxl : x < E.length := by omega
      have e := ih n (x + 1) (by omega) (by omega)
      have hv := (hx.2.1 x hxl).1
      have hS := (hE.2 x hxl).2.1
      rw [f12_idle_28, hx.1, if_neg (nI_ge hxl (by omega)), gp_ckb (by omega) (by omega), nI_clamp (by omega), hv, gp_winR hw ht hm hS, gp_eB2, gp_itW hw]
      rw [gp_wi] at e
      cases hwin : gp_win T m (E.getD x gp_e0).1 with
      | none =>
        rw [hwin] at e
        rw [if_pos (show (none : Option Nat).isNone = true from rfl), gp_eL, nI_1]
        exact e
      | some k =>
        rw [hwin] at e
        rw [if_neg (by simp), gp_ckb (by omega) (by omega), hv, gp_winR hw ht hm hS, gp_eB2, hwin, gp_eL, gp_eL, nI_1, gp_oS, gp_cut1]
        exact e
  exact main E.length gz_FU 0 (by omega) (by unfold gz_FU; omega)
def gp_wiM (T : gp_T) : Nat → Int32
  | 0 => 0
  | m + 1 => gp_wi T m (gp_ex T m) (gp_wiM T m) (gp_ex T m).length
theorem gp_a25 (h : gp_Q B cu Mc Mr T l) : gp_ans B cu Mc Mr (f11_idle Mc) (f12_idle Mr) := by
  have hq := h
  obtain ⟨h1, h2, h3, h4, h5, h6, h7, h8⟩ := h
  have hcu := h6.1
  have hw1 := h1.1
  have ht : gp_tR (gz_w Mr 0 5 0) T := h3.fr (fun c c1 c2 => gp_wc _ (by omega)) (gp_gn (by omega))
  generalize hA : (gz_shl 1 (nI T.1)) - 1 = A
  have c : ∃ b, f11_idle_4 gz_FU (gp_wiM T 0) (nI 0) Mc = some b ∧ ∃ M', b = (A &&& (gp_wiM T 4 ^^^ (-1)), M') ∧ gp_qC cu Mc M' ∧ gp_wC M' [(gp_bc (A &&& (gp_wiM T 4 ^^^ (-1)))).toInt64] := by
    refine gp_for (fun n x (a : Int32 × gz_M) => f11_idle_4 n a.1 (nI x) a.2) 4 (fun x a => a.1 = gp_wiM T x ∧ gp_sL Mc a.2) _ (fun n a hI => ?_) (fun n x a hx hI => Or.inr ?_) gz_FU 0 (gp_wiM T 0, Mc) (by omega) (by unfold gz_FU; omega) ⟨rfl, rfl, fun _ _ => rfl⟩
    · obtain ⟨a1, M1⟩ := a
      obtain ⟨i0, i1⟩ := hI
      have i0 : a1 = gp_wiM T 4 := i0
      have i1 : gp_sL Mc M1 := i1
      subst i0
      have htC : gp_tC 11 M1 T := h2.fr (fun c c1 c2 => i1.2 c (by omega))
      obtain ⟨M2, f1, f2, f3⟩ := gp_tellC (gp_bc (A &&& (gp_wiM T 4 ^^^ (-1)))).toInt64 (gp_wC0 M1).2 (by simp)
      refine ⟨_, ?_, M2, rfl, (i1.qq hcu).trans (((gp_wC0 M1).1.trans f2).qq (by omega)), f3⟩
      show f11_idle_4 (n + 1) _ (nI 4) M1 = _
      rw [f11_idle_4, if_pos (by decide), htC.1, hA, gp_eL, gp_eL, gp_bitCount, gp_eB2, f1, gp_eB]
    · obtain ⟨a1, M1⟩ := a
      obtain ⟨i0, i1⟩ := hI
      have i0 : a1 = gp_wiM T x := i0
      have i1 : gp_sL Mc M1 := i1
      subst i0
      have htC : gp_tC 11 M1 T := h2.fr (fun c c1 c2 => i1.2 c (by omega))
      obtain ⟨M2, e1, e2, e3, e4⟩ := gp_explore (m := x) h1 hx htC
      refine ⟨(gp_wiM T (x + 1), M2), ?_, rfl, i1.trans e2⟩
      show f11_idle_4 (n + 1) _ (nI x) M1 = f11_idle_4 n _ (nI (x + 1)) M2
      rw [f11_idle_4, if_neg (by exact nI_ge hx (by decide)), e1, gp_eB, gp_idleC h1 hx (htC.fr (fun c c1 c2 => e2.2 c (by omega))) e3 e4]
      rfl
  have rr : ∃ b, f12_idle_16 gz_FU (A &&& (gp_wiM T 0 ^^^ (-1))) (nI 0) (gz_w Mr 0 5 0) = some b ∧ ∃ M', b = (A &&& (gp_wiM T 4 ^^^ (-1)), M') ∧ gp_qR Mr M' ∧ gp_wR M' [(gp_bc (A &&& (gp_wiM T 4 ^^^ (-1)))).toInt64] := by
    refine gp_for (fun n x (a : Int32 × gz_M) => f12_idle_16 n a.1 (nI x) a.2) 4 (fun x a => a.1 = A &&& (gp_wiM T x ^^^ (-1)) ∧ gp_sLR (gz_w Mr 0 5 0) a.2) _ (fun n a hI => ?_) (fun n x a hx hI => Or.inr ?_) gz_FU 0 (A &&& (gp_wiM T 0 ^^^ (-1)), gz_w Mr 0 5 0) (by omega) (by unfold gz_FU; omega) ⟨rfl, gp_sLR.refl _⟩
    · obtain ⟨a1, M1⟩ := a
      obtain ⟨i0, i1⟩ := hI
      have i0 : a1 = A &&& (gp_wiM T 4 ^^^ (-1)) := i0
      have i1 : gp_sLR (gz_w Mr 0 5 0) M1 := i1
      subst i0
      obtain ⟨M2, f1, f2, f3⟩ := gp_tellR (gp_bc (A &&& (gp_wiM T 4 ^^^ (-1)))).toInt64 (gp_wR0 M1).2 (by simp)
      refine ⟨_, ?_, M2, rfl, (gp_thr 0).1.trans (i1.qq.trans ((gp_wR0 M1).1.trans f2).qq), f3⟩
      show f12_idle_16 (n + 1) _ (nI 4) M1 = _
      rw [f12_idle_16, if_pos (by decide), gp_eL, gp_bitCount, gp_eB2, f1, gp_eB]
    · obtain ⟨a1, M1⟩ := a
      obtain ⟨i0, i1⟩ := hI
      have i0 : a1 = A &&& (gp_wiM T x ^^^ (-1)) := i0
      have i1 : gp_sLR (gz_w Mr 0 5 0) M1 := i1
      subst i0
      have htR : gp_tR M1 T := i1.t ht
      obtain ⟨_, _, _, _, e4⟩ := gp_explore (m := x) h1 hx h2
      obtain ⟨M2, e1, e2, e3⟩ := gp_layFound (m := x) h1 hx htR
      refine ⟨(A &&& (gp_wiM T (x + 1) ^^^ (-1)), M2), ?_, rfl, i1.trans e2⟩
      show f12_idle_16 (n + 1) _ (nI x) M1 = f12_idle_16 n _ (nI (x + 1)) M2
      rw [f12_idle_16, if_neg (by exact nI_ge hx (by decide)), e1, gp_eB, gp_idleR h1 hx (e2.t htR) e3 e4]
      rfl
  obtain ⟨_, c1, Mc', rfl, c2, c3⟩ := c
  obtain ⟨_, r1, Mr', rfl, r2, r3⟩ := rr
  refine gp_ansI (v := A &&& (gp_wiM T 4 ^^^ (-1))) c1 ?_ c2 r2 c3 r3 (by simp)
  unfold f12_idle
  rw [gp_eL, ht.1, hA, gp_eL]
  have r1' : f12_idle_16 gz_FU (A &&& ((0 : Int32) ^^^ (-1))) 0 (gz_w Mr 0 5 0) = some (A &&& (gp_wiM T 4 ^^^ (-1)), Mr') := r1
  rw [gp_cut2] at r1'
  exact r1'
end
end
section
/-! questions about rules: 24 shortest, 26 overlap -/
/-- the signs by which an entry was come to, the last one first -/
def gp_pth (E : gp_E) : Nat → Nat → List Nat
  | 0, _ => []
  | d + 1, h => (E.getD h gp_e0).2.2 :: match (E.getD h gp_e0).2.1 with
    | none => []
    | some g => gp_pth E d g
section
variable {B : Prop} {k k0 k1 m S s x p cu i j nx : Nat} {M M' Mc Mr Mc' Mr' : gz_M} {T : gp_T} {l : List Nat} {E : gp_E}
theorem gp_pth_f (hE : gp_wE E) : ∀ (d h : Nat), h < d → h < E.length → (gp_pth E d h).length ≤ h + 1 ∧ 0 < (gp_pth E d h).length ∧ (∀ i, i < (gp_pth E d h).length → (gp_pth E d h).getD i 0 < 8) ∧ ∀ d', h < d' → gp_pth E d' h = gp_pth E d h
  | 0, h, hd, _ => absurd hd (by omega)
  | d + 1, h, hd, hh => by
    have hs := (hE.2 h hh).2.2.1
    have hg := (hE.2 h hh).2.2.2
    rw [gp_pth]
    cases hfr : (E.getD h gp_e0).2.1 with
    | none =>
      refine ⟨by simp, by simp, fun i hi => ?_, fun d' hd' => ?_⟩
      · have : i = 0 := by simp at hi; omega
        subst this
        simpa using hs
      · obtain ⟨d', rfl⟩ : ∃ q, d' = q + 1 := ⟨d' - 1, by omega⟩
        rw [gp_pth, hfr]
    | some g =>
      have hgh := hg g hfr
      obtain ⟨a1, a2, a3, a4⟩ := gp_pth_f hE d g (by omega) (by omega)
      refine ⟨by simp; omega, by simp, fun i hi => ?_, fun d' hd' => ?_⟩
      · cases i with
        | zero => simpa using hs
        | succ i => simpa using a3 i (by simp at hi; omega)
      · obtain ⟨d', rfl⟩ : ∃ q, d' = q + 1 := ⟨d' - 1, by omega⟩
        rw [gp_pth, hfr]
        dsimp only
        rw [a4 d' (by omega)]
theorem gp_low3 {f s : Nat} (hf : f < 1024) (hs : s < 8) : nI (8 * f + s) &&& 7 = nI s ∧ gz_shr (nI (8 * f + s)) 3 = nI f := by
  constructor
  · rw [show (7 : Int32) = nI 7 from rfl, gp_and]
    have h3 : (8 * f + s) &&& 7 = (8 * f + s) % 2 ^ 3 := Nat.and_two_pow_sub_one_eq_mod _ 3
    rw [h3]
    congr 1
    omega
  · rw [show (3 : Int32) = nI 3 from rfl, gp_shr (by omega) (by omega), Nat.shiftRight_eq_div_pow]
    congr 1
    omega
/-- the component's way back -/
theorem gp_trace (hE : gp_wE E) : ∀ (h n t : Nat) (M : gz_M), h < E.length → t + h < 1023 → h + 1 < n → gp_exC M E → ∃ M', f8_trace_7 n (nI t) (nI (E.getD h gp_e0).1) (nI t) M = some (nI (t + (gp_pth E 1024 h).length), M') ∧ M'.2 = M.2 ∧ (∀ c, c ≠ 126 → M'.1 c = M.1 c) ∧ (∀ i, i < t → M'.1 126 i = M.1 126 i) ∧ ∀ i, i < (gp_pth E 1024 h).length → M'.1 126 (t + i) = nI ((gp_pth E 1024 h).getD i 0) := by
  intro h
  induction h using Nat.strongRecOn with
  | ind h ih =>
    intro n t M hh ht hn hx
    have hlen := hE.len
    obtain ⟨n, rfl⟩ : ∃ q, n = q + 1 := ⟨n - 1, by omega⟩
    obtain ⟨b1, b2, b3, b4⟩ := hE.2 h hh
    have hv := (hx.2.1 h hh).2
    have hf : gp_frS E (E.getD h gp_e0).2.1 < 1024 := by
      cases hfr : (E.getD h gp_e0).2.1 with
      | none => show 0 < 1024; decide
      | some g => exact (hE.2 g (by have := b4 g hfr; omega)).2.1
    obtain ⟨l1, l2⟩ := gp_low3 hf b3
    have hlow : M.1 125 (E.getD h gp_e0).1 &&& 7 = nI (E.getD h gp_e0).2.2 := by rw [hv, l1]
    have e0 : f8_trace_7 (n + 1) (nI t) (nI (E.getD h gp_e0).1) (nI t) M = f8_trace_7 n (nI (t + 1)) (nI (gp_frS E (E.getD h gp_e0).2.1)) (nI (t + 1)) (gz_w M 126 t (nI (E.getD h gp_e0).2.2)) := by
      rw [f8_trace_7, if_neg (by exact nI_ge (show t < 1024 by omega) (by decide)), if_neg (by exact nI_nle (by omega) (by omega)), if_neg (by exact nI_ge b2 (by decide)), gp_ckb b2 (by omega), gp_ckb (by omega) (by omega), gp_eL, nI_clamp (by omega), nI_clamp (by omega), hlow, gp_ckb b2 (by omega), gp_gn (by omega), hv, l2, gp_eL, gp_eL, gp_eL, nI_1]
    rw [e0]
    have hp : gp_pth E 1024 h = (E.getD h gp_e0).2.2 :: match (E.getD h gp_e0).2.1 with
      | none => []
      | some g => gp_pth E 1023 g := rfl
    rw [hp]
    cases hfr : (E.getD h gp_e0).2.1 with
    | none =>
      obtain ⟨n, rfl⟩ : ∃ q, n = q + 1 := ⟨n - 1, by omega⟩
      have e1 : f8_trace_7 (n + 1) (nI (t + 1)) (nI (gp_frS E none)) (nI (t + 1)) (gz_w M 126 t (nI (E.getD h gp_e0).2.2)) = some (nI (t + 1), gz_w M 126 t (nI (E.getD h gp_e0).2.2)) := by
        rw [f8_trace_7, if_neg (by exact nI_ge (show t + 1 < 1024 by omega) (by decide)), show gp_frS E none = 0 from rfl, if_pos (show nI 0 ≤ 0 by decide)]
      rw [e1]
      refine ⟨_, rfl, rfl, fun c hc => gp_wc _ hc, fun i hi => gp_gn (by omega), fun i hi => ?_⟩
      have : i = 0 := by simp at hi; omega
      subst this
      rw [Nat.add_zero, gp_gs]
      rfl
    | some g =>
      have hg := b4 g hfr
      obtain ⟨M', f1, f2, f3, f4, f5⟩ := ih g hg n (t + 1) (gz_w M 126 t (nI (E.getD h gp_e0).2.2)) (by omega) (by omega) (by omega) (hx.fr (fun c c1 c2 => gp_wc _ (by omega)))
      have hpe : gp_pth E 1024 g = gp_pth E 1023 g := (gp_pth_f hE 1023 g (by omega) (by omega)).2.2.2 1024 (by omega)
      rw [hpe] at f1 f5
      refine ⟨M', ?_, f2, fun c hc => (f3 c hc).trans (gp_wc _ hc), fun i hi => (f4 i (by omega)).trans (gp_gn (by omega)), fun i hi => ?_⟩
      · have : t + 1 + (gp_pth E 1023 g).length = t + ((E.getD h gp_e0).2.2 :: gp_pth E 1023 g).length := by simp; omega
        rw [← this]
        exact f1
      · cases i with
        | zero =>
          rw [Nat.add_zero, f4 t (by omega), gp_gs]
          rfl
        | succ i =>
          have := f5 i (by simp at hi; omega)
          rw [show t + 1 + i = t + (i + 1) by omega] at this
          rw [this]
          simp
/-- the row told -/
def gp_prow (P : List Nat) (x : Nat) : Int64 := (nI (P.getD (P.length - 1 - x) 0)).toInt64
theorem gp_tellRowTo (hE : gp_wE E) {h : Nat} (hh : h < E.length) (hx : gp_exC M E) : ∃ M', f11_tellRowTo (nI (E.getD h gp_e0).1) M = some (nI (gp_pth E 1024 h).length, M') ∧ (∀ c, c ≠ 0 → c ≠ 126 → M'.1 c = M.1 c) ∧ (∀ i, i ≠ 15 → M'.1 0 i = M.1 0 i) ∧ gp_wC M' ((List.range (gp_pth E 1024 h).length).map (gp_prow (gp_pth E 1024 h))) := by
  have hlen := hE.len
  obtain ⟨M1, e1, e2, e3, e4, e5⟩ := gp_trace hE h gz_FU 0 M hh (by omega) (by unfold gz_FU; omega) hx
  obtain ⟨p1, p2, p3, p4⟩ := gp_pth_f hE 1024 h (by omega) hh
  rw [Nat.zero_add] at e1
  have e5 : ∀ i, i < (gp_pth E 1024 h).length → M1.1 126 i = nI ((gp_pth E 1024 h).getD i 0) := fun i hi => by have := e5 i hi; rwa [Nat.zero_add] at this
  generalize gp_pth E 1024 h = P at *
  have c : ∃ b, f11_tellRowTo_18 gz_FU (nI P.length) (gp_dn P.length 0) (gz_w M1 0 15 0) = some b ∧ ∃ M', b = (nI P.length, M') ∧ gp_fC M1 M' ∧ gp_wC M' ((List.range P.length).map (gp_prow P)) := by
    refine gp_for (fun n x (M2 : gz_M) => f11_tellRowTo_18 n (nI P.length) (gp_dn P.length x) M2) P.length (fun x M2 => gp_fC M1 M2 ∧ gp_wC M2 ((List.range x).map (gp_prow P))) _ (fun n M2 hI => ?_) (fun n x M2 hxx hI => Or.inr ?_) gz_FU 0 (gz_w M1 0 15 0) (by omega) (by unfold gz_FU; omega) ⟨(gp_wC0 M1).1, (gp_wC0 M1).2⟩
    · refine ⟨_, ?_, M2, rfl, hI.1, hI.2⟩
      show f11_tellRowTo_18 (n + 1) _ (gp_dn P.length P.length) M2 = _
      rw [f11_tellRowTo_18, gp_dn_e, if_pos (by decide)]
    · obtain ⟨i1, i2⟩ := hI
      obtain ⟨M3, g1, g2, g3⟩ := gp_tellC (gp_prow P x) i2 (by rw [List.length_map, List.length_range]; omega)
      refine ⟨M3, ?_, i1.trans g2, ?_⟩
      · show f11_tellRowTo_18 (n + 1) _ (gp_dn P.length x) M2 = f11_tellRowTo_18 n _ (gp_dn P.length (x + 1)) M3
        have e9 : (nI (P.getD (P.length - 1 - x) 0)).toInt64 = gp_prow P x := rfl
        rw [f11_tellRowTo_18, gp_dn_n hxx, gp_dn_s hxx, if_neg (nI_pos (by omega)), gp_ckb (by omega) (by omega), nI_clamp (by omega), i1.1 _ (by omega), e5 _ (by omega), e9, g1, gp_eB, gp_eL]
      · rw [List.range_succ, List.map_append]
        exact g3
  obtain ⟨_, c1, M', rfl, c2, c3⟩ := c
  refine ⟨M', ?_, fun c c1 c2' => (c2.1 c c1).trans (e3 c c2'), fun i hi => (c2.2 i hi).trans (by rw [e3 0 (by omega)]), c3⟩
  unfold f11_tellRowTo f8_trace
  have e1' : f8_trace_7 gz_FU 0 (nI (E.getD h gp_e0).1) 0 M = some (nI P.length, M1) := e1
  rw [e1', gp_eB2, gp_eL, gp_eL]
  exact c1
/-- the reference's way back -/
theorem gp_tellRow (hE : gp_wE E) : ∀ (h n t : Nat) (M : gz_M) (P : List Nat), h < E.length → t + h < 1023 → h + 1 < n → gp_exR M E → t + (gp_pth E 1024 h).length = P.length → (∀ i, i < P.length → P.getD i 0 < 8) → (∀ i, i < t → M.1 28 i = nI (P.getD i 0)) → (∀ i, i < (gp_pth E 1024 h).length → P.getD (t + i) 0 = (gp_pth E 1024 h).getD i 0) → ∃ M', f12_tellRow_4 n (nI t) (nI h) M = some (nI P.length, M') ∧ (∀ c, c ≠ 0 → c ≠ 28 → M'.1 c = M.1 c) ∧ (∀ i, i ≠ 4 → M'.1 0 i = M.1 0 i) ∧ (P.length ≤ 64 → gp_wR M' ((List.range P.length).map (gp_prow P))) ∧ (64 < P.length → M'.2 = M.2 ∧ M'.1 0 4 = M.1 0 4) := by
  -- the end: all signs are spelt
  have fin : ∀ (n : Nat) (M : gz_M) (P : List Nat), 0 < n → P.length < 1024 → (∀ i, i < P.length → P.getD i 0 < 8) → (∀ i, i < P.length → M.1 28 i = nI (P.getD i 0)) → ∃ M', f12_tellRow_4 n (nI P.length) (-1) M = some (nI P.length, M') ∧ (∀ c, c ≠ 0 → c ≠ 28 → M'.1 c = M.1 c) ∧ (∀ i, i ≠ 4 → M'.1 0 i = M.1 0 i) ∧ (P.length ≤ 64 → gp_wR M' ((List.range P.length).map (gp_prow P))) ∧ (64 < P.length → M'.2 = M.2 ∧ M'.1 0 4 = M.1 0 4) := by
    intro n M P hn hP h8 hM
    obtain ⟨n, rfl⟩ : ∃ q, n = q + 1 := ⟨n - 1, by omega⟩
    rw [f12_tellRow_4, if_pos rfl]
    by_cases h64 : P.length ≤ 64
    · rw [if_pos (by exact nI_le h64 (by decide)), gp_eL, gp_eL]
      have c : ∃ b, f12_tellRow_54 gz_FU (nI P.length) (gp_dn P.length 0) (gz_w M 0 4 0) = some b ∧ ∃ M', b = (nI P.length, M') ∧ gp_fR M M' ∧ gp_wR M' ((List.range P.length).map (gp_prow P)) := by
        refine gp_for (fun n x (M2 : gz_M) => f12_tellRow_54 n (nI P.length) (gp_dn P.length x) M2) P.length (fun x M2 => gp_fR M M2 ∧ gp_wR M2 ((List.range x).map (gp_prow P))) _ (fun n M2 hI => ?_) (fun n x M2 hxx hI => Or.inr ?_) gz_FU 0 (gz_w M 0 4 0) (by omega) (by unfold gz_FU; omega) ⟨(gp_wR0 M).1, (gp_wR0 M).2⟩
        · refine ⟨_, ?_, M2, rfl, hI.1, hI.2⟩
          show f12_tellRow_54 (n + 1) _ (gp_dn P.length P.length) M2 = _
          rw [f12_tellRow_54, gp_dn_e, if_pos (by decide)]
        · obtain ⟨i1, i2⟩ := hI
          obtain ⟨M3, g1, g2, g3⟩ := gp_tellR (gp_prow P x) i2 (by rw [List.length_map, List.length_range]; omega)
          refine ⟨M3, ?_, i1.trans g2, ?_⟩
          · show f12_tellRow_54 (n + 1) _ (gp_dn P.length x) M2 = f12_tellRow_54 n _ (gp_dn P.length (x + 1)) M3
            have e9 : (nI (P.getD (P.length - 1 - x) 0)).toInt64 = gp_prow P x := rfl
            rw [f12_tellRow_54, gp_dn_n hxx, gp_dn_s hxx, if_neg (nI_pos (by omega)), gp_ckb (by omega) (by omega), nI_clamp (by omega), i1.1 _ (by omega), hM _ (by omega), e9, g1, gp_eB, gp_eL]
          · rw [List.range_succ, List.map_append]
            exact g3
      obtain ⟨_, c1, M', rfl, c2, c3⟩ := c
      exact ⟨M', c1, fun c h1 h2 => c2.1 c h1, c2.2, fun _ => c3, fun h => absurd h (by omega)⟩
    · rw [if_neg (by exact nI_ge (show 64 < P.length by omega) (by omega))]
      exact ⟨M, rfl, fun _ _ _ => rfl, fun _ _ => rfl, fun h => absurd h h64, fun _ => ⟨rfl, rfl⟩⟩
  intro h
  induction h using Nat.strongRecOn with
  | ind h ih =>
    intro n t M P hh ht hn hx hP h8 hM hPi
    have hlen := hE.len
    obtain ⟨n, rfl⟩ : ∃ q, n = q + 1 := ⟨n - 1, by omega⟩
    obtain ⟨b1, b2, b3, b4⟩ := hE.2 h hh
    have hv := hx.2.1 h hh
    obtain ⟨p1, p2, p3, p4⟩ := gp_pth_f hE 1024 h (by omega) hh
    have e0 : f12_tellRow_4 (n + 1) (nI t) (nI h) M = f12_tellRow_4 n (nI (t + 1)) (gp_o (E.getD h gp_e0).2.1) (gz_w M 28 t (nI (E.getD h gp_e0).2.2)) := by
      rw [f12_tellRow_4, if_neg (by rw [gp_m1, gp_ne1 (by omega)]; exact id), gp_eL, nI_1, gp_ckb (by omega) (by omega), gp_ckb (by omega) (by omega), gp_eL, nI_clamp (by omega), nI_clamp (by omega), hv.2.2, gp_ckb (by omega) (by omega), gp_eL, gp_gn (by omega), hv.2.1]
    rw [e0]
    have hp : gp_pth E 1024 h = (E.getD h gp_e0).2.2 :: match (E.getD h gp_e0).2.1 with
      | none => []
      | some g => gp_pth E 1023 g := rfl
    have hP0 := hPi 0 p2
    rw [hp] at hP hPi hP0
    have hM1 : ∀ i, i < t + 1 → (gz_w M 28 t (nI (E.getD h gp_e0).2.2)).1 28 i = nI (P.getD i 0) := fun i hi => by
      by_cases hit : i = t
      · subst hit
        rw [Nat.add_zero] at hP0
        rw [gp_gs, hP0]
        rfl
      · rw [gp_gn (by omega)]
        exact hM i (by omega)
    cases hfr : (E.getD h gp_e0).2.1 with
    | none =>
      rw [hfr] at hP
      have hPl : P.length = t + 1 := by rw [← hP]; rfl
      obtain ⟨M', f1, f2, f3, f4, f5⟩ := fin n (gz_w M 28 t (nI (E.getD h gp_e0).2.2)) P (by omega) (by omega) h8 (fun i hi => hM1 i (by omega))
      rw [hPl] at f1
      refine ⟨M', by rw [hPl]; exact f1, fun c c1 c2 => (f2 c c1 c2).trans (gp_wc _ c2), fun i hi => (f3 i hi).trans (gp_gn (by omega)), f4, fun h => ⟨(f5 h).1, (f5 h).2.trans (gp_gn (by omega))⟩⟩
    | some g =>
      have hg := b4 g hfr
      have hpe : gp_pth E 1024 g = gp_pth E 1023 g := (gp_pth_f hE 1023 g (by omega) (by omega)).2.2.2 1024 (by omega)
      rw [hfr] at hP hPi
      obtain ⟨M', f1, f2, f3, f4, f5⟩ := ih g hg n (t + 1) (gz_w M 28 t (nI (E.getD h gp_e0).2.2)) P (by omega) (by omega) (by omega) (hx.fr (fun c c1 c2 => gp_wc _ (by omega)) (gp_gn (by omega))) (by rw [hpe, ← hP]; simp; omega) h8 hM1 (fun i hi => by
        rw [hpe] at hi ⊢
        have := hPi (i + 1) (by simp; omega)
        rw [show t + 1 + i = t + (i + 1) by omega, this]
        simp)
      exact ⟨M', f1, fun c c1 c2 => (f2 c c1 c2).trans (gp_wc _ c2), fun i hi => (f3 i hi).trans (gp_gn (by omega)), f4, fun h => ⟨(f5 h).1, (f5 h).2.trans (gp_gn (by omega))⟩⟩
end
end
section
/-! questions about rules: 24 shortest, 26 overlap: the answers -/
/-- the bound of the rows that are told: 64 signs at most -/
def gp_bnd (T : gp_T) : Prop := (∀ k h, k < T.1 → h < (gp_ex T (T.2.2 1 k)).length → gp_win T (T.2.2 1 k) ((gp_ex T (T.2.2 1 k)).getD h gp_e0).1 = some k → (∀ g, g < h → gp_win T (T.2.2 1 k) ((gp_ex T (T.2.2 1 k)).getD g gp_e0).1 ≠ some k) → (gp_pth (gp_ex T (T.2.2 1 k)) 1024 h).length ≤ 64) ∧ (∀ k j h, k < T.1 → j < T.1 → k ≠ j → T.2.2 1 k = T.2.2 1 j → h < (gp_ex T (T.2.2 1 k)).length → T.2.2 5 k &&& ((gp_ex T (T.2.2 1 k)).getD h gp_e0).1 ≠ 0 → T.2.2 5 j &&& ((gp_ex T (T.2.2 1 k)).getD h gp_e0).1 ≠ 0 → (∀ g, g < h → ¬ (T.2.2 5 k &&& ((gp_ex T (T.2.2 1 k)).getD g gp_e0).1 ≠ 0 ∧ T.2.2 5 j &&& ((gp_ex T (T.2.2 1 k)).getD g gp_e0).1 ≠ 0)) → (gp_pth (gp_ex T (T.2.2 1 k)) 1024 h).length ≤ 64)
section
variable {B : Prop} {k k0 k1 m S s x p cu i j nx : Nat} {M M' Mc Mr Mc' Mr' : gz_M} {T : gp_T} {l : List Nat} {E : gp_E}
/-- both tell the way to an entry -/
theorem gp_tells (h8 : gp_rw B Mc Mr) (hcu : cu = 30 ∨ cu = 60) (hE : gp_wE E) {h : Nat} (hh : h < E.length) (hc : gp_exC Mc' E) (hr : gp_exR Mr' E) (qc : gp_qC cu Mc Mc') (qr : gp_qR Mr Mr') (rk : Mr'.2 = Mr.2) (rk4 : Mr'.1 0 4 = Mr.1 0 4) (hB : B → (gp_pth E 1024 h).length ≤ 64) : ∃ M1 M2, f11_tellRowTo (nI (E.getD h gp_e0).1) Mc' = some (nI (gp_pth E 1024 h).length, M1) ∧ f12_tellRow (nI h) Mr' = some (nI (gp_pth E 1024 h).length, M2) ∧ gp_qC cu Mc M1 ∧ gp_qR Mr M2 ∧ gp_rw B M1 M2 := by
  have hlen := hE.len
  obtain ⟨p1, p2, p3, p4⟩ := gp_pth_f hE 1024 h (by omega) hh
  obtain ⟨M1, e1, e2, e3, e4⟩ := gp_tellRowTo hE hh hc
  obtain ⟨M2, f1, f2, f3, f4, f5⟩ := gp_tellRow hE h gz_FU 0 Mr' (gp_pth E 1024 h) hh (by omega) (by unfold gz_FU; omega) hr (by omega) p3 (fun i hi => absurd hi (by omega)) (fun i hi => by rw [Nat.zero_add])
  refine ⟨M1, M2, e1, f1, qc.trans ⟨fun c hc => e2 c (by omega) (by omega), e3 _ (by omega), e3 _ (by omega)⟩, qr.trans ⟨fun c hc => f2 c (by omega) (by omega), f3 _ (by omega), f3 _ (by omega), f3 _ (by omega)⟩, ?_⟩
  by_cases h64 : (gp_pth E 1024 h).length ≤ 64
  · exact ⟨_, _, by simp; omega, by simp; omega, e4, f4 h64, fun _ => rfl⟩
  · obtain ⟨r, r', r0, r1, r2, r3, r4⟩ := h8
    obtain ⟨g1, g2⟩ := f5 (by omega)
    exact ⟨_, r', by simp; omega, r1, e4, r3.fr (g1.trans rk) (g2.trans rk4), fun b => absurd (hB b) h64⟩
theorem gp_isRuleE (hw : gp_wT T) (hc : gp_tC 11 Mc T) (a : Int32) : (a < 0 ∧ ∀ M, gp_tR M T → f12_isRule a M = some (0, M)) ∨ (¬ a < 0 ∧ nI T.1 ≤ a ∧ ∀ M, gp_tR M T → f12_isRule a M = some (0, M)) ∨ ∃ k, k < T.1 ∧ a = nI k ∧ ∀ M, gp_tR M T → f12_isRule a M = some (1, M) := by
  have hw1 := hw.1
  rcases pk_ix a (n := T.1) (by omega) with ha | ha | ⟨k, hk, rfl⟩
  · left
    refine ⟨ha, fun M hM => ?_⟩
    unfold f12_isRule
    rw [hM.1, gp_in0 _ _ ha]
    rfl
  · right; left
    have h0 : ¬ a < 0 := by
      intro hlt
      have a1 := Int32.le_iff_toInt_le.mp ha
      have a2 := Int32.lt_iff_toInt_lt.mp hlt
      rw [nI_toInt (by omega)] at a1
      rw [show ((0 : Int32)).toInt = 0 by decide] at a2
      omega
    refine ⟨h0, ha, fun M hM => ?_⟩
    unfold f12_isRule
    rw [hM.1, gp_in0b _ (by omega) h0 ha]
    rfl
  · right; right
    refine ⟨k, hk, rfl, fun M hM => ?_⟩
    unfold f12_isRule
    rw [hM.1, gp_in1 _ (by omega) hk]
    rfl
/-- the first one of the entries, or none -/
theorem gp_firstE (P : Nat → Prop) (n : Nat) : (∃ h, h < n ∧ P h ∧ ∀ g, g < h → ¬ P g) ∨ ∀ h, h < n → ¬ P h := by
  by_cases he : ∃ h, h < n ∧ P h
  · left
    obtain ⟨h, h1, h2⟩ := pk_least (fun h => h < n ∧ P h) he
    exact ⟨h, h1.1, h1.2, fun g hg hP => h2 g hg ⟨by omega, hP⟩⟩
  · right
    exact fun h h1 h2 => he ⟨h, h1, h2⟩
theorem gp_oI {o : Option Nat} {k : Nat} (ho : ∀ j, o = some j → j < 2 ^ 31) (hk : k < 2 ^ 31) : (gp_o o = nI k) ↔ o = some k := by
  cases o with
  | none =>
    rw [gp_oN, gp_ne2 hk]
    simp
  | some j =>
    rw [gp_oS, nI_eq (ho j rfl) hk]
    simp
/-! promise 24: shortest -/
theorem gp_a24 (h : gp_Q B cu Mc Mr T l) (hB : B → gp_bnd T) (a : Int32) : gp_ans B cu Mc Mr (f11_shortest a Mc) (f12_shortest a Mr) := by
  have hq := h
  obtain ⟨h1, h2, h3, h4, h5, h6, h7, h8⟩ := h
  have hcu := h6.1
  have hw1 := h1.1
  have ht : gp_tR (gz_w Mr 0 5 0) T := h3.fr (fun c c1 c2 => gp_wc _ (by omega)) (gp_gn (by omega))
  rcases gp_isRuleE h1 h2 a with ⟨ha, hi⟩ | ⟨ha, ha2, hi⟩ | ⟨k, hk, rfl, hi⟩
  · refine gp_ansN hq (-1) ?_ ?_
    · unfold f11_shortest; rw [if_pos ha]
    · unfold f12_shortest; rw [gp_eL, hi _ ht]; rfl
  · refine gp_ansN hq (-1) ?_ ?_
    · unfold f11_shortest
      rw [if_neg ha, h2.1, if_neg (fun hh => by
        have a1 := Int32.le_iff_toInt_le.mp ha2
        have a2 := Int32.lt_iff_toInt_lt.mp hh
        omega)]
    · unfold f12_shortest; rw [gp_eL, hi _ ht]; rfl
  · have hm := (h1.2.1 k hk).1
    have hvC := (h2.2.1 k hk).1
    have hvR := (ht.2.1 k hk).1
    obtain ⟨M1, e1, e2, e3, e4⟩ := gp_explore (m := T.2.2 1 k) h1 hm h2
    obtain ⟨N1, n1, n2, n3⟩ := gp_layFound (m := T.2.2 1 k) h1 hm ht
    have hlen := e4.len
    have htC : gp_tC 11 M1 T := h2.fr (fun c c1 c2 => e2.2 c (by omega))
    have htR : gp_tR N1 T := n2.t ht
    have hbd := fun b => (hB b).1 k
    generalize hm' : T.2.2 1 k = m at *
    generalize gp_ex T m = E at *
    have hws : ∀ S j, gp_win T m S = some j → j < 2 ^ 31 := fun S j hj => by have := (gp_win_some hj).1; omega
    have cc : f11_shortest (nI k) Mc = f11_shortest_41 gz_FU (nI k) (nI m) 0 M1 := by
      unfold f11_shortest
      rw [if_neg (nI_pos (by omega)), h2.1, if_pos (nI_lt hk (by omega)), gp_ckb (by omega) (by omega), gp_eL, nI_clamp (by omega), hvC, e1, gp_eB]
    have rc : f12_shortest (nI k) Mr = f12_shortest_27 gz_FU (nI k) 0 N1 := by
      unfold f12_shortest
      rw [gp_eL, hi _ ht, gp_eB2, if_neg (by decide), gp_ckb (by omega) (by omega), nI_clamp (by omega), hvR, n1, gp_eB]
    have hvR1 := (htR.2.1 k hk).1
    rw [hm'] at hvR1
    have stC : ∀ n x, x < E.length → f11_shortest_41 (n + 1) (nI k) (nI m) (nI x) M1 = if gp_o (gp_win T m (E.getD x gp_e0).1) = nI k then (gz_bd2 (f11_tellRowTo (nI (E.getD x gp_e0).1) M1) fun v8 M9 => some (v8, M9)) else f11_shortest_41 n (nI k) (nI m) (nI (x + 1)) M1 := by
      intro n x hx
      rw [f11_shortest_41, e3.1, if_neg (nI_ge hx (by omega)), gp_ckb (by omega) (by omega), nI_clamp (by omega), (e3.2.1 x hx).1, gp_winner h1 htC hm (e4.2 x hx).2.1, gp_eB2, gp_ckb (by omega) (by omega), (e3.2.1 x hx).1, gp_eL, nI_1]
    have stR : ∀ n x, x < E.length → f12_shortest_27 (n + 1) (nI k) (nI x) N1 = if gp_o (gp_win T m (E.getD x gp_e0).1) = nI k then (gz_bd2 (f12_tellRow (nI x) N1) fun v8 M9 => some (v8, M9)) else f12_shortest_27 n (nI k) (nI (x + 1)) N1 := by
      intro n x hx
      rw [f12_shortest_27, n3.1, if_neg (nI_ge hx (by omega)), gp_ckb (by omega) (by omega), gp_ckb (by omega) (by omega), nI_clamp (by omega), nI_clamp (by omega), hvR1, (n3.2.1 x hx).1, gp_winR h1 htR hm (e4.2 x hx).2.1, gp_eB2, gp_eL, nI_1]
    rcases gp_firstE (fun x => gp_win T m (E.getD x gp_e0).1 = some k) E.length with ⟨h, hh, hP, hno⟩ | hno
    · obtain ⟨M2, N2, t1, t2, t3, t4, t5⟩ := gp_tells (cu := cu) h8 hcu e4 hh e3 n3 (e2.qq hcu) ((gp_thr 0).1.trans n2.qq) n2.1 ((n2.2.2 _ (by omega)).trans (gp_gn (by omega))) (fun b => hbd b h hk hh hP hno)
      refine ⟨nI (gp_pth E 1024 h).length, M2, N2, ?_, ?_, t3, t4, t5⟩
      · rw [cc]
        refine gp_forU (fun n x => f11_shortest_41 n (nI k) (nI m) (nI x) M1) h _ (fun n => ?_) (fun n x hx => ?_) gz_FU (by unfold gz_FU; omega)
        · show f11_shortest_41 (n + 1) (nI k) (nI m) (nI h) M1 = _
          rw [stC n h hh, if_pos ((gp_oI (hws _) (by omega)).mpr hP), t1, gp_eB2]
        · show f11_shortest_41 (n + 1) (nI k) (nI m) (nI x) M1 = f11_shortest_41 n (nI k) (nI m) (nI (x + 1)) M1
          rw [stC n x (by omega), if_neg (fun e => hno x hx ((gp_oI (hws _) (by omega)).mp e))]
      · rw [rc]
        refine gp_forU (fun n x => f12_shortest_27 n (nI k) (nI x) N1) h _ (fun n => ?_) (fun n x hx => ?_) gz_FU (by unfold gz_FU; omega)
        · show f12_shortest_27 (n + 1) (nI k) (nI h) N1 = _
          rw [stR n h hh, if_pos ((gp_oI (hws _) (by omega)).mpr hP), t2, gp_eB2]
        · show f12_shortest_27 (n + 1) (nI k) (nI x) N1 = f12_shortest_27 n (nI k) (nI (x + 1)) N1
          rw [stR n x (by omega), if_neg (fun e => hno x hx ((gp_oI (hws _) (by omega)).mp e))]
    · refine gp_ansK (v := -2) ?_ ?_ (e2.qq hcu) ((gp_thr 0).1.trans n2.qq) h8 e2.1 (by rw [e2.2 0 (by omega)]) n2.1 ((n2.2.2 _ (by omega)).trans (gp_gn (by omega)))
      · rw [cc]
        refine gp_forU (fun n x => f11_shortest_41 n (nI k) (nI m) (nI x) M1) E.length _ (fun n => ?_) (fun n x hx => ?_) gz_FU (by unfold gz_FU; omega)
        · show f11_shortest_41 (n + 1) (nI k) (nI m) (nI E.length) M1 = _
          rw [f11_shortest_41, e3.1, if_pos (nI_le (Nat.le_refl _) (by omega))]
        · show f11_shortest_41 (n + 1) (nI k) (nI m) (nI x) M1 = f11_shortest_41 n (nI k) (nI m) (nI (x + 1)) M1
          rw [stC n x hx, if_neg (fun e => hno x hx ((gp_oI (hws _) (by omega)).mp e))]
      · rw [rc]
        refine gp_forU (fun n x => f12_shortest_27 n (nI k) (nI x) N1) E.length _ (fun n => ?_) (fun n x hx => ?_) gz_FU (by unfold gz_FU; omega)
        · show f12_shortest_27 (n + 1) (nI k) (nI E.length) N1 = _
          rw [f12_shortest_27, n3.1, if_pos (nI_le (Nat.le_refl _) (by omega))]
        · show f12_shortest_27 (n + 1) (nI k) (nI x) N1 = f12_shortest_27 n (nI k) (nI (x + 1)) N1
          rw [stR n x hx, if_neg (fun e => hno x hx ((gp_oI (hws _) (by omega)).mp e))]
/-! promise 26: overlap -/
theorem gp_a26 (h : gp_Q B cu Mc Mr T l) (hB : B → gp_bnd T) (a b : Int32) : gp_ans B cu Mc Mr (f11_overlap a b Mc) (f12_overlap a b Mr) := by
  have hq := h
  obtain ⟨h1, h2, h3, h4, h5, h6, h7, h8⟩ := h
  have hcu := h6.1
  have hw1 := h1.1
  have ht : gp_tR (gz_w Mr 0 5 0) T := h3.fr (fun c c1 c2 => gp_wc _ (by omega)) (gp_gn (by omega))
  have no := gp_ansN hq (-1) (a := f11_overlap a b Mc) (b := f12_overlap a b Mr)
  rcases gp_isRuleE h1 h2 a with ⟨ha, hi⟩ | ⟨ha, ha2, hi⟩ | ⟨k, hk, rfl, hi⟩
  · refine no ?_ ?_
    · unfold f11_overlap; rw [if_pos ha]
    · unfold f12_overlap; rw [gp_eL, hi _ ht]; rfl
  · refine no ?_ ?_
    · unfold f11_overlap
      rw [if_neg ha, h2.1, if_pos ha2]
    · unfold f12_overlap; rw [gp_eL, hi _ ht]; rfl
  · rcases gp_isRuleE h1 h2 b with ⟨hb, hi2⟩ | ⟨hb, hb2, hi2⟩ | ⟨j, hj, rfl, hi2⟩
    · refine no ?_ ?_
      · unfold f11_overlap; rw [if_neg (nI_pos (by omega)), h2.1, if_neg (nI_ge hk (by omega)), if_pos hb]
      · unfold f12_overlap; rw [gp_eL, hi _ ht, gp_eB2, if_neg (by decide), hi2 _ ht]; rfl
    · refine no ?_ ?_
      · unfold f11_overlap; rw [if_neg (nI_pos (by omega)), h2.1, if_neg (nI_ge hk (by omega)), if_neg hb, if_pos hb2]
      · unfold f12_overlap; rw [gp_eL, hi _ ht, gp_eB2, if_neg (by decide), hi2 _ ht]; rfl
    · have cc : f11_overlap (nI k) (nI j) Mc = (if nI k = nI j then (some ((-1), Mc)) else (if nI (T.2.2 1 k) = nI (T.2.2 1 j) then (gz_bd (f8_explore 11 (nI (T.2.2 1 k)) Mc) fun M10 => f11_overlap_83 gz_FU (nI k) (nI j) 0 M10) else (some ((-3), Mc)))) := by
        unfold f11_overlap
        rw [if_neg (nI_pos (by omega)), h2.1, if_neg (nI_ge hk (by omega)), if_neg (nI_pos (by omega)), if_neg (nI_ge hj (by omega)), gp_ckb (by omega) (by omega), gp_ckb (by omega) (by omega), gp_ckb (by omega) (by omega), nI_clamp (by omega), nI_clamp (by omega), (h2.2.1 k hk).1, (h2.2.1 j hj).1]
      have rc : f12_overlap (nI k) (nI j) Mr = (if nI k = nI j then (some ((-1), gz_w Mr 0 5 0)) else (if nI (T.2.2 1 k) = nI (T.2.2 1 j) then (gz_bd (f12_layFound (nI (T.2.2 1 k)) (gz_w Mr 0 5 0)) fun M10 => f12_overlap_58 gz_FU (nI k) (nI j) 0 M10) else (some ((-3), gz_w Mr 0 5 0)))) := by
        unfold f12_overlap
        rw [gp_eL, hi _ ht, gp_eB2, if_neg (by decide), hi2 _ ht, gp_eB2, if_neg (by decide), gp_ckb (by omega) (by omega), gp_ckb (by omega) (by omega), gp_ckb (by omega) (by omega), nI_clamp (by omega), nI_clamp (by omega), (ht.2.1 k hk).1, (ht.2.1 j hj).1]
      by_cases hkj : k = j
      · exact no (by rw [cc, if_pos (by rw [hkj])]) (by rw [rc, if_pos (by rw [hkj])])
      · have hkj' : ¬ nI k = nI j := fun e => hkj ((nI_eq (by omega) (by omega)).mp e)
        rw [if_neg hkj'] at cc rc
        have hmk := (h1.2.1 k hk).1
        have hmj := (h1.2.1 j hj).1
        by_cases hmm : T.2.2 1 k = T.2.2 1 j
        · rw [if_pos (by rw [hmm])] at cc rc
          obtain ⟨M1, e1, e2, e3, e4⟩ := gp_explore (m := T.2.2 1 k) h1 hmk h2
          obtain ⟨N1, n1, n2, n3⟩ := gp_layFound (m := T.2.2 1 k) h1 hmk ht
          have hlen := e4.len
          have htC : gp_tC 11 M1 T := h2.fr (fun c c1 c2 => e2.2 c (by omega))
          have htR : gp_tR N1 T := n2.t ht
          have hbd := fun b => (hB b).2 k j
          rw [e1, gp_eB] at cc
          rw [n1, gp_eB] at rc
          have hck : T.2.2 5 k < 2 ^ 10 := gp_lt10 h1 hmk (h1.2.1 k hk).2.2.2.1
          have hcj : T.2.2 5 j < 2 ^ 10 := gp_lt10 h1 hmj (h1.2.1 j hj).2.2.2.1
          generalize hEe : gp_ex T (T.2.2 1 k) = E at *
          have an : ∀ q x, q < 2 ^ 10 → q &&& (E.getD x gp_e0).1 < 2 ^ 10 := fun q x hq => Nat.lt_of_le_of_lt Nat.and_le_left hq
          have zero : ∀ q : Nat, q < 2 ^ 10 → ((nI q = (0 : Int32)) ↔ q = 0) := fun q hq => nI_eq (b := 0) (by omega) (by omega)
          have stC : ∀ n x, x < E.length → f11_overlap_83 (n + 1) (nI k) (nI j) (nI x) M1 = if T.2.2 5 k &&& (E.getD x gp_e0).1 ≠ 0 ∧ T.2.2 5 j &&& (E.getD x gp_e0).1 ≠ 0 then (gz_bd2 (f11_tellRowTo (nI (E.getD x gp_e0).1) M1) fun v8 M9 => some (v8, M9)) else f11_overlap_83 n (nI k) (nI j) (nI (x + 1)) M1 := by
            intro n x hx
            rw [f11_overlap_83, e3.1, if_neg (nI_ge hx (by omega)), gp_ckb (by omega) (by omega), gp_eL, show (nI x).toNatClampNeg = x from nI_clamp (by omega), (e3.2.1 x hx).1, gp_ckb (by omega) (by omega), show (nI k).toNatClampNeg = k from nI_clamp (by omega), (htC.2.1 k hk).2.2.2.2.1, gp_ckb (by omega) (by omega), show (nI j).toNatClampNeg = j from nI_clamp (by omega), (htC.2.1 j hj).2.2.2.2.1, gp_and, gp_and, gp_eL, nI_1]
            have a1 := an _ x hck
            have a2 := an _ x hcj
            by_cases z1 : T.2.2 5 k &&& (E.getD x gp_e0).1 = 0
            · rw [if_pos ((zero _ a1).mpr z1), if_neg (fun h => h.1 z1)]
            · rw [if_neg (fun h => z1 ((zero _ a1).mp h))]
              by_cases z2 : T.2.2 5 j &&& (E.getD x gp_e0).1 = 0
              · rw [if_pos ((zero _ a2).mpr z2), if_neg (fun h => h.2 z2)]
              · rw [if_neg (fun h => z2 ((zero _ a2).mp h)), if_pos ⟨z1, z2⟩]
          have stR : ∀ n x, x < E.length → f12_overlap_58 (n + 1) (nI k) (nI j) (nI x) N1 = if T.2.2 5 k &&& (E.getD x gp_e0).1 ≠ 0 ∧ T.2.2 5 j &&& (E.getD x gp_e0).1 ≠ 0 then (gz_bd2 (f12_tellRow (nI x) N1) fun v8 M9 => some (v8, M9)) else f12_overlap_58 n (nI k) (nI j) (nI (x + 1)) N1 := by
            intro n x hx
            rw [f12_overlap_58, n3.1, if_neg (nI_ge hx (by omega)), gp_ckb (by omega) (by omega), gp_ckb (by omega) (by omega), show (nI x).toNatClampNeg = x from nI_clamp (by omega), show (nI k).toNatClampNeg = k from nI_clamp (by omega), (n3.2.1 x hx).1, (htR.2.1 k hk).2.2.2.2.2, gp_ckb (by omega) (by omega), gp_ckb (by omega) (by omega), show (nI j).toNatClampNeg = j from nI_clamp (by omega), (htR.2.1 j hj).2.2.2.2.2, gp_and, gp_and, gp_eL, nI_1, Nat.and_comm _ (T.2.2 5 k), Nat.and_comm _ (T.2.2 5 j)]
            have a1 := an _ x hck
            have a2 := an _ x hcj
            by_cases z1 : T.2.2 5 k &&& (E.getD x gp_e0).1 = 0
            · rw [if_pos ((zero _ a1).mpr z1), if_neg (fun h => h.1 z1)]
            · rw [if_neg (fun h => z1 ((zero _ a1).mp h))]
              by_cases z2 : T.2.2 5 j &&& (E.getD x gp_e0).1 = 0
              · rw [if_pos ((zero _ a2).mpr z2), if_neg (fun h => h.2 z2)]
              · rw [if_neg (fun h => z2 ((zero _ a2).mp h)), if_pos ⟨z1, z2⟩]
          rcases gp_firstE (fun x => T.2.2 5 k &&& (E.getD x gp_e0).1 ≠ 0 ∧ T.2.2 5 j &&& (E.getD x gp_e0).1 ≠ 0) E.length with ⟨h, hh, hP, hno⟩ | hno
          · obtain ⟨M2, N2, t1, t2, t3, t4, t5⟩ := gp_tells (cu := cu) h8 hcu e4 hh e3 n3 (e2.qq hcu) ((gp_thr 0).1.trans n2.qq) n2.1 ((n2.2.2 _ (by omega)).trans (gp_gn (by omega))) (fun b => by
              have := hbd b h hk hj hkj hmm
              exact this hh hP.1 hP.2 hno)
            refine ⟨nI (gp_pth E 1024 h).length, M2, N2, ?_, ?_, t3, t4, t5⟩
            · rw [cc]
              refine gp_forU (fun n x => f11_overlap_83 n (nI k) (nI j) (nI x) M1) h _ (fun n => ?_) (fun n x hx => ?_) gz_FU (by unfold gz_FU; omega)
              · show f11_overlap_83 (n + 1) (nI k) (nI j) (nI h) M1 = _
                rw [stC n h hh, if_pos hP, t1, gp_eB2]
              · show f11_overlap_83 (n + 1) (nI k) (nI j) (nI x) M1 = f11_overlap_83 n (nI k) (nI j) (nI (x + 1)) M1
                rw [stC n x (by omega), if_neg (hno x hx)]
            · rw [rc]
              refine gp_forU (fun n x => f12_overlap_58 n (nI k) (nI j) (nI x) N1) h _ (fun n => ?_) (fun n x hx => ?_) gz_FU (by unfold gz_FU; omega)
              · show f12_overlap_58 (n + 1) (nI k) (nI j) (nI h) N1 = _
                rw [stR n h hh, if_pos hP, t2, gp_eB2]
              · show f12_overlap_58 (n + 1) (nI k) (nI j) (nI x) N1 = f12_overlap_58 n (nI k) (nI j) (nI (x + 1)) N1
                rw [stR n x (by omega), if_neg (hno x hx)]
          · refine gp_ansK (v := -2) ?_ ?_ (e2.qq hcu) ((gp_thr 0).1.trans n2.qq) h8 e2.1 (by rw [e2.2 0 (by omega)]) n2.1 ((n2.2.2 _ (by omega)).trans (gp_gn (by omega)))
            · rw [cc]
              refine gp_forU (fun n x => f11_overlap_83 n (nI k) (nI j) (nI x) M1) E.length _ (fun n => ?_) (fun n x hx => ?_) gz_FU (by unfold gz_FU; omega)
              · show f11_overlap_83 (n + 1) (nI k) (nI j) (nI E.length) M1 = _
                rw [f11_overlap_83, e3.1, if_pos (nI_le (Nat.le_refl _) (by omega))]
              · show f11_overlap_83 (n + 1) (nI k) (nI j) (nI x) M1 = f11_overlap_83 n (nI k) (nI j) (nI (x + 1)) M1
                rw [stC n x hx, if_neg (hno x hx)]
            · rw [rc]
              refine gp_forU (fun n x => f12_overlap_58 n (nI k) (nI j) (nI x) N1) E.length _ (fun n => ?_) (fun n x hx => ?_) gz_FU (by unfold gz_FU; omega)
              · show f12_overlap_58 (n + 1) (nI k) (nI j) (nI E.length) N1 = _
                rw [f12_overlap_58, n3.1, if_pos (nI_le (Nat.le_refl _) (by omega))]
              · show f12_overlap_58 (n + 1) (nI k) (nI j) (nI x) N1 = f12_overlap_58 n (nI k) (nI j) (nI (x + 1)) N1
                rw [stR n x hx, if_neg (hno x hx)]
        · have hmm' : ¬ nI (T.2.2 1 k) = nI (T.2.2 1 j) := fun e => hmm ((nI_eq (by omega) (by omega)).mp e)
          rw [if_neg hmm'] at cc rc
          exact gp_ansN hq (-3) cc rc
end
end
section
/-! ways to cut: how many, the fewest rows; from behind and from the front -/
def gp_mrg : Option Nat → Option Nat → Option Nat
  | o, none => o
  | none, some n => some (n + 1)
  | some m, some n => if n + 1 < m then some (n + 1) else some m
def gp_cs (E : Nat → Nat → Bool) (C : Nat → Nat) (p : Nat) : Nat → Nat
  | 0 => 0
  | x + 1 => gp_cs E C p x + if p < x ∧ E p x = true then C x else 0
def gp_mn (E : Nat → Nat → Bool) (R : Nat → Option Nat) (p : Nat) : Nat → Option Nat
  | 0 => none
  | x + 1 => if p < x ∧ E p x = true then gp_mrg (gp_mn E R p x) (R x) else gp_mn E R p x
def gp_Cf (E : Nat → Nat → Bool) (j : Nat) : Nat → Nat → Nat
  | 0, p => if p = j then 1 else 0
  | f + 1, p => if p = j then 1 else gp_cs E (gp_Cf E j f) p (j + 1)
def gp_Rf (E : Nat → Nat → Bool) (j : Nat) : Nat → Nat → Option Nat
  | 0, p => if p = j then some 0 else none
  | f + 1, p => if p = j then some 0 else gp_mn E (gp_Rf E j f) p (j + 1)
def gp_Aw (E : Nat → Nat → Bool) (i : Nat) : Nat → Nat → Nat
  | 0, q => if q = i then 1 else 0
  | p + 1, q => gp_Aw E i p q + if i ≤ p ∧ p < q ∧ E p q = true then gp_Aw E i p p else 0
def gp_Ww (E : Nat → Nat → Bool) (i : Nat) : Nat → Nat → Option Nat
  | 0, q => if q = i then some 0 else none
  | p + 1, q => if i ≤ p ∧ p < q ∧ E p q = true then gp_mrg (gp_Ww E i p q) (gp_Ww E i p p) else gp_Ww E i p q
theorem gp_cs_e {E : Nat → Nat → Bool} {C C' : Nat → Nat} {p : Nat} : ∀ x, (∀ q, p < q → q < x → C q = C' q) → gp_cs E C p x = gp_cs E C' p x
  | 0, _ => rfl
  | x + 1, h => by
    rw [gp_cs, gp_cs, gp_cs_e x (fun q h1 h2 => h q h1 (by omega))]
    congr 1
    split
    · rename_i hc
      exact h x hc.1 (by omega)
    · rfl
theorem gp_mn_e {E : Nat → Nat → Bool} {R R' : Nat → Option Nat} {p : Nat} : ∀ x, (∀ q, p < q → q < x → R q = R' q) → gp_mn E R p x = gp_mn E R' p x
  | 0, _ => rfl
  | x + 1, h => by
    rw [gp_mn, gp_mn, gp_mn_e x (fun q h1 h2 => h q h1 (by omega))]
    split
    · rename_i hc
      rw [h x hc.1 (by omega)]
    · rfl
theorem gp_cs_0 {E : Nat → Nat → Bool} {C : Nat → Nat} {p : Nat} : ∀ x, x ≤ p + 1 → gp_cs E C p x = 0
  | 0, _ => rfl
  | x + 1, h => by
    rw [gp_cs, gp_cs_0 x (by omega), if_neg (fun hc => by omega)]
theorem gp_mn_0 {E : Nat → Nat → Bool} {R : Nat → Option Nat} {p : Nat} : ∀ x, x ≤ p + 1 → gp_mn E R p x = none
  | 0, _ => rfl
  | x + 1, h => by
    rw [gp_mn, gp_mn_0 x (by omega), if_neg (fun hc => by omega)]
theorem gp_Cf_s {E : Nat → Nat → Bool} {j : Nat} : ∀ (f p : Nat), j ≤ p + f → gp_Cf E j (f + 1) p = gp_Cf E j f p
  | 0, p, h => by
    rw [gp_Cf, gp_Cf]
    split
    · rfl
    · exact gp_cs_0 (j + 1) (by omega)
  | f + 1, p, h => by
    rw [gp_Cf, gp_Cf]
    split
    · rfl
    · exact gp_cs_e (j + 1) (fun q h1 h2 => gp_Cf_s f q (by omega))
theorem gp_Rf_s {E : Nat → Nat → Bool} {j : Nat} : ∀ (f p : Nat), j ≤ p + f → gp_Rf E j (f + 1) p = gp_Rf E j f p
  | 0, p, h => by
    rw [gp_Rf, gp_Rf]
    split
    · rfl
    · exact gp_mn_0 (j + 1) (by omega)
  | f + 1, p, h => by
    rw [gp_Rf, gp_Rf]
    split
    · rfl
    · exact gp_mn_e (j + 1) (fun q h1 h2 => gp_Rf_s f q (by omega))
/-- from behind -/
def gp_Cb (E : Nat → Nat → Bool) (j p : Nat) : Nat := gp_Cf E j 25 p
def gp_Rb (E : Nat → Nat → Bool) (j p : Nat) : Option Nat := gp_Rf E j 25 p
theorem gp_Cb_j (E : Nat → Nat → Bool) (j : Nat) : gp_Cb E j j = 1 := by unfold gp_Cb; rw [gp_Cf, if_pos rfl]
theorem gp_Rb_j (E : Nat → Nat → Bool) (j : Nat) : gp_Rb E j j = some 0 := by unfold gp_Rb; rw [gp_Rf, if_pos rfl]
theorem gp_Cb_p {E : Nat → Nat → Bool} {j p : Nat} (hj : j ≤ 24) (hp : p ≠ j) : gp_Cb E j p = gp_cs E (gp_Cb E j) p (j + 1) := by
  unfold gp_Cb
  rw [gp_Cf, if_neg hp]
  exact gp_cs_e (j + 1) (fun q h1 h2 => (gp_Cf_s 24 q (by omega)).symm)
theorem gp_Rb_p {E : Nat → Nat → Bool} {j p : Nat} (hj : j ≤ 24) (hp : p ≠ j) : gp_Rb E j p = gp_mn E (gp_Rb E j) p (j + 1) := by
  unfold gp_Rb
  rw [gp_Rf, if_neg hp]
  exact gp_mn_e (j + 1) (fun q h1 h2 => (gp_Rf_s 24 q (by omega)).symm)
/-- how many: at most doubled a place -/
theorem gp_Cb_b {E : Nat → Nat → Bool} {j : Nat} (hj : j ≤ 24) : ∀ d p, p + d = j → gp_Cb E j p ≤ 2 ^ d ∧ ∀ x, x ≤ j + 1 → gp_cs E (gp_Cb E j) p x + 1 ≤ 2 ^ d := by
  intro d
  induction d using Nat.strongRecOn with
  | ind d ih =>
    intro p hp
    have hcs : ∀ x, x ≤ j + 1 → p < x → gp_cs E (gp_Cb E j) p x + 2 ^ (j + 1 - x) ≤ 2 ^ d := by
      intro x
      induction x with
      | zero => intro _ h; exact absurd h (by omega)
      | succ x ihx =>
        intro hx hpx
        by_cases h : p < x
        · have h1 := ihx (by omega) h
          have h2 := (ih (j - x) (by omega) x (by omega)).1
          rw [gp_cs]
          have h3 : 2 ^ (j + 1 - x) = 2 * 2 ^ (j - x) := by
            rw [show j + 1 - x = (j - x) + 1 by omega, Nat.pow_succ]; omega
          rw [show j + 1 - (x + 1) = j - x by omega]
          split <;> omega
        · have : x = p := by omega
          subst this
          rw [gp_cs_0 (x + 1) (by omega), show j + 1 - (x + 1) = d by omega]
          omega
    have hcs2 : ∀ x, x ≤ j + 1 → gp_cs E (gp_Cb E j) p x + 1 ≤ 2 ^ d := by
      intro x hx
      have hpos := Nat.two_pow_pos d
      by_cases h : p < x
      · have := hcs x hx h
        have := Nat.two_pow_pos (j + 1 - x)
        omega
      · rw [gp_cs_0 x (by omega)]
        omega
    refine ⟨?_, hcs2⟩
    by_cases hpj : p = j
    · subst hpj
      rw [gp_Cb_j]
      exact Nat.two_pow_pos d
    · rw [gp_Cb_p hj hpj]
      have := hcs2 (j + 1) (Nat.le_refl _)
      omega
/-- sums -/
def gp_sm (f : Nat → Nat) : Nat → Nat
  | 0 => 0
  | n + 1 => gp_sm f n + f n
theorem gp_sm_sp {f : Nat → Nat} {t : Nat} : ∀ x, gp_sm (fun q => if t ≤ q then f q else 0) x = (if t < x then f t else 0) + gp_sm (fun q => if t < q then f q else 0) x
  | 0 => by simp [gp_sm]
  | x + 1 => by
    rw [gp_sm, gp_sm, gp_sm_sp x]
    by_cases h1 : t < x
    · rw [if_pos h1, if_pos (by omega : t ≤ x), if_pos (by omega : t < x + 1), if_pos h1]
      omega
    · by_cases h2 : t = x
      · subst h2
        rw [if_neg (by omega : ¬ t < t), if_pos (Nat.le_refl t), if_pos (by omega : t < t + 1)]
        omega
      · rw [if_neg h1, if_neg (by omega : ¬ t ≤ x), if_neg (by omega : ¬ t < x + 1), if_neg h1]
        omega
theorem gp_sm_e {f g : Nat → Nat} : ∀ x, (∀ q, q < x → f q = g q) → gp_sm f x = gp_sm g x
  | 0, _ => rfl
  | x + 1, h => by rw [gp_sm, gp_sm, gp_sm_e x (fun q hq => h q (by omega)), h x (by omega)]
theorem gp_ph {E : Nat → Nat → Bool} {C : Nat → Nat} {i t : Nat} (hit : i ≤ t) : ∀ x, gp_Aw E i t t * gp_cs E C t x + gp_sm (fun q => if t < q then gp_Aw E i t q * C q else 0) x = gp_sm (fun q => if t + 1 ≤ q then gp_Aw E i (t + 1) q * C q else 0) x
  | 0 => by simp [gp_sm, gp_cs]
  | x + 1 => by
    rw [gp_cs, gp_sm, gp_sm, ← gp_ph hit x]
    by_cases h : t < x
    · rw [if_pos h, if_pos (by omega : t + 1 ≤ x), gp_Aw]
      by_cases he : E t x = true
      · rw [if_pos ⟨h, he⟩, if_pos ⟨hit, h, he⟩, Nat.mul_add, Nat.add_mul]
        omega
      · rw [if_neg (fun hc => he hc.2), if_neg (fun hc => he hc.2.2)]
        simp
        omega
    · rw [if_neg h, if_neg (by omega : ¬ t + 1 ≤ x), if_neg (fun hc => h hc.1)]
      simp
theorem gp_Aw_i {E : Nat → Nat → Bool} {i : Nat} : ∀ (p q : Nat), p ≤ i → gp_Aw E i p q = if q = i then 1 else 0
  | 0, _, _ => rfl
  | p + 1, q, h => by
    rw [gp_Aw, gp_Aw_i p q (by omega), if_neg (fun hc : i ≤ p ∧ p < q ∧ E p q = true => by have := hc.1; omega)]
    rfl
theorem gp_ways_eq {E : Nat → Nat → Bool} {i j : Nat} (hij : i ≤ j) (hj : j ≤ 24) : gp_Aw E i j j = gp_Cb E j i := by
  have ph : ∀ t, i ≤ t → t ≤ j → gp_sm (fun q => if t ≤ q then gp_Aw E i t q * gp_Cb E j q else 0) (j + 1) = gp_Cb E j i := by
    intro t hit
    induction t with
    | zero =>
      intro _
      have : i = 0 := by omega
      subst this
      rw [gp_sm_sp, if_pos (by omega), gp_Aw_i 0 0 (Nat.le_refl _), if_pos rfl]
      have : ∀ x, gp_sm (fun q => if 0 < q then gp_Aw E 0 0 q * gp_Cb E j q else 0) x = 0 := by
        intro x
        induction x with
        | zero => rfl
        | succ x ih =>
          rw [gp_sm, ih]
          split
          · rename_i h
            rw [gp_Aw_i 0 x (Nat.le_refl _), if_neg (by omega)]
            omega
          · rfl
      rw [this]
      omega
    | succ t ih =>
      intro htj
      by_cases h : i ≤ t
      · rw [← ih h (by omega), ← gp_ph h, gp_sm_sp, if_pos (by omega), gp_Cb_p hj (by omega : t ≠ j)]
      · have : i = t + 1 := by omega
        rw [gp_sm_sp, if_pos (by omega), gp_Aw_i (t + 1) (t + 1) (by omega), if_pos (by omega)]
        have : ∀ x, gp_sm (fun q => if t + 1 < q then gp_Aw E i (t + 1) q * gp_Cb E j q else 0) x = 0 := by
          intro x
          induction x with
          | zero => rfl
          | succ x ih =>
            rw [gp_sm, ih]
            split
            · rename_i h
              rw [gp_Aw_i (t + 1) x (by omega), if_neg (by omega)]
              omega
            · rfl
        rw [this]
        subst i
        omega
  have := ph j hij (Nat.le_refl _)
  rw [gp_sm_sp, if_pos (by omega), gp_Cb_j] at this
  have h0 : ∀ x, x ≤ j + 1 → gp_sm (fun q => if j < q then gp_Aw E i j q * gp_Cb E j q else 0) x = 0 := by
    intro x
    induction x with
    | zero => intro _; rfl
    | succ x ih =>
      intro hx
      rw [gp_sm, ih (by omega), if_neg (by omega)]
  rw [h0 (j + 1) (Nat.le_refl _)] at this
  omega
/-! the fewest -/
def gp_lst (Q : Nat → Prop) : Option Nat → Prop
  | none => ∀ n, ¬ Q n
  | some n => Q n ∧ ∀ m, m < n → ¬ Q m
theorem gp_lst_u {Q : Nat → Prop} {o o' : Option Nat} (h : gp_lst Q o) (h' : gp_lst Q o') : o = o' := by
  cases o with
  | none =>
    cases o' with
    | none => rfl
    | some n => exact absurd h'.1 (h n)
  | some n =>
    cases o' with
    | none => exact absurd h.1 (h' n)
    | some m =>
      have h1 : ¬ n < m := fun hl => h'.2 n hl h.1
      have h2 : ¬ m < n := fun hl => h.2 m hl h'.1
      congr 1
      omega
theorem gp_lst_e {Q Q' : Nat → Prop} {o : Option Nat} (h : gp_lst Q o) (e : ∀ n, Q n ↔ Q' n) : gp_lst Q' o := by
  cases o with
  | none => exact fun n hn => h n ((e n).mpr hn)
  | some n => exact ⟨(e n).mp h.1, fun m hm hq => h.2 m hm ((e m).mpr hq)⟩
theorem gp_lst_m {Q1 Q2 : Nat → Prop} {o1 o2 : Option Nat} (h1 : gp_lst Q1 o1) (h2 : gp_lst Q2 o2) : gp_lst (fun n => Q1 n ∨ ∃ m, n = m + 1 ∧ Q2 m) (gp_mrg o1 o2) := by
  cases o2 with
  | none =>
    have : gp_mrg o1 none = o1 := by cases o1 <;> rfl
    rw [this]
    exact gp_lst_e h1 (fun n => ⟨Or.inl, fun h => h.resolve_right (fun ⟨m, _, hm⟩ => h2 m hm)⟩)
  | some n2 =>
    cases o1 with
    | none =>
      refine ⟨Or.inr ⟨n2, rfl, h2.1⟩, fun m hm hq => ?_⟩
      rcases hq with hq | ⟨m', rfl, hq⟩
      · exact h1 m hq
      · exact h2.2 m' (by omega) hq
    | some n1 =>
      show gp_lst _ (if n2 + 1 < n1 then some (n2 + 1) else some n1)
      split
      · refine ⟨Or.inr ⟨n2, rfl, h2.1⟩, fun m hm hq => ?_⟩
        rcases hq with hq | ⟨m', rfl, hq⟩
        · exact h1.2 m (by omega) hq
        · exact h2.2 m' (by omega) hq
      · refine ⟨Or.inl h1.1, fun m hm hq => ?_⟩
        rcases hq with hq | ⟨m', rfl, hq⟩
        · exact h1.2 m hm hq
        · exact h2.2 m' (by omega) hq
/-- rows from p up to j, from behind; to q from the front, begun ahead of p -/
def gp_RQ (E : Nat → Nat → Bool) (j : Nat) : Nat → Nat → Nat → Prop
  | 0, p, n => p = j ∧ n = 0
  | f + 1, p, n => (p = j ∧ n = 0) ∨ (p ≠ j ∧ ∃ q, p < q ∧ q < j + 1 ∧ E p q = true ∧ ∃ m, n = m + 1 ∧ gp_RQ E j f q m)
def gp_AQ (E : Nat → Nat → Bool) (i : Nat) : Nat → Nat → Nat → Prop
  | 0, q, n => q = i ∧ n = 0
  | p + 1, q, n => gp_AQ E i p q n ∨ (i ≤ p ∧ p < q ∧ E p q = true ∧ ∃ m, n = m + 1 ∧ gp_AQ E i p p m)
theorem gp_mn_l {E : Nat → Nat → Bool} {R : Nat → Option Nat} {Q : Nat → Nat → Prop} {p : Nat} (h : ∀ q, p < q → gp_lst (Q q) (R q)) : ∀ x, gp_lst (fun n => ∃ q, p < q ∧ q < x ∧ E p q = true ∧ ∃ m, n = m + 1 ∧ Q q m) (gp_mn E R p x)
  | 0 => fun n ⟨q, _, h2, _⟩ => absurd h2 (by omega)
  | x + 1 => by
    have ih := gp_mn_l (E := E) h x
    rw [gp_mn]
    split
    · rename_i hc
      refine gp_lst_e (gp_lst_m ih (h x hc.1)) (fun n => ⟨fun hq => ?_, fun ⟨q, h1, h2, h3, h4⟩ => ?_⟩)
      · rcases hq with ⟨q, h1, h2, h3, h4⟩ | hq
        · exact ⟨q, h1, by omega, h3, h4⟩
        · exact ⟨x, hc.1, by omega, hc.2, hq⟩
      · by_cases hqx : q = x
        · subst hqx
          exact Or.inr h4
        · exact Or.inl ⟨q, h1, by omega, h3, h4⟩
    · rename_i hc
      refine gp_lst_e ih (fun n => ⟨fun ⟨q, h1, h2, h3, h4⟩ => ⟨q, h1, by omega, h3, h4⟩, fun ⟨q, h1, h2, h3, h4⟩ => ⟨q, h1, ?_, h3, h4⟩⟩)
      have : q ≠ x := fun e => hc ⟨e ▸ h1, e ▸ h3⟩
      omega
theorem gp_Rf_l {E : Nat → Nat → Bool} {j : Nat} : ∀ f p, gp_lst (gp_RQ E j f p) (gp_Rf E j f p)
  | 0, p => by
    rw [gp_Rf]
    split
    · rename_i h
      exact ⟨⟨h, rfl⟩, fun m hm => absurd hm (by omega)⟩
    · rename_i h
      exact fun n hn => h hn.1
  | f + 1, p => by
    rw [gp_Rf]
    split
    · rename_i h
      exact ⟨Or.inl ⟨h, rfl⟩, fun m hm => absurd hm (by omega)⟩
    · rename_i h
      exact gp_lst_e (gp_mn_l (fun q _ => gp_Rf_l f q) (j + 1)) (fun n => ⟨fun hq => Or.inr ⟨h, hq⟩, fun hq => (hq.resolve_left (fun h' => h h'.1)).2⟩)
theorem gp_Ww_l {E : Nat → Nat → Bool} {i : Nat} : ∀ p q, gp_lst (gp_AQ E i p q) (gp_Ww E i p q)
  | 0, q => by
    rw [gp_Ww]
    split
    · rename_i h
      exact ⟨⟨h, rfl⟩, fun m hm => absurd hm (by omega)⟩
    · rename_i h
      exact fun n hn => h hn.1
  | p + 1, q => by
    rw [gp_Ww]
    split
    · rename_i hc
      exact gp_lst_e (gp_lst_m (gp_Ww_l p q) (gp_Ww_l p p)) (fun n => ⟨fun hq => hq.imp id (fun h => ⟨hc.1, hc.2.1, hc.2.2, h⟩), fun hq => hq.imp id (fun h => h.2.2.2)⟩)
    · rename_i hc
      exact gp_lst_e (gp_Ww_l p q) (fun n => ⟨Or.inl, fun hq => hq.resolve_right (fun h => hc ⟨h.1, h.2.1, h.2.2.1⟩)⟩)
theorem gp_RQ_s {E : Nat → Nat → Bool} {j : Nat} : ∀ (f p n : Nat), j ≤ p + f → (gp_RQ E j (f + 1) p n ↔ gp_RQ E j f p n)
  | 0, p, n, h => by
    constructor
    · rintro (hq | ⟨h1, q, h2, h3, _⟩)
      · exact hq
      · omega
    · exact Or.inl
  | f + 1, p, n, h => by
    constructor
    · rintro (hq | ⟨h1, q, h2, h3, h4, m, h5, h6⟩)
      · exact Or.inl hq
      · exact Or.inr ⟨h1, q, h2, h3, h4, m, h5, (gp_RQ_s f q m (by omega)).mp h6⟩
    · rintro (hq | ⟨h1, q, h2, h3, h4, m, h5, h6⟩)
      · exact Or.inl hq
      · exact Or.inr ⟨h1, q, h2, h3, h4, m, h5, (gp_RQ_s f q m (by omega)).mpr h6⟩
theorem gp_AQ_i {E : Nat → Nat → Bool} {i : Nat} : ∀ (p q n : Nat), p ≤ i → (gp_AQ E i p q n ↔ q = i ∧ n = 0)
  | 0, _, _, _ => Iff.rfl
  | p + 1, q, n, h => by
    rw [gp_AQ, gp_AQ_i p q n (by omega)]
    exact ⟨fun hq => hq.resolve_right (fun h' => by omega), Or.inl⟩
theorem gp_few_eq {E : Nat → Nat → Bool} {i j : Nat} (hij : i ≤ j) (hj : j ≤ 24) : gp_Ww E i j j = gp_Rb E j i := by
  have ph : ∀ t, i ≤ t → t ≤ j → ∀ n, (∃ q a b, t ≤ q ∧ q < j + 1 ∧ a + b = n ∧ gp_AQ E i t q a ∧ gp_RQ E j 25 q b) ↔ gp_RQ E j 25 i n := by
    intro t hit
    induction t with
    | zero =>
      intro _ n
      have : i = 0 := by omega
      subst this
      constructor
      · rintro ⟨q, a, b, h1, h2, h3, h4, h5⟩
        obtain ⟨rfl, rfl⟩ := h4
        rw [Nat.zero_add] at h3
        rw [← h3]; exact h5
      · exact fun h => ⟨0, 0, n, by omega, by omega, by omega, ⟨rfl, rfl⟩, h⟩
    | succ t ih =>
      intro htj n
      by_cases h : i ≤ t
      · rw [← ih h (by omega) n]
        constructor
        · rintro ⟨q, a, b, h1, h2, h3, h4, h5⟩
          rcases h4 with h4 | ⟨_, h6, h7, m, h8, h9⟩
          · exact ⟨q, a, b, by omega, h2, h3, h4, h5⟩
          · exact ⟨t, m, b + 1, by omega, by omega, by omega, h9, Or.inr ⟨by omega, q, h6, h2, h7, b, rfl, (gp_RQ_s 24 q b (by omega)).mp h5⟩⟩
        · rintro ⟨q, a, b, h1, h2, h3, h4, h5⟩
          by_cases hqt : q = t
          · subst hqt
            rcases h5 with ⟨h6, _⟩ | ⟨h6, q', h7, h8, h9, m, h10, h11⟩
            · omega
            · exact ⟨q', a + 1, m, by omega, h8, by omega, Or.inr ⟨h, h7, h9, a, rfl, h4⟩, (gp_RQ_s 24 q' m (by omega)).mpr h11⟩
          · exact ⟨q, a, b, by omega, h2, h3, Or.inl h4, h5⟩
      · have hi : i = t + 1 := by omega
        constructor
        · rintro ⟨q, a, b, h1, h2, h3, h4, h5⟩
          obtain ⟨e1, e2⟩ := (gp_AQ_i (t + 1) q a (by omega)).mp h4
          subst e1; subst e2
          rw [Nat.zero_add] at h3
          rw [← h3]; exact h5
        · exact fun h => ⟨i, 0, n, by omega, by omega, by omega, (gp_AQ_i (t + 1) i 0 (by omega)).mpr ⟨rfl, rfl⟩, h⟩
  refine gp_lst_u (gp_Ww_l j j) (gp_lst_e (gp_Rf_l 25 i) (fun n => ?_))
  rw [← ph j hij (Nat.le_refl _) n]
  constructor
  · rintro ⟨q, a, b, h1, h2, h3, h4, h5⟩
    have : q = j := by omega
    subst this
    rcases h5 with ⟨_, h6⟩ | ⟨h6, _⟩
    · subst h6
      rw [Nat.add_zero] at h3
      rw [← h3]; exact h4
    · exact absurd rfl h6
  · exact fun h => ⟨j, n, 0, Nat.le_refl _, by omega, by omega, h, Or.inl ⟨rfl, rfl⟩⟩
/-- no way: nothing counted -/
theorem gp_AW {E : Nat → Nat → Bool} {i : Nat} : ∀ p q, gp_Aw E i p q = 0 ↔ gp_Ww E i p q = none
  | 0, q => by
    rw [gp_Aw, gp_Ww]
    split <;> simp
  | p + 1, q => by
    have h1 := gp_AW (E := E) (i := i) p q
    have h2 := gp_AW (E := E) (i := i) p p
    rw [gp_Aw, gp_Ww]
    split
    · cases e1 : gp_Ww E i p q with
      | none =>
        cases e2 : gp_Ww E i p p with
        | none =>
          rw [e1] at h1; rw [e2] at h2
          have := h1.mpr rfl
          have := h2.mpr rfl
          simp [gp_mrg]; omega
        | some b =>
          rw [e2] at h2
          have : ¬ gp_Aw E i p p = 0 := fun h => by have := h2.mp h; simp at this
          simp [gp_mrg]; omega
      | some a =>
        rw [e1] at h1
        have : ¬ gp_Aw E i p q = 0 := fun h => by have := h1.mp h; simp at this
        constructor
        · intro h; omega
        · intro h
          cases e2 : gp_Ww E i p p with
          | none => rw [e2] at h; simp [gp_mrg] at h
          | some b =>
            rw [e2] at h
            simp only [gp_mrg] at h
            split at h <;> simp at h
    · rw [Nat.add_zero]
      exact h1
end
section
/-! ways and fewest: the component's table -/
/-- a rule of mode 0 matches from p up to q -/
def gp_eW (T : gp_T) (l : List Nat) (p q : Nat) : Bool := (gp_win T 0 (gp_ss T 0 l p (q - p)).2).isSome
def gp_eT (T : gp_T) (l : List Nat) (p x : Nat) : Nat := gp_mB (fun q => decide (p < q) && gp_eW T l p q) x
theorem gp_mrg_b {o1 o2 : Option Nat} {b n : Nat} (h1 : ∀ n, o1 = some n → n ≤ b + 1) (h2 : ∀ n, o2 = some n → n ≤ b) (h : gp_mrg o1 o2 = some n) : n ≤ b + 1 := by
  cases o2 with
  | none =>
    have : gp_mrg o1 none = o1 := by cases o1 <;> rfl
    rw [this] at h
    exact h1 n h
  | some n2 =>
    have := h2 n2 rfl
    cases o1 with
    | none => simp [gp_mrg] at h; omega
    | some n1 =>
      have := h1 n1 rfl
      simp only [gp_mrg] at h
      split at h <;> (simp at h; omega)
theorem gp_mn_b {E : Nat → Nat → Bool} {R : Nat → Option Nat} {p b : Nat} (hR : ∀ q n, R q = some n → n ≤ b) : ∀ x n, gp_mn E R p x = some n → n ≤ b + 1
  | 0, n, h => by cases h
  | x + 1, n, h => by
    rw [gp_mn] at h
    split at h
    · exact gp_mrg_b (gp_mn_b hR x) (hR x) h
    · exact gp_mn_b hR x n h
theorem gp_Rf_b {E : Nat → Nat → Bool} {j : Nat} : ∀ f p n, gp_Rf E j f p = some n → n ≤ f
  | 0, p, n, h => by
    rw [gp_Rf] at h
    split at h <;> simp at h
    omega
  | f + 1, p, n, h => by
    rw [gp_Rf] at h
    split at h
    · simp at h; omega
    · exact gp_mn_b (fun q n => gp_Rf_b f q n) (j + 1) n h
section
variable {B : Prop} {k k0 k1 m S s x p cu i j nx : Nat} {M M' Mc Mr Mc' Mr' : gz_M} {T : gp_T} {l : List Nat}
theorem gp_ss_dead1 (T : gp_T) (m : Nat) (l : List Nat) (i t d : Nat) (h : (gp_ss T m l i t).1 = 0) : (gp_ss T m l i (t + 1 + d)).2 = 0 := by
  refine (gp_ss_dead T m l i t d ?_).1
  show (gp_ss T m l i t).1 &&& _ = 0
  rw [h, Nat.zero_and]
theorem gp_eW_dead (T : gp_T) (l : List Nat) (p t d : Nat) (h : (gp_ss T 0 l p (t + 1)).2 = 0) : gp_eW T l p (p + (t + 1 + d)) = false := by
  unfold gp_eW
  rw [show p + (t + 1 + d) - p = t + 1 + d by omega, (gp_ss_dead T 0 l p t d h).1, gp_win0]
  rfl
theorem gp_eW_0 (h : (gp_ss T 0 l p (k - p)).2 = 0) : gp_eW T l p k = false := by
  unfold gp_eW
  rw [h, gp_win0]
  rfl
theorem gp_eT_0 : ∀ x, x ≤ p + 1 → gp_eT T l p x = 0
  | 0, _ => rfl
  | x + 1, hx => by
    have ih := gp_eT_0 x (by omega)
    unfold gp_eT at ih ⊢
    rw [gp_mB_s, ih, if_neg (by simp; omega)]
    rfl
theorem gp_eT_dead {t : Nat} (h : (gp_ss T 0 l p t).1 = 0) : ∀ d, gp_eT T l p (p + t + 1 + d) = gp_eT T l p (p + t + 1)
  | 0 => rfl
  | d + 1 => by
    have ih := gp_eT_dead h d
    have e := gp_eW_0 (T := T) (l := l) (p := p) (k := p + t + 1 + d) (by
      rw [show p + t + 1 + d - p = t + 1 + d by omega]
      exact gp_ss_dead1 T 0 l p t d h)
    unfold gp_eT at ih ⊢
    rw [show p + t + 1 + (d + 1) = (p + t + 1 + d) + 1 by omega, gp_mB_s, ih, if_neg (by simp [e])]
    simp
theorem gp_endsFrom (hw : gp_wT T) (h : gp_tC k0 M T) (hl : gp_lC k1 M l) (hp : p ≤ j) (hj : j ≤ l.length) : f9_endsFrom k0 k1 (nI p) (nI j) M = some (nI (gp_eT T l p (j + 1)), M) := by
  have hl1 := hl.1
  have hm : 0 < 4 := by decide
  unfold f9_endsFrom
  rw [show (0 : Int32) = nI 0 from rfl, gp_atFirst h hm, gp_eB2]
  refine gp_forE (fun n x (a : Int32 × Int32) => f9_endsFrom_13 k0 k1 n (nI j) a.1 a.2 (nI (p + x)) M) (j - p) (fun x a => a = (nI (gp_eT T l p (p + x + 1)), nI (gp_ss T 0 l p x).1)) _ (fun n a hI => ?_) (fun n x a hx hI => ?_) gz_FU 0 (nI 0, nI (T.2.2 8 0)) (by omega) (by unfold gz_FU; omega) (by rw [gp_eT_0 (p + 0 + 1) (by omega)]; rfl)
  · subst hI
    show f9_endsFrom_13 k0 k1 (n + 1) (nI j) _ _ (nI (p + (j - p))) M = _
    rw [f9_endsFrom_13, if_pos (nI_le (by omega) (by omega)), show p + (j - p) = j by omega]
  · subst hI
    show f9_endsFrom_13 k0 k1 (n + 1) (nI j) _ _ (nI (p + x)) M = _ ∨ ∃ s', f9_endsFrom_13 k0 k1 (n + 1) (nI j) _ _ (nI (p + x)) M = f9_endsFrom_13 k0 k1 n (nI j) s'.1 s'.2 (nI (p + (x + 1))) M ∧ s' = (nI (gp_eT T l p (p + (x + 1) + 1)), nI (gp_ss T 0 l p (x + 1)).1)
    have hb := gp_ss_lt (T := T) (m := 0) (i := p) hw hm (fun p hp => (hl.2.2 p hp).2) x (by omega)
    have hb1 := gp_ss_lt (T := T) (m := 0) (i := p) hw hm (fun p hp => (hl.2.2 p hp).2) (x + 1) (by omega)
    have hx10 := gp_lt10 hw hm hb.1
    have hx11 := gp_lt10 hw hm hb1.2
    have hs := (hl.2.2 (p + x) (by omega)).2
    rw [f9_endsFrom_13, if_neg (nI_ge (by omega) (by omega))]
    by_cases hz : (gp_ss T 0 l p x).1 = 0
    · left
      rw [if_pos (by rw [hz]; rfl)]
      have := gp_eT_dead (T := T) (l := l) (p := p) hz (j - p - x)
      rw [show p + x + 1 + (j - p - x) = j + 1 by omega] at this
      rw [this]
    · right
      refine ⟨_, ?_, rfl⟩
      have hS : (gp_ss T 0 l p x).1 &&& T.2.2 (15 + 0) (l.getD (p + x) 0) = (gp_ss T 0 l p (x + 1)).2 := rfl
      rw [if_neg (show ¬ nI (gp_ss T 0 l p x).1 = (0 : Int32) from fun e => hz ((nI_eq (b := 0) (by omega) (by omega)).mp e)), gp_lget hl (by omega), gp_eB2, show (0 : Int32) = nI 0 from rfl, gp_takersOf h hm hs, gp_eB2, gp_eL, gp_and, hS, gp_winner hw h hm hx11, gp_eB2, nI_1]
      have e63 : ∀ s0 : Int32, f9_endsFrom_63 k0 k1 (f9_endsFrom_13 k0 k1 n) (nI j) (nI (p + x)) (nI (gp_ss T 0 l p (x + 1)).2) s0 (nI (gp_eT T l p (p + x + 1))) M = f9_endsFrom_13 k0 k1 n (nI j) (nI (gp_eT T l p (p + x + 1)) ||| s0) (nI (gp_ss T 0 l p (x + 1)).1) (nI (p + (x + 1))) M := by
        intro s0
        unfold f9_endsFrom_63
        rw [gp_eL, show (0 : Int32) = nI 0 from rfl, gp_after h hm hx11, gp_eB2, gp_eL, nI_1]
        rfl
      have hEW : gp_eW T l p (p + x + 1) = (gp_win T 0 (gp_ss T 0 l p (x + 1)).2).isSome := by
        unfold gp_eW
        rw [show p + x + 1 - p = x + 1 by omega]
      have hET : gp_eT T l p (p + (x + 1) + 1) = gp_eT T l p (p + x + 1) ||| if gp_eW T l p (p + x + 1) = true then 1 <<< (p + x + 1) else 0 := by
        show gp_mB _ (p + (x + 1) + 1) = gp_mB _ (p + x + 1) ||| _
        rw [show p + (x + 1) + 1 = (p + x + 1) + 1 by omega, gp_mB_s]
        congr 1
        rw [show decide (p < p + x + 1) = true by simp; omega, Bool.true_and]
      rw [hET, hEW]
      cases hwin : gp_win T 0 (gp_ss T 0 l p (x + 1)).2 with
      | none =>
        rw [if_pos (show gp_o none = (-1 : Int32) from rfl), e63]
        rw [gp_or]
        rfl
      | some w =>
        have hj' := (gp_win_some hwin).1
        have hw1 := hw.1
        rw [if_neg (show ¬ gp_o (some w) = (-1 : Int32) by rw [gp_m1, gp_oS, gp_ne1 (by omega)]; exact id), e63]
        rw [show (1 : Int32) = nI 1 from rfl, gp_shl1 (by omega), gp_or]
        rfl
/-- the table of ways from place p on (up to j) -/
def gp_spC (M : gz_M) (T : gp_T) (l : List Nat) (j p : Nat) : Prop := ∀ q, p ≤ q → q ≤ j → M.1 128 q = nI (gp_eT T l q (j + 1)) ∧ M.1 129 q = nI (gp_Cb (gp_eW T l) j q) ∧ M.1 130 q = gp_o (gp_Rb (gp_eW T l) j q)
/-- what the table's making leaves -/
def gp_wL (M M' : gz_M) : Prop := M'.2 = M.2 ∧ ∀ c, c < 128 ∨ 131 ≤ c → M'.1 c = M.1 c
theorem gp_wL.trans {M1 M2 M3 : gz_M} (a : gp_wL M1 M2) (b : gp_wL M2 M3) : gp_wL M1 M3 := ⟨b.1.trans a.1, fun c hc => (b.2 c hc).trans (a.2 c hc)⟩
theorem gp_Rb_b {E : Nat → Nat → Bool} {n : Nat} (h : gp_Rb E j p = some n) : n ≤ 25 := gp_Rf_b 25 p n h
theorem gp_eT_lt (T : gp_T) (l : List Nat) (p : Nat) {x : Nat} (hx : x ≤ 25) : gp_eT T l p x < 2 ^ 25 := gp_mB_lt _ hx
theorem gp_eT_bit (hp : p < k) (hk : k < x) : (gp_eT T l p x).testBit k = gp_eW T l p k := by
  unfold gp_eT
  rw [gp_mB_bit, show decide (k < x) = true by simpa using hk, show decide (p < k) = true by simpa using hp]
  simp
theorem gp_make82 (hj : j ≤ 24) (hpj : p < j) (c16 : Int32 → Int32 → Int32 → gz_M → Option gz_M) (x3 : Int32) : ∀ (d n q : Nat) (M : gz_M), q + d = j + 1 → d < n → p < q → gp_spC M T l j (p + 1) → M.1 128 p = nI (gp_eT T l p (j + 1)) → M.1 129 p = nI (gp_cs (gp_eW T l) (gp_Cb (gp_eW T l) j) p q) → M.1 130 p = gp_o (gp_mn (gp_eW T l) (gp_Rb (gp_eW T l) j) p q) → ∃ M', f9_make_82 k0 k1 c16 n x3 (nI j) (nI p) (nI q) M = c16 x3 (nI j) (nI p + (-1)) M' ∧ gp_wL M M' ∧ gp_spC M' T l j p := by
  have hcb := gp_Cb_b (E := gp_eW T l) hj
  intro d
  induction d with
  | zero =>
    intro n q M hq hn hpq hM h128 h129 h130
    obtain ⟨n, rfl⟩ : ∃ q, n = q + 1 := ⟨n - 1, by omega⟩
    have : q = j + 1 := by omega
    subst this
    refine ⟨M, ?_, ⟨rfl, fun _ _ => rfl⟩, fun y h1 h2 => ?_⟩
    · rw [f9_make_82, if_pos (nI_lt (by omega) (by omega)), gp_eL]
    · by_cases hy : y = p
      · subst hy
        rw [gp_Cb_p hj (by omega), gp_Rb_p hj (by omega)]
        exact ⟨h128, h129, h130⟩
      · exact hM y (by omega) h2
  | succ d ih =>
    intro n q M hq hn hpq hM h128 h129 h130
    obtain ⟨n, rfl⟩ : ∃ q, n = q + 1 := ⟨n - 1, by omega⟩
    have hqj : q ≤ j := by omega
    obtain ⟨v1, v2, v3⟩ := hM q (by omega) hqj
    have hbit := gp_bitL (a := gp_eT T l p (j + 1)) (i := q) (by have := gp_eT_lt T l p (show j + 1 ≤ 25 by omega); omega) (by omega)
    rw [gp_eT_bit hpq (by omega)] at hbit
    have b1 := (hcb (j - p) p (by omega)).2 q (by omega)
    have b2 := (hcb (j - q) q (by omega)).1
    have b3 : 2 ^ (j - p) ≤ 2 ^ 24 := Nat.pow_le_pow_right (by decide) (by omega)
    have b4 : 2 ^ (j - q) ≤ 2 ^ 24 := Nat.pow_le_pow_right (by decide) (by omega)
    rw [f9_make_82, if_neg (nI_nlt (by omega) (by omega)), gp_ckb (by omega) (by omega), show (nI p).toNatClampNeg = p from nI_clamp (by omega), h128]
    by_cases he : gp_eW T l p q = true
    · have hc : p < q ∧ gp_eW T l p q = true := ⟨hpq, he⟩
      have hcs : gp_cs (gp_eW T l) (gp_Cb (gp_eW T l) j) p (q + 1) = gp_cs (gp_eW T l) (gp_Cb (gp_eW T l) j) p q + gp_Cb (gp_eW T l) j q := by rw [gp_cs, if_pos hc]
      have hmn : gp_mn (gp_eW T l) (gp_Rb (gp_eW T l) j) p (q + 1) = gp_mrg (gp_mn (gp_eW T l) (gp_Rb (gp_eW T l) j) p q) (gp_Rb (gp_eW T l) j q) := by rw [gp_mn, if_pos hc]
      rw [if_neg (show ¬ (gz_shr (nI (gp_eT T l p (j + 1))) (nI q) &&& (1 : Int32)) = (0 : Int32) by rw [hbit, he]; simp)]
      -- the row is added
      have add : ∃ M1, f9_addRow (nI p) (nI q) M = some M1 ∧ gp_wL M M1 ∧ (∀ y, y ≠ p → M1.1 128 y = M.1 128 y ∧ M1.1 129 y = M.1 129 y ∧ M1.1 130 y = M.1 130 y) ∧ M1.1 128 p = M.1 128 p ∧ M1.1 129 p = nI (gp_cs (gp_eW T l) (gp_Cb (gp_eW T l) j) p (q + 1)) ∧ M1.1 130 p = gp_o (gp_mn (gp_eW T l) (gp_Rb (gp_eW T l) j) p (q + 1)) := by
        unfold f9_addRow
        rw [if_neg (nI_pos (by omega)), if_neg (nI_ge hpq (by omega)), if_neg (show ¬ (24 : Int32) < nI q from nI_nlt (a := 24) (by omega) (by omega)), gp_ckb (by omega) (by omega), show (nI q).toNatClampNeg = q from nI_clamp (by omega), v3, gp_itO (fun n hn => by have := gp_Rb_b hn; omega)]
        cases hRq : gp_Rb (gp_eW T l) j q with
        | none =>
          -- no way from there: nothing counted
          have hC0 : gp_Cb (gp_eW T l) j q = 0 := by
            have h1 := gp_ways_eq (E := gp_eW T l) hqj hj
            have h2 := gp_few_eq (E := gp_eW T l) hqj hj
            rw [← h1, (gp_AW j j).mpr (by rw [h2]; exact hRq)]
          rw [if_pos (show (none : Option Nat).isNone = true from rfl)]
          refine ⟨M, rfl, ⟨rfl, fun _ _ => rfl⟩, fun _ _ => ⟨rfl, rfl, rfl⟩, rfl, ?_, ?_⟩
          · rw [hcs, hC0, h129, Nat.add_zero]
          · rw [hmn, hRq, h130]
            cases gp_mn (gp_eW T l) (gp_Rb (gp_eW T l) j) p q <;> rfl
        | some r =>
          have hr := gp_Rb_b hRq
          rw [if_neg (by simp), gp_ckb (by omega) (by omega), gp_ckb (by omega) (by omega), gp_ckb (by omega) (by omega), gp_eL, show (nI p).toNatClampNeg = p from nI_clamp (by omega), h129, v2, nI_add, ← hcs, gp_ckb (by omega) (by omega)]
          have e68 : ∀ M2 : gz_M, M2.1 130 q = nI r → f9_addRow_68 (nI p) (nI q) M2 = some (gz_w M2 130 p (nI (r + 1))) := by
            intro M2 h2
            unfold f9_addRow_68
            rw [gp_ckb (by omega) (by omega), gp_ckb (by omega) (by omega), gp_eL, nI_clamp (by omega), nI_clamp (by omega), h2, nI_1]
          have hM130 : (gz_w M 129 p (nI (gp_cs (gp_eW T l) (gp_Cb (gp_eW T l) j) p (q + 1)))).1 130 p = gp_o (gp_mn (gp_eW T l) (gp_Rb (gp_eW T l) j) p q) := by rw [gp_gn (by omega), h130]
          have hM130q : (gz_w M 129 p (nI (gp_cs (gp_eW T l) (gp_Cb (gp_eW T l) j) p (q + 1)))).1 130 q = nI r := by rw [gp_gn (by omega), v3, hRq]; rfl
          have hmb : ∀ n, gp_mn (gp_eW T l) (gp_Rb (gp_eW T l) j) p q = some n → n < 2 ^ 31 := fun n hn => by have := gp_mn_b (b := 25) (fun q n h => gp_Rb_b h) q n hn; omega
          rw [hM130, hM130q, e68 _ hM130q, gp_itO hmb, gp_ckb (by omega) (by omega), gp_ckb (by omega) (by omega), nI_1]
          have set : ∃ M1 : gz_M, some (gz_w (gz_w M 129 p (nI (gp_cs (gp_eW T l) (gp_Cb (gp_eW T l) j) p (q + 1)))) 130 p (nI (r + 1))) = some M1 ∧ gp_wL M M1 ∧ (∀ y, y ≠ p → M1.1 128 y = M.1 128 y ∧ M1.1 129 y = M.1 129 y ∧ M1.1 130 y = M.1 130 y) ∧ M1.1 128 p = M.1 128 p ∧ M1.1 129 p = nI (gp_cs (gp_eW T l) (gp_Cb (gp_eW T l) j) p (q + 1)) ∧ M1.1 130 p = nI (r + 1) := by
            refine ⟨_, rfl, ⟨rfl, fun c hc => by rw [gp_wc _ (by omega), gp_wc _ (by omega)]⟩, fun y hy => ⟨?_, ?_, ?_⟩, ?_, ?_, gp_gs _ _ _ _⟩
            · rw [gp_gn (by omega), gp_gn (by omega)]
            · rw [gp_gn (by omega), gp_gn (by omega)]
            · rw [gp_gn (by omega), gp_gn (by omega)]
            · rw [gp_gn (by omega), gp_gn (by omega)]
            · rw [gp_gn (by omega), gp_gs]
          cases hmq : gp_mn (gp_eW T l) (gp_Rb (gp_eW T l) j) p q with
          | none =>
            rw [if_pos (show (none : Option Nat).isNone = true from rfl), hmn, hmq, hRq]
            exact set
          | some m0 =>
            have hm0 := hmb m0 hmq
            rw [if_neg (by simp), hmn, hmq, hRq, gp_oS]
            show ∃ M1, (if nI m0 ≤ nI (r + 1) then some (gz_w M 129 p (nI (gp_cs (gp_eW T l) (gp_Cb (gp_eW T l) j) p (q + 1)))) else some (gz_w (gz_w M 129 p (nI (gp_cs (gp_eW T l) (gp_Cb (gp_eW T l) j) p (q + 1)))) 130 p (nI (r + 1)))) = some M1 ∧ _ ∧ _ ∧ _ ∧ _ ∧ M1.1 130 p = gp_o (if r + 1 < m0 then some (r + 1) else some m0)
            by_cases hlt : r + 1 < m0
            · rw [if_neg (nI_ge hlt hm0), if_pos hlt]
              exact set
            · rw [if_pos (nI_le (by omega) (by omega)), if_neg hlt]
              refine ⟨_, rfl, ⟨rfl, fun c hc => by rw [gp_wc _ (by omega)]⟩, fun y hy => ⟨?_, ?_, ?_⟩, ?_, ?_, ?_⟩
              · rw [gp_gn (by omega)]
              · rw [gp_gn (by omega)]
              · rw [gp_gn (by omega)]
              · rw [gp_gn (by omega)]
              · rw [gp_gs]
              · rw [gp_gn (by omega), h130, hmq]
      obtain ⟨M1, a1, a2, a3, a4, a5, a6⟩ := add
      rw [a1, gp_eB, gp_eL, nI_1]
      obtain ⟨M', f1, f2, f3⟩ := ih n (q + 1) M1 (by omega) (by omega) (by omega) (fun y h1 h2 => by
        obtain ⟨u1, u2, u3⟩ := a3 y (by omega)
        rw [u1, u2, u3]
        exact hM y h1 h2) (by rw [a4, h128]) a5 a6
      exact ⟨M', f1, a2.trans f2, f3⟩
    · have hc : ¬ (p < q ∧ gp_eW T l p q = true) := fun h => he h.2
      rw [if_pos (show (gz_shr (nI (gp_eT T l p (j + 1))) (nI q) &&& (1 : Int32)) = (0 : Int32) by rw [hbit]; simpa using he), gp_eL, nI_1]
      exact ih n (q + 1) M (by omega) (by omega) (by omega) hM h128 (by rw [gp_cs, if_neg hc, Nat.add_zero]; exact h129) (by rw [gp_mn, if_neg hc]; exact h130)
theorem gp_dn_0 (n : Nat) : gp_dn (n + 1) 0 = nI n := by rw [gp_dn_s (by omega)]; rfl
theorem gp_make16 (hw : gp_wT T) (hij : i ≤ j) (hj : j ≤ l.length) (hl24 : l.length ≤ 24) : ∀ (d n t : Nat) (M : gz_M), t + d = j + 1 - i → d < n → gp_tC 11 M T → gp_lC 9 M l → gp_spC M T l j (j + 1 - t) → ∃ M', f9_make_16 11 9 n (nI i) (nI j) (gp_dn (j + 1) t) M = some M' ∧ gp_wL M M' ∧ gp_spC M' T l j i := by
  intro d
  induction d with
  | zero =>
    intro n t M ht hn hC hL hS
    obtain ⟨n, rfl⟩ : ∃ q, n = q + 1 := ⟨n - 1, by omega⟩
    have hti : j + 1 - t = i := by omega
    rw [hti] at hS
    refine ⟨M, ?_, ⟨rfl, fun _ _ => rfl⟩, hS⟩
    rw [f9_make_16, if_pos]
    apply Int32.lt_iff_toInt_lt.mpr
    unfold gp_dn
    rw [hti, gp_pI (by omega), nI_toInt (by omega)]
    omega
  | succ d ih =>
    intro n t M ht hn hC hL hS
    obtain ⟨n, rfl⟩ : ∃ q, n = q + 1 := ⟨n - 1, by omega⟩
    obtain ⟨p, hp⟩ : ∃ p, p = j - t := ⟨_, rfl⟩
    have hdn : gp_dn (j + 1) t = nI p := by rw [gp_dn_s (by omega)]; congr 1; omega
    have hdn2 : nI p + (-1) = gp_dn (j + 1) (t + 1) := by rw [← hdn, gp_dn_n (by omega)]
    rw [show j + 1 - t = p + 1 by omega] at hS
    rw [f9_make_16, hdn, if_neg (nI_nlt (by omega) (by omega)), gp_endsFrom hw hC hL (show p ≤ j by omega) hj, gp_eB2, gp_ckb (by omega) (by omega), gp_eL, nI_clamp (by omega)]
    -- the last place, and those ahead of it
    by_cases hpj : p = j
    · rw [if_pos (by rw [hpj])]
      subst hpj
      unfold f9_make_56
      rw [gp_ckb (by omega) (by omega), gp_eL, if_pos rfl, gp_ckb (by omega) (by omega), gp_eL, gp_eL, nI_1, nI_clamp (by omega)]
      obtain ⟨n', hn'⟩ : ∃ q, gz_FU = q + 1 := ⟨999999, rfl⟩
      rw [hn', f9_make_82, if_pos (nI_lt (by omega) (by omega)), gp_eL, hdn2]
      have w0 : gp_wL M (gz_w (gz_w (gz_w M 128 p (nI (gp_eT T l p (p + 1)))) 129 p 1) 130 p 0) := ⟨rfl, fun c hc => by rw [gp_wc _ (by omega), gp_wc _ (by omega), gp_wc _ (by omega)]⟩
      obtain ⟨M', f1, f2, f3⟩ := ih n (t + 1) _ (by omega) (by omega) (hC.fr (fun c c1 c2 => w0.2 c (by omega))) (hL.fr (fun c c1 c2 => w0.2 c (by omega))) (fun y h1 h2 => by
        have : y = p := by omega
        subst this
        rw [gp_gn (by omega), gp_gn (by omega), gp_gs, gp_gn (by omega), gp_gs, gp_gs, gp_Cb_j, gp_Rb_j]
        exact ⟨rfl, rfl, rfl⟩)
      exact ⟨M', f1, w0.trans f2, f3⟩
    · rw [if_neg (fun e => hpj ((nI_eq (by omega) (by omega)).mp e))]
      unfold f9_make_56
      rw [gp_ckb (by omega) (by omega), gp_eL, if_neg (fun e => hpj ((nI_eq (by omega) (by omega)).mp e)), gp_ckb (by omega) (by omega), gp_eL, gp_eL, nI_1, nI_clamp (by omega)]
      have w0 : gp_wL M (gz_w (gz_w (gz_w M 128 p (nI (gp_eT T l p (j + 1)))) 129 p 0) 130 p (-1)) := ⟨rfl, fun c hc => by rw [gp_wc _ (by omega), gp_wc _ (by omega), gp_wc _ (by omega)]⟩
      obtain ⟨M1, g1, g2, g3⟩ := gp_make82 (T := T) (l := l) (k0 := 11) (k1 := 9) (show j ≤ 24 by omega) (show p < j by omega) (f9_make_16 11 9 n) (nI i) (j - p) gz_FU (p + 1) (gz_w (gz_w (gz_w M 128 p (nI (gp_eT T l p (j + 1)))) 129 p 0) 130 p (-1)) (by omega) (by unfold gz_FU; omega) (by omega) (fun y h1 h2 => by
        rw [gp_gn (by omega), gp_gn (by omega), gp_gn (by omega), gp_gn (by omega), gp_gn (by omega), gp_gn (by omega), gp_gn (by omega), gp_gn (by omega), gp_gn (by omega)]
        exact hS y h1 h2) (by rw [gp_gn (by omega), gp_gn (by omega), gp_gs]) (by rw [gp_gn (by omega), gp_gs, gp_cs_0 _ (by omega)]; rfl) (by rw [gp_gs, gp_mn_0 _ (by omega)]; rfl)
      rw [g1, hdn2]
      have w1 := w0.trans g2
      obtain ⟨M', f1, f2, f3⟩ := ih n (t + 1) M1 (by omega) (by omega) (hC.fr (fun c c1 c2 => w1.2 c (by omega))) (hL.fr (fun c c1 c2 => w1.2 c (by omega))) (by rw [show j + 1 - (t + 1) = p by omega]; exact g3)
      exact ⟨M', f1, w1.trans f2, f3⟩
theorem gp_make9 (hw : gp_wT T) (hij : i ≤ j) (hj : j ≤ l.length) (hC : gp_tC 11 M T) (hL : gp_lC 9 M l) : ∃ M', f9_make 11 9 (nI i) (nI j) M = some M' ∧ gp_wL M M' ∧ gp_spC M' T l j i := by
  have h24 := hL.1
  unfold f9_make
  rw [if_neg (nI_pos (by omega)), if_pos (by exact nI_le (show j ≤ 24 by omega) (by decide))]
  obtain ⟨M', f1, f2, f3⟩ := gp_make16 (i := i) (j := j) hw hij hj h24 (j + 1 - i) gz_FU 0 M (by omega) (by unfold gz_FU; omega) hC hL (fun y h1 h2 => absurd h1 (by omega))
  rw [gp_dn_0] at f1
  exact ⟨M', f1, f2, f3⟩
end
end
