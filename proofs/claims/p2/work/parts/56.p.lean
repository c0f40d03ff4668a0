/-! questions about tokens: 11 modes, 12 holds, 17 readers, 29 touched, 10 token -/
section
variable {B : Prop} {k k0 k1 m S s x p cu : Nat} {M M' Mc Mr Mc' Mr' : gz_M} {T : gp_T} {l : List Nat} {ts : List gp_K} {r : List Int64}
theorem gp_enc_at : ∀ (i : Nat) {stk : List Nat}, (∀ d, d ∈ stk → d < 4) → i < stk.length → (gp_enc stk >>> (2 * i)) % 4 = stk.getD i 0
  | _, [], _, h => absurd h (by simp)
  | 0, d :: t, h, _ => by
    have := h d List.mem_cons_self
    simp [gp_enc]
    omega
  | i + 1, d :: t, h, hi => by
    have h1 := h d List.mem_cons_self
    have h2 := gp_enc_at i (stk := t) (fun x hx => h x (List.mem_cons_of_mem _ hx)) (by simp at hi; omega)
    have e : 2 * (i + 1) = 2 + 2 * i := by omega
    rw [e, Nat.shiftRight_add]
    have e2 : gp_enc (d :: t) >>> 2 = gp_enc t := by
      rw [Nat.shiftRight_eq_div_pow, gp_enc]
      omega
    rw [e2, h2]
    simp
def gp_dn (n x : Nat) : Int32 := nI (n - x) - 1
theorem gp_dn_s {n x : Nat} (h : x < n) : gp_dn n x = nI (n - 1 - x) := by
  unfold gp_dn
  obtain ⟨q, e⟩ : ∃ q, n - x = q + 1 := ⟨n - x - 1, by omega⟩
  rw [e, nI_pred]
  congr 1
  omega
theorem gp_dn_n {n x : Nat} (h : x < n) : gp_dn n x + (-1) = gp_dn n (x + 1) := by
  rw [gp_dn_s h]
  unfold gp_dn
  rw [Int32.sub_eq_add_neg]
  congr 2
  omega
theorem gp_dn_e (n : Nat) : gp_dn n n = -1 := by
  unfold gp_dn
  rw [Nat.sub_self]
  rfl
def gp_mdT (stk : List Nat) (x : Nat) : Int64 := (nI (stk.getD (stk.length - 1 - x) 0)).toInt64
theorem gp_modesC {stk : List Nat} (hs : gp_sk stk) (M : gz_M) : ∃ M', f11_modes_56 (nI stk.length) (nI (gp_enc stk)) M = some (nI stk.length, M') ∧ gp_fC M M' ∧ gp_wC M' ((List.range stk.length).map (gp_mdT stk)) := by
  have h5 := hs.2.1
  have hlt := hs.lt
  have c : ∃ b, f11_modes_67 gz_FU (nI stk.length) (nI (gp_enc stk)) (gp_dn stk.length 0) (gz_w M 0 15 0) = some b ∧ ∃ M', b = (nI stk.length, M') ∧ gp_fC M M' ∧ gp_wC M' ((List.range stk.length).map (gp_mdT stk)) := by
    refine gp_for (fun n x (M : gz_M) => f11_modes_67 n (nI stk.length) (nI (gp_enc stk)) (gp_dn stk.length x) M) stk.length (fun x M1 => gp_fC M M1 ∧ gp_wC M1 ((List.range x).map (gp_mdT stk))) _ (fun n M1 hI => ?_) (fun n x M1 hx hI => Or.inr ?_) gz_FU 0 _ (by omega) (by unfold gz_FU; omega) ⟨(gp_wC0 M).1, (gp_wC0 M).2⟩
    · refine ⟨_, ?_, M1, rfl, hI.1, hI.2⟩
      show f11_modes_67 (n + 1) _ _ (gp_dn stk.length stk.length) M1 = _
      rw [f11_modes_67, gp_dn_e, if_pos (by decide)]
    · obtain ⟨M2, f1, f2, f3⟩ := gp_tellC (gp_mdT stk x) hI.2 (by rw [List.length_map, List.length_range]; omega)
      refine ⟨M2, ?_, hI.1.trans f2, ?_⟩
      · show f11_modes_67 (n + 1) _ _ (gp_dn stk.length x) M1 = f11_modes_67 n _ _ (gp_dn stk.length (x + 1)) M2
        have e3 : gz_shr (nI (gp_enc stk)) (2 * nI (stk.length - 1 - x)) &&& 3 = nI (stk.getD (stk.length - 1 - x) 0) := by
          rw [show (2 : Int32) = nI 2 from rfl, pk_mul, gp_shr (by omega) (by omega), gp_and3, gp_enc_at _ hs.2.2 (by omega)]
        rw [f11_modes_67, gp_dn_n hx |>.symm, gp_dn_s hx, if_neg (nI_pos (by omega)), e3]
        have : (nI (stk.getD (stk.length - 1 - x) 0)).toInt64 = gp_mdT stk x := rfl
        rw [this, f1, gp_eB, gp_eL]
      · rw [List.range_succ, List.map_append]
        exact f3
  obtain ⟨_, c1, M', rfl, c2, c3⟩ := c
  refine ⟨M', ?_, c2, c3⟩
  unfold f11_modes_56
  rw [gp_eL, gp_eL]
  exact c1
theorem gp_a11 (h : gp_Q B cu Mc Mr T l) (a : Int32) : gp_ans B cu Mc Mr (f11_modes a Mc) (f12_modes a Mr) := by
  have hq := h
  obtain ⟨h1, h2, h3, h4, h5, h6, h7, h8⟩ := h
  have hlen := h6.2.2.2
  have hcu := h6.1
  have hok := gp_cut_ok (l := l) h1
  have h42 : l.length ≤ 24 := h4.1
  obtain ⟨M1, e1, e2, e3, e4, e5, e6, e7, e8, _⟩ := gp_cutT hq
  generalize hts : gp_cut T l = ts at *
  rcases gp_ixm a (n := ts.length) (by omega) with ha | ha | ha | ⟨j, hj, rfl⟩
  · refine gp_ansK (v := -2) (Mc' := Mc) (Mr' := M1) ?_ ?_ gp_qC.refl e2 h8 rfl rfl e7 e8
    · unfold f11_modes; rw [if_pos ha]
    · unfold f12_modes; rw [gp_eL, e1, gp_eB, gp_inm0 _ _ ha]; rfl
  · subst ha
    obtain ⟨Mc', f1, f2, f3⟩ := gp_modesC gp_sk0 Mc
    obtain ⟨M2, g1, g2, g3⟩ := gp_tellR 0 (gp_wR0 M1).2 (by simp)
    refine gp_ansI (v := nI 1) ?_ ?_ (f2.qq (by omega)) (e2.trans ((gp_wR0 M1).1.trans g2).qq) f3 g3 (by simp)
    · unfold f11_modes f11_modes_37
      rw [if_neg (by decide), h6.2.1, h6.2.2.1.1, if_pos (by rw [gp_m1, gp_nolt2 (by omega)]; trivial), if_pos rfl, if_pos rfl]
      exact f1
    · unfold f12_modes
      rw [gp_eL, e1, gp_eB, e3.1, gp_inmn _ (by omega), gp_eB2, if_neg (by decide), gp_eL, if_pos rfl, g1, gp_eB]
      show f12_modes_44 (999999 + 1) (-1) 0 M2 = _
      rw [f12_modes_44, if_pos rfl, g3.1]
      rfl
  · have hge : ¬ a < -1 := by
      intro hlt
      have a1 := Int32.le_iff_toInt_le.mp ha
      have a2 := Int32.lt_iff_toInt_lt.mp hlt
      rw [nI_toInt (by omega)] at a1
      rw [show ((-1 : Int32)).toInt = -1 by decide] at a2
      omega
    refine gp_ansK (v := -2) (Mc' := Mc) (Mr' := M1) ?_ ?_ gp_qC.refl e2 h8 rfl rfl e7 e8
    · unfold f11_modes
      rw [if_neg hge, h6.2.1, h6.2.2.1.1, if_neg (fun hh => by
        have a1 := Int32.le_iff_toInt_le.mp ha
        have a2 := Int32.lt_iff_toInt_lt.mp hh
        omega)]
    · unfold f12_modes; rw [gp_eL, e1, gp_eB, e3.1, gp_inm0b _ (by omega) ha]; rfl
  · have hk := hok _ (gp_getD_mem (d := gp_k0) hj)
    have hv := h6.2.2.1.2.2 j hj
    have hsk := hk.2.2.2.2.2.2.2
    have hsk5 := hsk.2.1
    have hne : ¬ nI j = -1 := by rw [gp_m1, gp_ne1 (by omega)]; exact id
    obtain ⟨Mc', f1, f2, f3⟩ := gp_modesC hsk Mc
    have rr : ∃ b, f12_modes_44 gz_FU (nI j) (nI 0) (gz_w M1 0 4 0) = some b ∧ ∃ M', b = (nI (ts.getD j gp_k0).2.2.2.2.2.2.length, M') ∧ gp_fR M1 M' ∧ gp_wR M' ((List.range (ts.getD j gp_k0).2.2.2.2.2.2.length).map (gp_mdT (ts.getD j gp_k0).2.2.2.2.2.2)) := by
      refine gp_for (fun n x (M : gz_M) => f12_modes_44 n (nI j) (nI x) M) (ts.getD j gp_k0).2.2.2.2.2.2.length (fun x M => gp_fR M1 M ∧ gp_wR M ((List.range x).map (gp_mdT (ts.getD j gp_k0).2.2.2.2.2.2))) _ (fun n M hI => ?_) (fun n x M hx hI => Or.inr ?_) gz_FU 0 _ (by omega) (by unfold gz_FU; omega) ⟨(gp_wR0 M1).1, (gp_wR0 M1).2⟩
      · have hW := e3.fr hI.1
        refine ⟨_, ?_, M, rfl, hI.1, hI.2⟩
        show f12_modes_44 (n + 1) (nI j) (nI (ts.getD j gp_k0).2.2.2.2.2.2.length) M = _
        rw [f12_modes_44, if_neg hne, (gp_ofK hW hlen hj).2.2.2.2.2.1, gp_eB2, if_pos (nI_le (Nat.le_refl _) (by omega)), hI.2.1, List.length_map, List.length_range]
      · have hW := e3.fr hI.1
        obtain ⟨M2, g1, g2, g3⟩ := gp_tellR (gp_mdT (ts.getD j gp_k0).2.2.2.2.2.2 x) hI.2 (by rw [List.length_map, List.length_range]; omega)
        refine ⟨M2, ?_, hI.1.trans g2, ?_⟩
        · show f12_modes_44 (n + 1) (nI j) (nI x) M = f12_modes_44 n (nI j) (nI (x + 1)) M2
          have h8 := (hW.2.2 j hj).2.2.2.2.2.2.2 x (by omega)
          rw [if_pos hx, show 12 * j + 7 + x = 12 * j + (7 + x) by omega] at h8
          have e9 : (nI (List.getD (ts.getD j gp_k0).2.2.2.2.2.2 ((ts.getD j gp_k0).2.2.2.2.2.2.length - 1 - x) 0)).toInt64 = gp_mdT (ts.getD j gp_k0).2.2.2.2.2.2 x := rfl
          rw [f12_modes_44, if_neg hne, (gp_ofK hW hlen hj).2.2.2.2.2.1, gp_eB2, if_neg (nI_ge hx (by omega)), show (7 : Int32) = nI 7 from rfl, nI_add, gp_of hW hlen hj (by omega), h8, gp_eB2, e9, g1, gp_eB, gp_eL, nI_1]
        · rw [List.range_succ, List.map_append]
          exact g3
    obtain ⟨_, r1, Mr', rfl, r2, r3⟩ := rr
    refine gp_ansI ?_ ?_ (f2.qq (by omega)) (e2.trans r2.qq) f3 r3 (by rw [List.length_map, List.length_range]; omega) (v := nI (ts.getD j gp_k0).2.2.2.2.2.2.length)
    · unfold f11_modes f11_modes_37
      rw [if_neg (by rw [gp_m1, gp_nolt (by omega)]; exact id), h6.2.1, h6.2.2.1.1, if_pos (nI_lt hj (by omega)), if_neg hne, gp_ckb (by omega) (by omega), if_neg hne, gp_ckb (by omega) (by omega), nI_clamp (by omega), hv.2.2.2.2.2.2.1, hv.2.2.2.2.2.2.2]
      exact f1
    · unfold f12_modes
      rw [gp_eL, e1, gp_eB, e3.1, gp_inm1 _ (by omega) hj, gp_eB2, if_neg (by decide), gp_eL, if_neg hne]
      exact r1
end
