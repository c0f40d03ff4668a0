/-! questions about tokens: 17 readers, 29 touched, 10 token -/
section
variable {B : Prop} {k k0 k1 m S s x p cu : Nat} {M M' Mc Mr Mc' Mr' : gz_M} {T : gp_T} {l : List Nat} {ts : List gp_K} {r : List Int64}
theorem gp_has {M : gz_M} (h : gp_lC k1 M l) (a : Int32) : (a < 0 ∧ f5_has k1 a M = some (0, M)) ∨ (¬ a < 0 ∧ nI l.length ≤ a ∧ f5_has k1 a M = some (0, M)) ∨ ∃ j, j < l.length ∧ a = nI j ∧ f5_has k1 a M = some (1, M) := by
  have h24 := h.1
  rcases pk_ix a (n := l.length) (by omega) with ha | ha | ⟨j, hj, rfl⟩
  · left
    refine ⟨ha, ?_⟩
    unfold f5_has
    rw [if_pos ha]
  · right; left
    have h0 : ¬ a < 0 := by
      intro hlt
      have a1 := Int32.le_iff_toInt_le.mp ha
      have a2 := Int32.lt_iff_toInt_lt.mp hlt
      rw [nI_toInt (by omega)] at a1
      rw [show ((0 : Int32)).toInt = 0 by decide] at a2
      omega
    refine ⟨h0, ha, ?_⟩
    unfold f5_has
    rw [if_neg h0, h.2.1, if_pos ha]
  · right; right
    refine ⟨j, hj, rfl, ?_⟩
    unfold f5_has
    rw [if_neg (nI_pos (by omega)), h.2.1, if_neg (nI_ge hj (by omega))]
/-! promise 17: readers -/
def gp_rdT (p : Nat) (ts : List gp_K) (x : Nat) : Nat × Option Nat × Nat := (List.range x).foldl (fun a i => if (ts.getD i gp_k0).2.1 ≤ p ∧ p < (ts.getD i gp_k0).2.2.2.1 then (a.1 + 1, some (a.2.1.getD i), a.2.2 + if p < (ts.getD i gp_k0).2.2.1 then 1 else 0) else a) (0, none, 0)
theorem gp_rdT_s (p : Nat) (ts : List gp_K) (x : Nat) : gp_rdT p ts (x + 1) = if (ts.getD x gp_k0).2.1 ≤ p ∧ p < (ts.getD x gp_k0).2.2.2.1 then ((gp_rdT p ts x).1 + 1, some ((gp_rdT p ts x).2.1.getD x), (gp_rdT p ts x).2.2 + if p < (ts.getD x gp_k0).2.2.1 then 1 else 0) else gp_rdT p ts x := by
  unfold gp_rdT
  rw [List.range_succ, List.foldl_append]
  rfl
theorem gp_rdT_b (p : Nat) (ts : List gp_K) : ∀ x, ∀ j, (gp_rdT p ts x).2.1 = some j → j < x
  | 0, j, h => by cases h
  | x + 1, j, h => by
    rw [gp_rdT_s] at h
    split at h
    · dsimp only at h
      cases e : (gp_rdT p ts x).2.1 with
      | none => rw [e] at h; simp at h; omega
      | some i =>
        rw [e] at h
        simp at h
        have := gp_rdT_b p ts x i e
        omega
    · have := gp_rdT_b p ts x j h
      omega
theorem gp_oD {o : Option Nat} {α : Type} (h : ∀ j, o = some j → j < 2 ^ 31) (i : Nat) (f : Int32 → α) : (if gp_o o = -1 then f (nI i) else f (gp_o o)) = f (gp_o (some (o.getD i))) := by
  rw [gp_itO h]
  cases o <;> rfl
theorem gp_a17 (h : gp_Q B cu Mc Mr T l) (a : Int32) : gp_ans B cu Mc Mr (f11_readers a Mc) (f12_readers a Mr) := by
  have hq := h
  obtain ⟨h1, h2, h3, h4, h5, h6, h7, h8⟩ := h
  have hlen := h6.2.2.2
  have hcu := h6.1
  have hok := gp_cut_ok (l := l) h1
  have h42 : l.length ≤ 24 := h4.1
  obtain ⟨M1, e1, e2, e3, e4, e5, e6, e7, e8, _⟩ := gp_cutT hq
  generalize hts : gp_cut T l = ts at *
  have h81 : (gz_w Mr 0 5 0).1 1 81 = nI l.length := by rw [gp_gn (by omega)]; exact h5.2.1
  rcases gp_has h4 a with ⟨ha, hf⟩ | ⟨ha, hb, hf⟩ | ⟨j, hj, rfl, hf⟩
  · refine gp_ansN hq (-1) ?_ ?_
    · unfold f11_readers; rw [hf]; rfl
    · unfold f12_readers; rw [gp_eL, gp_c81, gp_k81, h81, gp_in0 _ _ ha]; rfl
  · refine gp_ansN hq (-1) ?_ ?_
    · unfold f11_readers; rw [hf]; rfl
    · unfold f12_readers; rw [gp_eL, gp_c81, gp_k81, h81, gp_in0b _ (by omega) ha hb]; rfl
  · have c : ∃ b, f11_readers_26 gz_FU (nI j) (nI 0) (gp_o none) (nI 0) (nI 0) Mc = some b ∧ ∃ M', b = (nI (gp_rdT j ts ts.length).1, M') ∧ gp_fC Mc M' ∧ gp_wC M' [(gp_o (gp_rdT j ts ts.length).2.1).toInt64, (nI (gp_rdT j ts ts.length).2.2).toInt64] := by
      refine gp_for (fun n x (a : Int32 × Int32 × Int32) => f11_readers_26 n (nI j) a.1 a.2.1 a.2.2 (nI x) Mc) ts.length (fun x a => a = (nI (gp_rdT j ts x).1, gp_o (gp_rdT j ts x).2.1, nI (gp_rdT j ts x).2.2)) _ (fun n a hI => ?_) (fun n x a hx hI => Or.inr ?_) gz_FU 0 (nI 0, gp_o none, nI 0) (by omega) (by unfold gz_FU; omega) rfl
      · subst hI
        obtain ⟨M2, f1, f2, f3⟩ := gp_tellC (gp_o (gp_rdT j ts ts.length).2.1).toInt64 (gp_wC0 Mc).2 (by simp)
        obtain ⟨M3, g1, g2, g3⟩ := gp_tellC (nI (gp_rdT j ts ts.length).2.2).toInt64 f3 (by simp)
        refine ⟨_, ?_, M3, rfl, ((gp_wC0 Mc).1.trans f2).trans g2, g3⟩
        show f11_readers_26 (n + 1) _ _ _ _ (nI ts.length) _ = _
        rw [f11_readers_26, h6.2.1, h6.2.2.1.1, if_pos (nI_le (Nat.le_refl _) (by omega)), gp_eL, f1, gp_eB, g1, gp_eB]
      · subst hI
        have hv := h6.2.2.1.2.2 x hx
        have hk := hok _ (gp_getD_mem (d := gp_k0) hx)
        have b1 := hk.1
        have b2 := hk.2.1
        have b3 := hk.2.2.1
        refine ⟨_, ?_, rfl⟩
        show f11_readers_26 (n + 1) _ _ _ _ (nI x) _ = f11_readers_26 n _ _ _ _ (nI (x + 1)) _
        rw [f11_readers_26, h6.2.1, h6.2.2.1.1, if_neg (nI_ge hx (by omega)), gp_ckb (by omega) (by omega), nI_clamp (by omega), hv.2.1, gp_rdT_s]
        by_cases hc1 : (ts.getD x gp_k0).2.1 ≤ j
        · by_cases hc2 : j < (ts.getD x gp_k0).2.2.2.1
          · have hcc : (ts.getD x gp_k0).2.1 ≤ j ∧ j < (ts.getD x gp_k0).2.2.2.1 := ⟨hc1, hc2⟩
            have e80 : ∀ s0 : Int32, f11_readers_80 (f11_readers_26 n) (nI j) (nI ((gp_rdT j ts x).1 + 1)) (nI (gp_rdT j ts x).2.2) (nI x) s0 Mc = f11_readers_26 n (nI j) (nI ((gp_rdT j ts x).1 + 1)) s0 (nI ((gp_rdT j ts x).2.2 + if j < (ts.getD x gp_k0).2.2.1 then 1 else 0)) (nI (x + 1)) Mc := by
              intro s0
              unfold f11_readers_80
              rw [h6.2.1, gp_ckb (by omega) (by omega), nI_clamp (by omega), hv.2.2.1]
              by_cases hc3 : j < (ts.getD x gp_k0).2.2.1
              · rw [if_neg (nI_ge hc3 (by omega)), if_pos hc3, gp_eL, gp_eL, nI_1, nI_1]
              · rw [if_pos (nI_le (by omega) (by omega)), if_neg hc3, gp_eL, gp_eL, nI_1, gp_add0]
                rfl
            rw [if_neg (nI_nlt hc1 (by omega)), gp_ckb (by omega) (by omega), hv.2.2.2.1, if_neg (nI_ge hc2 (by omega)), gp_eL, nI_1, if_pos hcc]
            simp only [e80]
            exact gp_oD (fun i hi => by have := gp_rdT_b j ts x i hi; omega) x (fun s0 => f11_readers_26 n (nI j) (nI ((gp_rdT j ts x).1 + 1)) s0 (nI ((gp_rdT j ts x).2.2 + if j < (ts.getD x gp_k0).2.2.1 then 1 else 0)) (nI (x + 1)) Mc)
          · rw [if_neg (nI_nlt hc1 (by omega)), gp_ckb (by omega) (by omega), hv.2.2.2.1, if_pos (nI_le (by omega) (by omega)), gp_eL, nI_1, if_neg (fun h => hc2 h.2)]
        · rw [if_pos (nI_lt (by omega) (by omega)), gp_eL, nI_1, if_neg (fun h => hc1 h.1)]
    have rr : ∃ b, f12_readers_39 gz_FU (nI j) (nI 0) (gp_o none) (nI 0) (nI 0) M1 = some b ∧ ∃ M', b = (nI (gp_rdT j ts ts.length).1, M') ∧ gp_fR M1 M' ∧ gp_wR M' [(gp_o (gp_rdT j ts ts.length).2.1).toInt64, (nI (gp_rdT j ts ts.length).2.2).toInt64] := by
      refine gp_for (fun n x (a : Int32 × Int32 × Int32) => f12_readers_39 n (nI j) a.1 a.2.1 a.2.2 (nI x) M1) ts.length (fun x a => a = (nI (gp_rdT j ts x).1, gp_o (gp_rdT j ts x).2.1, nI (gp_rdT j ts x).2.2)) _ (fun n a hI => ?_) (fun n x a hx hI => Or.inr ?_) gz_FU 0 (nI 0, gp_o none, nI 0) (by omega) (by unfold gz_FU; omega) rfl
      · subst hI
        obtain ⟨M2, f1, f2, f3⟩ := gp_tellR (gp_o (gp_rdT j ts ts.length).2.1).toInt64 (gp_wR0 M1).2 (by simp)
        obtain ⟨M3, g1, g2, g3⟩ := gp_tellR (nI (gp_rdT j ts ts.length).2.2).toInt64 f3 (by simp)
        refine ⟨_, ?_, M3, rfl, ((gp_wR0 M1).1.trans f2).trans g2, g3⟩
        show f12_readers_39 (n + 1) _ _ _ _ (nI ts.length) _ = _
        rw [f12_readers_39, e3.1, if_pos (nI_le (Nat.le_refl _) (by omega)), gp_eL, f1, gp_eB, g1, gp_eB]
      · subst hI
        have hv := gp_ofK e3 hlen hx
        have hk := hok _ (gp_getD_mem (d := gp_k0) hx)
        have b1 := hk.1
        have b2 := hk.2.1
        have b3 := hk.2.2.1
        refine ⟨_, ?_, rfl⟩
        show f12_readers_39 (n + 1) _ _ _ _ (nI x) _ = f12_readers_39 n _ _ _ _ (nI (x + 1)) _
        rw [f12_readers_39, e3.1, if_neg (nI_ge hx (by omega)), hv.2.1, gp_eB2, gp_rdT_s]
        have hmin : gz_min (nI (if (ts.getD x gp_k0).2.2.2.2.1.isSome = true then (ts.getD x gp_k0).2.2.2.1 else (ts.getD x gp_k0).2.2.2.1 + 1)) (nI l.length) = nI (ts.getD x gp_k0).2.2.2.1 := by
          rw [gp_min (by split <;> omega) (by omega)]
          congr 1
          split
          · omega
          · rename_i hn
            have := hk.2.2.2.2.2.1 (by simpa using hn)
            omega
        by_cases hc1 : (ts.getD x gp_k0).2.1 ≤ j
        · rw [if_neg (nI_nlt hc1 (by omega)), hv.2.2.2.1, gp_eB2, gp_c81, gp_k81, e5.2.1, hmin]
          by_cases hc2 : j < (ts.getD x gp_k0).2.2.2.1
          · have hcc : (ts.getD x gp_k0).2.1 ≤ j ∧ j < (ts.getD x gp_k0).2.2.2.1 := ⟨hc1, hc2⟩
            have e94 : ∀ s0 : Int32, f12_readers_94 (f12_readers_39 n) (nI j) (nI (gp_rdT j ts x).1) (nI (gp_rdT j ts x).2.2) (nI x) s0 M1 = f12_readers_39 n (nI j) (nI ((gp_rdT j ts x).1 + 1)) s0 (nI ((gp_rdT j ts x).2.2 + if j < (ts.getD x gp_k0).2.2.1 then 1 else 0)) (nI (x + 1)) M1 := by
              intro s0
              unfold f12_readers_94
              rw [gp_eL, nI_1, hv.2.2.1, gp_eB2]
              by_cases hc3 : j < (ts.getD x gp_k0).2.2.1
              · rw [if_neg (nI_ge hc3 (by omega)), if_pos hc3, gp_eL, gp_eL, nI_1, nI_1]
              · rw [if_pos (nI_le (by omega) (by omega)), if_neg hc3, gp_eL, gp_eL, nI_1, gp_add0]
                rfl
            rw [if_pos (nI_lt hc2 (by omega)), if_pos hcc]
            simp only [e94]
            exact gp_oD (fun i hi => by have := gp_rdT_b j ts x i hi; omega) x (fun s0 => f12_readers_39 n (nI j) (nI ((gp_rdT j ts x).1 + 1)) s0 (nI ((gp_rdT j ts x).2.2 + if j < (ts.getD x gp_k0).2.2.1 then 1 else 0)) (nI (x + 1)) M1)
          · rw [if_neg (nI_nlt (by omega) (by omega)), gp_eL, nI_1, if_neg (fun h => hc2 h.2)]
        · rw [if_pos (nI_lt (by omega) (by omega)), gp_eL, nI_1, if_neg (fun h => hc1 h.1)]
    obtain ⟨_, c1, Mc', rfl, c2, c3⟩ := c
    obtain ⟨_, r1, Mr', rfl, r2, r3⟩ := rr
    refine gp_ansI ?_ ?_ (c2.qq (by omega)) (e2.trans r2.qq) c3 r3 (by simp) (v := nI (gp_rdT j ts ts.length).1)
    · unfold f11_readers
      rw [hf, gp_eB2, if_neg (by decide)]
      exact c1
    · unfold f12_readers
      rw [gp_eL, gp_c81, gp_k81, h81, gp_in1 _ (by omega) hj, gp_eB2, if_neg (by decide), e1, gp_eB]
      exact r1
/-! promise 29: touched -/
def gp_rch (t : gp_K) : Nat := if t.2.2.2.2.1.isSome = true then t.2.2.2.1 else t.2.2.2.1 + 1
theorem gp_reachC (h : gp_cC k M ts) (hlen : ts.length ≤ 24) {n : Nat} (hok : ∀ t, t ∈ ts → gp_tkOk T n t) (hn : n ≤ 24) (hx : x < ts.length) : f2_reach k (nI x) M = some (nI (gp_rch (ts.getD x gp_k0)), M) := by
  have hv := h.2.2 x hx
  have hk := hok _ (gp_getD_mem (d := gp_k0) hx)
  have b3 := hk.2.2.1
  unfold f2_reach
  rw [if_neg (nI_pos (by omega)), h.1, if_pos (nI_lt hx (by omega)), gp_ckb (by omega) (by omega), nI_clamp (by omega), hv.2.2.2.2.1, gp_itO (fun j hj => by have := (hk.2.2.2.2.1 j hj).1; omega), gp_ckb (by omega) (by omega), gp_ckb (by omega) (by omega), hv.2.2.2.1, nI_1]
  unfold gp_rch
  cases (ts.getD x gp_k0).2.2.2.2.1 <;> rfl
/-- how many of the first tokens a change at q doesn't reach -/
def gp_ahd (q : Nat) : List gp_K → Nat
  | [] => 0
  | t :: ts => if gp_rch t ≤ q then gp_ahd q ts + 1 else 0
theorem gp_ahd_f (q : Nat) : ∀ ts : List gp_K, gp_ahd q ts ≤ ts.length ∧ (∀ i, i < gp_ahd q ts → gp_rch (ts.getD i gp_k0) ≤ q) ∧ (gp_ahd q ts < ts.length → q < gp_rch (ts.getD (gp_ahd q ts) gp_k0))
  | [] => by simp [gp_ahd]
  | t :: ts => by
    obtain ⟨h1, h2, h3⟩ := gp_ahd_f q ts
    rw [gp_ahd]
    split
    · rename_i h
      refine ⟨by simp; omega, fun i hi => ?_, fun hl => ?_⟩
      · cases i with
        | zero => simpa using h
        | succ i => simpa using h2 i (by omega)
      · simpa using h3 (by simp at hl; omega)
    · exact ⟨by omega, fun i hi => absurd hi (by omega), fun _ => by simp; omega⟩
theorem gp_rch_lt {n : Nat} {t : gp_K} (h : gp_tkOk T n t) (hn : n ≤ 24) : gp_rch t ≤ 25 := by
  have := h.2.2.1
  unfold gp_rch
  split <;> omega
theorem gp_aheadC (h : gp_cC k M ts) (hlen : ts.length ≤ 24) {n : Nat} (hok : ∀ t, t ∈ ts → gp_tkOk T n t) (hn : n ≤ 24) {q : Nat} (hq : q < 2 ^ 30) : f2_aheadOf k (nI q) M = some (nI (gp_ahd q ts), M) := by
  obtain ⟨a1, a2, a3⟩ := gp_ahd_f q ts
  have c : f2_aheadOf_4 k (999999 + 1) (nI q) (nI 0) (nI 0) M = some (nI (gp_ahd q ts), M) := by
    refine gp_forU (fun n x => f2_aheadOf_4 k (n + 1) (nI q) (nI x) (nI x) M) (gp_ahd q ts) _ (fun n => ?_) (fun n x hx => ?_) 999999 (by omega)
    · show f2_aheadOf_4 k (n + 1 + 1) (nI q) (nI (gp_ahd q ts)) (nI (gp_ahd q ts)) M = _
      rw [f2_aheadOf_4, h.1]
      by_cases hl : gp_ahd q ts < ts.length
      · have b := gp_rch_lt (hok _ (gp_getD_mem (d := gp_k0) hl)) hn
        rw [if_neg (nI_ge hl (by omega)), if_pos rfl, gp_reachC h hlen hok hn hl, gp_eB2, if_pos (nI_lt (a3 hl) (by omega)), gp_eL, gp_eL, nI_1, f2_aheadOf_4, h.1, gp_add0]
        split
        · rfl
        · rw [if_neg (fun e => by have := (nI_eq (by omega) (by omega)).mp e; omega)]
      · rw [if_pos (nI_le (by omega) (by omega))]
    · show f2_aheadOf_4 k (n + 1 + 1) (nI q) (nI x) (nI x) M = f2_aheadOf_4 k (n + 1) (nI q) (nI (x + 1)) (nI (x + 1)) M
      rw [f2_aheadOf_4, h.1, if_neg (nI_ge (by omega) (by omega)), if_pos rfl, gp_reachC h hlen hok hn (by omega), gp_eB2, if_neg (nI_nlt (a2 x hx) (by omega)), gp_eL, gp_eL, nI_1]
  exact c
theorem gp_a29 (h : gp_Q B cu Mc Mr T l) (a : Int32) : gp_ans B cu Mc Mr (f11_touched a Mc) (f12_touched a Mr) := by
  have hq := h
  obtain ⟨h1, h2, h3, h4, h5, h6, h7, h8⟩ := h
  have hlen := h6.2.2.2
  have hcu := h6.1
  have hok := gp_cut_ok (l := l) h1
  have h42 : l.length ≤ 24 := h4.1
  have hch := gp_cut_ch (T := T) h1 h42
  obtain ⟨M1, e1, e2, e3, e4, e5, e6, e7, e8, _⟩ := gp_cutT hq
  generalize hts : gp_cut T l = ts at *
  have h81 : (gz_w Mr 0 5 0).1 1 81 = nI l.length := by rw [gp_gn (by omega)]; exact h5.2.1
  rcases gp_has h4 a with ⟨ha, hf⟩ | ⟨ha, hb, hf⟩ | ⟨j, hj, rfl, hf⟩
  · refine gp_ansN hq (-1) ?_ ?_
    · unfold f11_touched; rw [hf]; rfl
    · unfold f12_touched; rw [gp_eL, gp_c81, gp_k81, h81, gp_in0 _ _ ha]; rfl
  · refine gp_ansN hq (-1) ?_ ?_
    · unfold f11_touched; rw [hf]; rfl
    · unfold f12_touched; rw [gp_eL, gp_c81, gp_k81, h81, gp_in0b _ (by omega) ha hb]; rfl
  · obtain ⟨hl0, hlast⟩ := gp_ch_last hch hj
    obtain ⟨a1, a2, a3⟩ := gp_ahd_f j ts
    have hlt : gp_ahd j ts < ts.length := by
      apply Classical.byContradiction
      intro hn
      have b1 := a2 (ts.length - 1) (by omega)
      have b2 := (hok _ (gp_getD_mem (d := gp_k0) (show ts.length - 1 < ts.length by omega))).2.1
      unfold gp_rch at b1
      split at b1 <;> omega
    have hv := h6.2.2.1.2.2 _ hlt
    obtain ⟨M2, f1, f2, f3⟩ := gp_tellC (nI (gp_ahd j ts)).toInt64 (gp_wC0 Mc).2 (by simp)
    have hW1 := h6.fr (gp_wC0 Mc).1
    have hW2 := hW1.fr f2
    obtain ⟨M3, g1, g2, g3⟩ := gp_tellC (nI (ts.getD (gp_ahd j ts) gp_k0).2.1).toInt64 f3 (by simp)
    have hW3 := hW2.fr g2
    obtain ⟨N2, i1, i2, i3⟩ := gp_tellR (nI (gp_ahd j ts)).toInt64 (gp_wR0 M1).2 (by simp)
    have hN1 := e3.fr (gp_wR0 M1).1
    have hN2 := hN1.fr i2
    obtain ⟨N3, j1, j2, j3⟩ := gp_tellR (nI (ts.getD (gp_ahd j ts) gp_k0).2.1).toInt64 i3 (by simp)
    have hN3 := hN2.fr j2
    refine gp_ansI (v := nI (ts.length - gp_ahd j ts)) ?_ ?_ ((((gp_wC0 Mc).1.trans f2).trans g2).qq (by omega)) (e2.trans ((((gp_wR0 M1).1.trans i2).trans j2).qq)) g3 j3 (by simp)
    · unfold f11_touched
      rw [hf, gp_eB2, if_neg (by decide), h6.2.1, gp_aheadC h6.2.2.1 hlen hok h42 (by omega), gp_eB2, gp_eL, f1, gp_eB, hW2.2.1, hW2.2.2.1.1, if_neg (nI_ge hlt (by omega)), gp_ckb (by omega) (by omega), nI_clamp (by omega), (hW2.2.2.1.2.2 _ hlt).2.1]
      unfold f11_touched_72
      rw [g1, gp_eB, hW3.2.1, hW3.2.2.1.1, pk_sub (by omega)]
    · have rr : f12_touched_31 gz_FU (nI j) (nI 0) M1 = some (nI (ts.length - gp_ahd j ts), N3) := by
        refine gp_forU (fun n x => f12_touched_31 n (nI j) (nI x) M1) (gp_ahd j ts) _ (fun n => ?_) (fun n x hx => ?_) gz_FU (by unfold gz_FU; omega)
        · show f12_touched_31 (n + 1) (nI j) (nI (gp_ahd j ts)) M1 = _
          have b := gp_rch_lt (hok _ (gp_getD_mem (d := gp_k0) hlt)) h42
          have a3' := a3 hlt
          unfold gp_rch at a3' b
          rw [f12_touched_31, (gp_ofK e3 hlen hlt).2.2.2.1, gp_eB2, if_pos (nI_lt a3' (by omega)), gp_eL, i1, gp_eB, (gp_ofK hN2 hlen hlt).2.1, gp_eB2, j1, gp_eB, hN3.1, pk_sub (by omega)]
        · show f12_touched_31 (n + 1) (nI j) (nI x) M1 = f12_touched_31 n (nI j) (nI (x + 1)) M1
          have a2' := a2 x hx
          unfold gp_rch at a2'
          rw [f12_touched_31, (gp_ofK e3 hlen (by omega)).2.2.2.1, gp_eB2, if_neg (nI_nlt a2' (by omega)), gp_eL, nI_1]
      unfold f12_touched
      rw [gp_eL, gp_c81, gp_k81, h81, gp_in1 _ (by omega) hj, gp_eB2, if_neg (by decide), e1, gp_eB]
      exact rr
/-! promise 10: token -/
theorem gp_a10 (h : gp_Q B cu Mc Mr T l) (a w : Int32) : gp_ansX B cu Mc Mr (f11_token a w Mc) (f12_token a w Mr) := by
  have hq := h
  obtain ⟨h1, h2, h3, h4, h5, h6, h7, h8⟩ := h
  have hlen := h6.2.2.2
  have hcu := h6.1
  have hok := gp_cut_ok (l := l) h1
  have h42 : l.length ≤ 24 := h4.1
  obtain ⟨M1, e1, e2, e3, e4, e5, e6, e7, e8, _⟩ := gp_cutT hq
  generalize hts : gp_cut T l = ts at *
  obtain ⟨r, r', p0, p1, p2, p3, p4⟩ := h8
  have none' : f11_token a w Mc = some (none, Mc) → f12_token a w Mr = some (0, gz_w M1 0 5 1) → gp_ansX B cu Mc Mr (f11_token a w Mc) (f12_token a w Mr) := fun g1 g2 =>
    ⟨none, 0, Mc, _, g1, g2, Or.inl ⟨rfl, gp_gs _ _ _ _⟩, gp_qC.refl, e2.trans (gp_thr 1).1, r, r', p0, p1, p2, p3.fr e7 ((gp_gn (by omega)).trans e8), p4⟩
  have some' : ∀ v, f11_token a w Mc = some (some v, Mc) → f12_token a w Mr = some (v, M1) → gp_ansX B cu Mc Mr (f11_token a w Mc) (f12_token a w Mr) := fun v g1 g2 =>
    ⟨some v, v, Mc, M1, g1, g2, Or.inr ⟨rfl, e6⟩, gp_qC.refl, e2, r, r', p0, p1, p2, p3.fr e7 e8, p4⟩
  rcases pk_ix a (n := ts.length) (by omega) with ha | ha | ⟨j, hj, rfl⟩
  · refine none' ?_ ?_
    · unfold f11_token; rw [if_pos ha]; rfl
    · unfold f12_token; rw [gp_eL, e1, gp_eB, gp_in0 _ _ ha]; rfl
  · have h0 : ¬ a < 0 := by
      intro hlt
      have a1 := Int32.le_iff_toInt_le.mp ha
      have a2 := Int32.lt_iff_toInt_lt.mp hlt
      rw [nI_toInt (by omega)] at a1
      rw [show ((0 : Int32)).toInt = 0 by decide] at a2
      omega
    refine none' ?_ ?_
    · unfold f11_token
      rw [if_neg h0, h6.2.1, h6.2.2.1.1, if_neg (fun hh => by
        have a1 := Int32.le_iff_toInt_le.mp ha
        have a2 := Int32.lt_iff_toInt_lt.mp hh
        omega)]; rfl
    · unfold f12_token; rw [gp_eL, e1, gp_eB, e3.1, gp_in0b _ (by omega) h0 ha]; rfl
  · have c0 : f11_token (nI j) w Mc = (if w.toInt < 0 ∨ 5 < w.toInt then (some (none, Mc)) else if w = 0 then (gz_ck (gz_inb (nI j) 24) <| some (some (Mc.1 (cu + 1) (nI j).toNatClampNeg), Mc)) else if w = 1 then (gz_ck (gz_inb (nI j) 24) <| some (some (Mc.1 (cu + 2) (nI j).toNatClampNeg), Mc)) else if w = 2 then (gz_ck (gz_inb (nI j) 24) <| some (some (Mc.1 (cu + 3) (nI j).toNatClampNeg), Mc)) else if w = 3 then (gz_bd2 (f2_reach cu (nI j) Mc) fun v11 M12 => some (some v11, M12)) else if w = 4 then (gz_ck (gz_inb (nI j) 24) <| some (some (Mc.1 (cu + 6) (nI j).toNatClampNeg), Mc)) else if w = 5 then (gz_ck (gz_inb (nI j) 24) <| some (some (Mc.1 (cu + 7) (nI j).toNatClampNeg), Mc)) else none) := by
      unfold f11_token
      rw [if_neg (nI_pos (by omega)), h6.2.1, h6.2.2.1.1, if_pos (nI_lt hj (by omega))]
    have r0 : f12_token (nI j) w Mr = (gz_bd2 (f12_in w 0 5 M1) fun v8 M9 => if v8 = 0 then (f12_token_42 M9) else (gz_bd2 (f12_of (nI j) w M9) fun v12 M13 => some (v12, M13))) := by
      unfold f12_token
      rw [gp_eL, e1, gp_eB, e3.1, gp_in1 _ (by omega) hj, gp_eB2, if_neg (by decide)]
    have hv := h6.2.2.1.2.2 j hj
    have ho := gp_ofK e3 hlen hj
    rw [gp_ckb (by omega) (by omega), gp_ckb (by omega) (by omega), gp_ckb (by omega) (by omega), gp_ckb (by omega) (by omega), gp_ckb (by omega) (by omega), nI_clamp (by omega), gp_reachC h6.2.2.1 hlen hok h42 hj, gp_eB2, hv.1, hv.2.1, hv.2.2.1, hv.2.2.2.2.2.1, hv.2.2.2.2.2.2.1] at c0
    rw [show (5 : Int32) = nI 6 - 1 by decide] at r0
    rcases pk_ix w (n := 6) (by omega) with hw | hw | ⟨i, hi, rfl⟩
    · refine none' ?_ ?_
      · rw [c0, if_pos]
        left
        have := Int32.lt_iff_toInt_lt.mp hw
        rwa [show ((0 : Int32)).toInt = 0 by decide] at this
      · rw [r0, gp_in0 _ _ hw]; rfl
    · have h0 : ¬ w < 0 := by
        intro hlt
        have a1 := Int32.le_iff_toInt_le.mp hw
        have a2 := Int32.lt_iff_toInt_lt.mp hlt
        rw [nI_toInt (by omega)] at a1
        rw [show ((0 : Int32)).toInt = 0 by decide] at a2
        omega
      refine none' ?_ ?_
      · rw [c0, if_pos]
        right
        have := Int32.le_iff_toInt_le.mp hw
        rw [nI_toInt (by omega)] at this
        omega
      · rw [r0, gp_in0b _ (by omega) h0 hw]; rfl
    · rw [gp_in1 _ (by omega) hi, gp_eB2, if_neg (by decide)] at r0
      rw [nI_toInt (by omega), if_neg (by omega)] at c0
      have hc : i = 0 ∨ i = 1 ∨ i = 2 ∨ i = 3 ∨ i = 4 ∨ i = 5 := by omega
      rcases hc with rfl | rfl | rfl | rfl | rfl | rfl
      · refine some' _ c0 ?_
        rw [r0, show nI 0 = 0 from rfl, ho.1, gp_eB2]
      · refine some' _ c0 ?_
        rw [r0, show nI 1 = 1 from rfl, ho.2.1, gp_eB2]
      · refine some' _ c0 ?_
        rw [r0, show nI 2 = 2 from rfl, ho.2.2.1, gp_eB2]
      · refine some' _ c0 ?_
        rw [r0, show nI 3 = 3 from rfl, ho.2.2.2.1, gp_eB2]
        rfl
      · refine some' _ c0 ?_
        rw [r0, show nI 4 = 4 from rfl, ho.2.2.2.2.1, gp_eB2]
      · refine some' _ c0 ?_
        rw [r0, show nI 5 = 5 from rfl, ho.2.2.2.2.2.1, gp_eB2]
end
