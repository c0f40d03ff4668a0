/-! questions about tokens: 12 holds, 17 readers, 29 touched, 10 token -/
def gp_ansX {V : Type} (B : Prop) (cu : Nat) (Mc Mr : gz_M) (a : Option (Option V × gz_M)) (b : Option (V × gz_M)) : Prop := ∃ o v Mc' Mr', a = some (o, Mc') ∧ b = some (v, Mr') ∧ ((o = none ∧ Mr'.1 0 5 = 1) ∨ (o = some v ∧ Mr'.1 0 5 = 0)) ∧ gp_qC cu Mc Mc' ∧ gp_qR Mr Mr' ∧ gp_rw B Mc' Mr'
section
variable {B : Prop} {k k0 k1 m S s x p cu : Nat} {M M' Mc Mr Mc' Mr' : gz_M} {T : gp_T} {l : List Nat} {ts : List gp_K} {r : List Int64}
/-- tokens lie one behind another, from p on, up to the end -/
def gp_ch (l : List Nat) (p : Nat) (ts : List gp_K) : Prop := (∀ i, i < ts.length → (ts.getD i gp_k0).2.1 = if i = 0 then p else (ts.getD (i - 1) gp_k0).2.2.1) ∧ (if ts.length = 0 then l.length ≤ p else l.length ≤ (ts.getD (ts.length - 1) gp_k0).2.2.1)
theorem gp_cutF_ch (hw : gp_wT T) : ∀ (n p : Nat) (stk : List Nat), gp_sk stk → l.length ≤ p + n → gp_ch l p (gp_cutF T l n p stk)
  | 0, p, stk, hs, hn => ⟨fun i hi => absurd hi (by simp [gp_cutF]), by simp [gp_cutF]; omega⟩
  | n + 1, p, stk, hs, hn => by
    rw [gp_cutF]
    split
    · rename_i hp
      have hok := gp_tok_ok (T := T) hw hp hs
      have hf : (gp_tok T l p stk).2.1 = p := rfl
      generalize gp_tok T l p stk = t at *
      obtain ⟨h1, h2⟩ := gp_cutF_ch hw n t.2.2.1 t.2.2.2.2.2.2 hok.2.2.2.2.2.2.2 (by have := hok.1; omega)
      generalize gp_cutF T l n t.2.2.1 t.2.2.2.2.2.2 = ts at *
      refine ⟨fun i hi => ?_, ?_⟩
      · cases i with
        | zero => simpa using hf
        | succ i =>
          have := h1 i (by simp at hi; omega)
          cases i with
          | zero => simpa using this
          | succ i => simpa using this
      · rw [if_neg (by simp)]
        cases ts with
        | nil => simpa using h2
        | cons t' ts' => simpa using h2
    · exact ⟨fun i hi => absurd hi (by simp), by simp; omega⟩
theorem gp_cut_ch (hw : gp_wT T) (hl : l.length ≤ 24) : gp_ch l 0 (gp_cut T l) := gp_cutF_ch hw 24 0 [0] gp_sk0 (by omega)
/-- the last token ends behind each place -/
theorem gp_ch_last (h : gp_ch l 0 ts) (hp : p < l.length) : 0 < ts.length ∧ p < (ts.getD (ts.length - 1) gp_k0).2.2.1 := by
  have h2 := h.2
  split at h2
  · omega
  · exact ⟨by omega, by omega⟩
/-! promise 12: holds -/
theorem gp_a12 (h : gp_Q B cu Mc Mr T l) (a : Int32) : gp_ans B cu Mc Mr (f11_holds a Mc) (f12_holds a Mr) := by
  have hq := h
  obtain ⟨h1, h2, h3, h4, h5, h6, h7, h8⟩ := h
  have hlen := h6.2.2.2
  have hcu := h6.1
  have hok := gp_cut_ok (l := l) h1
  have h42 : l.length ≤ 24 := h4.1
  have hch := gp_cut_ch (T := T) h1 h42
  obtain ⟨M1, e1, e2, e3, e4, e5, e6, e7, e8, _⟩ := gp_cutT hq
  generalize hts : gp_cut T l = ts at *
  have h81 : (gz_w Mr 0 5 0).1 1 81 = nI l.length := by rw [gp_gn (by omega)]; exact h5.2.1
  have out : ∀ M : gz_M, (∀ i, i < ts.length → a < nI (ts.getD i gp_k0).2.1 ∨ nI (ts.getD i gp_k0).2.2.1 ≤ a) → gp_cW cu M ts → f2_holder cu a M = some (-1, M) := by
    intro M hh hW
    have c : f2_holder_2 cu gz_FU a (nI 0) M = some (-1, M) := by
      refine gp_forU (fun n x => f2_holder_2 cu n a (nI x) M) ts.length _ (fun n => ?_) (fun n x hx => ?_) gz_FU (by unfold gz_FU; omega)
      · show f2_holder_2 cu (n + 1) a (nI ts.length) M = _
        rw [f2_holder_2, hW.2.2.1.1, if_pos (nI_le (Nat.le_refl _) (by omega))]
      · show f2_holder_2 cu (n + 1) a (nI x) M = f2_holder_2 cu n a (nI (x + 1)) M
        have hv := hW.2.2.1.2.2 x hx
        rw [f2_holder_2, hW.2.2.1.1, if_neg (nI_ge hx (by omega)), gp_ckb (by omega) (by omega), nI_clamp (by omega), hv.2.1, hv.2.2.1, gp_ckb (by omega) (by omega)]
        by_cases h1 : a < nI (ts.getD x gp_k0).2.1
        · rw [if_pos h1, gp_eL, nI_1]
        · rw [if_neg h1, if_pos ((hh x hx).resolve_left h1), gp_eL, nI_1]
    exact c
  rcases pk_ix a (n := l.length) (by omega) with ha | ha | ⟨j, hj, rfl⟩
  · refine gp_ansN hq (-1) ?_ ?_
    · unfold f11_holds
      rw [h6.2.1, out Mc (fun i hi => Or.inl (Int32.lt_of_lt_of_le ha (nI_pos' (by have h := (hok _ (gp_getD_mem (d := gp_k0) hi)); have h1 := h.1; have h2 := h.2.1; have h3 := h.2.2.1; omega)))) h6, gp_eB2]
    · unfold f12_holds
      rw [gp_eL, gp_c81, gp_k81, h81, gp_in0 _ _ ha]; rfl
  · have h0 : ¬ a < 0 := by
      intro hlt
      have a1 := Int32.le_iff_toInt_le.mp ha
      have a2 := Int32.lt_iff_toInt_lt.mp hlt
      rw [nI_toInt (by omega)] at a1
      rw [show ((0 : Int32)).toInt = 0 by decide] at a2
      omega
    refine gp_ansN hq (-1) ?_ ?_
    · unfold f11_holds
      rw [h6.2.1, out Mc (fun i hi => Or.inr (Int32.le_trans (nI_le (by have := (hok _ (gp_getD_mem (d := gp_k0) hi)); have h1 := this.2.1; have h2 := this.2.2.1; omega) (by omega)) ha)) h6, gp_eB2]
    · unfold f12_holds
      rw [gp_eL, gp_c81, gp_k81, h81, gp_in0b _ (by omega) h0 ha]; rfl
  · obtain ⟨hl0, hlast⟩ := gp_ch_last hch hj
    obtain ⟨kk, hk1, hk2⟩ := pk_least (fun i => i < ts.length ∧ j < (ts.getD i gp_k0).2.2.1) ⟨ts.length - 1, by omega, hlast⟩
    have hbefore : ∀ i, i < kk → (ts.getD i gp_k0).2.2.1 ≤ j := fun i hi => by
      have := hk2 i hi
      have : ¬ j < (ts.getD i gp_k0).2.2.1 := fun h => this ⟨by omega, h⟩
      omega
    have hbnd : ∀ i, i < ts.length → (ts.getD i gp_k0).2.1 < 2 ^ 31 ∧ (ts.getD i gp_k0).2.2.1 < 2 ^ 31 := fun i hi => by
      have := hok _ (gp_getD_mem (d := gp_k0) hi)
      have a1 := this.1
      have a2 := this.2.1
      have a3 := this.2.2.1
      omega
    have hfirst : (ts.getD kk gp_k0).2.1 ≤ j := by
      have := hch.1 kk hk1.1
      split at this
      · omega
      · have := hbefore (kk - 1) (by omega)
        omega
    have c1 : f2_holder_2 cu gz_FU (nI j) (nI 0) Mc = some (nI kk, Mc) := by
      refine gp_forU (fun n x => f2_holder_2 cu n (nI j) (nI x) Mc) kk _ (fun n => ?_) (fun n x hx => ?_) gz_FU (by unfold gz_FU; omega)
      · show f2_holder_2 cu (n + 1) (nI j) (nI kk) Mc = _
        have hv := h6.2.2.1.2.2 kk hk1.1
        have hb := hbnd kk hk1.1
        rw [f2_holder_2, h6.2.2.1.1, if_neg (nI_ge hk1.1 (by omega)), gp_ckb (by omega) (by omega), nI_clamp (by omega), hv.2.1, hv.2.2.1, if_neg (nI_nlt hfirst (by omega)), gp_ckb (by omega) (by omega), if_neg (nI_ge hk1.2 (by omega))]
      · show f2_holder_2 cu (n + 1) (nI j) (nI x) Mc = f2_holder_2 cu n (nI j) (nI (x + 1)) Mc
        have hxl : x < ts.length := by omega
        have hv := h6.2.2.1.2.2 x hxl
        rw [f2_holder_2, h6.2.2.1.1, if_neg (nI_ge hxl (by omega)), gp_ckb (by omega) (by omega), nI_clamp (by omega), hv.2.1, hv.2.2.1, gp_ckb (by omega) (by omega), if_pos (nI_le (hbefore x hx) (by omega)), gp_eL, nI_1, ite_self]
    have r1 : f12_holds_31 gz_FU (nI j) (nI 0) M1 = some (nI kk, M1) := by
      refine gp_forU (fun n x => f12_holds_31 n (nI j) (nI x) M1) kk _ (fun n => ?_) (fun n x hx => ?_) gz_FU (by unfold gz_FU; omega)
      · show f12_holds_31 (n + 1) (nI j) (nI kk) M1 = _
        have hb := hbnd kk hk1.1
        rw [f12_holds_31, (gp_ofK e3 hlen hk1.1).2.2.1, gp_eB2, if_pos (nI_lt hk1.2 (by omega))]
      · show f12_holds_31 (n + 1) (nI j) (nI x) M1 = f12_holds_31 n (nI j) (nI (x + 1)) M1
        rw [f12_holds_31, (gp_ofK e3 hlen (by omega)).2.2.1, gp_eB2, if_neg (nI_nlt (hbefore x hx) (by omega)), gp_eL, nI_1]
    refine gp_ansK (v := nI kk) (Mc' := Mc) (Mr' := M1) ?_ ?_ gp_qC.refl e2 h8 rfl rfl e7 e8
    · unfold f11_holds f2_holder
      rw [h6.2.1]
      have c1' : f2_holder_2 cu gz_FU (nI j) 0 Mc = _ := c1
      rw [c1', gp_eB2]
    · unfold f12_holds
      rw [gp_eL, gp_c81, gp_k81, h81, gp_in1 _ (by omega) hj, gp_eB2, if_neg (by decide), e1]
      exact r1
end
