/-! questions about rules: 24 shortest, 26 overlap -/
/-- the signs by which an entry was come to, the last one first -/
def gp_pth (E : gp_E) : Nat → Nat → List Nat
  | 0, _ => []
  | d + 1, h => (E.getD h gp_e0).2.2 :: match (E.getD h gp_e0).2.1 with
    | none => []
    | some g => gp_pth E d g
section
variable {B : Prop} {k k0 k1 m S s x p cu i j nx : Nat} {M M' Mc Mr Mc' Mr' : gz_M} {T : gp_T} {l : List Nat} {E : gp_E}
theorem gp_pth_f (hE : gp_wE E) : ∀ (d h : Nat), h < d → h < E.length → (gp_pth E d h).length ≤ h + 1 ∧ 0 < (gp_pth E d h).length ∧ (∀ i, i < (gp_pth E d h).length → (gp_pth E d h).getD i 0 < 8) ∧ ∀ d', h < d' → gp_pth E d' h = gp_pth E d h
  | 0, h, hd, _ => absurd hd (by omega)
  | d + 1, h, hd, hh => by
    have hs := (hE.2 h hh).2.2.1
    have hg := (hE.2 h hh).2.2.2
    rw [gp_pth]
    cases hfr : (E.getD h gp_e0).2.1 with
    | none =>
      refine ⟨by simp, by simp, fun i hi => ?_, fun d' hd' => ?_⟩
      · have : i = 0 := by simp at hi; omega
        subst this
        simpa using hs
      · obtain ⟨d', rfl⟩ : ∃ q, d' = q + 1 := ⟨d' - 1, by omega⟩
        rw [gp_pth, hfr]
    | some g =>
      have hgh := hg g hfr
      obtain ⟨a1, a2, a3, a4⟩ := gp_pth_f hE d g (by omega) (by omega)
      refine ⟨by simp; omega, by simp, fun i hi => ?_, fun d' hd' => ?_⟩
      · cases i with
        | zero => simpa using hs
        | succ i => simpa using a3 i (by simp at hi; omega)
      · obtain ⟨d', rfl⟩ : ∃ q, d' = q + 1 := ⟨d' - 1, by omega⟩
        rw [gp_pth, hfr]
        dsimp only
        rw [a4 d' (by omega)]
theorem gp_low3 {f s : Nat} (hf : f < 1024) (hs : s < 8) : nI (8 * f + s) &&& 7 = nI s ∧ gz_shr (nI (8 * f + s)) 3 = nI f := by
  constructor
  · rw [show (7 : Int32) = nI 7 from rfl, gp_and]
    have h3 : (8 * f + s) &&& 7 = (8 * f + s) % 2 ^ 3 := Nat.and_two_pow_sub_one_eq_mod _ 3
    rw [h3]
    congr 1
    omega
  · rw [show (3 : Int32) = nI 3 from rfl, gp_shr (by omega) (by omega), Nat.shiftRight_eq_div_pow]
    congr 1
    omega
/-- the component's way back -/
theorem gp_trace (hE : gp_wE E) : ∀ (h n t : Nat) (M : gz_M), h < E.length → t + h < 1023 → h + 1 < n → gp_exC M E → ∃ M', f8_trace_7 n (nI t) (nI (E.getD h gp_e0).1) (nI t) M = some (nI (t + (gp_pth E 1024 h).length), M') ∧ M'.2 = M.2 ∧ (∀ c, c ≠ 126 → M'.1 c = M.1 c) ∧ (∀ i, i < t → M'.1 126 i = M.1 126 i) ∧ ∀ i, i < (gp_pth E 1024 h).length → M'.1 126 (t + i) = nI ((gp_pth E 1024 h).getD i 0) := by
  intro h
  induction h using Nat.strongRecOn with
  | ind h ih =>
    intro n t M hh ht hn hx
    have hlen := hE.len
    obtain ⟨n, rfl⟩ : ∃ q, n = q + 1 := ⟨n - 1, by omega⟩
    obtain ⟨b1, b2, b3, b4⟩ := hE.2 h hh
    have hv := (hx.2.1 h hh).2
    have hf : gp_frS E (E.getD h gp_e0).2.1 < 1024 := by
      cases hfr : (E.getD h gp_e0).2.1 with
      | none => show 0 < 1024; decide
      | some g => exact (hE.2 g (by have := b4 g hfr; omega)).2.1
    obtain ⟨l1, l2⟩ := gp_low3 hf b3
    have hlow : M.1 125 (E.getD h gp_e0).1 &&& 7 = nI (E.getD h gp_e0).2.2 := by rw [hv, l1]
    have e0 : f8_trace_7 (n + 1) (nI t) (nI (E.getD h gp_e0).1) (nI t) M = f8_trace_7 n (nI (t + 1)) (nI (gp_frS E (E.getD h gp_e0).2.1)) (nI (t + 1)) (gz_w M 126 t (nI (E.getD h gp_e0).2.2)) := by
      rw [f8_trace_7, if_neg (by exact nI_ge (show t < 1024 by omega) (by decide)), if_neg (by exact nI_nle (by omega) (by omega)), if_neg (by exact nI_ge b2 (by decide)), gp_ckb b2 (by omega), gp_ckb (by omega) (by omega), gp_eL, nI_clamp (by omega), nI_clamp (by omega), hlow, gp_ckb b2 (by omega), gp_gn (by omega), hv, l2, gp_eL, gp_eL, gp_eL, nI_1]
    rw [e0]
    have hp : gp_pth E 1024 h = (E.getD h gp_e0).2.2 :: match (E.getD h gp_e0).2.1 with
      | none => []
      | some g => gp_pth E 1023 g := rfl
    rw [hp]
    cases hfr : (E.getD h gp_e0).2.1 with
    | none =>
      obtain ⟨n, rfl⟩ : ∃ q, n = q + 1 := ⟨n - 1, by omega⟩
      have e1 : f8_trace_7 (n + 1) (nI (t + 1)) (nI (gp_frS E none)) (nI (t + 1)) (gz_w M 126 t (nI (E.getD h gp_e0).2.2)) = some (nI (t + 1), gz_w M 126 t (nI (E.getD h gp_e0).2.2)) := by
        rw [f8_trace_7, if_neg (by exact nI_ge (show t + 1 < 1024 by omega) (by decide)), show gp_frS E none = 0 from rfl, if_pos (show nI 0 ≤ 0 by decide)]
      rw [e1]
      refine ⟨_, rfl, rfl, fun c hc => gp_wc _ hc, fun i hi => gp_gn (by omega), fun i hi => ?_⟩
      have : i = 0 := by simp at hi; omega
      subst this
      rw [Nat.add_zero, gp_gs]
      rfl
    | some g =>
      have hg := b4 g hfr
      obtain ⟨M', f1, f2, f3, f4, f5⟩ := ih g hg n (t + 1) (gz_w M 126 t (nI (E.getD h gp_e0).2.2)) (by omega) (by omega) (by omega) (hx.fr (fun c c1 c2 => gp_wc _ (by omega)))
      have hpe : gp_pth E 1024 g = gp_pth E 1023 g := (gp_pth_f hE 1023 g (by omega) (by omega)).2.2.2 1024 (by omega)
      rw [hpe] at f1 f5
      refine ⟨M', ?_, f2, fun c hc => (f3 c hc).trans (gp_wc _ hc), fun i hi => (f4 i (by omega)).trans (gp_gn (by omega)), fun i hi => ?_⟩
      · have : t + 1 + (gp_pth E 1023 g).length = t + ((E.getD h gp_e0).2.2 :: gp_pth E 1023 g).length := by simp; omega
        rw [← this]
        exact f1
      · cases i with
        | zero =>
          rw [Nat.add_zero, f4 t (by omega), gp_gs]
          rfl
        | succ i =>
          have := f5 i (by simp at hi; omega)
          rw [show t + 1 + i = t + (i + 1) by omega] at this
          rw [this]
          simp
/-- the row told -/
def gp_prow (P : List Nat) (x : Nat) : Int64 := (nI (P.getD (P.length - 1 - x) 0)).toInt64
theorem gp_tellRowTo (hE : gp_wE E) {h : Nat} (hh : h < E.length) (hx : gp_exC M E) : ∃ M', f11_tellRowTo (nI (E.getD h gp_e0).1) M = some (nI (gp_pth E 1024 h).length, M') ∧ (∀ c, c ≠ 0 → c ≠ 126 → M'.1 c = M.1 c) ∧ (∀ i, i ≠ 15 → M'.1 0 i = M.1 0 i) ∧ gp_wC M' ((List.range (gp_pth E 1024 h).length).map (gp_prow (gp_pth E 1024 h))) := by
  have hlen := hE.len
  obtain ⟨M1, e1, e2, e3, e4, e5⟩ := gp_trace hE h gz_FU 0 M hh (by omega) (by unfold gz_FU; omega) hx
  obtain ⟨p1, p2, p3, p4⟩ := gp_pth_f hE 1024 h (by omega) hh
  rw [Nat.zero_add] at e1
  have e5 : ∀ i, i < (gp_pth E 1024 h).length → M1.1 126 i = nI ((gp_pth E 1024 h).getD i 0) := fun i hi => by have := e5 i hi; rwa [Nat.zero_add] at this
  generalize gp_pth E 1024 h = P at *
  have c : ∃ b, f11_tellRowTo_18 gz_FU (nI P.length) (gp_dn P.length 0) (gz_w M1 0 15 0) = some b ∧ ∃ M', b = (nI P.length, M') ∧ gp_fC M1 M' ∧ gp_wC M' ((List.range P.length).map (gp_prow P)) := by
    refine gp_for (fun n x (M2 : gz_M) => f11_tellRowTo_18 n (nI P.length) (gp_dn P.length x) M2) P.length (fun x M2 => gp_fC M1 M2 ∧ gp_wC M2 ((List.range x).map (gp_prow P))) _ (fun n M2 hI => ?_) (fun n x M2 hxx hI => Or.inr ?_) gz_FU 0 (gz_w M1 0 15 0) (by omega) (by unfold gz_FU; omega) ⟨(gp_wC0 M1).1, (gp_wC0 M1).2⟩
    · refine ⟨_, ?_, M2, rfl, hI.1, hI.2⟩
      show f11_tellRowTo_18 (n + 1) _ (gp_dn P.length P.length) M2 = _
      rw [f11_tellRowTo_18, gp_dn_e, if_pos (by decide)]
    · obtain ⟨i1, i2⟩ := hI
      obtain ⟨M3, g1, g2, g3⟩ := gp_tellC (gp_prow P x) i2 (by rw [List.length_map, List.length_range]; omega)
      refine ⟨M3, ?_, i1.trans g2, ?_⟩
      · show f11_tellRowTo_18 (n + 1) _ (gp_dn P.length x) M2 = f11_tellRowTo_18 n _ (gp_dn P.length (x + 1)) M3
        have e9 : (nI (P.getD (P.length - 1 - x) 0)).toInt64 = gp_prow P x := rfl
        rw [f11_tellRowTo_18, gp_dn_n hxx, gp_dn_s hxx, if_neg (nI_pos (by omega)), gp_ckb (by omega) (by omega), nI_clamp (by omega), i1.1 _ (by omega), e5 _ (by omega), e9, g1, gp_eB, gp_eL]
      · rw [List.range_succ, List.map_append]
        exact g3
  obtain ⟨_, c1, M', rfl, c2, c3⟩ := c
  refine ⟨M', ?_, fun c c1 c2' => (c2.1 c c1).trans (e3 c c2'), fun i hi => (c2.2 i hi).trans (by rw [e3 0 (by omega)]), c3⟩
  unfold f11_tellRowTo f8_trace
  have e1' : f8_trace_7 gz_FU 0 (nI (E.getD h gp_e0).1) 0 M = some (nI P.length, M1) := e1
  rw [e1', gp_eB2, gp_eL, gp_eL]
  exact c1
/-- the reference's way back -/
theorem gp_tellRow (hE : gp_wE E) : ∀ (h n t : Nat) (M : gz_M) (P : List Nat), h < E.length → t + h < 1023 → h + 1 < n → gp_exR M E → t + (gp_pth E 1024 h).length = P.length → (∀ i, i < P.length → P.getD i 0 < 8) → (∀ i, i < t → M.1 28 i = nI (P.getD i 0)) → (∀ i, i < (gp_pth E 1024 h).length → P.getD (t + i) 0 = (gp_pth E 1024 h).getD i 0) → ∃ M', f12_tellRow_4 n (nI t) (nI h) M = some (nI P.length, M') ∧ (∀ c, c ≠ 0 → c ≠ 28 → M'.1 c = M.1 c) ∧ (∀ i, i ≠ 4 → M'.1 0 i = M.1 0 i) ∧ (P.length ≤ 64 → gp_wR M' ((List.range P.length).map (gp_prow P))) ∧ (64 < P.length → M'.2 = M.2 ∧ M'.1 0 4 = M.1 0 4) := by
  -- the end: all signs are spelt
  have fin : ∀ (n : Nat) (M : gz_M) (P : List Nat), 0 < n → P.length < 1024 → (∀ i, i < P.length → P.getD i 0 < 8) → (∀ i, i < P.length → M.1 28 i = nI (P.getD i 0)) → ∃ M', f12_tellRow_4 n (nI P.length) (-1) M = some (nI P.length, M') ∧ (∀ c, c ≠ 0 → c ≠ 28 → M'.1 c = M.1 c) ∧ (∀ i, i ≠ 4 → M'.1 0 i = M.1 0 i) ∧ (P.length ≤ 64 → gp_wR M' ((List.range P.length).map (gp_prow P))) ∧ (64 < P.length → M'.2 = M.2 ∧ M'.1 0 4 = M.1 0 4) := by
    intro n M P hn hP h8 hM
    obtain ⟨n, rfl⟩ : ∃ q, n = q + 1 := ⟨n - 1, by omega⟩
    rw [f12_tellRow_4, if_pos rfl]
    by_cases h64 : P.length ≤ 64
    · rw [if_pos (by exact nI_le h64 (by decide)), gp_eL, gp_eL]
      have c : ∃ b, f12_tellRow_54 gz_FU (nI P.length) (gp_dn P.length 0) (gz_w M 0 4 0) = some b ∧ ∃ M', b = (nI P.length, M') ∧ gp_fR M M' ∧ gp_wR M' ((List.range P.length).map (gp_prow P)) := by
        refine gp_for (fun n x (M2 : gz_M) => f12_tellRow_54 n (nI P.length) (gp_dn P.length x) M2) P.length (fun x M2 => gp_fR M M2 ∧ gp_wR M2 ((List.range x).map (gp_prow P))) _ (fun n M2 hI => ?_) (fun n x M2 hxx hI => Or.inr ?_) gz_FU 0 (gz_w M 0 4 0) (by omega) (by unfold gz_FU; omega) ⟨(gp_wR0 M).1, (gp_wR0 M).2⟩
        · refine ⟨_, ?_, M2, rfl, hI.1, hI.2⟩
          show f12_tellRow_54 (n + 1) _ (gp_dn P.length P.length) M2 = _
          rw [f12_tellRow_54, gp_dn_e, if_pos (by decide)]
        · obtain ⟨i1, i2⟩ := hI
          obtain ⟨M3, g1, g2, g3⟩ := gp_tellR (gp_prow P x) i2 (by rw [List.length_map, List.length_range]; omega)
          refine ⟨M3, ?_, i1.trans g2, ?_⟩
          · show f12_tellRow_54 (n + 1) _ (gp_dn P.length x) M2 = f12_tellRow_54 n _ (gp_dn P.length (x + 1)) M3
            have e9 : (nI (P.getD (P.length - 1 - x) 0)).toInt64 = gp_prow P x := rfl
            rw [f12_tellRow_54, gp_dn_n hxx, gp_dn_s hxx, if_neg (nI_pos (by omega)), gp_ckb (by omega) (by omega), nI_clamp (by omega), i1.1 _ (by omega), hM _ (by omega), e9, g1, gp_eB, gp_eL]
          · rw [List.range_succ, List.map_append]
            exact g3
      obtain ⟨_, c1, M', rfl, c2, c3⟩ := c
      exact ⟨M', c1, fun c h1 h2 => c2.1 c h1, c2.2, fun _ => c3, fun h => absurd h (by omega)⟩
    · rw [if_neg (by exact nI_ge (show 64 < P.length by omega) (by omega))]
      exact ⟨M, rfl, fun _ _ _ => rfl, fun _ _ => rfl, fun h => absurd h h64, fun _ => ⟨rfl, rfl⟩⟩
  intro h
  induction h using Nat.strongRecOn with
  | ind h ih =>
    intro n t M P hh ht hn hx hP h8 hM hPi
    have hlen := hE.len
    obtain ⟨n, rfl⟩ : ∃ q, n = q + 1 := ⟨n - 1, by omega⟩
    obtain ⟨b1, b2, b3, b4⟩ := hE.2 h hh
    have hv := hx.2.1 h hh
    obtain ⟨p1, p2, p3, p4⟩ := gp_pth_f hE 1024 h (by omega) hh
    have e0 : f12_tellRow_4 (n + 1) (nI t) (nI h) M = f12_tellRow_4 n (nI (t + 1)) (gp_o (E.getD h gp_e0).2.1) (gz_w M 28 t (nI (E.getD h gp_e0).2.2)) := by
      rw [f12_tellRow_4, if_neg (by rw [gp_m1, gp_ne1 (by omega)]; exact id), gp_eL, nI_1, gp_ckb (by omega) (by omega), gp_ckb (by omega) (by omega), gp_eL, nI_clamp (by omega), nI_clamp (by omega), hv.2.2, gp_ckb (by omega) (by omega), gp_eL, gp_gn (by omega), hv.2.1]
    rw [e0]
    have hp : gp_pth E 1024 h = (E.getD h gp_e0).2.2 :: match (E.getD h gp_e0).2.1 with
      | none => []
      | some g => gp_pth E 1023 g := rfl
    have hP0 := hPi 0 p2
    rw [hp] at hP hPi hP0
    have hM1 : ∀ i, i < t + 1 → (gz_w M 28 t (nI (E.getD h gp_e0).2.2)).1 28 i = nI (P.getD i 0) := fun i hi => by
      by_cases hit : i = t
      · subst hit
        rw [Nat.add_zero] at hP0
        rw [gp_gs, hP0]
        rfl
      · rw [gp_gn (by omega)]
        exact hM i (by omega)
    cases hfr : (E.getD h gp_e0).2.1 with
    | none =>
      rw [hfr] at hP
      have hPl : P.length = t + 1 := by rw [← hP]; rfl
      obtain ⟨M', f1, f2, f3, f4, f5⟩ := fin n (gz_w M 28 t (nI (E.getD h gp_e0).2.2)) P (by omega) (by omega) h8 (fun i hi => hM1 i (by omega))
      rw [hPl] at f1
      refine ⟨M', by rw [hPl]; exact f1, fun c c1 c2 => (f2 c c1 c2).trans (gp_wc _ c2), fun i hi => (f3 i hi).trans (gp_gn (by omega)), f4, fun h => ⟨(f5 h).1, (f5 h).2.trans (gp_gn (by omega))⟩⟩
    | some g =>
      have hg := b4 g hfr
      have hpe : gp_pth E 1024 g = gp_pth E 1023 g := (gp_pth_f hE 1023 g (by omega) (by omega)).2.2.2 1024 (by omega)
      rw [hfr] at hP hPi
      obtain ⟨M', f1, f2, f3, f4, f5⟩ := ih g hg n (t + 1) (gz_w M 28 t (nI (E.getD h gp_e0).2.2)) P (by omega) (by omega) (by omega) (hx.fr (fun c c1 c2 => gp_wc _ (by omega)) (gp_gn (by omega))) (by rw [hpe, ← hP]; simp; omega) h8 hM1 (fun i hi => by
        rw [hpe] at hi ⊢
        have := hPi (i + 1) (by simp; omega)
        rw [show t + 1 + i = t + (i + 1) by omega, this]
        simp)
      exact ⟨M', f1, fun c c1 c2 => (f2 c c1 c2).trans (gp_wc _ c2), fun i hi => (f3 i hi).trans (gp_gn (by omega)), f4, fun h => ⟨(f5 h).1, (f5 h).2.trans (gp_gn (by omega))⟩⟩
end
