/-! all standings that can be come to: the reference -/
section
variable {B : Prop} {k k0 k1 m S s x p cu i j nx : Nat} {M M' Mc Mr Mc' Mr' : gz_M} {T : gp_T} {l : List Nat} {E : gp_E} {fr : Option Nat}
/-- what the search of the reference leaves -/
def gp_sLR (M M' : gz_M) : Prop := M'.2 = M.2 ∧ (∀ c, c ≠ 0 → c < 24 ∨ 28 ≤ c → M'.1 c = M.1 c) ∧ ∀ i, i ≠ 44 → M'.1 0 i = M.1 0 i
theorem gp_sLR.refl (M : gz_M) : gp_sLR M M := ⟨rfl, fun _ _ _ => rfl, fun _ _ => rfl⟩
theorem gp_sLR.trans {M1 M2 M3 : gz_M} (a : gp_sLR M1 M2) (b : gp_sLR M2 M3) : gp_sLR M1 M3 := ⟨b.1.trans a.1, fun c h1 h2 => (b.2.1 c h1 h2).trans (a.2.1 c h1 h2), fun i h => (b.2.2 i h).trans (a.2.2 i h)⟩
theorem gp_sLR.t (h : gp_sLR M M') (ht : gp_tR M T) : gp_tR M' T := ht.fr (fun c c1 c2 => h.2.1 c (by omega) (by omega)) (h.2.2 _ (by omega))
theorem gp_find (hE : gp_wE E) (hx : gp_exR M E) (hS : S < 1024) (hs : s < 8) (hf : ∀ g, fr = some g → g < E.length) : ∃ M', f12_find (nI S) (gp_o fr) (nI s) M = some M' ∧ gp_sLR M M' ∧ gp_exR M' (gp_fnd E S fr s) := by
  have hlen := hE.len
  unfold f12_find gp_fnd
  by_cases hz : S = 0
  · rw [if_pos (by rw [hz]; rfl), if_pos (Or.inl hz)]
    exact ⟨M, rfl, gp_sLR.refl M, hx⟩
  · rw [if_neg (show ¬ nI S = (0 : Int32) from fun e => hz ((nI_eq (b := 0) (by omega) (by omega)).mp e)), gp_ckb hS (by omega), nI_clamp (by omega)]
    by_cases hm : S ∈ E.map (fun e => e.1)
    · rw [(hx.2.2 S hS).1 hm, if_neg (by decide), if_pos (Or.inr hm)]
      exact ⟨M, rfl, gp_sLR.refl M, hx⟩
    · rw [(hx.2.2 S hS).2 hm, if_pos rfl, if_neg (by rintro (h | h); exact hz h; exact hm h), gp_ckb hS (by omega), gp_eL, gp_gn (by omega), hx.1, gp_ckb (by omega) (by omega), gp_eL, nI_clamp (by omega)]
      rw [gp_gn (by omega), gp_gn (by omega), hx.1, gp_ckb (by omega) (by omega), gp_eL, nI_clamp (by omega), gp_gn (by omega), gp_gn (by omega), gp_gn (by omega), hx.1, gp_ckb (by omega) (by omega), gp_eL, nI_clamp (by omega), gp_gn (by omega), gp_gn (by omega), gp_gn (by omega), gp_gn (by omega), hx.1, gp_eL, nI_1]
      refine ⟨_, rfl, ⟨rfl, fun c c1 c2 => ?_, fun i hi => ?_⟩, ?_, fun i hi => ?_, fun S' hS' => ?_⟩
      · rw [gp_wc _ c1, gp_wc _ (by omega), gp_wc _ (by omega), gp_wc _ (by omega), gp_wc _ (by omega)]
      · rw [gp_gn (by omega), gp_gn (by omega), gp_gn (by omega), gp_gn (by omega), gp_gn (by omega)]
      · rw [gp_gs, List.length_append]
        rfl
      · rw [List.length_append, List.length_singleton] at hi
        by_cases hi1 : i < E.length
        · rw [gp_getD_l hi1, gp_gn (by omega), gp_gn (by omega), gp_gn (by omega), gp_gn (by omega), gp_gn (by omega), gp_gn (by omega), gp_gn (by omega), gp_gn (by omega), gp_gn (by omega), gp_gn (by omega), gp_gn (by omega), gp_gn (by omega), gp_gn (by omega), gp_gn (by omega), gp_gn (by omega)]
          exact hx.2.1 i hi1
        · have : i = E.length := by omega
          subst this
          rw [gp_getD_r]
          refine ⟨?_, ?_, ?_⟩
          · rw [gp_gn (by omega), gp_gn (by omega), gp_gn (by omega), gp_gs]
          · rw [gp_gn (by omega), gp_gn (by omega), gp_gs]
          · rw [gp_gn (by omega), gp_gs]
      · rw [gp_gn (by omega), gp_gn (by omega), gp_gn (by omega), gp_gn (by omega), List.map_append, List.mem_append]
        by_cases hy : S' = S
        · subst hy
          rw [gp_gs]
          exact ⟨fun _ => by decide, fun h => absurd (Or.inr (by simp)) h⟩
        · rw [gp_gn (by omega)]
          refine ⟨fun h => (hx.2.2 S' hS').1 ?_, fun h => (hx.2.2 S' hS').2 (fun h' => h (Or.inl h'))⟩
          rcases h with h | h
          · exact h
          · simp at h
            exact absurd h hy
def gp_wEm (T : gp_T) (m : Nat) (E : gp_E) : Prop := ∀ i, i < E.length → (E.getD i gp_e0).1 < 2 ^ T.2.2 7 m
theorem gp_fnd_get {i : Nat} (h : i < E.length) : (gp_fnd E S fr s).getD i gp_e0 = E.getD i gp_e0 := by
  unfold gp_fnd
  split
  · rfl
  · exact gp_getD_l h
theorem gp_spr_get {i : Nat} (h : i < E.length) : ∀ x, E.length ≤ (gp_spr T m nx fr E x).length ∧ (gp_spr T m nx fr E x).getD i gp_e0 = E.getD i gp_e0
  | 0 => ⟨Nat.le_refl _, rfl⟩
  | x + 1 => by
    obtain ⟨h1, h2⟩ := gp_spr_get h x
    have := gp_fnd_len (gp_spr T m nx fr E x) (nx &&& T.2.2 (15 + m) x) x fr
    refine ⟨Nat.le_trans h1 this, ?_⟩
    rw [← h2]
    exact gp_fnd_get (by omega)
theorem gp_wEm.spr (hw : gp_wT T) (hm : m < 4) (h : gp_wEm T m E) : ∀ x, x ≤ 8 → gp_wEm T m (gp_spr T m nx fr E x)
  | 0, _ => h
  | x + 1, hx => by
    have ih := gp_wEm.spr hw hm h x (by omega)
    intro i hi
    have hi : i < (gp_fnd (gp_spr T m nx fr E x) (nx &&& T.2.2 (15 + m) x) fr x).length := hi
    show ((gp_fnd (gp_spr T m nx fr E x) (nx &&& T.2.2 (15 + m) x) fr x).getD i gp_e0).1 < _
    by_cases h1 : i < (gp_spr T m nx fr E x).length
    · rw [gp_fnd_get h1]
      exact ih i h1
    · unfold gp_fnd at hi ⊢
      split
      · rename_i hc
        rw [if_pos hc] at hi
        exact absurd hi h1
      · rename_i hc
        rw [if_neg hc, List.length_append, List.length_singleton] at hi
        have : i = (gp_spr T m nx fr E x).length := by omega
        subst this
        rw [gp_getD_r]
        exact Nat.lt_of_le_of_lt Nat.and_le_right ((hw.2.2 m hm).2.2.2 x (by omega))
theorem gp_layF67 (hw : gp_wT T) (hm : m < 4) (c57 : Int32 → Int32 → gz_M → Option gz_M) {h : Nat} (E0 : gp_E) (hE0 : gp_wE E0) (hEm : gp_wEm T m E0) (hh : h < E0.length) : ∀ (d n x : Nat) (M : gz_M), x + d = 8 → d < n → gp_tR M T → gp_exR M (gp_spr T m (gp_aft T m (E0.getD h gp_e0).1) (some h) E0 x) → ∃ M', gp_sLR M M' ∧ gp_exR M' (gp_spr T m (gp_aft T m (E0.getD h gp_e0).1) (some h) E0 8) ∧ f12_layFound_67 c57 n (nI m) (nI h) (nI x) M = c57 (nI m) (nI (h + 1)) M' := by
  have hEh := hE0.2 h hh
  have hA := gp_lt10 hw hm (gp_aft_lt hw hm (E0.getD h gp_e0).1)
  intro d
  induction d with
  | zero =>
    intro n x M hx hn ht hX
    obtain ⟨n, rfl⟩ : ∃ q, n = q + 1 := ⟨n - 1, by omega⟩
    have : x = 8 := by omega
    subst this
    refine ⟨M, gp_sLR.refl M, hX, ?_⟩
    rw [f12_layFound_67, if_pos (by decide), gp_eL, nI_1]
  | succ d ih =>
    intro n x M hx hn ht hX
    obtain ⟨n, rfl⟩ : ∃ q, n = q + 1 := ⟨n - 1, by omega⟩
    obtain ⟨hwx, hlx⟩ := gp_spr_f (T := T) (m := m) (fr := some h) hw hm hE0 hA (fun g hg => by cases hg; exact hh) x (by omega)
    have hlen := hwx.len
    have hS : gp_aft T m (E0.getD h gp_e0).1 &&& T.2.2 (15 + m) x < 1024 := Nat.lt_of_le_of_lt Nat.and_le_left hA
    have hEhx : ((gp_spr T m (gp_aft T m (E0.getD h gp_e0).1) (some h) E0 x).getD h gp_e0) = E0.getD h gp_e0 := (gp_spr_get hh x).2
    have hv := (hX.2.1 h (by omega)).1
    rw [hEhx] at hv
    have hS7 : (E0.getD h gp_e0).1 < 2 ^ T.2.2 7 m := hEm h hh
    rw [f12_layFound_67, if_neg (by exact nI_ge (show x < 8 by omega) (by decide)), gp_ckb (by omega) (by omega), nI_clamp (by omega), hv, gp_stepR hw ht hm (by omega) hS7, gp_eB2]
    obtain ⟨M1, e1, e2, e3⟩ := gp_find (fr := some h) (s := x) hwx hX hS (by omega) (fun g hg => by cases hg; omega)
    have e1' : f12_find (nI (gp_st T m (E0.getD h gp_e0).1 x)) (nI h) (nI x) M = some M1 := e1
    rw [e1', gp_eB, gp_eL, nI_1]
    obtain ⟨M', f1, f2, f3⟩ := ih n (x + 1) M1 (by omega) (by omega) (e2.t ht) e3
    exact ⟨M', e2.trans f1, f2, f3⟩
theorem gp_layF57 (hw : gp_wT T) (hm : m < 4) : ∀ (d n h : Nat) (E : gp_E) (M : gz_M), h + d = 1024 → d < n → gp_tR M T → gp_wE E → gp_wEm T m E → gp_exR M E → ∃ M', f12_layFound_57 n (nI m) (nI h) M = some M' ∧ gp_sLR M M' ∧ gp_exR M' (gp_exF T m d h E) := by
  intro d
  induction d with
  | zero =>
    intro n h E M hh hn ht hE hEm hx
    obtain ⟨n, rfl⟩ : ∃ q, n = q + 1 := ⟨n - 1, by omega⟩
    have hlen := hE.len
    rw [f12_layFound_57, hx.1, if_pos (nI_le (by omega) (by omega))]
    exact ⟨M, rfl, gp_sLR.refl M, hx⟩
  | succ d ih =>
    intro n h E M hh hn ht hE hEm hx
    obtain ⟨n, rfl⟩ : ∃ q, n = q + 1 := ⟨n - 1, by omega⟩
    have hlen := hE.len
    rw [f12_layFound_57, hx.1, gp_exF]
    by_cases hl : h < E.length
    · rw [if_neg (nI_ge hl (by omega)), if_pos hl]
      have hA := gp_lt10 hw hm (gp_aft_lt hw hm (E.getD h gp_e0).1)
      obtain ⟨w1, w2⟩ := gp_spr_f (fr := some h) (T := T) (m := m) hw hm hE hA (fun g hg => by cases hg; exact hl) 8 (by omega)
      have w3 := hEm.spr (nx := gp_aft T m (E.getD h gp_e0).1) (fr := some h) hw hm 8 (by omega)
      obtain ⟨M1, i1, i2, i3⟩ := gp_layF67 hw hm (f12_layFound_57 n) E hE hEm hl 8 gz_FU 0 M (by omega) (by unfold gz_FU; omega) ht hx
      obtain ⟨M', f1, f2, f3⟩ := ih n (h + 1) _ M1 (by omega) (by omega) (i1.t ht) w1 w3 i2
      exact ⟨M', i3.trans f1, i1.trans f2, f3⟩
    · rw [if_pos (nI_le (by omega) (by omega)), if_neg hl]
      exact ⟨M, rfl, gp_sLR.refl M, hx⟩
theorem gp_layFound (hw : gp_wT T) (hm : m < 4) (ht : gp_tR M T) : ∃ M', f12_layFound (nI m) M = some M' ∧ gp_sLR M M' ∧ gp_exR M' (gp_ex T m) := by
  have w0 : gp_wE [] := ⟨by simp, fun i hi => absurd hi (by simp)⟩
  have hA := gp_lt10 hw hm (hw.2.2 m hm).2.1
  have m0 : gp_wEm T m [] := fun i hi => absurd hi (by simp)
  -- the first signs
  have first : ∀ (d n x : Nat) (M1 : gz_M), x + d = 8 → d < n → gp_tR M1 T → gp_exR M1 (gp_spr T m (T.2.2 8 m) none [] x) → ∃ M', f12_layFound_29 n (nI m) (nI x) M1 = some M' ∧ gp_sLR M1 M' ∧ gp_exR M' (gp_ex T m) := by
    intro d
    induction d with
    | zero =>
      intro n x M1 hx hn ht hX
      obtain ⟨n, rfl⟩ : ∃ q, n = q + 1 := ⟨n - 1, by omega⟩
      have : x = 8 := by omega
      subst this
      obtain ⟨w1, w2⟩ := gp_spr_f (fr := none) (T := T) (m := m) hw hm w0 hA (fun g hg => by cases hg) 8 (by omega)
      rw [f12_layFound_29, if_pos (by decide)]
      exact gp_layF57 hw hm 1024 gz_FU 0 _ M1 (by omega) (by unfold gz_FU; omega) ht w1 (m0.spr hw hm 8 (by omega)) hX
    | succ d ih =>
      intro n x M1 hx hn ht hX
      obtain ⟨n, rfl⟩ : ∃ q, n = q + 1 := ⟨n - 1, by omega⟩
      obtain ⟨w1, w2⟩ := gp_spr_f (fr := none) (T := T) (m := m) hw hm w0 hA (fun g hg => by cases hg) x (by omega)
      have hS : T.2.2 8 m &&& T.2.2 (15 + m) x < 1024 := Nat.lt_of_le_of_lt Nat.and_le_left hA
      rw [f12_layFound_29, if_neg (by exact nI_ge (show x < 8 by omega) (by decide)), gp_stepR1 hw ht hm (by omega), gp_eB2]
      obtain ⟨M2, e1, e2, e3⟩ := gp_find (fr := none) (s := x) w1 hX hS (by omega) (fun g hg => by cases hg)
      have e1' : f12_find (nI (gp_st1 T m x)) (-1) (nI x) M1 = some M2 := e1
      rw [e1', gp_eB, gp_eL, nI_1]
      obtain ⟨M', f1, f2, f3⟩ := ih n (x + 1) M2 (by omega) (by omega) (e2.t ht) e3
      exact ⟨M', f1, e2.trans f2, f3⟩
  -- the row of what is found is emptied
  have clear : ∀ (d n x : Nat) (M1 : gz_M), x + d = 1024 → d < n → gp_tR M1 T → M1.1 0 44 = nI 0 → (∀ y, y < x → M1.1 27 y = 0) → ∃ M', f12_layFound_7 n (nI m) (nI x) M1 = some M' ∧ gp_sLR M1 M' ∧ gp_exR M' (gp_ex T m) := by
    intro d
    induction d with
    | zero =>
      intro n x M1 hx hn ht h44 h27
      obtain ⟨n, rfl⟩ : ∃ q, n = q + 1 := ⟨n - 1, by omega⟩
      have : x = 1024 := by omega
      subst this
      rw [f12_layFound_7, if_pos (by decide)]
      exact first 8 gz_FU 0 M1 (by omega) (by unfold gz_FU; omega) ht ⟨h44, fun i hi => absurd hi (by simp [gp_spr]), fun S hS => ⟨fun h => absurd h (by simp [gp_spr]), fun _ => h27 S hS⟩⟩
    | succ d ih =>
      intro n x M1 hx hn ht h44 h27
      obtain ⟨n, rfl⟩ : ∃ q, n = q + 1 := ⟨n - 1, by omega⟩
      rw [f12_layFound_7, if_neg (by exact nI_ge (show x < 1024 by omega) (by decide)), gp_ckb (by omega) (by omega), gp_eL, gp_eL, nI_clamp (by omega), nI_1]
      have l0 : gp_sLR M1 (gz_w M1 27 x (vp_nar .boolean 0)) := ⟨rfl, fun c c1 c2 => gp_wc _ (by omega), fun i hi => gp_gn (by omega)⟩
      obtain ⟨M', f1, f2, f3⟩ := ih n (x + 1) (gz_w M1 27 x (vp_nar .boolean 0)) (by omega) (by omega) (l0.t ht) (by rw [gp_gn (by omega), h44]) (fun y hy => by
        by_cases h : y = x
        · subst h; rw [gp_gs]; decide
        · rw [gp_gn (by omega)]; exact h27 y (by omega))
      exact ⟨M', f1, l0.trans f2, f3⟩
  unfold f12_layFound
  rw [gp_eL]
  have l0 : gp_sLR M (gz_w M 0 44 0) := ⟨rfl, fun c c1 c2 => gp_wc _ c1, fun i hi => gp_gn (by omega)⟩
  obtain ⟨M', f1, f2, f3⟩ := clear 1024 gz_FU 0 (gz_w M 0 44 0) (by omega) (by unfold gz_FU; omega) (l0.t ht) (by rw [gp_gs]; rfl) (fun y hy => absurd hy (by omega))
  exact ⟨M', f1, l0.trans f2, f3⟩
end
