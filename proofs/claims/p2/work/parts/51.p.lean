/-! the reference: the whole line, without memory -/
/-- the pairs come to by tokens, without memory -/
def gp_coms (T : gp_T) (l : List Nat) : List gp_K → List Nat
  | [] => []
  | t :: ts => gp_codes t.2.2.2.2.2.1 (gp_rm T t.2.2.2.2.2.1 gp_F0 (l.drop t.2.1) t.2.1 (T.2.2 8 t.2.2.2.2.2.1) none t.2.1).2.2.2.2 t.2.1 ++ gp_coms T l ts
def gp_reads : List gp_K → Nat
  | [] => 0
  | t :: ts => (t.2.2.2.1 - t.2.1) + gp_reads ts
/-- the tokens of the reference -/
def gp_kR (M : gz_M) (ts : List gp_K) : Prop := M.1 0 31 = nI ts.length ∧ M.1 0 29 = nI (gp_most ts) ∧ ∀ i, i < ts.length → gp_rK M i (ts.getD i gp_k0)
section
variable {k k0 k1 m S s x p q : Nat} {M M' : gz_M} {T : gp_T} {l : List Nat}
theorem gp_rK.fr {j : Nat} {t : gp_K} (h : gp_rK M j t) (e : ∀ y, y < 12 * j + 12 → M'.1 17 y = M.1 17 y) : gp_rK M' j t := by
  obtain ⟨h1, h2, h3, h4, h5, h6, h7, h8⟩ := h
  refine ⟨?_, ?_, ?_, ?_, ?_, ?_, ?_, fun x hx => ?_⟩
  · rw [e _ (by omega)]; exact h1
  · rw [e _ (by omega)]; exact h2
  · rw [e _ (by omega)]; exact h3
  · rw [e _ (by omega)]; exact h4
  · rw [e _ (by omega)]; exact h5
  · rw [e _ (by omega)]; exact h6
  · rw [e _ (by omega)]; exact h7
  · rw [e _ (by omega)]; exact h8 x hx
theorem gp_getD_l {α : Type} {d t : α} {A : List α} {i : Nat} (h : i < A.length) : (A ++ [t]).getD i d = A.getD i d := by
  rw [List.getD_eq_getElem?_getD, List.getD_eq_getElem?_getD, List.getElem?_append_left h]
theorem gp_getD_r {α : Type} {d t : α} {A : List α} : (A ++ [t]).getD A.length d = t := by simp [List.getD_eq_getElem?_getD]
theorem gp_cutAll12 (hw : gp_wT T) : ∀ (d n p : Nat) (stk : List Nat) (done : List gp_K) (M : gz_M), l.length ≤ p + d → d < n → gp_tR M T → gp_lR M l → gp_sk stk → gp_sR M stk → gp_most done ≤ 5 → stk.length ≤ gp_most done → done.length ≤ p → p ≤ l.length → M.1 0 26 = nI p → gp_kR M done →
    ∃ M', f12_cutAll_12 n 0 M = some M' ∧ gp_cutL M M' ∧ M'.1 19 = M.1 19 ∧ gp_kR M' (done ++ gp_cutF T l d p stk) ∧ M'.1 0 32 = M.1 0 32 + nI (gp_reads (gp_cutF T l d p stk)) ∧ ∀ y, M'.1 18 y = M.1 18 y + nI ((gp_coms T l (gp_cutF T l d p stk)).count y) := by
  have hI0 : ∀ y : Int32, y + nI 0 = y := fun y => by rw [nI_0]; simp
  intro d
  induction d with
  | zero =>
    intro n p stk done M hd hn ht hl hsk hs hmo hmo2 hjp hp h26 hk
    have hl1 := hl.1
    obtain ⟨n, rfl⟩ : ∃ q, n = q + 1 := ⟨n - 1, by omega⟩
    rw [f12_cutAll_12, gp_c81, gp_k81, hl.2.1, h26, if_pos (nI_le (by omega) (by omega)), gp_cutF, List.append_nil]
    exact ⟨M, rfl, ⟨rfl, fun _ _ _ => rfl, fun _ _ _ _ _ _ => rfl⟩, rfl, hk, (hI0 _).symm, fun y => (hI0 _).symm⟩
  | succ d ih =>
    intro n p stk done M hd hn ht hl hsk hs hmo hmo2 hjp hp h26 hk
    have hl1 := hl.1
    obtain ⟨n, rfl⟩ : ∃ q, n = q + 1 := ⟨n - 1, by omega⟩
    rw [f12_cutAll_12, gp_c81, gp_k81, hl.2.1, h26, gp_cutF]
    by_cases hpl : p < l.length
    · rw [if_neg (nI_ge hpl (by omega)), if_pos hpl]
      obtain ⟨M1, e1, e2, e3, e4, e5, e6, e7, e8, e9, e10, e11, e12⟩ := gp_cutOne (F := gp_F0) hw 0 (by omega) ht hl hsk hs hmo hmo2 hk.2.1 (show done.length < 25 by omega) hk.1 hpl h26 (fun S p' _ _ => by simp [gp_F0]) _ rfl
      have htok : gp_tokO T p stk (gp_rm T (stk.headD 0) gp_F0 (l.drop p) p (T.2.2 8 (stk.headD 0)) none p) = gp_tok T l p stk := rfl
      rw [htok] at e3 e4 e5 e8
      have hok := gp_tok_ok (T := T) hw hpl hsk
      have ht1 : (gp_tok T l p stk).2.1 = p := rfl
      have ht2 : (gp_tok T l p stk).2.2.2.1 = (gp_rm T (stk.headD 0) gp_F0 (l.drop p) p (T.2.2 8 (stk.headD 0)) none p).2.2.1 := rfl
      have ht3 : (gp_tok T l p stk).2.2.2.2.2.1 = stk.headD 0 := rfl
      generalize hte : gp_tok T l p stk = t at *
      have e1' : f12_cutOne 0 M = some M1 := e1
      rw [e1', gp_eB]
      have h1 := hok.1
      have h2 := hok.2.1
      have h3 := hok.2.2.1
      have hsk2 := hok.2.2.2.2.2.2.2
      have hmost : gp_most (done ++ [t]) = max (gp_most done) t.2.2.2.2.2.2.length := gp_most_snoc _ _
      have hs5 := hsk2.2.1
      have hlen : (done ++ [t]).length = done.length + 1 := by simp
      obtain ⟨M', f1, f2, f3, f4, f5, f6⟩ := ih n t.2.2.1 t.2.2.2.2.2.2 (done ++ [t]) M1 (by omega) (by omega) (ht.fr (fun c c1 c2 => e2.2.1 c (by omega) (by omega)) (e2.2.2 _ (by omega) (by omega) (by omega) (by omega) (by omega))) (hl.fr (e2.2.1 1 (by omega) (by omega))) hsk2 e3 (by rw [hmost]; omega) (by rw [hmost]; omega) (by omega) (by omega) e4 ⟨by rw [e6, hlen], by rw [e5, hmost], fun i hi => by
        rw [hlen] at hi
        by_cases hi1 : i < done.length
        · rw [gp_getD_l hi1]
          exact (hk.2.2 i hi1).fr (fun y hy => e9 y (by omega))
        · have : i = done.length := by omega
          subst this
          rw [gp_getD_r]
          exact e8⟩
      refine ⟨M', f1, e2.trans f2, f3.trans (e11 rfl), ?_, ?_, fun y => ?_⟩
      · rw [List.append_assoc] at f4
        exact f4
      · rw [f5, e7, gp_reads, ht1, ht2, Int32.add_assoc, nI_add]
      · rw [f6, e10, gp_coms, ht1, ht3, Int32.add_assoc, nI_add, List.count_append]
    · rw [if_pos (nI_le (by omega) (by omega)), if_neg hpl, List.append_nil]
      exact ⟨M, rfl, ⟨rfl, fun _ _ _ => rfl, fun _ _ _ _ _ _ => rfl⟩, rfl, hk, (hI0 _).symm, fun y => (hI0 _).symm⟩
theorem gp_atFirstR (M : gz_M) : ∃ M', f12_atFirst M = some M' ∧ gp_cutL M M' ∧ (∀ c, c ≠ 0 → c ≠ 16 → M'.1 c = M.1 c) ∧ gp_sR M' [0] ∧ M'.1 0 26 = nI 0 ∧ gp_kR M' [] ∧ M'.1 0 32 = nI 0 := by
  unfold f12_atFirst
  simp only [gp_eL]
  rw [show gz_inb 0 5 = true from rfl, gp_eC]
  refine ⟨_, rfl, ⟨rfl, fun c c1 c2 => ?_, fun i i1 i2 i3 i4 i5 => ?_⟩, fun c c1 c2 => ?_, ⟨?_, fun x hx => ?_⟩, ?_, ⟨?_, ?_, fun i hi => absurd hi (by simp)⟩, ?_⟩
  · rw [gp_wc _ c1, gp_wc _ c1, gp_wc _ c1, gp_wc _ (by omega), gp_wc _ c1, gp_wc _ c1]
  · rw [gp_gn (by omega), gp_gn (by omega), gp_gn (by omega), gp_gn (by omega), gp_gn (by omega), gp_gn (by omega)]
  · rw [gp_wc _ c1, gp_wc _ c1, gp_wc _ c1, gp_wc _ c2, gp_wc _ c1, gp_wc _ c1]
  · rw [gp_gn (by omega), gp_gn (by omega), gp_gn (by omega), gp_gn (by omega), gp_gs]; rfl
  · have : x = 0 := by simp at hx; omega
    subst this
    rw [gp_gn (by omega), gp_gn (by omega), gp_gn (by omega)]
    exact gp_gs _ _ _ _
  · rw [gp_gn (by omega), gp_gn (by omega), gp_gn (by omega), gp_gn (by omega), gp_gn (by omega), gp_gs]; rfl
  · rw [gp_gn (by omega), gp_gs]; rfl
  · rw [gp_gn (by omega), gp_gn (by omega), gp_gs]; rfl
  · rw [gp_gs]; rfl
theorem gp_cutAll0 (hw : gp_wT T) (ht : gp_tR M T) (hl : gp_lR M l) : ∃ M', f12_cutAll 0 M = some M' ∧ gp_cutL M M' ∧ M'.1 19 = M.1 19 ∧ gp_kR M' (gp_cut T l) ∧ M'.1 0 32 = nI (gp_reads (gp_cut T l)) ∧ ∀ y, M'.1 18 y = M.1 18 y + nI ((gp_coms T l (gp_cut T l)).count y) := by
  obtain ⟨M1, e1, e2, e3, e4, e5, e6, e7⟩ := gp_atFirstR M
  have hl1 := hl.1
  unfold f12_cutAll
  rw [e1, gp_eB, if_pos rfl]
  obtain ⟨M', f1, f2, f3, f4, f5, f6⟩ := gp_cutAll12 (l := l) hw 24 gz_FU 0 [0] [] M1 (by omega) (by unfold gz_FU; omega) (ht.fr (fun c c1 c2 => e3 c (by omega) (by omega)) (e2.2.2 _ (by omega) (by omega) (by omega) (by omega) (by omega))) (hl.fr (e3 1 (by omega) (by omega))) gp_sk0 e4 (by decide) (by decide) (by simp) (by omega) e5 e6
  refine ⟨M', f1, e2.trans f2, f3.trans (e3 _ (by omega) (by omega)), f4, ?_, fun y => ?_⟩
  · rw [f5, e7, nI_add, Nat.zero_add]; rfl
  · rw [f6, e3 _ (by omega) (by omega)]; rfl
end
