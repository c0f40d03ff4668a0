/-! the reference's cutting -/
def gp_lR (M : gz_M) (l : List Nat) : Prop := l.length ≤ 24 ∧ M.1 1 81 = nI l.length ∧ ∀ i, i < l.length → M.1 1 (82 + i) = nI (l.getD i 0) ∧ l.getD i 0 < 8
def gp_sR (M : gz_M) (stk : List Nat) : Prop := M.1 0 28 = nI stk.length ∧ ∀ x, x < stk.length → M.1 16 x = nI (stk.getD (stk.length - 1 - x) 0)
def gp_code (m S p : Nat) : Nat := (1024 * m + S) * 25 + p
/-- the pairs that were come to, from place q on -/
def gp_codes (m : Nat) : List Nat → Nat → List Nat
  | [], _ => []
  | S :: L, q => gp_code m S (q + 1) :: gp_codes m L (q + 1)
def gp_rK (M : gz_M) (j : Nat) (t : gp_K) : Prop := M.1 17 (12 * j) = gp_o t.1 ∧ M.1 17 (12 * j + 1) = nI t.2.1 ∧ M.1 17 (12 * j + 2) = nI t.2.2.1 ∧ M.1 17 (12 * j + 3) = nI (if t.2.2.2.2.1.isSome = true then t.2.2.2.1 else t.2.2.2.1 + 1) ∧ M.1 17 (12 * j + 4) = nI t.2.2.2.2.2.1 ∧ M.1 17 (12 * j + 5) = nI t.2.2.2.2.2.2.length ∧ M.1 17 (12 * j + 6) = gp_o t.2.2.2.2.1 ∧ ∀ x, x < 5 → M.1 17 (12 * j + 7 + x) = if x < t.2.2.2.2.2.2.length then nI (t.2.2.2.2.2.2.getD (t.2.2.2.2.2.2.length - 1 - x) 0) else gp_no
theorem gp_c81 {β : Type} (a : Option β) : gz_ck (gz_inb 81 106) a = a := gp_ckb (i := 81) (by omega) (by omega) a
theorem gp_k81 : ((81 : Int32).toNatClampNeg) = 81 := rfl
section
variable {k k0 k1 m S s x p q : Nat} {M M' : gz_M} {T : gp_T} {l : List Nat} {F : Nat → Nat → Bool}
theorem gp_tR.fr (h : gp_tR M T) (e : ∀ c, 5 ≤ c → c ≤ 14 → M'.1 c = M.1 c) (e0 : M'.1 0 10 = M.1 0 10) : gp_tR M' T := by
  obtain ⟨h1, h2, ⟨bg, h3, h3'⟩, h4⟩ := h
  refine ⟨by rw [e0]; exact h1, fun j hj => ?_, ⟨bg, fun j hj => ?_, h3'⟩, fun m hm => ⟨?_, fun x hx => ?_⟩⟩
  · rw [e 5 (by omega) (by omega), e 6 (by omega) (by omega), e 7 (by omega) (by omega), e 8 (by omega) (by omega), e 9 (by omega) (by omega), e 11 (by omega) (by omega)]
    exact h2 j hj
  · rw [e 10 (by omega) (by omega)]; exact h3 j hj
  · rw [e 12 (by omega) (by omega)]; exact (h4 m hm).1
  · rw [e 14 (by omega) (by omega), e 13 (by omega) (by omega)]
    exact (h4 m hm).2 x hx
theorem gp_lR.fr (h : gp_lR M l) (e : M'.1 1 = M.1 1) : gp_lR M' l := by
  refine ⟨h.1, ?_, fun i hi => ?_⟩
  · rw [e]; exact h.2.1
  · rw [e]; exact h.2.2 i hi
theorem gp_code_lt {m S p : Nat} (hm : m < 4) (hS : S < 2 ^ 10) (hp : p ≤ 24) : gp_code m S p < 102400 := by unfold gp_code; omega
theorem gp_pairOf (m S p : Nat) (M : gz_M) : f12_pairOf (nI m) (nI S) (nI p) M = some (nI (gp_code m S p), M) := by
  unfold f12_pairOf gp_code
  rw [show (1024 : Int32) = nI 1024 from rfl, show (25 : Int32) = nI 25 from rfl, pk_mul, nI_add, pk_mul, nI_add]
theorem gp_codes_len (m : Nat) : ∀ (L : List Nat) (q : Nat), (gp_codes m L q).length = L.length
  | [], _ => rfl
  | S :: L, q => by rw [gp_codes, List.length_cons, List.length_cons, gp_codes_len m L]
/-- what reading leaves -/
def gp_rdL (M M' : gz_M) (many rd : Nat) (cs : List Nat) : Prop := M'.2 = M.2 ∧ (∀ c, c ≠ 0 → c ≠ 18 → c ≠ 20 → M'.1 c = M.1 c) ∧ (∀ i, i ≠ 32 → M'.1 0 i = M.1 0 i) ∧ M'.1 0 32 = M.1 0 32 + nI rd ∧ (∀ i, i < many → M'.1 20 i = M.1 20 i) ∧ (∀ i, i < cs.length → M'.1 20 (many + i) = nI (cs.getD i 0)) ∧ ∀ y, M'.1 18 y = M.1 18 y + nI (cs.count y)
theorem gp_cutOne_32 (hw : gp_wT T) (hm : m < 4) (mem : Nat) (hmem : mem < 2) (pl : Nat) : ∀ (d n q S b many : Nat) (r : Option Nat) (M : gz_M), q + d = l.length → d < n → gp_tR M T → gp_lR M l → M.1 0 26 = nI pl → S < 2 ^ T.2.2 7 m → (q ≠ pl → S ≠ 0) → (q = pl → 0 < d) → pl ≤ q → many + d ≤ 24 → (∀ S p, S < 2 ^ 10 → p ≤ 24 → (F S p = true ↔ mem = 1 ∧ M.1 19 (gp_code m S p) ≠ 0)) →
    ∃ S' M', f12_cutOne_32 n (nI mem) (nI m) (nI S) (gp_o (if r.isSome = true then some b else none)) (gp_o r) (nI q) (nI many) 0 M = f12_cutOne_190 (nI mem) (nI m) (nI S') (gp_o (if (gp_rm T m F (l.drop q) q (if q = pl then T.2.2 8 m else gp_aft T m S) r b).1.isSome = true then some (gp_rm T m F (l.drop q) q (if q = pl then T.2.2 8 m else gp_aft T m S) r b).2.1 else none)) (gp_o (gp_rm T m F (l.drop q) q (if q = pl then T.2.2 8 m else gp_aft T m S) r b).1) (nI (gp_rm T m F (l.drop q) q (if q = pl then T.2.2 8 m else gp_aft T m S) r b).2.2.1) (nI (many + (gp_rm T m F (l.drop q) q (if q = pl then T.2.2 8 m else gp_aft T m S) r b).2.2.2.2.length)) M' ∧ S' < 2 ^ 10 ∧ ((gp_rm T m F (l.drop q) q (if q = pl then T.2.2 8 m else gp_aft T m S) r b).2.2.2.1.isSome = true ↔ S' = 0) ∧ gp_rdL M M' many ((gp_rm T m F (l.drop q) q (if q = pl then T.2.2 8 m else gp_aft T m S) r b).2.2.1 - q) (gp_codes m (gp_rm T m F (l.drop q) q (if q = pl then T.2.2 8 m else gp_aft T m S) r b).2.2.2.2 q) := by
  have hI0 : ∀ y : Int32, y + nI 0 = y := fun y => by rw [nI_0]; simp
  intro d
  induction d with
  | zero =>
    intro n q S b many r M hq hn ht hl h26 hS h0 hpl hpq hmany hF
    have hl1 := hl.1
    obtain ⟨n, rfl⟩ : ∃ q, n = q + 1 := ⟨n - 1, by omega⟩
    have hqq : q = l.length := by omega
    subst hqq
    refine ⟨S, M, ?_, gp_lt10 hw hm hS, ?_, rfl, fun _ _ _ _ => rfl, fun _ _ => rfl, ?_, fun _ _ => rfl, ?_, ?_⟩
    · rw [f12_cutOne_32, gp_c81]
      rw [show ((81 : Int32).toNatClampNeg) = 81 from rfl, hl.2.1, if_pos (nI_le (Nat.le_refl _) (by omega)), List.drop_length]
      rfl
    · rw [List.drop_length, gp_rm]
      have : S ≠ 0 := h0 (fun e => by have := hpl e; omega)
      simp [this]
    · rw [List.drop_length, gp_rm]
      simp [hI0]
    · rw [List.drop_length, gp_rm]
      simp [gp_codes]
    · intro y
      rw [List.drop_length, gp_rm]
      simp [gp_codes, hI0]
  | succ d ih =>
    intro n q S b many r M hq hn ht hl h26 hS h0 hpl hpq hmany hF
    have hl1 := hl.1
    obtain ⟨n, rfl⟩ : ∃ q, n = q + 1 := ⟨n - 1, by omega⟩
    have hs := (hl.2.2 q (by omega)).2
    have hv := (hl.2.2 q (by omega)).1
    have hle : ¬ l.length ≤ q := by omega
    have h81 : ((81 : Int32).toNatClampNeg) = 81 := rfl
    -- the step
    have hst : (if q = pl then T.2.2 8 m else gp_aft T m S) &&& T.2.2 (15 + m) (l.getD q 0) < 2 ^ T.2.2 7 m := Nat.lt_of_le_of_lt Nat.and_le_right ((hw.2.2 m hm).2.2.2 _ hs)
    have hst' := gp_lt10 hw hm hst
    have e66 : ∀ s0 : Int32, (s0 = if q = pl then 1 else 0) → f12_cutOne_66 (f12_cutOne_32 n) (nI mem) (nI m) (gp_o (if r.isSome = true then some b else none)) (gp_o r) (nI q) (nI many) s0 (nI S) (nI m) M = (if (nI ((if q = pl then T.2.2 8 m else gp_aft T m S) &&& T.2.2 (15 + m) (l.getD q 0))) = 0 then (f12_cutOne_102 (f12_cutOne_32 n) (nI mem) (nI m) (nI ((if q = pl then T.2.2 8 m else gp_aft T m S) &&& T.2.2 (15 + m) (l.getD q 0))) (gp_o (if r.isSome = true then some b else none)) (gp_o r) (nI (q + 1)) (nI many) 1 (gz_w M 0 32 (M.1 0 32 + nI 1))) else (f12_cutOne_102 (f12_cutOne_32 n) (nI mem) (nI m) (nI ((if q = pl then T.2.2 8 m else gp_aft T m S) &&& T.2.2 (15 + m) (l.getD q 0))) (gp_o (if r.isSome = true then some b else none)) (gp_o r) (nI (q + 1)) (nI many) 0 (gz_w M 0 32 (M.1 0 32 + nI 1)))) := by
      intro s0 hs0
      unfold f12_cutOne_66
      rw [show (82 : Int32) = nI 82 from rfl, nI_add, gp_ckb (by omega) (by omega), nI_clamp (by omega), hv]
      by_cases hqp : q = pl
      · rw [if_pos hqp] at hs0
        subst hs0
        rw [gp_stepR1 hw ht hm hs, if_pos hqp, gp_eB2, gp_eL, gp_eL, nI_1]
        rfl
      · rw [if_neg hqp] at hs0
        subst hs0
        rw [gp_stepR hw ht hm hs hS, if_neg hqp, gp_eB2, gp_eL, gp_eL, nI_1]
        rfl
    have e32 : f12_cutOne_32 (n + 1) (nI mem) (nI m) (nI S) (gp_o (if r.isSome = true then some b else none)) (gp_o r) (nI q) (nI many) 0 M = (if (nI ((if q = pl then T.2.2 8 m else gp_aft T m S) &&& T.2.2 (15 + m) (l.getD q 0))) = 0 then (f12_cutOne_102 (f12_cutOne_32 n) (nI mem) (nI m) (nI ((if q = pl then T.2.2 8 m else gp_aft T m S) &&& T.2.2 (15 + m) (l.getD q 0))) (gp_o (if r.isSome = true then some b else none)) (gp_o r) (nI (q + 1)) (nI many) 1 (gz_w M 0 32 (M.1 0 32 + nI 1))) else (f12_cutOne_102 (f12_cutOne_32 n) (nI mem) (nI m) (nI ((if q = pl then T.2.2 8 m else gp_aft T m S) &&& T.2.2 (15 + m) (l.getD q 0))) (gp_o (if r.isSome = true then some b else none)) (gp_o r) (nI (q + 1)) (nI many) 0 (gz_w M 0 32 (M.1 0 32 + nI 1)))) := by
      rw [f12_cutOne_32, gp_c81, h81, hl.2.1, if_neg (nI_ge (by omega) (by omega)), if_pos rfl, h26]
      by_cases hqp : q = pl
      · rw [if_pos (by rw [hqp]), e66 1 (by rw [if_pos hqp])]
      · rw [if_neg (fun e => hqp ((nI_eq (by omega) (by omega)).mp e)), e66 0 (by rw [if_neg hqp])]
    rw [e32]
    rw [gp_drop (by omega : q < l.length), gp_rm]
    generalize hSe : (if q = pl then T.2.2 8 m else gp_aft T m S) &&& T.2.2 (15 + m) (l.getD q 0) = S1 at hst hst'
    have hM1 : ∀ c, c ≠ 0 → (gz_w M 0 32 (M.1 0 32 + nI 1)).1 c = M.1 c := fun c hc => gp_wc _ hc
    generalize hM1e : gz_w M 0 32 (M.1 0 32 + nI 1) = M1 at hM1
    have hM10 : ∀ i, i ≠ 32 → M1.1 0 i = M.1 0 i := fun i hi => by rw [← hM1e, gp_gn (by omega)]
    have hM132 : M1.1 0 32 = M.1 0 32 + nI 1 := by rw [← hM1e, gp_gs]
    have hM1l : M1.2 = M.2 := by rw [← hM1e]; rfl
    have ht1 : gp_tR M1 T := ht.fr (fun c c1 c2 => hM1 c (by omega)) (hM10 _ (by omega))
    have hl2 : gp_lR M1 l := hl.fr (hM1 1 (by omega))
    by_cases hz : S1 = 0
    · subst hz
      simp only [if_true]
      refine ⟨0, M1, ?_, by decide, by simp, hM1l, fun c c1 c2 c3 => hM1 c c1, hM10, ?_, fun i hi => by rw [hM1 _ (by omega)], by simp [gp_codes], fun y => by rw [hM1 _ (by omega)]; simp [gp_codes, hI0]⟩
      · rw [if_pos nI_0]
        unfold f12_cutOne_102
        rw [if_neg (by decide)]
        obtain ⟨n, rfl⟩ : ∃ q, n = q + 1 := ⟨n - 1, by omega⟩
        rw [f12_cutOne_32, gp_c81]
        split
        · rfl
        · rw [if_neg (by decide)]
          rfl
      · rw [hM132]
        congr 2
        omega
    · rw [if_neg (by rw [← nI_0]; exact fun e => hz ((nI_eq (by omega) (by omega)).mp e))]
      simp only [hz, if_false]
      have hc : gp_code m S1 (q + 1) < 102400 := gp_code_lt hm hst' (by omega)
      -- often and winner
      generalize hM2e : gz_w M1 18 (gp_code m S1 (q + 1)) (M1.1 18 (gp_code m S1 (q + 1)) + 1) = M2
      have hM2 : ∀ c, c ≠ 18 → M2.1 c = M1.1 c := fun c hc => by rw [← hM2e, gp_wc _ hc]
      have hM2l : M2.2 = M1.2 := by rw [← hM2e]; rfl
      have ht2 : gp_tR M2 T := ht1.fr (fun c c1 c2 => hM2 c (by omega)) (by rw [hM2 0 (by omega)])
      have hl3 : gp_lR M2 l := hl2.fr (hM2 1 (by omega))
      generalize hr1 : (gp_win T m S1).or r = r1
      generalize hb1 : (if (gp_win T m S1).isSome = true then q + 1 else b) = b1
      have e102 : f12_cutOne_102 (f12_cutOne_32 n) (nI mem) (nI m) (nI S1) (gp_o (if r.isSome = true then some b else none)) (gp_o r) (nI (q + 1)) (nI many) 0 M1 = f12_cutOne_154 (f12_cutOne_32 n) (nI mem) (nI m) (nI S1) (gp_o (if r1.isSome = true then some b1 else none)) (gp_o r1) (nI (q + 1)) (nI many) (nI (gp_code m S1 (q + 1))) M2 := by
        unfold f12_cutOne_102
        rw [if_pos rfl, gp_pairOf, gp_eB2, gp_ckb hc (by omega), gp_ckb hc (by omega), gp_eL, nI_clamp (by omega), hM2e, gp_winR hw ht2 hm hst', gp_eB2]
        cases hwin : gp_win T m S1 with
        | none =>
          rw [hwin] at hr1 hb1
          have hr1 : r = r1 := hr1
          have hb1 : b = b1 := hb1
          subst hr1
          subst hb1
          rw [if_pos (by rfl)]
        | some j =>
          rw [hwin] at hr1 hb1
          have hr1 : some j = r1 := hr1
          have hb1 : q + 1 = b1 := hb1
          subst hr1
          subst hb1
          have hj := (gp_win_some hwin).1
          have hw1 := hw.1
          rw [if_neg (by rw [gp_m1, gp_oS, gp_ne1 (by omega)]; exact id)]
          rfl
      rw [e102]
      generalize hM3e : gz_w M2 20 many (nI (gp_code m S1 (q + 1))) = M3
      have hM3 : ∀ c, c ≠ 20 → M3.1 c = M2.1 c := fun c hc => by rw [← hM3e, gp_wc _ hc]
      have hM3l : M3.2 = M2.2 := by rw [← hM3e]; rfl
      have ht3 : gp_tR M3 T := ht2.fr (fun c c1 c2 => hM3 c (by omega)) (by rw [hM3 0 (by omega)])
      have hl4 : gp_lR M3 l := hl3.fr (hM3 1 (by omega))
      have h19 : M3.1 19 = M.1 19 := by rw [hM3 _ (by omega), hM2 _ (by omega), hM1 _ (by omega)]
      have h30 : ∀ i, i ≠ 32 → M3.1 0 i = M.1 0 i := fun i hi => by rw [hM3 _ (by omega), hM2 _ (by omega), hM10 i hi]
      have h332 : M3.1 0 32 = M.1 0 32 + nI 1 := by rw [hM3 _ (by omega), hM2 _ (by omega), hM132]
      have h3c : ∀ c, c ≠ 0 → c ≠ 18 → c ≠ 20 → M3.1 c = M.1 c := fun c c1 c2 c3 => by rw [hM3 _ c3, hM2 _ c2, hM1 _ c1]
      have h318 : ∀ y, M3.1 18 y = M.1 18 y + nI ([gp_code m S1 (q + 1)].count y) := by
        intro y
        rw [hM3 _ (by omega), ← hM2e]
        by_cases hy : y = gp_code m S1 (q + 1)
        · subst hy
          rw [gp_gs, hM1 _ (by omega)]
          simp
          rfl
        · rw [gp_gn (by omega), hM1 _ (by omega)]
          have : ¬ gp_code m S1 (q + 1) = y := fun e => hy e.symm
          simp [List.count_cons, this, hI0]
      have h320 : ∀ i, i < many → M3.1 20 i = M.1 20 i := fun i hi => by rw [← hM3e, gp_gn (by omega), hM2 _ (by omega), hM1 _ (by omega)]
      have h320' : M3.1 20 many = nI (gp_code m S1 (q + 1)) := by rw [← hM3e, gp_gs]
      have hFS := hF S1 (q + 1) hst' (by omega)
      by_cases hf : F S1 (q + 1) = true
      · simp only [hf, if_true]
        obtain ⟨hm1, hne⟩ := hFS.mp hf
        subst hm1
        refine ⟨S1, M3, ?_, hst', by simp [hz], ?_⟩
        · unfold f12_cutOne_154
          rw [if_neg (by decide), gp_ckb hc (by omega), nI_clamp (by omega), hM2 _ (by omega), hM1 _ (by omega), if_neg hne, gp_eL, gp_ckb (by omega) (by omega), gp_eL, nI_clamp (by omega), hM3e, nI_1]
          obtain ⟨n, rfl⟩ : ∃ q, n = q + 1 := ⟨n - 1, by omega⟩
          rw [f12_cutOne_32, gp_c81]
          split
          · rfl
          · rw [if_neg (by decide)]
            rfl
        · refine ⟨by rw [hM3l, hM2l, hM1l], h3c, h30, ?_, h320, ?_, ?_⟩
          · rw [h332]
            congr 2
            omega
          · intro i hi
            have hi0 : i = 0 := by simp [gp_codes] at hi; omega
            subst hi0
            simpa [gp_codes] using h320'
          · intro y
            rw [h318]
            rfl
      · simp only [hf, Bool.false_eq_true, if_false]
        have e154 : f12_cutOne_154 (f12_cutOne_32 n) (nI mem) (nI m) (nI S1) (gp_o (if r1.isSome = true then some b1 else none)) (gp_o r1) (nI (q + 1)) (nI many) (nI (gp_code m S1 (q + 1))) M2 = f12_cutOne_32 n (nI mem) (nI m) (nI S1) (gp_o (if r1.isSome = true then some b1 else none)) (gp_o r1) (nI (q + 1)) (nI (many + 1)) 0 M3 := by
          have e172 : f12_cutOne_172 (f12_cutOne_32 n) (nI mem) (nI m) (nI S1) (gp_o (if r1.isSome = true then some b1 else none)) (gp_o r1) (nI (q + 1)) (nI many) (nI (gp_code m S1 (q + 1))) M2 = f12_cutOne_32 n (nI mem) (nI m) (nI S1) (gp_o (if r1.isSome = true then some b1 else none)) (gp_o r1) (nI (q + 1)) (nI (many + 1)) 0 M3 := by
            unfold f12_cutOne_172
            rw [gp_eL, gp_ckb (by omega) (by omega), gp_eL, nI_clamp (by omega), hM3e, nI_1]
          unfold f12_cutOne_154
          have hm2 : mem = 0 ∨ mem = 1 := by omega
          rcases hm2 with rfl | rfl
          · rw [if_pos nI_0, e172]
          · have : M.1 19 (gp_code m S1 (q + 1)) = 0 := Classical.byContradiction fun h => hf (hFS.mpr ⟨rfl, h⟩)
            rw [if_neg (by decide), gp_ckb hc (by omega), nI_clamp (by omega), hM2 _ (by omega), hM1 _ (by omega), if_pos this, e172]
        rw [e154]
        have hqpl : ¬ q + 1 = pl := by omega
        obtain ⟨S', M', i1, i2, i3, i4⟩ := ih n (q + 1) S1 b1 (many + 1) r1 M3 (by omega) (by omega) ht3 hl4 (by rw [h30 _ (by omega), h26]) hst (fun _ => hz) (fun e => absurd e hqpl) (by omega) (by omega) (fun S p h1 h2 => by rw [h19]; exact hF S p h1 h2)
        simp only [hqpl, if_false] at i1 i3 i4
        obtain ⟨j1, j2, j3, j4, j5, j6, j7⟩ := i4
        have hge : q + 1 ≤ (gp_rm T m F (List.drop (q + 1) l) (q + 1) (gp_aft T m S1) r1 b1).2.2.1 := gp_rm_ge _ _ _ _ _
        refine ⟨S', M', ?_, i2, i3, by rw [j1, hM3l, hM2l, hM1l], fun c c1 c2 c3 => by rw [j2 c c1 c2 c3, h3c c c1 c2 c3], fun i hi => by rw [j3 i hi, h30 i hi], ?_, fun i hi => by rw [j5 i (by omega), h320 i hi], ?_, ?_⟩
        · rw [i1]
          simp only [List.length_cons]
          congr 2
          omega
        · rw [j4, h332]
          have : (gp_rm T m F (List.drop (q + 1) l) (q + 1) (gp_aft T m S1) r1 b1).2.2.1 - q = 1 + ((gp_rm T m F (List.drop (q + 1) l) (q + 1) (gp_aft T m S1) r1 b1).2.2.1 - (q + 1)) := by omega
          rw [this, ← nI_add, Int32.add_assoc]
        · intro i hi
          simp only [gp_codes, List.length_cons] at hi ⊢
          cases i with
          | zero => simpa using (j5 many (by omega)).trans h320'
          | succ i =>
            have := j6 i (by omega)
            rw [show many + 1 + i = many + (i + 1) from by omega] at this
            simpa using this
        · intro y
          rw [j7, h318]
          simp only [gp_codes]
          rw [Int32.add_assoc, nI_add, List.count_cons, List.count_cons]
          simp
          congr 1
          omega
end
