/-! the reference: one token; the whole line -/
section
variable {k k0 k1 m S s x p q : Nat} {M M' : gz_M} {T : gp_T} {l : List Nat} {F : Nat → Nat → Bool}
theorem gp_cut197 (p : Nat) (hp : p < 24) (cs : List Nat) (hcs : cs.length ≤ 24) (hc : ∀ i, i < cs.length → cs.getD i 0 < 102400) (last : Option Nat) (hla : ∀ b, last = some b → b ≤ 24) (x2 x3 x5 x6 : Int32) : ∀ (d n x : Nat) (M : gz_M), x + d = cs.length → d < n → M.1 0 26 = nI p → (∀ i, i < cs.length → M.1 20 i = nI (cs.getD i 0)) →
    ∃ M', f12_cutOne_197 n x2 x3 (gp_o last) x5 x6 (nI cs.length) (nI x) M = f12_cutOne_250 x2 x3 (gp_o last) x5 x6 M' ∧ M'.2 = M.2 ∧ (∀ c, c ≠ 19 → M'.1 c = M.1 c) ∧ ∀ y, ((∃ i, x ≤ i ∧ i < cs.length ∧ last.getD p < p + 1 + i ∧ y = cs.getD i 0) → M'.1 19 y = 1) ∧ (¬ (∃ i, x ≤ i ∧ i < cs.length ∧ last.getD p < p + 1 + i ∧ y = cs.getD i 0) → M'.1 19 y = M.1 19 y) := by
  have hld : last.getD p ≤ 24 := by
    cases last with
    | none => show p ≤ 24; omega
    | some b => exact hla b rfl
  intro d
  induction d with
  | zero =>
    intro n x M hx hn h26 h20
    obtain ⟨n, rfl⟩ : ∃ q, n = q + 1 := ⟨n - 1, by omega⟩
    have hxe : x = cs.length := by omega
    subst hxe
    rw [f12_cutOne_197, if_pos (nI_le (Nat.le_refl _) (by omega))]
    exact ⟨M, rfl, rfl, fun _ _ => rfl, fun y => ⟨fun ⟨i, a, b, _⟩ => absurd a (by omega), fun _ => rfl⟩⟩
  | succ d ih =>
    intro n x M hx hn h26 h20
    obtain ⟨n, rfl⟩ : ∃ q, n = q + 1 := ⟨n - 1, by omega⟩
    rw [f12_cutOne_197, if_neg (nI_ge (by omega) (by omega)), h26]
    have e228 : f12_cutOne_228 (f12_cutOne_197 n) x2 x3 (gp_o last) x5 x6 (nI cs.length) (nI x) (nI (last.getD p)) ((nI p + 1) + nI x) M = f12_cutOne_197 n x2 x3 (gp_o last) x5 x6 (nI cs.length) (nI (x + 1)) (if last.getD p < p + 1 + x then gz_w M 19 (cs.getD x 0) 1 else M) := by
      unfold f12_cutOne_228
      rw [nI_1, nI_add]
      by_cases h : last.getD p < p + 1 + x
      · have hcx := hc x (by omega)
        rw [if_neg (nI_ge h (by omega)), if_pos h, gp_ckb (by omega) (by omega), nI_clamp (by omega), h20 x (by omega), gp_ckb hcx (by omega), gp_eL, gp_eL, nI_clamp (by omega), nI_1]
        rfl
      · rw [if_pos (nI_le (by omega) (by omega)), if_neg h, gp_eL, nI_1]
    have sel : (if gp_o last = -1 then (f12_cutOne_228 (f12_cutOne_197 n) x2 x3 (gp_o last) x5 x6 (nI cs.length) (nI x) (nI p) ((nI p + 1) + nI x) M) else (f12_cutOne_228 (f12_cutOne_197 n) x2 x3 (gp_o last) x5 x6 (nI cs.length) (nI x) (gp_o last) ((nI p + 1) + nI x) M)) = f12_cutOne_228 (f12_cutOne_197 n) x2 x3 (gp_o last) x5 x6 (nI cs.length) (nI x) (nI (last.getD p)) ((nI p + 1) + nI x) M := by
      cases last with
      | none => rw [if_pos (by rfl)]; rfl
      | some b =>
        have := hla b rfl
        rw [if_neg (by rw [gp_m1, gp_oS, gp_ne1 (by omega)]; exact id)]
        rfl
    rw [sel, e228]
    obtain ⟨M', e1, e2, e3, e4⟩ := ih n (x + 1) (if last.getD p < p + 1 + x then gz_w M 19 (cs.getD x 0) 1 else M) (by omega) (by omega) (by split <;> first | exact h26 | (rw [gp_gn (by omega)]; exact h26)) (fun i hi => by split <;> first | exact h20 i hi | (rw [gp_gn (by omega)]; exact h20 i hi))
    refine ⟨M', e1, ?_, fun c hc => ?_, fun y => ⟨?_, fun hn => ?_⟩⟩
    · rw [e2]; split <;> rfl
    · rw [e3 c hc]
      split
      · exact gp_wc _ hc
      · rfl
    · rintro ⟨i, a, b, c, e⟩
      by_cases hy : ∃ i, x + 1 ≤ i ∧ i < cs.length ∧ last.getD p < p + 1 + i ∧ y = cs.getD i 0
      · exact (e4 y).1 hy
      · rw [(e4 y).2 hy]
        have hix : i = x := Classical.byContradiction fun h => hy ⟨i, by omega, b, c, e⟩
        subst hix
        rw [if_pos c, e, gp_gs]
    · rw [(e4 y).2 (fun ⟨i, a, b⟩ => hn ⟨i, by omega, b⟩)]
      split
      · rename_i h
        rw [gp_gn (fun h1 => hn ⟨x, Nat.le_refl _, by omega, h, h1.2⟩)]
      · rfl
/-- the pairs that are remembered as failed behind a reading from p -/
def gp_marks (m p : Nat) (R : Option Nat × Nat × Nat × Option Nat × List Nat) : List Nat := (gp_codes m R.2.2.2.2 p).drop ((if R.1.isSome = true then R.2.1 else p) - p)
theorem gp_codes_lt (hm : m < 4) : ∀ (L : List Nat) (q : Nat), (∀ S, S ∈ L → S < 2 ^ 10) → q + L.length ≤ 24 → ∀ y, y ∈ gp_codes m L q → y < 102400
  | [], q, _, _, y, hy => by cases hy
  | S :: L, q, h1, h2, y, hy => by
    rw [List.length_cons] at h2
    rcases List.mem_cons.mp hy with rfl | h3
    · exact gp_code_lt hm (h1 S List.mem_cons_self) (by omega)
    · exact gp_codes_lt hm L (q + 1) (fun S hS => h1 S (List.mem_cons_of_mem _ hS)) (by omega) y h3
theorem gp_rm_mets (hw : gp_wT T) (hm : m < 4) : ∀ (L : List Nat) (q nx : Nat) (r : Option Nat) (b : Nat), (∀ s, s ∈ L → s < 8) → ∀ S, S ∈ (gp_rm T m F L q nx r b).2.2.2.2 → S < 2 ^ T.2.2 7 m
  | [], q, nx, r, b, _, S, hS => by simp [gp_rm] at hS
  | s :: L, q, nx, r, b, hL, S, hS => by
    have h0 : nx &&& T.2.2 (15 + m) s < 2 ^ T.2.2 7 m := Nat.lt_of_le_of_lt Nat.and_le_right ((hw.2.2 m hm).2.2.2 s (hL s List.mem_cons_self))
    rw [gp_rm] at hS
    split at hS
    · simp at hS
    · split at hS
      · simp at hS
        rw [hS]; exact h0
      · rcases List.mem_cons.mp hS with rfl | h3
        · exact h0
        · exact gp_rm_mets hw hm L (q + 1) _ _ _ (fun s hs => hL s (List.mem_cons_of_mem _ hs)) S h3
theorem gp_mem_drop {α : Type} {d : α} {L : List α} {k : Nat} {y : α} : y ∈ L.drop k ↔ ∃ i, k ≤ i ∧ i < L.length ∧ y = L.getD i d := by
  constructor
  · intro h
    obtain ⟨i, hi, e⟩ := List.mem_iff_getElem.mp h
    rw [List.length_drop] at hi
    refine ⟨k + i, by omega, by omega, ?_⟩
    rw [← e, List.getElem_drop]
    simp [List.getD, show k + i < L.length by omega]
  · rintro ⟨i, h1, h2, e⟩
    refine List.mem_iff_getElem.mpr ⟨i - k, by rw [List.length_drop]; omega, ?_⟩
    rw [List.getElem_drop, e]
    simp [List.getD, h2, show k + (i - k) = i by omega]
theorem gp_getD_mem {α : Type} {d : α} {L : List α} {i : Nat} (h : i < L.length) : L.getD i d ∈ L := by
  have : L.getD i d = L[i] := by simp [List.getD, h]
  rw [this]
  exact List.getElem_mem h
theorem gp_cutOne (hw : gp_wT T) (mem : Nat) (hmem : mem < 2) (ht : gp_tR M T) (hl : gp_lR M l) {stk : List Nat} (hsk : gp_sk stk) (hs : gp_sR M stk) {mo j : Nat} (hmo2 : mo ≤ 5) (hmo3 : stk.length ≤ mo) (hmo : M.1 0 29 = nI mo) (hj : j < 25) (h31 : M.1 0 31 = nI j) (hp : p < l.length) (h26 : M.1 0 26 = nI p) (hF : ∀ S p', S < 2 ^ 10 → p' ≤ 24 → (F S p' = true ↔ mem = 1 ∧ M.1 19 (gp_code (stk.headD 0) S p') ≠ 0)) (R : Option Nat × Nat × Nat × Option Nat × List Nat) (hR : R = gp_rm T (stk.headD 0) F (l.drop p) p (T.2.2 8 (stk.headD 0)) none p) :
    ∃ M', f12_cutOne (nI mem) M = some M' ∧ gp_cutL M M' ∧ gp_sR M' (gp_tokO T p stk R).2.2.2.2.2.2 ∧ M'.1 0 26 = nI (gp_tokO T p stk R).2.2.1 ∧ M'.1 0 29 = nI (max mo (gp_tokO T p stk R).2.2.2.2.2.2.length) ∧ M'.1 0 31 = nI (j + 1) ∧ M'.1 0 32 = M.1 0 32 + nI (R.2.2.1 - p) ∧ gp_rK M' j (gp_tokO T p stk R) ∧ (∀ y, y < 12 * j → M'.1 17 y = M.1 17 y) ∧ (∀ y, M'.1 18 y = M.1 18 y + nI ((gp_codes (stk.headD 0) R.2.2.2.2 p).count y)) ∧ (mem = 0 → M'.1 19 = M.1 19) ∧ (mem = 1 → ∀ y, (y ∈ gp_marks (stk.headD 0) p R → M'.1 19 y = 1) ∧ (y ∉ gp_marks (stk.headD 0) p R → M'.1 19 y = M.1 19 y)) := by
  have hl1 := hl.1
  have hsk5 := hsk.2.1
  have hm : stk.headD 0 < 4 := by
    cases stk with
    | nil => exact absurd hsk.1 (by decide)
    | cons d t => exact hsk.2.2 d List.mem_cons_self
  have htop : M.1 16 (stk.length - 1) = nI (stk.headD 0) := by
    have h0 := hsk.1
    rw [hs.2 (stk.length - 1) (by omega), show stk.length - 1 - (stk.length - 1) = 0 by omega]
    cases stk <;> rfl
  have h0 := hsk.1
  obtain ⟨a1, a2, a3, a4, a5, a6, a7, a8, a9⟩ := gp_rm_f (T := T) (m := stk.headD 0) (F := F) (l.drop p) p (T.2.2 8 (stk.headD 0)) none p (by simp) (by simp)
  have hlen : (l.drop p).length = l.length - p := List.length_drop
  have hmets : ∀ S, S ∈ (gp_rm T (stk.headD 0) F (l.drop p) p (T.2.2 8 (stk.headD 0)) none p).2.2.2.2 → S < 2 ^ 10 := fun S hS => gp_lt10 hw hm (gp_rm_mets hw hm (l.drop p) p _ _ _ (fun s hs' => by
    obtain ⟨i, hi, e⟩ := List.mem_iff_getElem.mp (List.mem_of_mem_drop hs')
    have := (hl.2.2 i hi).2
    simp [List.getD, hi] at this
    rw [← e]; exact this) S hS)
  unfold f12_cutOne
  rw [hs.1, show nI stk.length - 1 = nI (stk.length - 1) by
    obtain ⟨q, e⟩ : ∃ q, stk.length = q + 1 := ⟨stk.length - 1, by omega⟩
    rw [e]; exact nI_pred q, gp_ckb (by omega) (by omega), gp_eL, gp_eL, nI_clamp (by omega), htop, h26]
  obtain ⟨S', M1, e1, e2, e3, e4⟩ := gp_cutOne_32 (F := F) hw hm mem hmem p (l.length - p) gz_FU p 0 p 0 none M (by omega) (by unfold gz_FU; omega) ht hl h26 (Nat.two_pow_pos _) (fun h => absurd rfl h) (fun _ => by omega) (Nat.le_refl _) (by omega) hF
  simp only [if_true] at e1 e3 e4
  rw [← hR] at e1 e3 e4 a1 a2 a3 a4 a5 a6 a7 a8 hmets
  have e1' : f12_cutOne_32 gz_FU (nI mem) (nI (stk.headD 0)) 0 (-1) (-1) (nI p) 0 0 M = _ := e1
  rw [e1', Nat.zero_add]
  obtain ⟨j1, j2, j3, j4, j5, j6, j7⟩ := e4
  have hlc : (gp_codes (stk.headD 0) R.2.2.2.2 p).length = R.2.2.2.2.length := gp_codes_len _ _ _
  have hRl : R.2.2.2.2.length + p ≤ l.length := by omega
  have hRb : R.1.isSome = true → R.2.1 ≤ 24 := fun h => by have := a4 h; omega
  have hR2 : R.2.1 < 2 ^ 30 ∨ R.1.isSome = false := by
    cases h : R.1.isSome
    · exact Or.inr rfl
    · exact Or.inl (by have := hRb h; omega)
  have hgt : p < R.2.2.1 := a3 (by rw [gp_drop hp]; simp)
  -- behind the marks
  have fin : ∀ M2 : gz_M, M2.2 = M1.2 → (∀ c, c ≠ 19 → M2.1 c = M1.1 c) → (mem = 0 → M2.1 19 = M.1 19) → (mem = 1 → ∀ y, (y ∈ gp_marks (stk.headD 0) p R → M2.1 19 y = 1) ∧ (y ∉ gp_marks (stk.headD 0) p R → M2.1 19 y = M.1 19 y)) → ∃ M', f12_cutOne_250 (nI (stk.headD 0)) (nI S') (gp_o (if R.1.isSome = true then some R.2.1 else none)) (gp_o R.1) (nI R.2.2.1) M2 = some M' ∧ gp_cutL M M' ∧ gp_sR M' (gp_tokO T p stk R).2.2.2.2.2.2 ∧ M'.1 0 26 = nI (gp_tokO T p stk R).2.2.1 ∧ M'.1 0 29 = nI (max mo (gp_tokO T p stk R).2.2.2.2.2.2.length) ∧ M'.1 0 31 = nI (j + 1) ∧ M'.1 0 32 = M.1 0 32 + nI (R.2.2.1 - p) ∧ gp_rK M' j (gp_tokO T p stk R) ∧ (∀ y, y < 12 * j → M'.1 17 y = M.1 17 y) ∧ (∀ y, M'.1 18 y = M.1 18 y + nI ((gp_codes (stk.headD 0) R.2.2.2.2 p).count y)) ∧ (mem = 0 → M'.1 19 = M.1 19) ∧ (mem = 1 → ∀ y, (y ∈ gp_marks (stk.headD 0) p R → M'.1 19 y = 1) ∧ (y ∉ gp_marks (stk.headD 0) p R → M'.1 19 y = M.1 19 y)) := by
    intro M2 b1 b2 b3 b4
    have m2c : ∀ c, c ≠ 0 → c ≠ 18 → c ≠ 19 → c ≠ 20 → M2.1 c = M.1 c := fun c c1 c2 c3 c4 => by rw [b2 c c3, j2 c c1 c2 c4]
    have m20 : ∀ i, i ≠ 32 → M2.1 0 i = M.1 0 i := fun i hi => by rw [b2 0 (by omega), j3 i hi]
    have ht2 : gp_tR M2 T := ht.fr (fun c c1 c2 => m2c c (by omega) (by omega) (by omega) (by omega)) (m20 _ (by omega))
    have hs2 : gp_sR M2 stk := ⟨by rw [m20 _ (by omega)]; exact hs.1, fun x hx => by rw [m2c _ (by omega) (by omega) (by omega) (by omega)]; exact hs.2 x hx⟩
    have conv : ∃ R' : Option Nat × Nat × Nat × Option Nat × List Nat, R'.1 = R.1 ∧ R'.2.2 = R.2.2 ∧ R'.2.1 < 2 ^ 30 ∧ (R.1.isSome = true → R'.2.1 = R.2.1) := by
      rcases hR2 with h | h
      · exact ⟨R, rfl, rfl, h, fun _ => rfl⟩
      · exact ⟨(R.1, 0, R.2.2), rfl, rfl, show 0 < 2 ^ 30 by decide, fun h' => by rw [h] at h'; cases h'⟩
    obtain ⟨R', r1, r2, r3, r4⟩ := conv
    obtain ⟨M', f1, f2, f3, f4, f5, f6, f7, f8, f9, f10⟩ := gp_cut250 hw ht2 hsk hs2 hmo2 hmo3 (by rw [m20 _ (by omega), hmo]) hj (by rw [m20 _ (by omega), h31]) (show p < 24 by omega) (by rw [m20 _ (by omega), h26]) R' (by rw [r1]; exact a6) r3 (by rw [r2]; omega) (fun x hx => by rw [r2] at hx ⊢; exact (a7 x hx).1) e2 (by rw [r2]; exact e3)
    have eo : (if R'.1.isSome = true then some R'.2.1 else none) = (if R.1.isSome = true then some R.2.1 else none) := by
      rw [r1]
      split
      · rename_i h; rw [r4 h]
      · rfl
    have et : gp_tokO T p stk R' = gp_tokO T p stk R := by
      unfold gp_tokO
      rw [r1, r2]
      congr 3
      split
      · rename_i h; rw [r4 h]
      · rfl
    rw [eo, r1, r2] at f1
    rw [et] at f5 f6 f7 f9
    refine ⟨M', f1, ⟨by rw [f2, b1, j1], fun c c1 c2 => by rw [f3 c c1 (by omega) (by omega), m2c c c1 (by omega) (by omega) (by omega)], fun i i1 i2 i3 i4 i5 => by rw [f4 i i1 i2 i3 i4, m20 i i5]⟩, f5, f6, f7, f8, ?_, f9, fun y hy => by rw [f10 y hy, m2c _ (by omega) (by omega) (by omega) (by omega)], fun y => ?_, fun h => ?_, fun h y => ?_⟩
    · rw [f4 _ (by omega) (by omega) (by omega) (by omega), b2 _ (by omega), j4]
    · rw [f3 _ (by omega) (by omega) (by omega), b2 _ (by omega), j7]
    · rw [f3 _ (by omega) (by omega) (by omega), b3 h]
    · rw [f3 _ (by omega) (by omega) (by omega)]
      exact b4 h y
  unfold f12_cutOne_190
  have hm2 : mem = 0 ∨ mem = 1 := by omega
  rcases hm2 with h | h
  · subst h
    rw [if_pos nI_0]
    exact fin M1 rfl (fun _ _ => rfl) (fun _ => j2 _ (by omega) (by omega) (by omega)) (fun h => absurd h (by decide))
  · subst h
    rw [if_neg (by decide), ← hlc]
    have hcl : ∀ i, i < (gp_codes (stk.headD 0) R.2.2.2.2 p).length → (gp_codes (stk.headD 0) R.2.2.2.2 p).getD i 0 < 102400 := fun i hi => by
      exact gp_codes_lt hm R.2.2.2.2 p hmets (by omega) _ (gp_getD_mem hi)
    have hla : ∀ b, (if R.1.isSome = true then some R.2.1 else none) = some b → b ≤ 24 := by
      intro b hb
      split at hb
      · rename_i h
        cases hb
        exact hRb h
      · cases hb
    obtain ⟨M2, g1, g2, g3, g4⟩ := gp_cut197 p (by omega) (gp_codes (stk.headD 0) R.2.2.2.2 p) (by omega) hcl (if R.1.isSome = true then some R.2.1 else none) hla (nI (stk.headD 0)) (nI S') (gp_o R.1) (nI R.2.2.1) (gp_codes (stk.headD 0) R.2.2.2.2 p).length gz_FU 0 M1 (by omega) (by unfold gz_FU; omega) (by rw [j3 _ (by omega), h26]) (fun i hi => by have := j6 i hi; rwa [Nat.zero_add] at this)
    have g1' : f12_cutOne_197 gz_FU (nI (stk.headD 0)) (nI S') (gp_o (if R.1.isSome = true then some R.2.1 else none)) (gp_o R.1) (nI R.2.2.1) (nI (gp_codes (stk.headD 0) R.2.2.2.2 p).length) 0 M1 = _ := g1
    rw [g1']
    refine fin M2 g2 g3 (fun h => absurd h (by decide)) (fun _ y => ?_)
    have hk : (if R.1.isSome = true then some R.2.1 else none).getD p = (if R.1.isSome = true then R.2.1 else p) := by split <;> rfl
    have hmk : (∃ i, 0 ≤ i ∧ i < (gp_codes (stk.headD 0) R.2.2.2.2 p).length ∧ (if R.1.isSome = true then some R.2.1 else none).getD p < p + 1 + i ∧ y = (gp_codes (stk.headD 0) R.2.2.2.2 p).getD i 0) ↔ y ∈ gp_marks (stk.headD 0) p R := by
      unfold gp_marks
      rw [gp_mem_drop (d := 0), hk]
      constructor
      · rintro ⟨i, _, b, c, e⟩
        exact ⟨i, by omega, b, e⟩
      · rintro ⟨i, a, b, e⟩
        exact ⟨i, by omega, b, by omega, e⟩
    have := g4 y
    rw [hmk] at this
    rw [j2 _ (by omega) (by omega) (by omega)] at this
    exact this
end
