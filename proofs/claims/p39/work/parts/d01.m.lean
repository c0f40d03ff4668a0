section
/-! cutting with memory: what failed once fails again -/
section
variable {T : gp_T} {m : Nat} {F : Nat → Nat → Bool} {l : List Nat}
/-- a winner ahead is told, but does no more -/
theorem gq_rmE : ∀ (L : List Nat) (q nx : Nat) (r : Option Nat) (b : Nat), (gp_rm T m gp_F0 L q nx r b).1 = (gp_rm T m gp_F0 L q nx none 0).1.or r ∧ (gp_rm T m gp_F0 L q nx r b).2.1 = if (gp_rm T m gp_F0 L q nx none 0).1.isSome = true then (gp_rm T m gp_F0 L q nx none 0).2.1 else b
  | [], q, nx, r, b => ⟨rfl, rfl⟩
  | s :: L, q, nx, r, b => by
    rw [gp_rm, gp_rm]
    by_cases h0 : nx &&& T.2.2 (15 + m) s = 0
    · rw [if_pos h0, if_pos h0]
      exact ⟨rfl, rfl⟩
    · rw [if_neg h0, if_neg (gq_F0 _ _), if_neg h0, if_neg (gq_F0 _ _)]
      obtain ⟨a1, a2⟩ := gq_rmE L (q + 1) (gp_aft T m (nx &&& T.2.2 (15 + m) s)) ((gp_win T m (nx &&& T.2.2 (15 + m) s)).or r) (if (gp_win T m (nx &&& T.2.2 (15 + m) s)).isSome = true then q + 1 else b)
      obtain ⟨b1, b2⟩ := gq_rmE L (q + 1) (gp_aft T m (nx &&& T.2.2 (15 + m) s)) ((gp_win T m (nx &&& T.2.2 (15 + m) s)).or none) (if (gp_win T m (nx &&& T.2.2 (15 + m) s)).isSome = true then q + 1 else 0)
      dsimp only
      rw [a1, a2, b1, b2]
      cases gp_win T m (nx &&& T.2.2 (15 + m) s) <;> cases (gp_rm T m gp_F0 L (q + 1) (gp_aft T m (nx &&& T.2.2 (15 + m) s)) none 0).1 <;> exact ⟨rfl, rfl⟩
/-- no winner from a standing on -/
def gq_nw (T : gp_T) (l : List Nat) (m S p : Nat) : Prop := (gp_rm T m gp_F0 (l.drop p) p (gp_aft T m S) none 0).1 = none
theorem gq_same (hF : ∀ S p, F S p = true → gq_nw T l m S p) : ∀ (L : List Nat) (q nx : Nat) (r : Option Nat) (b : Nat), L = l.drop q → (gp_rm T m F L q nx r b).1 = (gp_rm T m gp_F0 L q nx r b).1 ∧ (gp_rm T m F L q nx r b).2.1 = (gp_rm T m gp_F0 L q nx r b).2.1
  | [], q, nx, r, b, _ => ⟨rfl, rfl⟩
  | s :: L, q, nx, r, b, hL => by
    have hL1 : L = l.drop (q + 1) := by
      have := congrArg (List.drop 1) hL
      rwa [List.drop_succ_cons, List.drop_zero, List.drop_drop] at this
    rw [gp_rm, gp_rm]
    by_cases h0 : nx &&& T.2.2 (15 + m) s = 0
    · rw [if_pos h0, if_pos h0]
      exact ⟨rfl, rfl⟩
    · rw [if_neg h0, if_neg h0, if_neg (gq_F0 _ _)]
      by_cases hf : F (nx &&& T.2.2 (15 + m) s) (q + 1) = true
      · have hn := hF _ _ hf
        unfold gq_nw at hn
        rw [← hL1] at hn
        obtain ⟨a1, a2⟩ := gq_rmE (T := T) (m := m) L (q + 1) (gp_aft T m (nx &&& T.2.2 (15 + m) s)) ((gp_win T m (nx &&& T.2.2 (15 + m) s)).or r) (if (gp_win T m (nx &&& T.2.2 (15 + m) s)).isSome = true then q + 1 else b)
        rw [if_pos hf]
        dsimp only
        rw [a1, a2, hn]
        exact ⟨rfl, rfl⟩
      · rw [if_neg hf]
        exact gq_same hF L (q + 1) _ _ _ hL1
/-- what is come to behind the last winner leads to none -/
theorem gq_mark (hF : ∀ S p, F S p = true → gq_nw T l m S p) : ∀ (L : List Nat) (q nx : Nat) (r : Option Nat) (b : Nat), L = l.drop q → ∀ i, i < (gp_rm T m F L q nx r b).2.2.2.2.length → ((gp_rm T m F L q nx r b).1 = none ∨ (gp_rm T m F L q nx r b).2.1 < q + 1 + i) → gq_nw T l m ((gp_rm T m F L q nx r b).2.2.2.2.getD i 0) (q + 1 + i)
  | [], q, nx, r, b, _, i, hi, _ => absurd hi (by simp [gp_rm])
  | s :: L, q, nx, r, b, hL, i, hi, hw => by
    have hL1 : L = l.drop (q + 1) := by
      have := congrArg (List.drop 1) hL
      rwa [List.drop_succ_cons, List.drop_zero, List.drop_drop] at this
    rw [gp_rm] at hi hw ⊢
    by_cases h0 : nx &&& T.2.2 (15 + m) s = 0
    · rw [if_pos h0] at hi
      exact absurd hi (by simp)
    · rw [if_neg h0] at hi hw ⊢
      by_cases hf : F (nx &&& T.2.2 (15 + m) s) (q + 1) = true
      · rw [if_pos hf] at hi ⊢
        have : i = 0 := by simpa using hi
        subst this
        exact hF _ _ hf
      · rw [if_neg hf] at hi hw ⊢
        dsimp only at hi hw ⊢
        cases i with
        | zero =>
          obtain ⟨s1, s2⟩ := gq_same hF L (q + 1) (gp_aft T m (nx &&& T.2.2 (15 + m) s)) ((gp_win T m (nx &&& T.2.2 (15 + m) s)).or r) (if (gp_win T m (nx &&& T.2.2 (15 + m) s)).isSome = true then q + 1 else b) hL1
          obtain ⟨a1, a2⟩ := gq_rmE (T := T) (m := m) L (q + 1) (gp_aft T m (nx &&& T.2.2 (15 + m) s)) ((gp_win T m (nx &&& T.2.2 (15 + m) s)).or r) (if (gp_win T m (nx &&& T.2.2 (15 + m) s)).isSome = true then q + 1 else b)
          rw [s1, s2, a1, a2] at hw
          show (gp_rm T m gp_F0 (l.drop (q + 1)) (q + 1) (gp_aft T m (nx &&& T.2.2 (15 + m) s)) none 0).1 = none
          rw [← hL1]
          cases hZ : (gp_rm T m gp_F0 L (q + 1) (gp_aft T m (nx &&& T.2.2 (15 + m) s)) none 0).1 with
          | none => rfl
          | some k =>
            exfalso
            rw [hZ] at hw
            have hge : ∀ (L : List Nat) (q nx : Nat) (r : Option Nat) (b : Nat), ((gp_rm T m gp_F0 L q nx r b).1 = r ∧ (gp_rm T m gp_F0 L q nx r b).2.1 = b) ∨ q < (gp_rm T m gp_F0 L q nx r b).2.1 := by
              intro L
              induction L with
              | nil => intro q nx r b; exact Or.inl ⟨rfl, rfl⟩
              | cons s L ih =>
                intro q nx r b
                rw [gp_rm]
                by_cases h0 : nx &&& T.2.2 (15 + m) s = 0
                · rw [if_pos h0]
                  exact Or.inl ⟨rfl, rfl⟩
                · rw [if_neg h0, if_neg (gq_F0 _ _)]
                  dsimp only
                  rcases ih (q + 1) (gp_aft T m (nx &&& T.2.2 (15 + m) s)) ((gp_win T m (nx &&& T.2.2 (15 + m) s)).or r) (if (gp_win T m (nx &&& T.2.2 (15 + m) s)).isSome = true then q + 1 else b) with ⟨g1, g2⟩ | g
                  · rw [g1, g2]
                    cases gp_win T m (nx &&& T.2.2 (15 + m) s) with
                    | none => exact Or.inl ⟨rfl, rfl⟩
                    | some k => right; show q < q + 1; omega
                  · right; omega
            rcases hge L (q + 1) (gp_aft T m (nx &&& T.2.2 (15 + m) s)) none 0 with ⟨g1, _⟩ | g
            · rw [hZ] at g1; cases g1
            · rcases hw with hw | hw
              · cases hw
              · rw [if_pos (show (some k : Option Nat).isSome = true from rfl)] at hw
                omega
        | succ i =>
          have := gq_mark hF L (q + 1) (gp_aft T m (nx &&& T.2.2 (15 + m) s)) ((gp_win T m (nx &&& T.2.2 (15 + m) s)).or r) (if (gp_win T m (nx &&& T.2.2 (15 + m) s)).isSome = true then q + 1 else b) hL1 i (by simpa using hi) (hw.imp id (fun hw => by omega))
          rw [show q + 1 + (i + 1) = q + 1 + 1 + i by omega]
          simpa [List.getD] using this
/-- the pairs that a token comes to, with places -/
theorem gq_codes_mem {m y : Nat} : ∀ (L : List Nat) (p : Nat), y ∈ gp_codes m L p ↔ ∃ i, i < L.length ∧ y = gp_code m (L.getD i 0) (p + 1 + i)
  | [], p => by simp [gp_codes]
  | S :: L, p => by
    rw [gp_codes, List.mem_cons, gq_codes_mem L (p + 1)]
    constructor
    · rintro (h | ⟨i, h1, h2⟩)
      · exact ⟨0, by simp, h⟩
      · exact ⟨i + 1, by simp; omega, by rw [h2, show p + 1 + 1 + i = p + 1 + (i + 1) by omega]; simp [List.getD]⟩
    · rintro ⟨i, h1, h2⟩
      cases i with
      | zero => exact Or.inl h2
      | succ i => exact Or.inr ⟨i, by simpa using h1, by rw [h2, show p + 1 + (i + 1) = p + 1 + 1 + i by omega]; simp [List.getD]⟩
theorem gq_code_inj {m m' S S' p p' : Nat} (hS : S < 1024) (hS' : S' < 1024) (hp : p < 25) (hp' : p' < 25) (h : gp_code m S p = gp_code m' S' p') : m = m' ∧ S = S' ∧ p = p' := by
  unfold gp_code at h
  omega
end
end
section
/-! pairs of a standing and a place, in the component -/
def gq_sum (g : Nat → Nat) : Nat → Nat
  | 0 => 0
  | n + 1 => gq_sum g n + g n
theorem gq_sum_ext {g h : Nat → Nat} : ∀ {n : Nat}, (∀ p, p < n → g p = h p) → gq_sum g n = gq_sum h n
  | 0, _ => rfl
  | n + 1, e => by rw [gq_sum, gq_sum, gq_sum_ext (fun p hp => e p (by omega)), e n (by omega)]
theorem gq_sum_upd {g h : Nat → Nat} {p : Nat} (hp : h p = g p + 1) : ∀ {n : Nat}, (∀ y, y < n → y ≠ p → h y = g y) → gq_sum h n = gq_sum g n + if p < n then 1 else 0
  | 0, _ => by rw [if_neg (by omega)]; rfl
  | n + 1, e => by
    rw [gq_sum, gq_sum, gq_sum_upd hp (fun y hy hn => e y (by omega) hn)]
    by_cases h1 : n = p
    · subst h1
      rw [hp, if_neg (by omega), if_pos (by omega)]
      omega
    · rw [e n (by omega) h1]
      by_cases h2 : p < n
      · rw [if_pos h2, if_pos (by omega)]; omega
      · rw [if_neg h2, if_neg (by omega)]; omega
theorem gq_sum_add (g h : Nat → Nat) : ∀ n, gq_sum (fun p => g p + h p) n = gq_sum g n + gq_sum h n
  | 0 => rfl
  | n + 1 => by rw [gq_sum, gq_sum, gq_sum, gq_sum_add g h n]; omega
def gq_pL (M M' : gz_M) : Prop := M'.2 = M.2 ∧ ∀ c, c < 69 ∨ 122 < c → M'.1 c = M.1 c
theorem gq_pL.refl (M : gz_M) : gq_pL M M := ⟨rfl, fun _ _ => rfl⟩
theorem gq_pL.trans {M M1 M2 : gz_M} (a : gq_pL M M1) (b : gq_pL M1 M2) : gq_pL M M2 := ⟨b.1.trans a.1, fun c h => (b.2 c h).trans (a.2 c h)⟩
/-- at place p the keys L, told cs -/
def gq_pK (M : gz_M) (cs : List Nat) (p : Nat) (L : List Nat) : Prop := L.Nodup ∧ L.length ≤ 24 ∧ M.1 122 p = nI L.length ∧ (∀ i, i < L.length → M.1 (71 + p) i = nI (L.getD i 0) ∧ M.1 (97 + p) i = nI (cs.count (L.getD i 0 * 25 + p))) ∧ ∀ key, key ∈ L ↔ (key < 4096 ∧ key * 25 + p ∈ cs)
def gq_pC (M : gz_M) (cs : List Nat) (rd : Nat) (Bd : Nat → Nat) (K : Nat → List Nat) : Prop := (∀ p, p < 25 → gq_pK M cs p (K p) ∧ (K p).length ≤ Bd p) ∧ M.1 69 3 = nI (gq_sum (fun p => (K p).length) 25) ∧ M.1 69 4 = nI rd
section
variable {M M' : gz_M} {cs : List Nat} {rd p key : Nat} {Bd Bd' : Nat → Nat} {K : Nat → List Nat} {L : List Nat}
theorem gq_idx (h : gq_pK M cs p L) (hp : p < 25) (hk : key < 4096) : f6_indexOf (nI p) (nI key) M = some (gp_o (gp_fst (fun i => decide (L.getD i 0 = key)) L.length 0), M) := by
  obtain ⟨h1, h2, h3, h4, h5⟩ := h
  have main : ∀ d i n, i + d = L.length → d < n → f6_indexOf_14 n (nI p) (nI key) (nI i) M = some (gp_o (gp_fst (fun i => decide (L.getD i 0 = key)) d i), M) := by
    intro d
    induction d with
    | zero =>
      intro i n hi hn
      obtain ⟨n, rfl⟩ : ∃ q, n = q + 1 := ⟨n - 1, by omega⟩
      rw [f6_indexOf_14, gp_ckb hp (by omega), nI_clamp (by omega), h3, if_pos (nI_le (by omega) (by omega))]
      rfl
    | succ d ih =>
      intro i n hi hn
      obtain ⟨n, rfl⟩ : ∃ q, n = q + 1 := ⟨n - 1, by omega⟩
      have hm := (h5 (L.getD i 0)).mp (gp_getD_mem (show i < L.length by omega))
      rw [f6_indexOf_14, gp_ckb hp (by omega), nI_clamp (by omega), h3, if_neg (nI_ge (by omega) (by omega)), gp_ckb hp (by omega), gp_ckb (show i < 24 by omega) (by omega), nI_clamp (by omega), show 70 + 1 + p = 71 + p by omega, (h4 i (by omega)).1, gp_fst]
      by_cases e : L.getD i 0 = key
      · rw [if_pos (by rw [e]), if_pos (show decide (L.getD i 0 = key) = true from decide_eq_true e)]
        rfl
      · rw [if_neg (fun g => e ((nI_eq (by omega) (by omega)).mp g)), if_neg (show ¬ decide (L.getD i 0 = key) = true from fun g => e (of_decide_eq_true g)), gp_eL, nI_1]
        exact ih (i + 1) n (by omega) (by omega)
  unfold f6_indexOf
  rw [if_neg (nI_pos (by omega)), if_pos (show nI p ≤ (24 : Int32) from nI_le (b := 24) (by omega) (by omega))]
  exact main L.length 0 gz_FU (by omega) (by unfold gz_FU; omega)
theorem gq_fst_mem {L : List Nat} {key : Nat} : ∀ (n i : Nat), i + n = L.length → (∀ j, gp_fst (fun i => decide (L.getD i 0 = key)) n i = some j → i ≤ j ∧ j < L.length ∧ L.getD j 0 = key) ∧ (gp_fst (fun i => decide (L.getD i 0 = key)) n i = none → ∀ j, i ≤ j → j < L.length → L.getD j 0 ≠ key)
  | 0, i, h => ⟨fun j g => (by cases g), fun _ j h1 h2 => by omega⟩
  | n + 1, i, h => by
    obtain ⟨a, b⟩ := gq_fst_mem (L := L) (key := key) n (i + 1) (by omega)
    rw [gp_fst]
    by_cases e : L.getD i 0 = key
    · rw [if_pos (show decide (L.getD i 0 = key) = true from decide_eq_true e)]
      exact ⟨fun j g => by cases g; exact ⟨Nat.le_refl _, by omega, e⟩, fun g => by cases g⟩
    · rw [if_neg (show ¬ decide (L.getD i 0 = key) = true from fun g => e (of_decide_eq_true g))]
      refine ⟨fun j g => ?_, fun g j h1 h2 => ?_⟩
      · obtain ⟨x, y, z⟩ := a j g
        exact ⟨by omega, y, z⟩
      · by_cases hj : j = i
        · rw [hj]; exact e
        · exact b g j (by omega) h2
/-- whether a pair is there -/
theorem gq_idxO (h : gq_pK M cs p L) (hp : p < 25) (hk : key < 4096) : ∃ r : Option Nat, f6_indexOf (nI p) (nI key) M = some (gp_o r, M) ∧ (∀ j, r = some j → j < L.length ∧ L.getD j 0 = key) ∧ (r = none ↔ key * 25 + p ∉ cs) := by
  have e := gq_idx h hp hk
  obtain ⟨a, b⟩ := gq_fst_mem (L := L) (key := key) L.length 0 (by omega)
  refine ⟨_, e, fun j g => ⟨(a j g).2.1, (a j g).2.2⟩, ⟨fun g hm => ?_, fun g => ?_⟩⟩
  · obtain ⟨i, hi, e⟩ := List.mem_iff_getElem.mp ((h.2.2.2.2 key).mpr ⟨hk, hm⟩)
    exact b g i (by omega) hi (by simp [List.getD, hi, e])
  · cases hr : gp_fst (fun i => decide (L.getD i 0 = key)) L.length 0 with
    | none => rfl
    | some j =>
      obtain ⟨_, x, y⟩ := a j hr
      exact absurd ((h.2.2.2.2 key).mp (by rw [← y]; exact gp_getD_mem x)).2 g
theorem gq_pK.fr (h : gq_pK M cs p L) (e : M'.1 (71 + p) = M.1 (71 + p)) (e' : M'.1 (97 + p) = M.1 (97 + p)) (e2 : M'.1 122 p = M.1 122 p) : gq_pK M' cs p L := by
  obtain ⟨h1, h2, h3, h4, h5⟩ := h
  exact ⟨h1, h2, by rw [e2]; exact h3, fun i hi => by rw [e, e']; exact h4 i hi, h5⟩
theorem gq_pK.snoc (h : gq_pK M cs p L) {y : Nat} (hy : ∀ key, key < 4096 → key * 25 + p ≠ y) : gq_pK M (cs ++ [y]) p L := by
  obtain ⟨h1, h2, h3, h4, h5⟩ := h
  refine ⟨h1, h2, h3, fun i hi => ⟨(h4 i hi).1, ?_⟩, fun key => ?_⟩
  · have hm := (h5 (L.getD i 0)).mp (gp_getD_mem hi)
    rw [(h4 i hi).2, List.count_append, List.count_eq_zero_of_not_mem (show L.getD i 0 * 25 + p ∉ [y] from fun g => hy _ hm.1 (List.mem_singleton.mp g)), Nat.add_zero]
  · rw [h5, List.mem_append, List.mem_singleton]
    constructor
    · rintro ⟨a, b⟩; exact ⟨a, Or.inl b⟩
    · rintro ⟨a, b | b⟩
      · exact ⟨a, b⟩
      · exact absurd b (hy key a)
theorem gq_nodup_inj {L : List Nat} (h : L.Nodup) {i j : Nat} (hi : i < L.length) (hj : j < L.length) (e : L.getD i 0 = L.getD j 0) : i = j := by
  have e : L[i] = L[j] := by simpa [List.getD, hi, hj] using e
  rcases Nat.lt_trichotomy i j with g | g | g
  · exact absurd e (List.pairwise_iff_getElem.mp h i j hi hj g)
  · exact g
  · exact absurd e.symm (List.pairwise_iff_getElem.mp h j i hj hi g)
/-- a pair is come to -/
theorem gq_come (h : gq_pC M cs rd Bd K) (hp : p < 25) (hk : key < 4096) (hB : ∀ z, z < 25 → z ≠ p → Bd z ≤ Bd' z) (hB1 : Bd p + 1 ≤ Bd' p) (h24 : Bd p < 24) : ∃ M' K', f6_comeTo (nI p) (nI key) M = some M' ∧ gq_pL M M' ∧ gq_pC M' (cs ++ [key * 25 + p]) rd Bd' K' ∧ M'.1 69 4 = M.1 69 4 := by
  obtain ⟨h1, h2, h3⟩ := h
  obtain ⟨hK, hb⟩ := h1 p hp
  obtain ⟨r, e1, e2, e3⟩ := gq_idxO hK hp hk
  obtain ⟨k1, k2, k3, k4, k5⟩ := hK
  have oth : ∀ z, z < 25 → z ≠ p → ∀ key', key' < 4096 → key' * 25 + z ≠ key * 25 + p := fun z hz hn key' hk' => by omega
  unfold f6_comeTo
  rw [if_neg (nI_pos (by omega)), if_pos (show nI p ≤ (24 : Int32) from nI_le (b := 24) (by omega) (by omega)), e1, gp_eB2]
  cases r with
  | none =>
    have hni := e3.mp rfl
    have hnk : key ∉ K p := fun g => hni ((k5 key).mp g).2
    rw [if_pos (show gp_o none = -1 from rfl), gp_ckb hp (by omega), nI_clamp (by omega), k3, if_neg (show ¬ (24 : Int32) ≤ nI (K p).length from nI_ge (b := 24) (by omega) (by omega)), gp_ckb (show (K p).length < 24 by omega) (by omega), nI_clamp (by omega), gp_eL, show 70 + 1 + p = 71 + p by omega, gp_gn (by omega), k3, gp_ckb (show (K p).length < 24 by omega) (by omega), nI_clamp (by omega), gp_eL, show 96 + 1 + p = 97 + p by omega, gp_gn (by omega), gp_gn (by omega), k3, nI_1, gp_eL, gp_gn (by omega), gp_gn (by omega), gp_gn (by omega), h2, nI_1, gp_eL, gp_ckb hp (by omega), gp_ckb hp (by omega), gp_ckb hp (by omega), gp_ckb hp (by omega), gp_ckb hp (by omega), gp_ckb hp (by omega)]
    refine ⟨_, fun z => if z = p then K p ++ [key] else K z, rfl, ⟨rfl, fun c hc => by rw [gp_wc _ (by omega), gp_wc _ (by omega), gp_wc _ (by omega), gp_wc _ (by omega)]⟩, ⟨fun z hz => ?_, ?_, ?_⟩, ?_⟩
    · dsimp only
      by_cases e : z = p
      · subst e
        rw [if_pos rfl]
        have hlen : (K z ++ [key]).length = (K z).length + 1 := by simp
        refine ⟨⟨?_, by omega, ?_, fun i hi => ?_, fun key' => ?_⟩, by omega⟩
        · rw [List.nodup_append]
          exact ⟨k1, by simp, fun a ha b hb => by rw [List.mem_singleton.mp hb]; exact fun g => hnk (g ▸ ha)⟩
        · rw [gp_gn (by omega), gp_gs, hlen]
        · rw [hlen] at hi
          by_cases ei : i = (K z).length
          · rw [ei, gp_getD_r]
            refine ⟨by rw [gp_gn (by omega), gp_gn (by omega), gp_gn (by omega), gp_gs], ?_⟩
            rw [gp_gn (by omega), gp_gn (by omega), gp_gs, List.count_append, List.count_eq_zero_of_not_mem hni]
            simp
            rfl
          · rw [gp_getD_l (by omega)]
            have hm := (k5 ((K z).getD i 0)).mp (gp_getD_mem (show i < (K z).length by omega))
            have hne : (K z).getD i 0 * 25 + z ≠ key * 25 + z := fun g => hni (by rw [← g]; exact hm.2)
            refine ⟨by rw [gp_gn (by omega), gp_gn (by omega), gp_gn (by omega), gp_gn (by omega)]; exact (k4 i (by omega)).1, ?_⟩
            rw [gp_gn (by omega), gp_gn (by omega), gp_gn (by omega), gp_gn (by omega), (k4 i (by omega)).2, List.count_append, List.count_eq_zero_of_not_mem (show (K z).getD i 0 * 25 + z ∉ [key * 25 + z] from fun g => hne (List.mem_singleton.mp g)), Nat.add_zero]
        · rw [List.mem_append, List.mem_append, List.mem_singleton, List.mem_singleton, k5]
          constructor
          · rintro (⟨a, b⟩ | a)
            · exact ⟨a, Or.inl b⟩
            · rw [a]; exact ⟨hk, Or.inr rfl⟩
          · rintro ⟨a, b | b⟩
            · exact Or.inl ⟨a, b⟩
            · exact Or.inr (by omega)
      · rw [if_neg e]
        obtain ⟨a, b⟩ := h1 z hz
        refine ⟨(a.fr ?_ ?_ ?_).snoc (oth z hz e), Nat.le_trans b (hB z hz e)⟩
        · rw [gp_wc _ (by omega), gp_wc _ (by omega), gp_wc _ (by omega), gp_wc _ (by omega)]
        · rw [gp_wc _ (by omega), gp_wc _ (by omega), gp_wc _ (by omega), gp_wc _ (by omega)]
        · rw [gp_gn (by omega), gp_gn (by omega), gp_gn (by omega), gp_gn (by omega)]
    · rw [gp_gs]
      congr 1
      have := gq_sum_upd (g := fun z => (K z).length) (h := fun z => (if z = p then K p ++ [key] else K z).length) (p := p) (by simp) (n := 25) (fun y hy hn => by rw [if_neg hn])
      rw [if_pos hp] at this
      exact this.symm
    · rw [gp_gn (by omega), gp_gn (by omega), gp_gn (by omega), gp_gn (by omega)]
      exact h3
    · rw [gp_gn (by omega), gp_gn (by omega), gp_gn (by omega), gp_gn (by omega)]
  | some j =>
    obtain ⟨j1, j2⟩ := e2 j rfl
    rw [if_neg (show ¬ gp_o (some j) = -1 from by rw [gp_oS, gp_m1, gp_ne1 (by omega)]; exact id), gp_oS, gp_ckb hp (by omega), nI_clamp (by omega), gp_ckb (show j < 24 by omega) (by omega), gp_ckb (show j < 24 by omega) (by omega), nI_clamp (by omega), show 96 + 1 + p = 97 + p by omega, (k4 j j1).2, nI_1, gp_eL, j2]
    have hin : key * 25 + p ∈ cs := ((k5 key).mp (by rw [← j2]; exact gp_getD_mem j1)).2
    refine ⟨_, K, rfl, ⟨rfl, fun c hc => gp_wc _ (by omega)⟩, ⟨fun z hz => ?_, ?_, ?_⟩, gp_gn (by omega)⟩
    · obtain ⟨a, b⟩ := h1 z hz
      by_cases e : z = p
      · subst e
        refine ⟨⟨k1, k2, by rw [gp_gn (by omega)]; exact k3, fun i hi => ⟨by rw [gp_gn (by omega)]; exact (k4 i hi).1, ?_⟩, fun key' => ?_⟩, by omega⟩
        · by_cases ei : i = j
          · rw [ei, gp_gs, j2, List.count_append]
            simp
          · have hm := (k5 ((K z).getD i 0)).mp (gp_getD_mem hi)
            have hne : (K z).getD i 0 ≠ key := fun g => ei (gq_nodup_inj k1 hi j1 (by rw [g, j2]))
            rw [gp_gn (by omega), (k4 i hi).2, List.count_append, List.count_eq_zero_of_not_mem (show (K z).getD i 0 * 25 + z ∉ [key * 25 + z] from fun g => hne (by have := List.mem_singleton.mp g; omega)), Nat.add_zero]
        · rw [k5, List.mem_append, List.mem_singleton]
          constructor
          · rintro ⟨a, b⟩; exact ⟨a, Or.inl b⟩
          · rintro ⟨a, b | b⟩
            · exact ⟨a, b⟩
            · exact ⟨a, by rw [b]; exact hin⟩
      · refine ⟨(a.fr (gp_wc _ (by omega)) (gp_wc _ (by omega)) (gp_gn (by omega))).snoc (oth z hz e), Nat.le_trans b (hB z hz e)⟩
    · rw [gp_gn (by omega)]; exact h2
    · rw [gp_gn (by omega)]; exact h3
theorem gq_clear (M : gz_M) : ∃ M', f6_clear M = some M' ∧ gq_pL M M' ∧ gq_pC M' [] 0 (fun _ => 0) (fun _ => []) := by
  obtain ⟨M1, e1, e2, e3, e4, e5⟩ := gp_fill 122 25 0 (by omega) M
  unfold f6_clear
  rw [e1, gp_eB, gp_eL, gp_eL]
  refine ⟨_, rfl, ⟨e2, fun c hc => by rw [gp_wc _ (by omega), gp_wc _ (by omega), e3 c (by omega)]⟩, ⟨fun p hp => ⟨⟨List.nodup_nil, by simp, ?_, fun i hi => absurd hi (by simp), fun key => by simp⟩, Nat.le_refl _⟩, ?_, gp_gs _ _ _ _⟩⟩
  · rw [gp_gn (by omega), gp_gn (by omega), e4 p hp]
    rfl
  · rw [gp_gn (by omega), gp_gs]
    have : gq_sum (fun p => ([] : List Nat).length) 25 = 0 := by decide
    rw [this]
    rfl
end
end
section
/-! pairs: counted -/
def gq_cnt (P : Nat → Bool) : Nat → Nat
  | 0 => 0
  | n + 1 => gq_cnt P n + if P n = true then 1 else 0
def gq_mx (f : Nat → Nat) : Nat → Nat
  | 0 => 0
  | n + 1 => max (gq_mx f n) (f n)
theorem gq_mx_le (f : Nat → Nat) (b : Nat) : ∀ n, gq_mx f n ≤ b ↔ ∀ x, x < n → f x ≤ b
  | 0 => ⟨fun _ x h => absurd h (by omega), fun _ => Nat.zero_le _⟩
  | n + 1 => by
    rw [gq_mx, Nat.max_le, gq_mx_le f b n]
    constructor
    · rintro ⟨h1, h2⟩ x hx
      by_cases e : x = n
      · rw [e]; exact h2
      · exact h1 x (by omega)
    · exact fun h => ⟨fun x hx => h x (by omega), h n (by omega)⟩
theorem gq_cnt_ext {P Q : Nat → Bool} : ∀ {n : Nat}, (∀ x, x < n → P x = Q x) → gq_cnt P n = gq_cnt Q n
  | 0, _ => rfl
  | n + 1, h => by rw [gq_cnt, gq_cnt, gq_cnt_ext (fun x hx => h x (by omega)), h n (by omega)]
theorem gq_cnt_no {P : Nat → Bool} : ∀ {n : Nat}, (∀ x, x < n → P x = false) → gq_cnt P n = 0
  | 0, _ => rfl
  | n + 1, h => by rw [gq_cnt, gq_cnt_no (fun x hx => h x (by omega)), h n (by omega)]; rfl
theorem gq_cnt_le (P : Nat → Bool) : ∀ n, gq_cnt P n ≤ n
  | 0 => Nat.le_refl _
  | n + 1 => by
    have := gq_cnt_le P n
    rw [gq_cnt]
    split <;> omega
theorem gq_cnt_rm {P : Nat → Bool} {y : Nat} : ∀ {n : Nat}, y < n → gq_cnt P n = gq_cnt (fun x => P x && decide (x ≠ y)) n + if P y = true then 1 else 0
  | 0, h => absurd h (by omega)
  | n + 1, h => by
    rw [gq_cnt, gq_cnt]
    by_cases e : y = n
    · subst e
      have : gq_cnt (fun x => P x && decide (x ≠ y)) y = gq_cnt P y := gq_cnt_ext (fun x hx => by simp; omega)
      rw [this]
      simp
    · rw [gq_cnt_rm (show y < n by omega)]
      have : (P n && decide (n ≠ y)) = P n := by simp; intro _; omega
      rw [this]
      omega
theorem gq_cnt_list : ∀ (L : List Nat) (P : Nat → Bool) (N : Nat), L.Nodup → (∀ y, y ∈ L → y < N) → (∀ x, x < N → P x = true → x ∈ L) → gq_cnt P N = (L.filter P).length
  | [], P, N, _, _, h => by
    rw [gq_cnt_no (fun x hx => by
      cases hp : P x with
      | false => rfl
      | true => exact absurd (h x hx hp) (by simp))]
    rfl
  | y :: L, P, N, hd, hl, h => by
    have hd1 : y ∉ L ∧ L.Nodup := List.nodup_cons.mp hd
    rw [gq_cnt_rm (hl y List.mem_cons_self), gq_cnt_list L (fun x => P x && decide (x ≠ y)) N hd1.2 (fun z hz => hl z (List.mem_cons_of_mem _ hz)) (fun x hx hp => by
      simp at hp
      rcases List.mem_cons.mp (h x hx hp.1) with g | g
      · exact absurd g hp.2
      · exact g), List.filter_cons]
    have e : L.filter (fun x => P x && decide (x ≠ y)) = L.filter P := List.filter_congr (fun x hx => by
      have : x ≠ y := fun g => hd1.1 (g ▸ hx)
      simp [this])
    rw [e]
    by_cases hp : P y = true
    · rw [if_pos hp, if_pos hp, List.length_cons]
    · rw [if_neg hp, if_neg hp, Nat.add_zero]
theorem gq_cnt_add (P : Nat → Bool) (a : Nat) : ∀ b, gq_cnt P (a + b) = gq_cnt P a + gq_cnt (fun x => P (a + x)) b
  | 0 => rfl
  | b + 1 => by rw [← Nat.add_assoc, gq_cnt, gq_cnt_add P a b, gq_cnt]; omega
theorem gq_cnt_sum (Q : Nat → Bool) : ∀ n, gq_cnt Q n = gq_sum (fun p => if Q p = true then 1 else 0) n
  | 0 => rfl
  | n + 1 => by rw [gq_cnt, gq_sum, gq_cnt_sum Q n]
theorem gq_cnt_prod (P : Nat → Bool) : ∀ n, gq_cnt P (25 * n) = gq_sum (fun p => gq_cnt (fun key => P (key * 25 + p)) n) 25
  | 0 => by
    show 0 = gq_sum (fun _ => 0) 25
    decide
  | n + 1 => by
    have e : (fun p => gq_cnt (fun key => P (key * 25 + p)) (n + 1)) = fun p => gq_cnt (fun key => P (key * 25 + p)) n + (if P (n * 25 + p) = true then 1 else 0) := funext fun p => rfl
    rw [show 25 * (n + 1) = 25 * n + 25 by omega, gq_cnt_add, gq_cnt_prod P n, e, gq_sum_add, gq_cnt_sum]
    congr 1
    exact gq_sum_ext (fun p _ => by rw [Nat.mul_comm 25 n])
section
variable {M M' : gz_M} {cs : List Nat} {rd p key : Nat} {Bd Bd' : Nat → Nat} {K : Nat → List Nat} {L : List Nat}
/-- counted over all codes, or over the keys of each place -/
theorem gq_cntK (h : gq_pC M cs rd Bd K) (P : Nat → Bool) (hP : ∀ y, P y = true → y ∈ cs) : gq_cnt P 102400 = gq_sum (fun p => ((K p).filter (fun key => P (key * 25 + p))).length) 25 := by
  rw [show (102400 : Nat) = 25 * 4096 from rfl, gq_cnt_prod]
  refine gq_sum_ext (fun p hp => ?_)
  obtain ⟨⟨k1, k2, k3, k4, k5⟩, _⟩ := h.1 p hp
  exact gq_cnt_list (K p) _ 4096 k1 (fun y hy => ((k5 y).mp hy).1) (fun x hx hq => (k5 x).mpr ⟨hx, hP _ hq⟩)
theorem gq_total (h : gq_pC M cs rd Bd K) : gq_sum (fun p => (K p).length) 25 = gq_cnt (fun y => decide (y ∈ cs)) 102400 := by
  rw [gq_cntK h _ (fun y hy => of_decide_eq_true hy)]
  refine gq_sum_ext (fun p hp => ?_)
  obtain ⟨⟨k1, k2, k3, k4, k5⟩, _⟩ := h.1 p hp
  rw [List.filter_eq_self.mpr (fun key hk => decide_eq_true ((k5 key).mp hk).2)]
theorem gq_filter_s {L : List Nat} {P : Nat → Bool} {i : Nat} (h : i < L.length) : ((L.take (i + 1)).filter P).length = ((L.take i).filter P).length + if P (L.getD i 0) = true then 1 else 0 := by
  rw [gp_take (d := 0) h, List.filter_append, List.length_append]
  congr 1
  rw [List.filter_cons]
  split <;> rfl
/-- pairs come to more than once -/
theorem gq_rep (h : gq_pC M cs rd Bd K) (hcs : cs.length < 2 ^ 30) : f6_repeated M = some (nI (gq_cnt (fun y => decide (1 < cs.count y)) 102400), M) := by
  rw [gq_cntK h _ (fun y hy => List.count_pos_iff.mp (Nat.lt_trans Nat.zero_lt_one (of_decide_eq_true hy)))]
  have inner : ∀ (c4 : Int32 → Int32 → gz_M → Option (Int32 × gz_M)) (p a : Nat), p < 25 → f6_repeated_12 c4 gz_FU (nI a) (nI p) 0 M = c4 (nI (a + ((K p).filter (fun key => decide (1 < cs.count (key * 25 + p)))).length)) (nI (p + 1)) M := fun c4 p a hp => by
    obtain ⟨⟨k1, k2, k3, k4, k5⟩, _⟩ := h.1 p hp
    have main : ∀ d i n, i + d = (K p).length → d < n → f6_repeated_12 c4 n (nI (a + (((K p).take i).filter (fun key => decide (1 < cs.count (key * 25 + p)))).length)) (nI p) (nI i) M = c4 (nI (a + ((K p).filter (fun key => decide (1 < cs.count (key * 25 + p)))).length)) (nI (p + 1)) M := by
      intro d
      induction d with
      | zero =>
        intro i n hi hn
        obtain ⟨n, rfl⟩ : ∃ q, n = q + 1 := ⟨n - 1, by omega⟩
        rw [f6_repeated_12, gp_ckb hp (by omega), nI_clamp (by omega), k3, if_pos (nI_le (by omega) (by omega)), gp_eL, nI_1, List.take_of_length_le (by omega)]
      | succ d ih =>
        intro i n hi hn
        obtain ⟨n, rfl⟩ : ∃ q, n = q + 1 := ⟨n - 1, by omega⟩
        have hf := gq_filter_s (L := K p) (P := fun key => decide (1 < cs.count (key * 25 + p))) (show i < (K p).length by omega)
        have nx := ih (i + 1) n (by omega) (by omega)
        rw [hf] at nx
        have hlen : (((K p).take i).filter (fun key => decide (1 < cs.count (key * 25 + p)))).length ≤ 24 := Nat.le_trans (List.length_filter_le _ _) (by rw [List.length_take]; omega)
        rw [f6_repeated_12, gp_ckb hp (by omega), nI_clamp (by omega), k3, if_neg (nI_ge (by omega) (by omega)), gp_ckb hp (by omega), gp_ckb (show i < 24 by omega) (by omega), nI_clamp (by omega), show 96 + 1 + p = 97 + p by omega, (k4 i (by omega)).2]
        have hcl := List.count_le_length (a := (K p).getD i 0 * 25 + p) (l := cs)
        by_cases hc : 1 < cs.count ((K p).getD i 0 * 25 + p)
        · rw [if_neg (show ¬ nI (cs.count ((K p).getD i 0 * 25 + p)) ≤ (1 : Int32) from nI_ge (a := 1) hc (by omega)), gp_eL, gp_eL, nI_1, nI_1]
          rw [if_pos (decide_eq_true hc), ← Nat.add_assoc] at nx
          exact nx
        · rw [if_pos (show nI (cs.count ((K p).getD i 0 * 25 + p)) ≤ (1 : Int32) from nI_le (b := 1) (by omega) (by omega)), gp_eL, gp_eL, nI_1, gp_add0]
          rw [if_neg (show ¬ decide (1 < cs.count ((K p).getD i 0 * 25 + p)) = true from fun g => hc (of_decide_eq_true g)), Nat.add_zero] at nx
          exact nx
    exact main (K p).length 0 gz_FU (by omega) (by unfold gz_FU; omega)
  have outer : ∀ d p n, p + d = 25 → d < n → f6_repeated_4 n (nI (gq_sum (fun p => ((K p).filter (fun key => decide (1 < cs.count (key * 25 + p)))).length) p)) (nI p) M = some (nI (gq_sum (fun p => ((K p).filter (fun key => decide (1 < cs.count (key * 25 + p)))).length) 25), M) := by
    intro d
    induction d with
    | zero =>
      intro p n hp hn
      obtain ⟨n, rfl⟩ : ∃ q, n = q + 1 := ⟨n - 1, by omega⟩
      have : p = 25 := by omega
      subst this
      rw [f6_repeated_4, if_pos (by decide)]
    | succ d ih =>
      intro p n hp hn
      obtain ⟨n, rfl⟩ : ∃ q, n = q + 1 := ⟨n - 1, by omega⟩
      rw [f6_repeated_4, if_neg (show ¬ (24 : Int32) < nI p from nI_nlt (a := 24) (b := p) (by omega) (by omega)), inner _ p _ (by omega)]
      exact ih (p + 1) n (by omega) (by omega)
  unfold f6_repeated
  exact outer 25 0 gz_FU (by omega) (by unfold gz_FU; omega)
def gq_pm (cs L : List Nat) (p : Nat) : Nat := gq_mx (fun i => cs.count (L.getD i 0 * 25 + p)) L.length
theorem gq_most (h : gq_pC M cs rd Bd K) (hcs : cs.length < 2 ^ 30) : f6_mostTimes M = some (nI (gq_mx (fun p => gq_pm cs (K p) p) 25), M) := by
  have hpm : ∀ p, gq_pm cs (K p) p ≤ cs.length := fun p => (gq_mx_le _ _ _).mpr (fun x hx => List.count_le_length)
  have hmx : ∀ p, gq_mx (fun p => gq_pm cs (K p) p) p ≤ cs.length := fun p => (gq_mx_le _ _ _).mpr (fun x hx => hpm x)
  have inner : ∀ (c4 : Int32 → Int32 → gz_M → Option (Int32 × gz_M)) (p a : Nat), p < 25 → a ≤ cs.length → f6_mostTimes_12 c4 gz_FU (nI a) (nI p) 0 M = c4 (nI (max a (gq_pm cs (K p) p))) (nI (p + 1)) M := fun c4 p a hp ha => by
    obtain ⟨⟨k1, k2, k3, k4, k5⟩, _⟩ := h.1 p hp
    have main : ∀ d i n, i + d = (K p).length → d < n → f6_mostTimes_12 c4 n (nI (max a (gq_mx (fun i => cs.count ((K p).getD i 0 * 25 + p)) i))) (nI p) (nI i) M = c4 (nI (max a (gq_pm cs (K p) p))) (nI (p + 1)) M := by
      intro d
      induction d with
      | zero =>
        intro i n hi hn
        obtain ⟨n, rfl⟩ : ∃ q, n = q + 1 := ⟨n - 1, by omega⟩
        rw [f6_mostTimes_12, gp_ckb hp (by omega), nI_clamp (by omega), k3, if_pos (nI_le (by omega) (by omega)), gp_eL, nI_1, show i = (K p).length by omega]
        rfl
      | succ d ih =>
        intro i n hi hn
        obtain ⟨n, rfl⟩ : ∃ q, n = q + 1 := ⟨n - 1, by omega⟩
        have nx := ih (i + 1) n (by omega) (by omega)
        have hcl := List.count_le_length (a := (K p).getD i 0 * 25 + p) (l := cs)
        have hgl : gq_mx (fun i => cs.count ((K p).getD i 0 * 25 + p)) i ≤ cs.length := (gq_mx_le _ _ _).mpr (fun x hx => List.count_le_length)
        rw [f6_mostTimes_12, gp_ckb hp (by omega), nI_clamp (by omega), k3, if_neg (nI_ge (by omega) (by omega)), gp_ckb hp (by omega), gp_ckb (show i < 24 by omega) (by omega), nI_clamp (by omega), show 96 + 1 + p = 97 + p by omega, (k4 i (by omega)).2, gp_max (by omega) (by omega), gp_eL, gp_eL, nI_1, Nat.max_assoc]
        exact nx
    have := main (K p).length 0 gz_FU (by omega) (by unfold gz_FU; omega)
    rw [gq_mx, Nat.max_zero] at this
    exact this
  have outer : ∀ d p n, p + d = 25 → d < n → f6_mostTimes_4 n (nI (gq_mx (fun p => gq_pm cs (K p) p) p)) (nI p) M = some (nI (gq_mx (fun p => gq_pm cs (K p) p) 25), M) := by
    intro d
    induction d with
    | zero =>
      intro p n hp hn
      obtain ⟨n, rfl⟩ : ∃ q, n = q + 1 := ⟨n - 1, by omega⟩
      have : p = 25 := by omega
      subst this
      rw [f6_mostTimes_4, if_pos (by decide)]
    | succ d ih =>
      intro p n hp hn
      obtain ⟨n, rfl⟩ : ∃ q, n = q + 1 := ⟨n - 1, by omega⟩
      rw [f6_mostTimes_4, if_neg (show ¬ (24 : Int32) < nI p from nI_nlt (a := 24) (b := p) (by omega) (by omega)), inner _ p _ (by omega) (hmx p)]
      exact ih (p + 1) n (by omega) (by omega)
  unfold f6_mostTimes
  exact outer 25 0 gz_FU (by omega) (by unfold gz_FU; omega)
theorem gq_mostE (h : gq_pC M cs rd Bd K) (hc : ∀ y, y ∈ cs → y < 102400) : gq_mx (fun y => if 2 ≤ cs.count y then cs.count y else 0) 102400 = if gq_mx (fun p => gq_pm cs (K p) p) 25 ≤ 1 then 0 else gq_mx (fun p => gq_pm cs (K p) p) 25 := by
  have hY : ∀ b, gq_mx (fun p => gq_pm cs (K p) p) 25 ≤ b ↔ ∀ y, y ∈ cs → cs.count y ≤ b := fun b => by
    rw [gq_mx_le]
    constructor
    · intro g y hy
      have h1 := hc y hy
      have h2 := g (y % 25) (Nat.mod_lt _ (by omega))
      obtain ⟨⟨k1, k2, k3, k4, k5⟩, _⟩ := h.1 (y % 25) (Nat.mod_lt _ (by omega))
      have h3 : y / 25 * 25 + y % 25 = y := by omega
      have h4 : y / 25 ∈ K (y % 25) := (k5 _).mpr ⟨by omega, by rw [h3]; exact hy⟩
      obtain ⟨i, hi, e⟩ := List.mem_iff_getElem.mp h4
      have h5 := ((gq_mx_le _ _ _).mp h2) i hi
      have e2 : (K (y % 25)).getD i 0 = y / 25 := by simp [List.getD, hi, e]
      rw [e2, h3] at h5
      exact h5
    · intro g p hp
      obtain ⟨⟨k1, k2, k3, k4, k5⟩, _⟩ := h.1 p hp
      refine (gq_mx_le _ _ _).mpr (fun i hi => g _ ((k5 _).mp (gp_getD_mem hi)).2)
  have hX : ∀ b, gq_mx (fun y => if 2 ≤ cs.count y then cs.count y else 0) 102400 ≤ b ↔ ∀ y, y ∈ cs → 2 ≤ cs.count y → cs.count y ≤ b := fun b => by
    rw [gq_mx_le]
    constructor
    · intro g y hy h2
      have := g y (hc y hy)
      rwa [if_pos h2] at this
    · intro g y hy
      split
      · rename_i h2
        exact g y (List.count_pos_iff.mp (by omega)) h2
      · exact Nat.zero_le _
  split
  · rename_i g
    refine Nat.le_zero.mp ((hX 0).mpr (fun y hy h2 => ?_))
    have := (hY 1).mp g y hy
    omega
  · rename_i g
    refine Nat.le_antisymm ((hX _).mpr (fun y hy _ => (hY _).mp (Nat.le_refl _) y hy)) ((hY _).mpr (fun y hy => ?_))
    by_cases h2 : 2 ≤ cs.count y
    · exact (hX _).mp (Nat.le_refl _) y hy h2
    · have : ¬ gq_mx (fun y => if 2 ≤ cs.count y then cs.count y else 0) 102400 ≤ 1 := fun g2 => g ((hY 1).mpr (fun z hz => by
        by_cases h3 : 2 ≤ cs.count z
        · have := (hX 1).mp g2 z hz h3
          omega
        · omega))
      omega
end
end
section
/-! pairs: walked, remembered, in the component -/
def gq_F (mks : List Nat) (m S p : Nat) : Bool := decide (S < 1024 ∧ p < 25 ∧ gp_code m S p ∈ mks)
def gq_R0 (T : gp_T) (l : List Nat) (t : gp_K) : Option Nat × Nat × Nat × Option Nat × List Nat := gp_rm T t.2.2.2.2.2.1 gp_F0 (l.drop t.2.1) t.2.1 (T.2.2 8 t.2.2.2.2.2.1) none t.2.1
def gq_R (T : gp_T) (l : List Nat) (mks : List Nat) (t : gp_K) : Option Nat × Nat × Nat × Option Nat × List Nat := gp_rm T t.2.2.2.2.2.1 (gq_F mks t.2.2.2.2.2.1) (l.drop t.2.1) t.2.1 (T.2.2 8 t.2.2.2.2.2.1) none t.2.1
def gq_mem (T : gp_T) (l : List Nat) : List gp_K → List Nat → List Nat × Nat
  | [], mks => (mks, 0)
  | t :: ts, mks => ((gq_mem T l ts (mks ++ gp_marks t.2.2.2.2.2.1 t.2.1 (gq_R T l mks t))).1, ((gq_R T l mks t).2.2.1 - t.2.1) + (gq_mem T l ts (mks ++ gp_marks t.2.2.2.2.2.1 t.2.1 (gq_R T l mks t))).2)
/-- what tokens say of their reading -/
def gq_tkR (T : gp_T) (l : List Nat) (t : gp_K) : Prop := t.1 = (gq_R0 T l t).1 ∧ t.2.2.1 = (if (gq_R0 T l t).1.isSome = true then (gq_R0 T l t).2.1 else t.2.1 + 1) ∧ t.2.2.2.1 = (gq_R0 T l t).2.2.1 ∧ t.2.1 < l.length
theorem gq_tkR_cutF {T : gp_T} {l : List Nat} : ∀ (n p : Nat) (stk : List Nat), ∀ t, t ∈ gp_cutF T l n p stk → gq_tkR T l t
  | 0, p, stk, t, h => by cases h
  | n + 1, p, stk, t, h => by
    rw [gp_cutF] at h
    by_cases hp : p < l.length
    · rw [if_pos hp] at h
      rcases List.mem_cons.mp h with e | e
      · rw [e]
        exact ⟨rfl, rfl, rfl, hp⟩
      · exact gq_tkR_cutF n _ _ t e
    · rw [if_neg hp] at h
      cases h
/-- what is remembered leads to no winner -/
def gq_nwK (T : gp_T) (l : List Nat) (mks : List Nat) : Prop := ∀ m S p, S < 1024 → p < 25 → gp_code m S p ∈ mks → gq_nw T l m S p
theorem gq_nwK.F {T : gp_T} {l mks : List Nat} (h : gq_nwK T l mks) (m : Nat) : ∀ S p, gq_F mks m S p = true → gq_nw T l m S p := fun S p g => by
  obtain ⟨a, b, c⟩ := of_decide_eq_true g
  exact h m S p a b c
section
variable {T : gp_T} {l mks : List Nat} {t : gp_K} {n : Nat}
theorem gq_R_same (h : gq_nwK T l mks) (t : gp_K) : (gq_R T l mks t).1 = (gq_R0 T l t).1 ∧ (gq_R T l mks t).2.1 = (gq_R0 T l t).2.1 := gq_same (h.F _) _ _ _ _ _ rfl
theorem gq_R_f (hw : gp_wT T) (hm : t.2.2.2.2.2.1 < 4) (hl : l.length ≤ 24) (h8 : ∀ p, p < l.length → l.getD p 0 < 8) (hp : t.2.1 < l.length) : t.2.1 < (gq_R T l mks t).2.2.1 ∧ (gq_R T l mks t).2.2.1 ≤ l.length ∧ (∀ S, S ∈ (gq_R T l mks t).2.2.2.2 → S < 1024) ∧ (gq_R T l mks t).2.2.2.2.length + t.2.1 ≤ l.length ∧ ((gq_R T l mks t).1.isSome = true → t.2.1 < (gq_R T l mks t).2.1) := by
  obtain ⟨a1, a2, a3, a4, a5, a6, a7, a8, a9⟩ := gp_rm_f (T := T) (m := t.2.2.2.2.2.1) (F := gq_F mks t.2.2.2.2.2.1) (l.drop t.2.1) t.2.1 (T.2.2 8 t.2.2.2.2.2.1) none t.2.1 (by simp) (by simp)
  have hlen : (l.drop t.2.1).length = l.length - t.2.1 := List.length_drop
  have a1 : t.2.1 ≤ (gq_R T l mks t).2.2.1 := a1
  have a2 : (gq_R T l mks t).2.2.1 ≤ t.2.1 + (l.drop t.2.1).length := a2
  have a3 : l.drop t.2.1 ≠ [] → t.2.1 < (gq_R T l mks t).2.2.1 := a3
  have a8 : (gq_R T l mks t).2.2.2.2.length + t.2.1 + (if (gq_R T l mks t).2.2.2.1.isSome = true then 1 else 0) = (gq_R T l mks t).2.2.1 := a8
  refine ⟨a3 (by rw [gp_drop hp]; simp), by omega, fun S hS => gp_lt10 hw hm (gp_rm_mets hw hm (l.drop t.2.1) t.2.1 _ _ _ (fun s hs => ?_) S hS), by omega, fun h => a5 rfl h⟩
  obtain ⟨i, hi, e⟩ := List.mem_iff_getElem.mp (List.mem_of_mem_drop hs)
  have := h8 i hi
  simp [List.getD, hi] at this
  rw [← e]
  exact this
theorem gq_marks_mem (hp : (gq_R T l mks t).1.isSome = true → t.2.1 < (gq_R T l mks t).2.1) (y : Nat) : y ∈ gp_marks t.2.2.2.2.2.1 t.2.1 (gq_R T l mks t) ↔ ∃ i, i < (gq_R T l mks t).2.2.2.2.length ∧ (if (gq_R T l mks t).1.isSome = true then (gq_R T l mks t).2.1 else t.2.1) < t.2.1 + 1 + i ∧ y = gp_code t.2.2.2.2.2.1 ((gq_R T l mks t).2.2.2.2.getD i 0) (t.2.1 + 1 + i) := by
  have hc : ∀ (L : List Nat) (p i : Nat), i < L.length → (gp_codes t.2.2.2.2.2.1 L p).getD i 0 = gp_code t.2.2.2.2.2.1 (L.getD i 0) (p + 1 + i) := by
    intro L
    induction L with
    | nil => intro p i h; simp at h
    | cons S L ih =>
      intro p i h
      rw [gp_codes]
      cases i with
      | zero => simp [List.getD]
      | succ i =>
        have := ih (p + 1) i (by simpa using h)
        rw [show p + 1 + (i + 1) = p + 1 + 1 + i by omega]
        simpa [List.getD] using this
  unfold gp_marks
  rw [gp_mem_drop (d := 0), gp_codes_len]
  constructor
  · rintro ⟨i, h1, h2, h3⟩
    refine ⟨i, h2, ?_, by rw [h3, hc _ _ _ h2]⟩
    split at h1 <;> rename_i g
    · have := hp g
      rw [if_pos g]; omega
    · rw [if_neg g]; omega
  · rintro ⟨i, h1, h2, h3⟩
    exact ⟨i, by omega, h1, by rw [h3, hc _ _ _ h1]⟩
theorem gq_nwK.marks (h : gq_nwK T l mks) (hw : gp_wT T) (hm : t.2.2.2.2.2.1 < 4) (hl : l.length ≤ 24) (h8 : ∀ p, p < l.length → l.getD p 0 < 8) (hp : t.2.1 < l.length) : gq_nwK T l (mks ++ gp_marks t.2.2.2.2.2.1 t.2.1 (gq_R T l mks t)) := by
  obtain ⟨f1, f2, f3, f4, f5⟩ := gq_R_f (mks := mks) hw hm hl h8 hp
  intro m S p hS hp' hy
  rcases List.mem_append.mp hy with g | g
  · exact h m S p hS hp' g
  · obtain ⟨i, g1, g2, g3⟩ := (gq_marks_mem f5 _).mp g
    have hS' := f3 _ (gp_getD_mem (d := 0) g1)
    obtain ⟨e1, e2, e3⟩ := gq_code_inj hS hS' hp' (by omega) g3
    rw [e1, e2, e3]
    refine gq_mark (h.F _) (l.drop t.2.1) t.2.1 (T.2.2 8 t.2.2.2.2.2.1) none t.2.1 rfl i g1 ?_
    show (gq_R T l mks t).1 = none ∨ (gq_R T l mks t).2.1 < t.2.1 + 1 + i
    split at g2
    · exact Or.inr g2
    · rename_i z
      left
      cases hz : (gq_R T l mks t).1 with
      | none => rfl
      | some k => rw [hz] at z; exact absurd rfl z
end
section
variable {M M' : gz_M} {T : gp_T} {l cs mks : List Nat} {rd k k1 k2 m : Nat} {K : Nat → List Nat} {ts : List gp_K}
/-- the rows that stand beside the pairs -/
def gq_bs (k1 k2 : Nat) (M : gz_M) (T : gp_T) (l : List Nat) (ts : List gp_K) : Prop := gp_tC 11 M T ∧ gp_lC k1 M l ∧ gp_cC k2 M ts
theorem gq_bs.fr (hk1 : k1 + 1 < 69) (hk2 : k2 + 9 ≤ 69) (h : gq_bs k1 k2 M T l ts) (hL : gq_pL M M') : gq_bs k1 k2 M' T l ts := ⟨h.1.fr (fun c c1 c2 => hL.2 c (by omega)), h.2.1.fr (fun c c1 c2 => hL.2 c (by omega)), h.2.2.fr (fun c c1 c2 => hL.2 c (by omega))⟩
theorem gq_keyE (m S : Nat) (M : gz_M) : f6_keyOf (nI m) (nI S) M = some (nI (1024 * m + S), M) := by
  unfold f6_keyOf
  rw [show (1024 : Int32) = nI 1024 from rfl, pk_mul, nI_add, Nat.mul_comm]
theorem gq_w42 (hw : gp_wT T) (hm : m < 4) (hk : k < 24) (hk1 : k1 + 1 < 69) (hk2 : k2 + 9 ≤ 69) (c7 : Int32 → gz_M → Option gz_M) {rt : Nat} (hrt : (∀ M, gq_bs k1 k2 M T l ts → M.1 (k2 + 4) k = nI rt)) : ∀ (L : List Nat) (q nx n : Nat) (r : Option Nat) (b : Nat) (cs : List Nat) (K : Nat → List Nat) (M : gz_M), L = l.drop q → q ≤ l.length → L.length + 2 < n → nx < 2 ^ 10 → rt = (gp_rm T m gp_F0 L q nx r b).2.2.1 → gq_bs k1 k2 M T l ts → gq_pC M cs rd (fun z => if z ≤ q then k + 1 else k) K → ∃ M' K', f6_walk_42 11 k1 k2 c7 n (nI k) (nI m) (nI nx) (nI q) M = c7 (nI (k + 1)) M' ∧ gq_pL M M' ∧ gq_pC M' (cs ++ gp_codes m (gp_rm T m gp_F0 L q nx r b).2.2.2.2 q) rd (fun _ => k + 1) K'
  | [], q, nx, n, r, b, cs, K, M, hL, hq, hn, hnx, hr, hb, hp => by
    obtain ⟨n, rfl⟩ : ∃ z, n = z + 1 := ⟨n - 1, by omega⟩
    have hr : rt = q := hr
    have hl24 := hb.2.1.1
    refine ⟨M, K, ?_, gq_pL.refl M, ?_⟩
    · rw [f6_walk_42, gp_ckb hk (by omega), nI_clamp (by omega), hrt M hb, hr, if_pos (nI_le (Nat.le_refl _) (by omega)), gp_eL, nI_1]
    · have : (gp_rm T m gp_F0 [] q nx r b).2.2.2.2 = [] := rfl
      rw [this, gp_codes, List.append_nil]
      exact ⟨fun p hp' => ⟨(hp.1 p hp').1, Nat.le_trans (hp.1 p hp').2 (by dsimp only; split <;> omega)⟩, hp.2⟩
  | s :: L, q, nx, n, r, b, cs, K, M, hL, hq, hn, hnx, hr, hb, hp => by
    have hl24 := hb.2.1.1
    have hql : q < l.length := by
      have := congrArg List.length hL
      rw [List.length_drop, List.length_cons] at this
      omega
    have hs : s = l.getD q 0 := by
      have := gp_drop hql
      rw [← hL] at this
      injection this
    have hL1 : L = l.drop (q + 1) := by
      have := congrArg (List.drop 1) hL
      rwa [List.drop_succ_cons, List.drop_zero, List.drop_drop] at this
    have h8 := (hb.2.1.2.2 q hql).2
    rw [← hs] at h8
    have hget : f5_get k1 (nI q) M = some (nI s, M) := by rw [gp_lget hb.2.1 hql, ← hs]
    rw [gp_rm] at hr ⊢
    have hS : nx &&& T.2.2 (15 + m) s < 2 ^ 10 := Nat.lt_of_le_of_lt Nat.and_le_left hnx
    have hA : gp_aft T m (nx &&& T.2.2 (15 + m) s) < 2 ^ 10 := gp_lt10 hw hm (gp_aft_lt hw hm _)
    by_cases h0 : nx &&& T.2.2 (15 + m) s = 0
    · rw [if_pos h0] at hr ⊢
      have hr : rt = q + 1 := hr
      obtain ⟨n, rfl⟩ : ∃ z, n = z + 2 := ⟨n - 2, by omega⟩
      refine ⟨M, K, ?_, gq_pL.refl M, ?_⟩
      · rw [f6_walk_42, gp_ckb hk (by omega), nI_clamp (by omega), hrt M hb, hr, if_neg (nI_ge (by omega) (by omega)), hget, gp_eB2, gp_takersOf hb.1 hm h8, gp_eB2, gp_and, gp_eL, gp_after hb.1 hm hS, gp_eB2, if_pos (show nI (nx &&& T.2.2 (15 + m) s) = (0 : Int32) from by rw [h0]; rfl), gp_eL, nI_1, f6_walk_42, gp_ckb hk (by omega), nI_clamp (by omega), hrt M hb, hr, if_pos (nI_le (Nat.le_refl _) (by omega)), gp_eL, nI_1]
      · show gq_pC M (cs ++ gp_codes m [] q) rd _ K
        rw [gp_codes, List.append_nil]
        exact ⟨fun p hp' => ⟨(hp.1 p hp').1, Nat.le_trans (hp.1 p hp').2 (by dsimp only; split <;> omega)⟩, hp.2⟩
    · rw [if_neg h0, if_neg (gq_F0 _ _)] at hr ⊢
      dsimp only at hr ⊢
      obtain ⟨n, rfl⟩ : ∃ z, n = z + 1 := ⟨n - 1, by omega⟩
      have hge := gp_rm_ge (T := T) (m := m) (F := gp_F0) L (q + 1) (gp_aft T m (nx &&& T.2.2 (15 + m) s)) ((gp_win T m (nx &&& T.2.2 (15 + m) s)).or r) (if (gp_win T m (nx &&& T.2.2 (15 + m) s)).isSome = true then q + 1 else b)
      rw [← hr] at hge
      have hrt2 : rt < 2 ^ 31 := by
        obtain ⟨_, a2, _⟩ := gp_rm_f (T := T) (m := m) (F := gp_F0) L (q + 1) (gp_aft T m (nx &&& T.2.2 (15 + m) s)) none (q + 1) (by simp) (by simp)
        have : (gp_rm T m gp_F0 L (q + 1) (gp_aft T m (nx &&& T.2.2 (15 + m) s)) none (q + 1)).2.2.1 = (gp_rm T m gp_F0 L (q + 1) (gp_aft T m (nx &&& T.2.2 (15 + m) s)) ((gp_win T m (nx &&& T.2.2 (15 + m) s)).or r) (if (gp_win T m (nx &&& T.2.2 (15 + m) s)).isSome = true then q + 1 else b)).2.2.1 := by
          have g : ∀ (L : List Nat) (q nx : Nat) (r r' : Option Nat) (b b' : Nat), (gp_rm T m gp_F0 L q nx r b).2.2.1 = (gp_rm T m gp_F0 L q nx r' b').2.2.1 := by
            intro L
            induction L with
            | nil => intros; rfl
            | cons s L ih =>
              intro q nx r r' b b'
              rw [gp_rm, gp_rm]
              by_cases h0 : nx &&& T.2.2 (15 + m) s = 0
              · rw [if_pos h0, if_pos h0]
              · rw [if_neg h0, if_neg (gq_F0 _ _), if_neg h0, if_neg (gq_F0 _ _)]
                exact ih _ _ _ _ _ _
          exact g _ _ _ _ _ _ _
        rw [this, ← hr] at a2
        have hLl : L.length = l.length - (q + 1) := by rw [hL1, List.length_drop]
        omega
      obtain ⟨M1, K1, e1, e2, e3, _⟩ := gq_come (Bd' := fun z => if z ≤ q + 1 then k + 1 else k) (p := q + 1) (key := 1024 * m + (nx &&& T.2.2 (15 + m) s)) hp (by omega) (by omega) (fun z hz hn => by
        split <;> split <;> omega) (by rw [if_neg (by omega), if_pos (by omega)]; omega) (by rw [if_neg (by omega)]; exact hk)
      obtain ⟨M2, K2, f1, f2, f3⟩ := gq_w42 hw hm hk hk1 hk2 c7 hrt L (q + 1) (gp_aft T m (nx &&& T.2.2 (15 + m) s)) n ((gp_win T m (nx &&& T.2.2 (15 + m) s)).or r) (if (gp_win T m (nx &&& T.2.2 (15 + m) s)).isSome = true then q + 1 else b) _ K1 M1 hL1 (by omega) (by rw [List.length_cons] at hn; omega) hA hr (hb.fr hk1 hk2 e2) e3
      refine ⟨M2, K2, ?_, e2.trans f2, ?_⟩
      · rw [f6_walk_42, gp_ckb hk (by omega), nI_clamp (by omega), hrt M hb, if_neg (nI_ge (by omega) hrt2), hget, gp_eB2, gp_takersOf hb.1 hm h8, gp_eB2, gp_and, gp_eL, gp_after hb.1 hm hS, gp_eB2, if_neg (show ¬ nI (nx &&& T.2.2 (15 + m) s) = (0 : Int32) from fun g => h0 ((nI_eq (b := 0) (by omega) (by omega)).mp g)), gq_keyE, gp_eB2, nI_1, e1, gp_eB, gp_eL]
        exact f1
      · rw [gp_codes]
        rw [List.append_assoc] at f3
        exact f3
theorem gq_walk (hw : gp_wT T) (hk1 : k1 + 1 < 69) (hk2 : k2 + 9 ≤ 69) (hok : ∀ t, t ∈ ts → gp_tkOk T l.length t) (hR : ∀ t, t ∈ ts → gq_tkR T l t) (hlen : ts.length ≤ 24) (hb : gq_bs k1 k2 M T l ts) : ∃ M' K', f6_walk 11 k1 k2 M = some M' ∧ gq_pL M M' ∧ gq_pC M' (gp_coms T l ts) 0 (fun _ => ts.length) K' := by
  have hl24 := hb.2.1.1
  obtain ⟨M1, c1, c2, c3⟩ := gq_clear M
  have main : ∀ d k n (cs : List Nat) (K : Nat → List Nat) (N : gz_M), k + d = ts.length → d < n → gq_bs k1 k2 N T l ts → gq_pC N cs 0 (fun _ => k) K → ∃ M' K', f6_walk_7 11 k1 k2 n (nI k) N = some M' ∧ gq_pL N M' ∧ gq_pC M' (cs ++ gp_coms T l (ts.drop k)) 0 (fun _ => ts.length) K' := by
    intro d
    induction d with
    | zero =>
      intro k n cs K N hk hn hb hp
      obtain ⟨n, rfl⟩ : ∃ z, n = z + 1 := ⟨n - 1, by omega⟩
      rw [f6_walk_7, hb.2.2.1, if_pos (nI_le (by omega) (by omega)), List.drop_eq_nil_of_le (by omega), gp_coms, List.append_nil, ← show k = ts.length by omega]
      exact ⟨N, K, rfl, gq_pL.refl N, hp⟩
    | succ d ih =>
      intro k n cs K N hk hn hb hp
      obtain ⟨n, rfl⟩ : ∃ z, n = z + 1 := ⟨n - 1, by omega⟩
      have hkl : k < ts.length := by omega
      have ht := gp_getD_mem (d := gp_k0) hkl
      have o := hok _ ht
      have rr := hR _ ht
      have v := hb.2.2.2.2 k hkl
      have hdrop : ts.drop k = ts.getD k gp_k0 :: ts.drop (k + 1) := by
        rw [List.drop_eq_getElem_cons hkl]
        simp [List.getD, hkl]
      generalize hte : ts.getD k gp_k0 = t at *
      have hm := o.2.2.2.2.2.2.1
      obtain ⟨M2, K2, f1, f2, f3⟩ := gq_w42 (rt := t.2.2.2.1) (ts := ts) (rd := 0) hw hm (show k < 24 by omega) hk1 hk2 (f6_walk_7 11 k1 k2 n) (fun M hM => by have := (hM.2.2.2.2 k hkl).2.2.2.1; rw [hte] at this; exact this) (l.drop t.2.1) t.2.1 (T.2.2 8 t.2.2.2.2.2.1) gz_FU none t.2.1 cs K N rfl (by have := rr.2.2.2; omega) (by rw [List.length_drop]; unfold gz_FU; omega) (gp_lt10 hw hm (hw.2.2 _ hm).2.1) rr.2.2.1 hb ⟨fun p hp' => ⟨(hp.1 p hp').1, Nat.le_trans (hp.1 p hp').2 (by dsimp only; split <;> omega)⟩, hp.2⟩
      obtain ⟨M3, K3, g1, g2, g3⟩ := ih (k + 1) n _ K2 M2 (by omega) (by omega) (hb.fr hk1 hk2 f2) f3
      refine ⟨M3, K3, ?_, f2.trans g2, ?_⟩
      · have hp1 := rr.2.2.2
        rw [f6_walk_7, hb.2.2.1, if_neg (nI_ge hkl (by omega)), gp_ckb (show k < 24 by omega) (by omega), nI_clamp (by omega), v.2.2.2.2.2.1, gp_eL, gp_atFirst hb.1 hm, gp_eB2, gp_ckb (show k < 24 by omega) (by omega), v.2.1, gp_eL, f1, g1]
      · rw [hdrop, gp_coms]
        rw [List.append_assoc] at g3
        exact g3
  obtain ⟨M2, K2, g1, g2, g3⟩ := main ts.length 0 gz_FU [] _ M1 (by omega) (by unfold gz_FU; omega) (hb.fr hk1 hk2 c2) c3
  unfold f6_walk
  rw [c1, gp_eB]
  exact ⟨M2, K2, g1, c2.trans g2, g3⟩
end
end
section
/-! pairs: remembered, in the component -/
section
variable {M M' : gz_M} {T : gp_T} {l cs mks : List Nat} {rd k k1 k2 m : Nat} {K : Nat → List Nat} {Bd Bd' : Nat → Nat} {ts : List gp_K}
theorem gq_pC.nx (h : gq_pC M cs rd Bd K) : ∃ N, N = gz_w M 69 4 (M.1 69 4 + 1) ∧ gq_pL M N ∧ gq_pC N cs (rd + 1) Bd K := by
  refine ⟨_, rfl, ⟨rfl, fun c hc => gp_wc _ (by omega)⟩, fun p hp => ⟨(h.1 p hp).1.fr (gp_wc _ (by omega)) (gp_wc _ (by omega)) (gp_gn (by omega)), (h.1 p hp).2⟩, by rw [gp_gn (by omega)]; exact h.2.1, ?_⟩
  rw [gp_gs, h.2.2, nI_1]
theorem gq_pC.bd (h : gq_pC M cs rd Bd K) (hB : ∀ z, z < 25 → Bd z ≤ Bd' z) : gq_pC M cs rd Bd' K := ⟨fun p hp => ⟨(h.1 p hp).1, Nat.le_trans (h.1 p hp).2 (hB p hp)⟩, h.2⟩
theorem gq_ro (hw : gp_wT T) (hm : m < 4) (hk : k < 24) (hk1 : k1 + 1 < 69) (hk2 : k2 + 9 ≤ 69) {w : Nat} (hwl : w < 2 ^ 30) : ∀ (L : List Nat) (q nx n rd : Nat) (r : Option Nat) (b : Nat) (cs : List Nat) (K : Nat → List Nat) (M : gz_M), L = l.drop q → q ≤ l.length → L.length + 2 < n → nx < 2 ^ 10 → gq_bs k1 k2 M T l ts → gq_pC M cs rd (fun z => if z ≤ q then k + 1 else k) K → (∀ y, y ∈ mks → y ∈ cs) → (∀ y, y ∈ cs → y ∈ mks ∨ y % 25 ≤ q) → ∃ M' cs' K', f6_readOn_14 11 k1 n (nI m) (nI w) (nI nx) 1 (nI q) M = some M' ∧ gq_pL M M' ∧ gq_pC M' cs' (rd + ((gp_rm T m (gq_F mks m) L q nx r b).2.2.1 - q)) (fun _ => k + 1) K' ∧ ∀ y, y ∈ cs' ↔ (y ∈ cs ∨ ∃ i, i < (gp_rm T m (gq_F mks m) L q nx r b).2.2.2.2.length ∧ w < q + 1 + i ∧ y = gp_code m ((gp_rm T m (gq_F mks m) L q nx r b).2.2.2.2.getD i 0) (q + 1 + i))
  | [], q, nx, n, rd, r, b, cs, K, M, hL, hq, hn, hnx, hb, hp, h1, h2 => by
    obtain ⟨n, rfl⟩ : ∃ z, n = z + 1 := ⟨n - 1, by omega⟩
    have hl24 := hb.2.1.1
    have hql : l.length ≤ q := by
      have := congrArg List.length hL
      rw [List.length_drop] at this
      simp at this
      omega
    refine ⟨M, cs, K, ?_, gq_pL.refl M, ?_, fun y => ?_⟩
    · rw [f6_readOn_14, hb.2.1.2.1, if_pos (nI_le hql (by omega))]
    · have : (gp_rm T m (gq_F mks m) [] q nx r b).2.2.1 = q := rfl
      rw [this, Nat.sub_self, Nat.add_zero]
      exact hp.bd (fun z hz => by split <;> omega)
    · have : (gp_rm T m (gq_F mks m) [] q nx r b).2.2.2.2 = [] := rfl
      rw [this]
      simp
  | s :: L, q, nx, n, rd, r, b, cs, K, M, hL, hq, hn, hnx, hb, hp, h1, h2 => by
    have hl24 := hb.2.1.1
    have hql : q < l.length := by
      have := congrArg List.length hL
      rw [List.length_drop, List.length_cons] at this
      omega
    have hs : s = l.getD q 0 := by
      have := gp_drop hql
      rw [← hL] at this
      injection this
    have hL1 : L = l.drop (q + 1) := by
      have := congrArg (List.drop 1) hL
      rwa [List.drop_succ_cons, List.drop_zero, List.drop_drop] at this
    have h8 := (hb.2.1.2.2 q hql).2
    rw [← hs] at h8
    have hget : f5_get k1 (nI q) M = some (nI s, M) := by rw [gp_lget hb.2.1 hql, ← hs]
    obtain ⟨n, rfl⟩ : ∃ z, n = z + 2 := ⟨n - 2, by omega⟩
    rw [gp_rm]
    have hS : nx &&& T.2.2 (15 + m) s < 2 ^ 10 := Nat.lt_of_le_of_lt Nat.and_le_left hnx
    have hA : gp_aft T m (nx &&& T.2.2 (15 + m) s) < 2 ^ 10 := gp_lt10 hw hm (gp_aft_lt hw hm _)
    obtain ⟨N, hN, n1, n2⟩ := hp.nx
    have hbN := hb.fr hk1 hk2 n1
    -- what stops
    have stop : ∀ (P : gz_M) (v6 : Int32), gq_bs k1 k2 P T l ts → f6_readOn_14 11 k1 (n + 1) (nI m) (nI w) v6 0 (nI (q + 1)) P = some P := fun P v6 hP => by
      rw [f6_readOn_14, hP.2.1.2.1]
      split
      · rfl
      · rw [if_pos rfl]
    have start : f6_readOn_14 11 k1 (n + 1 + 1) (nI m) (nI w) (nI nx) 1 (nI q) M = if nI (nx &&& T.2.2 (15 + m) s) = 0 then (f6_readOn_95 11 k1 (f6_readOn_14 11 k1 (n + 1)) (nI m) (nI w) (nI (gp_aft T m (nx &&& T.2.2 (15 + m) s))) (nI q) (nI (1024 * m + (nx &&& T.2.2 (15 + m) s))) 0 N) else (gz_bd2 (f6_indexOf (nI (q + 1)) (nI (1024 * m + (nx &&& T.2.2 (15 + m) s))) N) fun v18 M19 => if v18 = (-1) then (f6_readOn_95 11 k1 (f6_readOn_14 11 k1 (n + 1)) (nI m) (nI w) (nI (gp_aft T m (nx &&& T.2.2 (15 + m) s))) (nI q) (nI (1024 * m + (nx &&& T.2.2 (15 + m) s))) 1 M19) else (f6_readOn_95 11 k1 (f6_readOn_14 11 k1 (n + 1)) (nI m) (nI w) (nI (gp_aft T m (nx &&& T.2.2 (15 + m) s))) (nI q) (nI (1024 * m + (nx &&& T.2.2 (15 + m) s))) 0 M19)) := by
      rw [f6_readOn_14, hb.2.1.2.1, if_neg (nI_ge hql (by omega)), if_neg (by decide), hget, gp_eB2, gp_takersOf hb.1 hm h8, gp_eB2, gp_and, gp_eL, gp_after hb.1 hm hS, gp_eB2, gp_eL, ← hN, gq_keyE, gp_eB2, nI_1]
    have z0 : (nI (nx &&& T.2.2 (15 + m) s) = (0 : Int32)) ↔ nx &&& T.2.2 (15 + m) s = 0 := nI_eq (b := 0) (by omega) (by omega)
    by_cases h0 : nx &&& T.2.2 (15 + m) s = 0
    · rw [if_pos h0]
      refine ⟨N, cs, K, ?_, n1, ?_, fun y => by simp⟩
      · rw [start, if_pos (z0.mpr h0)]
        unfold f6_readOn_95
        rw [if_pos rfl, nI_1, gp_eL]
        exact stop N _ hbN
      · show gq_pC N cs (rd + (q + 1 - q)) _ K
        rw [show q + 1 - q = 1 by omega]
        exact n2.bd (fun z hz => by split <;> omega)
    · rw [if_neg h0]
      have hkey : 1024 * m + (nx &&& T.2.2 (15 + m) s) < 4096 := by omega
      obtain ⟨ro, i1, i2, i3⟩ := gq_idxO (n2.1 (q + 1) (by omega)).1 (show q + 1 < 25 by omega) hkey
      have hcode : (1024 * m + (nx &&& T.2.2 (15 + m) s)) * 25 + (q + 1) = gp_code m (nx &&& T.2.2 (15 + m) s) (q + 1) := rfl
      have hcs : gp_code m (nx &&& T.2.2 (15 + m) s) (q + 1) ∈ cs ↔ gp_code m (nx &&& T.2.2 (15 + m) s) (q + 1) ∈ mks := by
        refine ⟨fun g => ?_, h1 _⟩
        rcases h2 _ g with g | g
        · exact g
        · exfalso
          unfold gp_code at g
          omega
      have hF : (gq_F mks m (nx &&& T.2.2 (15 + m) s) (q + 1) = true) ↔ gp_code m (nx &&& T.2.2 (15 + m) s) (q + 1) ∈ mks := by
        unfold gq_F
        rw [decide_eq_true_iff]
        exact ⟨fun g => g.2.2, fun g => ⟨by omega, by omega, g⟩⟩
      by_cases hf : gq_F mks m (nx &&& T.2.2 (15 + m) s) (q + 1) = true
      · have hin := hcs.mpr (hF.mp hf)
        have hro : ¬ ro = none := fun g => (i3.mp g) (by rw [hcode]; exact hin)
        obtain ⟨j, rfl⟩ : ∃ j, ro = some j := by
          cases ro with
          | none => exact absurd rfl hro
          | some j => exact ⟨j, rfl⟩
        have hj := (i2 j rfl).1
        have hj24 := (n2.1 (q + 1) (by omega)).1.2.1
        rw [if_pos hf]
        refine ⟨N, cs, K, ?_, n1, ?_, fun y => ?_⟩
        · rw [start, if_neg (fun g => h0 (z0.mp g)), i1, gp_eB2, if_neg (by rw [gp_oS, gp_m1, gp_ne1 (by omega)]; exact id)]
          unfold f6_readOn_95
          rw [if_pos rfl, nI_1, gp_eL]
          exact stop N _ hbN
        · show gq_pC N cs (rd + (q + 1 - q)) _ K
          rw [show q + 1 - q = 1 by omega]
          exact n2.bd (fun z hz => by split <;> omega)
        · constructor
          · exact Or.inl
          · rintro (g | ⟨i, g1, g2, g3⟩)
            · exact g
            · have : i = 0 := by simpa using g1
              subst this
              rw [g3]
              exact hin
      · have hnin : gp_code m (nx &&& T.2.2 (15 + m) s) (q + 1) ∉ cs := fun g => hf (hF.mpr (hcs.mp g))
        have hro : ro = none := i3.mpr (by rw [hcode]; exact hnin)
        subst hro
        rw [if_neg hf]
        dsimp only
        have hge := gp_rm_ge (T := T) (m := m) (F := gq_F mks m) L (q + 1) (gp_aft T m (nx &&& T.2.2 (15 + m) s)) ((gp_win T m (nx &&& T.2.2 (15 + m) s)).or r) (if (gp_win T m (nx &&& T.2.2 (15 + m) s)).isSome = true then q + 1 else b)
        have hfin : ∀ (A B : List Nat) (i0 : Nat), True := fun _ _ _ => trivial
        -- the next sign
        have next : ∀ (P : gz_M) (cs1 : List Nat) (K1 : Nat → List Nat), gq_pL M P → gq_bs k1 k2 P T l ts → gq_pC P cs1 (rd + 1) (fun z => if z ≤ q + 1 then k + 1 else k) K1 → (∀ y, y ∈ cs1 ↔ (y ∈ cs ∨ (w < q + 1 ∧ y = gp_code m (nx &&& T.2.2 (15 + m) s) (q + 1)))) → ∃ M' cs' K', f6_readOn_14 11 k1 (n + 1) (nI m) (nI w) (nI (gp_aft T m (nx &&& T.2.2 (15 + m) s))) 1 (nI (q + 1)) P = some M' ∧ gq_pL M M' ∧ gq_pC M' cs' (rd + ((gp_rm T m (gq_F mks m) L (q + 1) (gp_aft T m (nx &&& T.2.2 (15 + m) s)) ((gp_win T m (nx &&& T.2.2 (15 + m) s)).or r) (if (gp_win T m (nx &&& T.2.2 (15 + m) s)).isSome = true then q + 1 else b)).2.2.1 - q)) (fun _ => k + 1) K' ∧ ∀ y, y ∈ cs' ↔ (y ∈ cs ∨ ∃ i, i < ((nx &&& T.2.2 (15 + m) s) :: (gp_rm T m (gq_F mks m) L (q + 1) (gp_aft T m (nx &&& T.2.2 (15 + m) s)) ((gp_win T m (nx &&& T.2.2 (15 + m) s)).or r) (if (gp_win T m (nx &&& T.2.2 (15 + m) s)).isSome = true then q + 1 else b)).2.2.2.2).length ∧ w < q + 1 + i ∧ y = gp_code m (((nx &&& T.2.2 (15 + m) s) :: (gp_rm T m (gq_F mks m) L (q + 1) (gp_aft T m (nx &&& T.2.2 (15 + m) s)) ((gp_win T m (nx &&& T.2.2 (15 + m) s)).or r) (if (gp_win T m (nx &&& T.2.2 (15 + m) s)).isSome = true then q + 1 else b)).2.2.2.2).getD i 0) (q + 1 + i)) := by
          intro P cs1 K1 p1 p2 p3 p4
          obtain ⟨M', cs', K', f1, f2, f3, f4⟩ := gq_ro hw hm hk hk1 hk2 hwl L (q + 1) (gp_aft T m (nx &&& T.2.2 (15 + m) s)) (n + 1) (rd + 1) ((gp_win T m (nx &&& T.2.2 (15 + m) s)).or r) (if (gp_win T m (nx &&& T.2.2 (15 + m) s)).isSome = true then q + 1 else b) cs1 K1 P hL1 (by omega) (by rw [List.length_cons] at hn; omega) hA p2 p3 (fun y hy => (p4 y).mpr (Or.inl (h1 y hy))) (fun y hy => by
            rcases (p4 y).mp hy with g | ⟨_, g⟩
            · rcases h2 y g with g | g
              · exact Or.inl g
              · right; omega
            · right
              rw [g]
              unfold gp_code
              omega)
          refine ⟨M', cs', K', f1, p1.trans f2, ?_, fun y => ?_⟩
          · rw [show rd + ((gp_rm T m (gq_F mks m) L (q + 1) (gp_aft T m (nx &&& T.2.2 (15 + m) s)) ((gp_win T m (nx &&& T.2.2 (15 + m) s)).or r) (if (gp_win T m (nx &&& T.2.2 (15 + m) s)).isSome = true then q + 1 else b)).2.2.1 - q) = rd + 1 + ((gp_rm T m (gq_F mks m) L (q + 1) (gp_aft T m (nx &&& T.2.2 (15 + m) s)) ((gp_win T m (nx &&& T.2.2 (15 + m) s)).or r) (if (gp_win T m (nx &&& T.2.2 (15 + m) s)).isSome = true then q + 1 else b)).2.2.1 - (q + 1)) by omega]
            exact f3
          · rw [f4, p4]
            constructor
            · rintro ((g | ⟨g1, g2⟩) | ⟨i, g1, g2, g3⟩)
              · exact Or.inl g
              · exact Or.inr ⟨0, by simp, by omega, g2⟩
              · exact Or.inr ⟨i + 1, by simpa using g1, by omega, by rw [g3, show q + 1 + (i + 1) = q + 1 + 1 + i by omega]; simp [List.getD]⟩
            · rintro (g | ⟨i, g1, g2, g3⟩)
              · exact Or.inl (Or.inl g)
              · cases i with
                | zero => exact Or.inl (Or.inr ⟨by omega, g3⟩)
                | succ i => exact Or.inr ⟨i, by simpa using g1, by omega, by rw [g3, show q + 1 + (i + 1) = q + 1 + 1 + i by omega]; simp [List.getD]⟩
        have e95 : f6_readOn_14 11 k1 (n + 1 + 1) (nI m) (nI w) (nI nx) 1 (nI q) M = f6_readOn_95 11 k1 (f6_readOn_14 11 k1 (n + 1)) (nI m) (nI w) (nI (gp_aft T m (nx &&& T.2.2 (15 + m) s))) (nI q) (nI (1024 * m + (nx &&& T.2.2 (15 + m) s))) 1 N := by
          rw [start, if_neg (fun g => h0 (z0.mp g)), i1, gp_eB2, if_pos (show gp_o none = -1 from rfl)]
        rw [e95]
        unfold f6_readOn_95
        rw [if_neg (by decide), nI_1]
        by_cases hwq : q + 1 ≤ w
        · rw [if_pos (nI_le hwq (by omega)), gp_eL]
          exact next N cs K n1 hbN (n2.bd (fun z hz => by split <;> split <;> omega)) (fun y => ⟨Or.inl, fun g => g.elim id (fun g => by omega)⟩)
        · obtain ⟨M1, K1, e1, e2, e3, _⟩ := gq_come (Bd' := fun z => if z ≤ q + 1 then k + 1 else k) (p := q + 1) (key := 1024 * m + (nx &&& T.2.2 (15 + m) s)) n2 (by omega) hkey (fun z hz hn => by split <;> split <;> omega) (by rw [if_neg (by omega), if_pos (by omega)]; omega) (by rw [if_neg (by omega)]; exact hk)
          rw [if_neg (nI_ge (by omega) (by omega)), e1, gp_eB, gp_eL]
          exact next M1 _ K1 (n1.trans e2) (hbN.fr hk1 hk2 e2) e3 (fun y => by
            rw [List.mem_append, List.mem_singleton]
            constructor
            · rintro (g | g)
              · exact Or.inl g
              · exact Or.inr ⟨by omega, g⟩
            · rintro (g | ⟨_, g⟩)
              · exact Or.inl g
              · exact Or.inr g)
theorem gq_rem (hw : gp_wT T) (hk1 : k1 + 1 < 69) (hk2 : k2 + 9 ≤ 69) (hok : ∀ t, t ∈ ts → gp_tkOk T l.length t) (hR : ∀ t, t ∈ ts → gq_tkR T l t) (hlen : ts.length ≤ 24) (hb : gq_bs k1 k2 M T l ts) : ∃ M' cs K', f6_remember 11 k1 k2 M = some M' ∧ gq_pL M M' ∧ gq_pC M' cs (gq_mem T l ts []).2 (fun _ => ts.length) K' ∧ ∀ y, y ∈ cs ↔ y ∈ (gq_mem T l ts []).1 := by
  have hl24 := hb.2.1.1
  have h8 : ∀ p, p < l.length → l.getD p 0 < 8 := fun p hp => (hb.2.1.2.2 p hp).2
  obtain ⟨M1, c1, c2, c3⟩ := gq_clear M
  have main : ∀ d k n rd (cs mks : List Nat) (K : Nat → List Nat) (N : gz_M), k + d = ts.length → d < n → gq_bs k1 k2 N T l ts → gq_pC N cs rd (fun _ => k) K → (∀ y, y ∈ cs ↔ y ∈ mks) → gq_nwK T l mks → ∃ M' cs' K', f6_remember_7 11 k1 k2 n (nI k) N = some M' ∧ gq_pL N M' ∧ gq_pC M' cs' (rd + (gq_mem T l (ts.drop k) mks).2) (fun _ => ts.length) K' ∧ ∀ y, y ∈ cs' ↔ y ∈ (gq_mem T l (ts.drop k) mks).1 := by
    intro d
    induction d with
    | zero =>
      intro k n rd cs mks K N hk hn hb hp hcs hnw
      obtain ⟨n, rfl⟩ : ∃ z, n = z + 1 := ⟨n - 1, by omega⟩
      rw [f6_remember_7, hb.2.2.1, if_pos (nI_le (by omega) (by omega)), List.drop_eq_nil_of_le (by omega), gq_mem, ← show k = ts.length by omega]
      exact ⟨N, cs, K, rfl, gq_pL.refl N, hp, hcs⟩
    | succ d ih =>
      intro k n rd cs mks K N hk hn hb hp hcs hnw
      obtain ⟨n, rfl⟩ : ∃ z, n = z + 1 := ⟨n - 1, by omega⟩
      have hkl : k < ts.length := by omega
      have ht := gp_getD_mem (d := gp_k0) hkl
      have o := hok _ ht
      have rr := hR _ ht
      have v := hb.2.2.2.2 k hkl
      have hdrop : ts.drop k = ts.getD k gp_k0 :: ts.drop (k + 1) := by
        rw [List.drop_eq_getElem_cons hkl]
        simp [List.getD, hkl]
      have hrs := gp_rS hw hok hkl
      generalize hte : ts.getD k gp_k0 = t at *
      have hm := o.2.2.2.2.2.2.1
      have b1 := o.1
      have b2 := o.2.1
      have b3 := o.2.2.1
      have hp1 := rr.2.2.2
      obtain ⟨g1, g2, g3, g4, g5⟩ := gq_R_f (mks := mks) hw hm hl24 h8 hp1
      obtain ⟨s1, s2⟩ := gq_R_same hnw t
      obtain ⟨w, hwd⟩ : ∃ w, w = if t.1.isSome = true then t.2.2.1 else t.2.1 := ⟨_, rfl⟩
      have hwe : w = if (gq_R T l mks t).1.isSome = true then (gq_R T l mks t).2.1 else t.2.1 := by
        rw [hwd, s1, s2, ← rr.1, rr.2.1, ← rr.1]
        split <;> rfl
      have hwl : w < 2 ^ 30 := by
        rw [hwd]
        split <;> omega
      obtain ⟨M2, cs2, K2, f1, f2, f3, f4⟩ := gq_ro (mks := mks) (ts := ts) hw hm (show k < 24 by omega) hk1 hk2 hwl (l.drop t.2.1) t.2.1 (T.2.2 8 t.2.2.2.2.2.1) gz_FU rd none t.2.1 cs K N rfl (by omega) (by rw [List.length_drop]; unfold gz_FU; omega) (gp_lt10 hw hm (hw.2.2 _ hm).2.1) hb (hp.bd (fun z hz => by split <;> omega)) (fun y hy => (hcs y).mpr hy) (fun y hy => Or.inl ((hcs y).mp hy))
      have hcs2 : ∀ y, y ∈ cs2 ↔ y ∈ mks ++ gp_marks t.2.2.2.2.2.1 t.2.1 (gq_R T l mks t) := fun y => by
        rw [f4 y, hcs, List.mem_append, gq_marks_mem g5, ← hwe]
        exact Iff.rfl
      obtain ⟨M3, cs3, K3, y1, y2, y3, y4⟩ := ih (k + 1) n _ cs2 _ K2 M2 (by omega) (by omega) (hb.fr hk1 hk2 f2) f3 hcs2 (hnw.marks hw hm hl24 h8 hp1)
      refine ⟨M3, cs3, K3, ?_, f2.trans y2, ?_, ?_⟩
      · have e44 : f6_remember_44 11 k1 k2 (f6_remember_7 11 k1 k2 n) (nI k) (nI w) N = some M3 := by
          unfold f6_remember_44 f6_readOn
          rw [gp_ckb (show k < 24 by omega) (by omega), gp_ckb (show k < 24 by omega) (by omega), nI_clamp (by omega), v.2.2.2.2.2.1, v.2.1, gp_atFirst hb.1 hm, gp_eB2, f1, gp_eB, gp_eL, nI_1]
          exact y1
        rw [f6_remember_7, hb.2.2.1, if_neg (nI_ge hkl (by omega)), gp_ckb (show k < 24 by omega) (by omega), nI_clamp (by omega), v.1, gp_itO hrs, gp_ckb (show k < 24 by omega) (by omega), gp_ckb (show k < 24 by omega) (by omega), v.2.1, v.2.2.1]
        cases ht1 : t.1 with
        | none =>
          rw [ht1] at hwd
          rw [if_pos (show (none : Option Nat).isNone = true from rfl), ← show w = t.2.1 from hwd]
          exact e44
        | some z =>
          rw [ht1] at hwd
          rw [if_neg (by simp), ← show w = t.2.2.1 from hwd]
          exact e44
      · rw [hdrop, gq_mem]
        rw [Nat.add_assoc] at y3
        exact y3
      · rw [hdrop, gq_mem]
        exact y4
  obtain ⟨M2, cs2, K2, g1, g2, g3, g4⟩ := main ts.length 0 gz_FU 0 [] [] _ M1 (by omega) (by unfold gz_FU; omega) (hb.fr hk1 hk2 c2) c3 (fun y => Iff.rfl) (fun m S p _ _ h => by cases h)
  unfold f6_remember
  rw [c1, gp_eB]
  rw [List.drop_zero, Nat.zero_add] at g3
  rw [List.drop_zero] at g4
  exact ⟨M2, cs2, K2, g1, c2.trans g2, g3, g4⟩
end
end
section
/-! the reference cuts with memory -/
section
variable {M M' : gz_M} {T : gp_T} {l : List Nat} {ts : List gp_K} {mks : List Nat}
theorem gq_forget (M : gz_M) : ∃ M', f12_forget M = some M' ∧ M'.2 = M.2 ∧ (∀ c, c ≠ 18 → c ≠ 19 → M'.1 c = M.1 c) ∧ ∀ i, i < 102400 → M'.1 18 i = 0 ∧ M'.1 19 i = 0 := by
  unfold f12_forget
  refine gp_for (fun n x M1 => f12_forget_2 n (nI x) M1) 102400 (fun x M1 => M1.2 = M.2 ∧ (∀ c, c ≠ 18 → c ≠ 19 → M1.1 c = M.1 c) ∧ ∀ i, i < x → M1.1 18 i = 0 ∧ M1.1 19 i = 0) (fun M1 => M1.2 = M.2 ∧ (∀ c, c ≠ 18 → c ≠ 19 → M1.1 c = M.1 c) ∧ ∀ i, i < 102400 → M1.1 18 i = 0 ∧ M1.1 19 i = 0) ?_ ?_ gz_FU 0 M (by omega) (by unfold gz_FU; omega) ⟨rfl, fun _ _ _ => rfl, fun i hi => absurd hi (by omega)⟩
  · intro n M1 h
    exact ⟨M1, by show f12_forget_2 (n + 1) (nI 102400) M1 = _; rw [f12_forget_2, if_pos (show (102400 : Int32) ≤ nI 102400 by decide)], h⟩
  · intro n x M1 hx h
    right
    obtain ⟨h1, h2, h3⟩ := h
    refine ⟨gz_w (gz_w M1 18 x 0) 19 x 0, ?_, by rw [gp_gl, gp_gl]; exact h1, fun c c1 c2 => by rw [gp_wc _ c2, gp_wc _ c1, h2 c c1 c2], fun i hi => ?_⟩
    · show f12_forget_2 (n + 1) (nI x) M1 = f12_forget_2 n (nI (x + 1)) _
      rw [f12_forget_2, if_neg (show ¬ (102400 : Int32) ≤ nI x from nI_ge (b := 102400) hx (by omega)), gp_ckb (show x < 102400 by omega) (by omega), nI_clamp (by omega), gp_eL, gp_ckb (show x < 102400 by omega) (by omega), show vp_nar .boolean 0 = 0 from by decide, gp_eL, gp_eL, nI_1]
    · by_cases e : i = x
      · rw [e]
        exact ⟨by rw [gp_gn (by omega), gp_gs], gp_gs _ _ _ _⟩
      · rw [gp_gn (by omega), gp_gn (by omega), gp_gn (by omega), gp_gn (by omega)]
        exact h3 i (by omega)
theorem gq_stuckR2 {n : Nat} (hw : gp_wT T) (hok : ∀ t, t ∈ ts → gp_tkOk T n t) (h31 : M.1 0 31 = nI ts.length) (hr : ∀ i, i < ts.length → M.1 17 (12 * i) = gp_o (ts.getD i gp_k0).1) (hlen : ts.length ≤ 24) : f12_stuckMany M = some (nI (gp_stk ts), M) := by
  have c : ∃ b, f12_stuckMany_4 gz_FU (nI 0) (nI 0) M = some b ∧ b = (nI (gp_stk ts), M) := by
    refine gp_for (fun n x (a : Int32) => f12_stuckMany_4 n a (nI x) M) ts.length (fun x a => a = nI (gp_stk (ts.take x))) _ (fun n a hI => ?_) (fun n x a hx hI => Or.inr ?_) gz_FU 0 _ (by omega) (by unfold gz_FU; omega) rfl
    · refine ⟨_, ?_, rfl⟩
      show f12_stuckMany_4 (n + 1) a (nI ts.length) M = _
      rw [f12_stuckMany_4, h31, if_pos (nI_le (Nat.le_refl _) (by omega)), hI, List.take_length]
    · refine ⟨_, ?_, rfl⟩
      have eo : f12_of (nI x) 0 M = some (gp_o (ts.getD x gp_k0).1, M) := by
        unfold f12_of
        rw [show (12 : Int32) = nI 12 from rfl, pk_mul, gp_add0, gp_ckb (show 12 * x < 300 by omega) (by omega), nI_clamp (by omega), hr x hx]
      show f12_stuckMany_4 (n + 1) a (nI x) M = f12_stuckMany_4 n _ (nI (x + 1)) M
      rw [f12_stuckMany_4, h31, if_neg (nI_ge hx (by omega)), eo, gp_eB2, gp_itO (gp_rS hw hok hx), hI, gp_take (d := gp_k0) hx, gp_stk_snoc]
      split
      · rw [gp_eL, gp_eL, nI_1, nI_1]
      · rw [gp_eL, gp_eL, nI_1]
        congr 1
        exact nI_add _ 0
  obtain ⟨_, c1, rfl⟩ := c
  exact c1
theorem gq_tkR_cut : ∀ t, t ∈ gp_cut T l → gq_tkR T l t := gq_tkR_cutF 24 0 [0]
/-- what stands remembered -/
def gq_mk19 (M : gz_M) (mks : List Nat) : Prop := ∀ y, y < 102400 → (M.1 19 y ≠ 0 ↔ y ∈ mks)
theorem gq_cutM (hw : gp_wT T) (hl24 : l.length ≤ 24) (h8 : ∀ p, p < l.length → l.getD p 0 < 8) : ∀ (d x m mo rd : Nat) (M : gz_M) (mks : List Nat), x + d = (gp_cut T l).length → d < m → gp_tR M T → gp_lR M l → gp_sR M (gq_st [0] (gp_cut T l) x) → M.1 0 26 = nI (gq_pl 0 (gp_cut T l) x) → M.1 0 31 = nI x → M.1 0 32 = nI rd → mo ≤ 5 → M.1 0 29 = nI mo → gq_mk19 M mks → gq_nwK T l mks → (∀ i, i < x → M.1 17 (12 * i) = gp_o ((gp_cut T l).getD i gp_k0).1) → ∃ M', f12_cutAll_12 m 1 M = some M' ∧ gp_cutL M M' ∧ M'.1 0 31 = nI (gp_cut T l).length ∧ M'.1 0 32 = nI (rd + (gq_mem T l ((gp_cut T l).drop x) mks).2) ∧ gq_mk19 M' (gq_mem T l ((gp_cut T l).drop x) mks).1 ∧ ∀ i, i < (gp_cut T l).length → M'.1 17 (12 * i) = gp_o ((gp_cut T l).getD i gp_k0).1 := by
  intro d
  induction d with
  | zero =>
    intro x m mo rd M mks hx hm hT hL hS h26 h31 h32 hmo h29 hmk hnw hru
    obtain ⟨m, rfl⟩ : ∃ q, m = q + 1 := ⟨m - 1, by omega⟩
    have hlen := gp_cut_len (T := T) (l := l)
    have hend : l.length ≤ gq_pl 0 (gp_cut T l) x := by
      have hd := gq_dropF (T := T) (l := l) 24 0 [0] x (by show x ≤ (gp_cut T l).length; omega)
      rw [show gp_cutF T l 24 0 [0] = gp_cut T l from rfl, List.drop_eq_nil_of_le (show (gp_cut T l).length ≤ x by omega)] at hd
      by_cases h24 : x = 24
      · have := gq_pl_ge (l := l) hw x (by omega)
        omega
      · obtain ⟨y, hy⟩ : ∃ y, 24 - x = y + 1 := ⟨24 - x - 1, by omega⟩
        rw [hy, gp_cutF] at hd
        by_cases hp : gq_pl 0 (gp_cut T l) x < l.length
        · rw [if_pos hp] at hd
          cases hd
        · omega
    have hpl : gq_pl 0 (gp_cut T l) x ≤ 24 := by
      unfold gq_pl
      split
      · omega
      · have o := gp_cut_ok (l := l) hw _ (gp_getD_mem (d := gp_k0) (show x - 1 < (gp_cut T l).length by omega))
        have o1 := o.2.1
        have o2 := o.2.2.1
        omega
    rw [f12_cutAll_12, gp_c81, gp_k81, hL.2.1, h26, if_pos (nI_le hend (by omega)), List.drop_eq_nil_of_le (by omega), gq_mem, ← show x = (gp_cut T l).length by omega]
    exact ⟨M, rfl, ⟨rfl, fun _ _ _ => rfl, fun _ _ _ _ _ _ => rfl⟩, h31, h32, hmk, hru⟩
  | succ d ih =>
    intro x m mo rd M mks hx hm hT hL hS h26 h31 h32 hmo h29 hmk hnw hru
    obtain ⟨m, rfl⟩ : ∃ q, m = q + 1 := ⟨m - 1, by omega⟩
    have hlen := gp_cut_len (T := T) (l := l)
    have hsk := gq_st_sk (l := l) hw (x := x) (by omega)
    have hd := gq_dropF (T := T) (l := l) 24 0 [0] x (by show x ≤ (gp_cut T l).length; omega)
    rw [show gp_cutF T l 24 0 [0] = gp_cut T l from rfl] at hd
    obtain ⟨y, hy⟩ : ∃ y, 24 - x = y + 1 := ⟨24 - x - 1, by omega⟩
    have hdrop : (gp_cut T l).drop x = (gp_cut T l).getD x gp_k0 :: (gp_cut T l).drop (x + 1) := by
      rw [List.drop_eq_getElem_cons (show x < (gp_cut T l).length by omega)]
      simp [List.getD, show x < (gp_cut T l).length by omega]
    rw [hy, gp_cutF, hdrop] at hd
    have hp : gq_pl 0 (gp_cut T l) x < l.length := Classical.byContradiction fun hp => by
      rw [if_neg hp] at hd
      cases hd
    rw [if_pos hp] at hd
    have ht : (gp_cut T l).getD x gp_k0 = gp_tok T l (gq_pl 0 (gp_cut T l) x) (gq_st [0] (gp_cut T l) x) := by
      injection hd
    have hmem := gp_getD_mem (d := gp_k0) (show x < (gp_cut T l).length by omega)
    have o1 := gp_cut_ok (l := l) hw _ hmem
    have rr := gq_tkR_cut (T := T) (l := l) _ hmem
    have e2p : ((gp_cut T l).getD x gp_k0).2.1 = gq_pl 0 (gp_cut T l) x := by rw [ht]; rfl
    have e6m : ((gp_cut T l).getD x gp_k0).2.2.2.2.2.1 = (gq_st [0] (gp_cut T l) x).headD 0 := by rw [ht]; rfl
    have e7s : ((gp_cut T l).getD x gp_k0).2.2.2.2.2.2 = gp_act T ((gp_cut T l).getD x gp_k0).1 (gq_st [0] (gp_cut T l) x) := by rw [ht]; rfl
    have npl : gq_pl 0 (gp_cut T l) (x + 1) = ((gp_cut T l).getD x gp_k0).2.2.1 := by
      unfold gq_pl
      rw [if_neg (by omega), Nat.add_sub_cancel]
    have nst : gq_st [0] (gp_cut T l) (x + 1) = ((gp_cut T l).getD x gp_k0).2.2.2.2.2.2 := by
      unfold gq_st
      rw [if_neg (by omega), Nat.add_sub_cancel]
    generalize hte : (gp_cut T l).getD x gp_k0 = t at *
    have b1 := o1.1
    have b2 := o1.2.1
    have b3 := o1.2.2.1
    have hm4 := o1.2.2.2.2.2.2.1
    have b4 := o1.2.2.2.2.2.2.2
    obtain ⟨g1, g2, g3, g4, g5⟩ := gq_R_f (mks := mks) hw hm4 hl24 h8 rr.2.2.2
    obtain ⟨s1, s2⟩ := gq_R_same hnw t
    have hF : ∀ S p', S < 2 ^ 10 → p' ≤ 24 → (gq_F mks ((gq_st [0] (gp_cut T l) x).headD 0) S p' = true ↔ 1 = 1 ∧ M.1 19 (gp_code ((gq_st [0] (gp_cut T l) x).headD 0) S p') ≠ 0) := fun S p' hS hp' => by
      have hc : gp_code ((gq_st [0] (gp_cut T l) x).headD 0) S p' < 102400 := gp_code_lt (by rw [← e6m]; exact hm4) hS hp'
      rw [hmk _ hc]
      unfold gq_F
      rw [decide_eq_true_iff]
      exact ⟨fun g => ⟨rfl, g.2.2⟩, fun g => ⟨by omega, by omega, g.2⟩⟩
    obtain ⟨M1, e1, e2, e3, e4, ⟨mo2, e5, e5'⟩, e6, e7, e8, e9, e10, e11, e12⟩ := gq_cutOne (F := gq_F mks ((gq_st [0] (gp_cut T l) x).headD 0)) hw 1 (by omega) hT hL hsk hS hmo h29 (show x < 25 by omega) h31 hp h26 hF (gq_R T l mks t) (by unfold gq_R; rw [e2p, e6m])
    have tk1 : (gp_tokO T (gq_pl 0 (gp_cut T l) x) (gq_st [0] (gp_cut T l) x) (gq_R T l mks t)).1 = t.1 := by
      show (gq_R T l mks t).1 = t.1
      rw [s1, ← rr.1]
    have tk3 : (gp_tokO T (gq_pl 0 (gp_cut T l) x) (gq_st [0] (gp_cut T l) x) (gq_R T l mks t)).2.2.1 = t.2.2.1 := by
      show (if (gq_R T l mks t).1.isSome = true then (gq_R T l mks t).2.1 else gq_pl 0 (gp_cut T l) x + 1) = t.2.2.1
      rw [s1, s2, ← e2p]
      exact rr.2.1.symm
    have tk7 : (gp_tokO T (gq_pl 0 (gp_cut T l) x) (gq_st [0] (gp_cut T l) x) (gq_R T l mks t)).2.2.2.2.2.2 = t.2.2.2.2.2.2 := by
      show gp_act T (gq_R T l mks t).1 _ = t.2.2.2.2.2.2
      rw [s1, ← rr.1, e7s]
    rw [tk7] at e3
    rw [tk3] at e4
    have hT1 : gp_tR M1 T := hT.fr (fun c c1 c2 => e2.2.1 c (by omega) (by omega)) (e2.2.2 10 (by omega) (by omega) (by omega) (by omega) (by omega))
    have hL1 : gp_lR M1 l := hL.fr (e2.2.1 1 (by omega) (by omega))
    have hmk1 : gq_mk19 M1 (mks ++ gp_marks t.2.2.2.2.2.1 t.2.1 (gq_R T l mks t)) := fun y hy => by
      have h12 := e12 rfl y
      rw [← e2p, ← e6m] at h12
      rw [List.mem_append]
      by_cases hin : y ∈ gp_marks t.2.2.2.2.2.1 t.2.1 (gq_R T l mks t)
      · rw [h12.1 hin]
        exact ⟨fun _ => Or.inr hin, fun _ => by decide⟩
      · rw [h12.2 hin, hmk y hy]
        exact ⟨Or.inl, fun g => g.resolve_right hin⟩
    obtain ⟨M2, f1, f2, f3, f4, f5, f6⟩ := ih (x + 1) m mo2 (rd + ((gq_R T l mks t).2.2.1 - t.2.1)) M1 _ (by omega) (by omega) hT1 hL1 (by rw [nst]; exact e3) (by rw [npl]; exact e4) e6 (by rw [e7, h32, nI_add, e2p]) e5 e5' hmk1 (hnw.marks hw hm4 hl24 h8 rr.2.2.2) (fun i hi => by
      by_cases ei : i = x
      · rw [ei]
        have := e8.1
        rw [tk1] at this
        rw [this, hte]
      · rw [e9 _ (by omega)]
        exact hru i (by omega))
    refine ⟨M2, ?_, e2.trans f2, f3, ?_, ?_, f6⟩
    · rw [f12_cutAll_12, gp_c81, gp_k81, hL.2.1, h26, if_neg (nI_ge hp (by omega)), show f12_cutOne 1 M = some M1 from e1, gp_eB, f1]
    · rw [hdrop, gq_mem]
      rw [Nat.add_assoc] at f4
      exact f4
    · rw [hdrop, gq_mem]
      exact f5
/-- the whole line, with memory -/
theorem gq_cutAll1 (hw : gp_wT T) (hT : gp_tR M T) (hL : gp_lR M l) : ∃ M', f12_cutAll 1 M = some M' ∧ gp_cutL M M' ∧ M'.1 0 31 = nI (gp_cut T l).length ∧ M'.1 0 32 = nI (gq_mem T l (gp_cut T l) []).2 ∧ gq_mk19 M' (gq_mem T l (gp_cut T l) []).1 ∧ ∀ i, i < (gp_cut T l).length → M'.1 17 (12 * i) = gp_o ((gp_cut T l).getD i gp_k0).1 := by
  have hl24 := hL.1
  obtain ⟨M1, e1, e2, e3, e4, e5, e6, e7⟩ := gp_atFirstR M
  obtain ⟨M2, d1, d2, d3, d4⟩ := gq_forget M1
  have hT2 : gp_tR M2 T := hT.fr (fun c c1 c2 => by rw [d3 c (by omega) (by omega), e3 c (by omega) (by omega)]) (by rw [d3 0 (by omega) (by omega), e2.2.2 10 (by omega) (by omega) (by omega) (by omega) (by omega)])
  have hL2 : gp_lR M2 l := hL.fr (by rw [d3 1 (by omega) (by omega), e3 1 (by omega) (by omega)])
  have l2 : gp_cutL M1 M2 := ⟨d2, fun c c1 c2 => d3 c (by omega) (by omega), fun i _ _ _ _ _ => by rw [d3 0 (by omega) (by omega)]⟩
  obtain ⟨M3, f1, f2, f3, f4, f5, f6⟩ := gq_cutM (l := l) hw hl24 (fun p hp => (hL.2.2 p hp).2) (gp_cut T l).length 0 gz_FU 1 0 M2 [] (by omega) (by have := gp_cut_len (T := T) (l := l); unfold gz_FU; omega) hT2 hL2 ⟨by rw [d3 0 (by omega) (by omega)]; exact e4.1, fun x hx => by rw [d3 16 (by omega) (by omega)]; exact e4.2 x hx⟩ (by rw [d3 0 (by omega) (by omega)]; exact e5) (by rw [d3 0 (by omega) (by omega)]; exact e6.1) (by rw [d3 0 (by omega) (by omega)]; exact e7) (by omega) (by rw [d3 0 (by omega) (by omega)]; exact e6.2.1) (fun y hy => by rw [(d4 y hy).2]; simp) (fun m S p _ _ h => by cases h) (fun i hi => absurd hi (by omega))
  unfold f12_cutAll
  rw [e1, gp_eB, if_neg (by decide), d1, gp_eB]
  rw [List.drop_zero, Nat.zero_add] at f4
  rw [List.drop_zero] at f5
  exact ⟨M3, f1, (e2.trans l2).trans f2, f3, f4, f5, f6⟩
end
end
section
/-! promises 18 and 19: read, twice -/
section
variable {B : Prop} {M M' Mc Mr : gz_M} {T : gp_T} {l mks : List Nat} {ts : List gp_K} {cu k m : Nat}
theorem gq_codes_lt (hm : m < 4) : ∀ (L : List Nat) (q : Nat), (∀ S, S ∈ L → S < 2 ^ 10) → q + L.length ≤ 24 → ∀ y, y ∈ gp_codes m L q → y < 102400
  | [], q, _, _, y, h => by cases h
  | S :: L, q, hS, hq, y, h => by
    rw [List.length_cons] at hq
    rcases List.mem_cons.mp h with e | e
    · rw [e]
      exact gp_code_lt hm (hS S List.mem_cons_self) (by omega)
    · exact gq_codes_lt hm L (q + 1) (fun S g => hS S (List.mem_cons_of_mem _ g)) (by omega) y e
theorem gq_coms_b (hw : gp_wT T) (hl : l.length ≤ 24) (h8 : ∀ p, p < l.length → l.getD p 0 < 8) : ∀ ts : List gp_K, (∀ t, t ∈ ts → gp_tkOk T l.length t) → (gp_coms T l ts).length ≤ 24 * ts.length ∧ ∀ y, y ∈ gp_coms T l ts → y < 102400
  | [], _ => ⟨Nat.le_refl _, fun y h => by cases h⟩
  | t :: ts, hok => by
    have o := hok t List.mem_cons_self
    have hm := o.2.2.2.2.2.2.1
    have hp : t.2.1 < l.length := by
      have := o.1
      have := o.2.1
      have := o.2.2.1
      omega
    obtain ⟨a1, a2, a3, a4, a5, a6, a7, a8, a9⟩ := gp_rm_f (T := T) (m := t.2.2.2.2.2.1) (F := gp_F0) (l.drop t.2.1) t.2.1 (T.2.2 8 t.2.2.2.2.2.1) none t.2.1 (by simp) (by simp)
    have hlen : (l.drop t.2.1).length = l.length - t.2.1 := List.length_drop
    have hmet := gp_rm_mets (T := T) (F := gp_F0) hw hm (l.drop t.2.1) t.2.1 (T.2.2 8 t.2.2.2.2.2.1) none t.2.1 (fun s hs => by
      obtain ⟨i, hi, e⟩ := List.mem_iff_getElem.mp (List.mem_of_mem_drop hs)
      have := h8 i hi
      simp [List.getD, hi] at this
      rw [← e]
      exact this)
    obtain ⟨i1, i2⟩ := gq_coms_b hw hl h8 ts (fun t h => hok t (List.mem_cons_of_mem _ h))
    rw [gp_coms, List.length_append, gp_codes_len, List.length_cons]
    refine ⟨by omega, fun y hy => ?_⟩
    rcases List.mem_append.mp hy with g | g
    · exact gq_codes_lt hm _ _ (fun S hS => gp_lt10 hw hm (hmet S hS)) (by omega) y g
    · exact i2 y g
theorem gq_reads_snoc (t : gp_K) : ∀ ts : List gp_K, gp_reads (ts ++ [t]) = gp_reads ts + (t.2.2.2.1 - t.2.1)
  | [] => by show (t.2.2.2.1 - t.2.1) + 0 = 0 + (t.2.2.2.1 - t.2.1); omega
  | s :: ts => by
    show (s.2.2.2.1 - s.2.1) + gp_reads (ts ++ [t]) = (s.2.2.2.1 - s.2.1) + gp_reads ts + (t.2.2.2.1 - t.2.1)
    rw [gq_reads_snoc t ts]; omega
theorem gq_readsC {n : Nat} (h : gp_cC k M ts) (hok : ∀ t, t ∈ ts → gp_tkOk T n t) (hlen : ts.length ≤ 24) : f2_signsRead k M = some (nI (gp_reads ts), M) := by
  have c : ∃ b, f2_signsRead_4 k gz_FU (nI 0) (nI 0) M = some b ∧ b = (nI (gp_reads ts), M) := by
    refine gp_for (fun n x (a : Int32) => f2_signsRead_4 k n a (nI x) M) ts.length (fun x a => a = nI (gp_reads (ts.take x))) _ (fun n a hI => ?_) (fun n x a hx hI => Or.inr ?_) gz_FU 0 _ (by omega) (by unfold gz_FU; omega) rfl
    · refine ⟨_, ?_, rfl⟩
      show f2_signsRead_4 k (n + 1) a (nI ts.length) M = _
      rw [f2_signsRead_4, h.1, if_pos (nI_le (Nat.le_refl _) (by omega)), hI, List.take_length]
    · refine ⟨_, ?_, rfl⟩
      have v := h.2.2 x hx
      have o := hok _ (gp_getD_mem (d := gp_k0) hx)
      have o1 := o.1
      have o2 := o.2.1
      show f2_signsRead_4 k (n + 1) a (nI x) M = f2_signsRead_4 k n _ (nI (x + 1)) M
      rw [f2_signsRead_4, h.1, if_neg (nI_ge hx (by omega)), gp_ckb (show x < 24 by omega) (by omega), gp_ckb (show x < 24 by omega) (by omega), nI_clamp (by omega), v.2.2.2.1, v.2.1, gp_subI (by omega), hI, nI_add, gp_eL, gp_eL, nI_1, gp_take (d := gp_k0) hx, gq_reads_snoc]
  obtain ⟨_, c1, rfl⟩ := c
  exact c1
theorem gq_pL.qq (hcu : cu = 30 ∨ cu = 60) (h : gq_pL M M') : gp_qC cu M M' := ⟨fun c hc => h.2 c (by omega), by rw [h.2 0 (by omega)], by rw [h.2 0 (by omega)]⟩
theorem gp_Q.bs (h : gp_Q B cu Mc Mr T l) : gq_bs 9 cu Mc T l (gp_cut T l) := ⟨h.2.1, h.2.2.2.1, h.2.2.2.2.2.1.2.2.1⟩
theorem gq_readR (n : Nat) (x : Nat) (a : Int32) (x1 : Int32) (hx : x < 102400) : f12_read_14 (n + 1) x1 a (nI x) M = f12_read_14 n x1 (a + nI (if M.1 19 x ≠ 0 then 1 else 0)) (nI (x + 1)) M := by
  rw [f12_read_14, if_neg (show ¬ (102400 : Int32) ≤ nI x from nI_ge (b := 102400) hx (by omega)), gp_ckb (show x < 102400 by omega) (by omega), nI_clamp (by omega)]
  by_cases g : M.1 19 x = 0
  · rw [if_pos g, if_neg (show ¬ (M.1 19 x ≠ 0) from fun e => e g), gp_eL, gp_eL, nI_1]; rfl
  · rw [if_neg g, if_pos g, gp_eL, gp_eL, nI_1]; rfl
theorem gp_a18 (h : gp_Q B cu Mc Mr T l) : gp_ans B cu Mc Mr (f11_read Mc) (f12_read Mr) := by
  have hq := h
  obtain ⟨h1, h2, h3, h4, h5, h6, h7, h8⟩ := h
  have hlen := h6.2.2.2
  have hcu := h6.1
  have hok := gp_cut_ok (l := l) h1
  obtain ⟨C1, cs, K1, a1, a2, a3, a4⟩ := gq_rem h1 (by omega) (by omega) hok (gq_tkR_cut (T := T) (l := l)) hlen hq.bs
  obtain ⟨C2, C3, t1, t2, t3, t4, t5⟩ := gp_tell2C C1 (nI (gq_mem T l (gp_cut T l) []).2).toInt64 (nI (gq_cnt (fun y => decide (y ∈ cs)) 102400)).toInt64
  have hW3 : gp_cW cu C3 (gp_cut T l) := by
    have : gp_cW cu C1 (gp_cut T l) := ⟨hcu, by rw [a2.2 0 (by omega)]; exact h6.2.1, h6.2.2.1.fr (fun c c1 c2 => a2.2 c (by omega)), hlen⟩
    exact this.fr t4
  have hT0 : gp_tR (gz_w Mr 0 5 0) T := h3.fr (fun c c1 c2 => gp_wc _ (by omega)) (gp_gn (by omega))
  have hL0 : gp_lR (gz_w Mr 0 5 0) l := h5.fr (gp_wc _ (by omega))
  obtain ⟨R1, r1, r2, r3, r4, r5, r6⟩ := gq_cutAll1 (l := l) h1 hT0 hL0
  have hT1 : gp_tR R1 T := hT0.fr (fun c c1 c2 => r2.2.1 c (by omega) (by omega)) (r2.2.2 10 (by omega) (by omega) (by omega) (by omega) (by omega))
  have hL1 : gp_lR R1 l := hL0.fr (r2.2.1 1 (by omega) (by omega))
  obtain ⟨R2, s1, s2, s3, s4, s5, s6⟩ := gp_cutAll0 h1 hT1 hL1
  obtain ⟨R3, R4, u1, u2, u3, u4, u5⟩ := gp_tell2R R2 (nI (gq_mem T l (gp_cut T l) []).2).toInt64 (nI (gq_cnt (fun y => decide (y ∈ cs)) 102400)).toInt64
  refine gp_ansI (v := nI (gp_reads (gp_cut T l))) (Mc' := C3) (Mr' := R4) ?_ ?_ ?_ ?_ t5 u5 (by simp)
  · unfold f11_read
    have e3 : (gz_w C1 0 15 0).1 69 4 = nI (gq_mem T l (gp_cut T l) []).2 := by rw [gp_wc _ (by omega)]; exact a3.2.2
    have e4 : C2.1 69 3 = nI (gq_cnt (fun y => decide (y ∈ cs)) 102400) := by rw [t2.1 69 (by omega), a3.2.1, gq_total a3]
    rw [h6.2.1, show (7 + 2 : Nat) = 9 from rfl, a1, gp_eB, gp_eL, e3, t1, gp_eB, e4, t3, gp_eB, hW3.2.1, gq_readsC hW3.2.2.1 hok hlen, gp_eB2]
  · unfold f12_read
    have c : ∃ b, f12_read_14 gz_FU (nI (gq_mem T l (gp_cut T l) []).2) (nI 0) (nI 0) R1 = some b ∧ b = (nI (gp_reads (gp_cut T l)), R4) := by
      refine gp_for (fun n x (a : Int32) => f12_read_14 n (nI (gq_mem T l (gp_cut T l) []).2) a (nI x) R1) 102400 (fun x a => a = nI (gq_cnt (fun y => decide (y ∈ cs)) x)) _ (fun n a hI => ?_) (fun n x a hx hI => Or.inr ?_) gz_FU 0 _ (by omega) (by unfold gz_FU; omega) rfl
      · refine ⟨_, ?_, rfl⟩
        show f12_read_14 (n + 1) _ a (nI 102400) R1 = _
        have e32 : R4.1 0 32 = nI (gp_reads (gp_cut T l)) := by rw [u4.2 32 (by omega), s5]
        rw [f12_read_14, if_pos (show (102400 : Int32) ≤ nI 102400 by decide), s1, gp_eB, gp_eL, u1, gp_eB, hI, u3, gp_eB, e32]
      · refine ⟨_, gq_readR n x a _ hx, ?_⟩
        show a + nI _ = _
        rw [hI, nI_add, gq_cnt]
        have := (r5 x hx).trans (a4 x).symm
        by_cases g : x ∈ cs
        · rw [if_pos (this.mpr g), if_pos (decide_eq_true g)]
        · rw [if_neg (fun e => g (this.mp e)), if_neg (by simp [g])]
    obtain ⟨_, c1, rfl⟩ := c
    unfold f12_readWithMemory
    rw [gp_eL, r1, gp_eB, gp_eB2, r4]
    exact c1
  · exact (a2.qq hcu).trans (t4.qq (by omega))
  · exact ((gp_thr 0).1.trans r2.qq).trans (s2.qq.trans u4.qq)
theorem gp_a19 (h : gp_Q B cu Mc Mr T l) : gp_ans B cu Mc Mr (f11_twice Mc) (f12_twice Mr) := by
  have hq := h
  obtain ⟨h1, h2, h3, h4, h5, h6, h7, h8⟩ := h
  have hlen := h6.2.2.2
  have hcu := h6.1
  have hok := gp_cut_ok (l := l) h1
  obtain ⟨b1, b2⟩ := gq_coms_b h1 h4.1 (fun p hp => (h4.2.2 p hp).2) (gp_cut T l) hok
  obtain ⟨C1, K1, a1, a2, a3⟩ := gq_walk h1 (by omega) (by omega) hok (gq_tkR_cut (T := T) (l := l)) hlen hq.bs
  obtain ⟨cs, hcs⟩ : ∃ cs, cs = gp_coms T l (gp_cut T l) := ⟨_, rfl⟩
  rw [← hcs] at a3 b1 b2
  have hpl : gq_pL C1 C1 := gq_pL.refl _
  have h30 : cs.length < 2 ^ 30 := by omega
  have a3' : gq_pC (gz_w C1 0 15 0) cs 0 (fun _ => (gp_cut T l).length) K1 := by
    refine ⟨fun p hp => ⟨?_, (a3.1 p hp).2⟩, by rw [gp_wc _ (by omega)]; exact a3.2.1, by rw [gp_wc _ (by omega)]; exact a3.2.2⟩
    have := (a3.1 p hp).1
    unfold gq_pK at this ⊢
    rw [gp_wc _ (by omega), gp_wc _ (by omega), gp_wc _ (by omega)]
    exact this
  have hE := gq_mostE a3' b2
  have hM := gq_most a3' h30
  have hmx : gq_mx (fun p => gq_pm cs (K1 p) p) 25 < 2 ^ 30 := by
    refine Nat.lt_of_le_of_lt ((gq_mx_le _ cs.length _).mpr (fun p _ => (gq_mx_le _ _ _).mpr (fun x _ => List.count_le_length))) h30
  obtain ⟨mx, hmxe⟩ : ∃ mx, mx = gq_mx (fun y => if 2 ≤ cs.count y then cs.count y else 0) 102400 := ⟨_, rfl⟩
  rw [← hmxe] at hE
  obtain ⟨C2, t1, t2, t3⟩ := gp_tell1C C1 (nI mx).toInt64
  have a4 : gq_pC C2 cs 0 (fun _ => (gp_cut T l).length) K1 := by
    refine ⟨fun p hp => ⟨?_, (a3.1 p hp).2⟩, by rw [t2.1 69 (by omega)]; exact a3.2.1, by rw [t2.1 69 (by omega)]; exact a3.2.2⟩
    have := (a3.1 p hp).1
    unfold gq_pK at this ⊢
    rw [t2.1 _ (by omega), t2.1 _ (by omega), t2.1 _ (by omega)]
    exact this
  obtain ⟨R1, d1, d2, d3, d4⟩ := gq_forget (gz_w Mr 0 5 0)
  have hT0 : gp_tR R1 T := h3.fr (fun c c1 c2 => by rw [d3 c (by omega) (by omega), gp_wc _ (by omega)]) (by rw [d3 0 (by omega) (by omega), gp_gn (by omega)])
  have hL0 : gp_lR R1 l := h5.fr (by rw [d3 1 (by omega) (by omega), gp_wc _ (by omega)])
  have l1 : gp_cutL (gz_w Mr 0 5 0) R1 := ⟨d2, fun c c1 c2 => d3 c (by omega) (by omega), fun i _ _ _ _ _ => by rw [d3 0 (by omega) (by omega)]⟩
  obtain ⟨R2, s1, s2, s3, s4, s5, s6⟩ := gp_cutAll0 h1 hT0 hL0
  obtain ⟨R3, u1, u2, u3⟩ := gp_tell1R R2 (nI mx).toInt64
  have h18 : ∀ y, y < 102400 → R2.1 18 y = nI (cs.count y) := fun y hy => by
    rw [s6, (d4 y hy).1, ← hcs, show (0 : Int32) = nI 0 from rfl, nI_add, Nat.zero_add]
  refine gp_ansI (v := nI (gq_cnt (fun y => decide (1 < cs.count y)) 102400)) (Mc' := C2) (Mr' := R3) ?_ ?_ ?_ ?_ t3 u3 (by simp)
  · unfold f11_twice
    rw [h6.2.1, show (7 + 2 : Nat) = 9 from rfl, a1, gp_eB, gp_eL, hM, gp_eB2]
    have e47 : f11_twice_47 (nI mx).toInt64 (gz_w C1 0 15 0) = some (nI (gq_cnt (fun y => decide (1 < cs.count y)) 102400), C2) := by
      unfold f11_twice_47
      rw [t1, gp_eB, gq_rep a4 h30, gp_eB2]
    by_cases g : gq_mx (fun p => gq_pm cs (K1 p) p) 25 ≤ 1
    · rw [if_pos g] at hE
      rw [if_pos (show nI _ ≤ (1 : Int32) from nI_le (b := 1) g (by omega)), ← e47, hE]
      rfl
    · rw [if_neg g] at hE
      rw [if_neg (show ¬ nI _ ≤ (1 : Int32) from nI_ge (a := 1) (by omega) (by omega)), ← e47, hE]
  · unfold f12_twice
    have c : ∃ b, f12_twice_20 gz_FU (nI 0) (nI 0) (nI 0) R2 = some b ∧ b = (nI (gq_cnt (fun y => decide (1 < cs.count y)) 102400), R3) := by
      refine gp_for (fun n x (a : Int32 × Int32) => f12_twice_20 n a.1 a.2 (nI x) R2) 102400 (fun x a => a = (nI (gq_cnt (fun y => decide (1 < cs.count y)) x), nI (gq_mx (fun y => if 2 ≤ cs.count y then cs.count y else 0) x))) _ (fun n a hI => ?_) (fun n x a hx hI => Or.inr ?_) gz_FU 0 (nI 0, nI 0) (by omega) (by unfold gz_FU; omega) rfl
      · refine ⟨_, ?_, rfl⟩
        show f12_twice_20 (n + 1) a.1 a.2 (nI 102400) R2 = _
        rw [f12_twice_20, if_pos (show (102400 : Int32) ≤ nI 102400 by decide), gp_eL, hI, ← hmxe, u1, gp_eB]
      · have hc : cs.count x < 2 ^ 30 := Nat.lt_of_le_of_lt List.count_le_length h30
        have hm2 : gq_mx (fun y => if 2 ≤ cs.count y then cs.count y else 0) x < 2 ^ 31 := by
          refine Nat.lt_of_le_of_lt ((gq_mx_le _ cs.length _).mpr (fun y _ => ?_)) (Nat.lt_trans h30 (by omega))
          split
          · exact List.count_le_length
          · omega
        refine ⟨_, ?_, rfl⟩
        show f12_twice_20 (n + 1) a.1 a.2 (nI x) R2 = f12_twice_20 n (nI (gq_cnt (fun y => decide (1 < cs.count y)) (x + 1))) (nI (gq_mx (fun y => if 2 ≤ cs.count y then cs.count y else 0) (x + 1))) (nI (x + 1)) R2
        rw [f12_twice_20, if_neg (show ¬ (102400 : Int32) ≤ nI x from nI_ge (b := 102400) hx (by omega)), gp_ckb (show x < 102400 by omega) (by omega), nI_clamp (by omega), h18 x hx, hI, gq_cnt, gq_mx]
        by_cases g : 2 ≤ cs.count x
        · rw [if_pos (show (2 : Int32) ≤ nI _ from nI_le (a := 2) g (by omega)), gp_eL, gp_ckb (show x < 102400 by omega) (by omega), gp_max hm2 (by omega), gp_eL, gp_eL, nI_1, nI_1, if_pos (decide_eq_true (show 1 < cs.count x from g)), if_pos g]
        · rw [if_neg (show ¬ (2 : Int32) ≤ nI _ from nI_ge (b := 2) (by omega) (by omega)), gp_eL, nI_1, if_neg (by simp; omega), if_neg g, Nat.max_zero]
          rfl
    obtain ⟨_, c1, rfl⟩ := c
    rw [gp_eL, d1, gp_eB, s1, gp_eB]
    exact c1
  · exact (a2.qq hcu).trans (t2.qq (by omega))
  · exact ((gp_thr 0).1.trans l1.qq).trans (s2.qq.trans u2.qq)
end
end
section
/-! promise 37: years -/
section
variable {B : Prop} {pf : Nat → Bool} {M M' Mc Mr Mc' Mr' C R : gz_M} {T : gp_T} {l x : List Nat} {b : gp_Bk} {us : List gp_Bk} {ks : Nat → Option gp_Bk} {cu o kd : Nat}
/-- an answer that lays row 1 of the reference anew, the same -/
theorem gp_RI.ans3 (h : gp_RI B pf cu Mc Mr x b us ks o) (e1 : gp_qC cu Mc Mc') (rc : ∀ c, c = 2 ∨ c = 21 ∨ c = 22 ∨ c = 33 → Mr'.1 c = Mr.1 c) (r1 : gp_rB 1 0 Mr' b) (r2 : Mr'.1 0 2 = Mr.1 0 2) (r51 : Mr'.1 0 51 = Mr.1 0 51) (ht : gp_tR Mr' (gp_tab b.1)) (hr : gp_rw B Mc' Mr') : gp_RI B pf cu Mc' Mr' x b us ks o := by
  obtain ⟨⟨q1, q2, q3, q4, q5, q6, q7, q8⟩, h2, h3, h4, h5, h6, h7, h8, h9, h10, h11⟩ := h
  have hcu := q6.1
  have hl : gp_lR Mr' b.2 := ⟨q5.1, by have := r1.2.2.1; rwa [Nat.zero_add] at this, fun i hi => ⟨by have := r1.2.2.2 i hi; rwa [Nat.zero_add] at this, (q5.2.2 i hi).2⟩⟩
  refine ⟨⟨q1, q2.fr (fun c c1 c2 => e1.1 c (by omega)), ht, q4.fr (fun c c1 c2 => e1.1 c (by omega)), hl, ⟨hcu, by rw [e1.2.1]; exact q6.2.1, q6.2.2.1.fr (fun c c1 c2 => e1.1 c (by omega)), q6.2.2.2⟩, by rw [e1.2.2]; exact q7, hr⟩, h2, h3.fr (e1.1 1 (by omega)) (e1.1 2 (by omega)), h4.fr (rc 2 (by omega)) r2, ?_, r1, h7, h8.fr (fun c hc => e1.1 c (by omega)), h9, h10.fr (rc 33 (by omega)) r51, h11.fr (fun _ _ _ => rfl) (fun c hc => e1.1 c (by omega)) (fun c hc => rc c (by omega))⟩
  obtain ⟨a1, a2, a3⟩ := h5
  exact ⟨a1, by rw [e1.1 7 (by omega)]; exact a2, fun i hi => by rw [e1.1 8 (by omega)]; exact a3 i hi⟩
theorem gq_draw3 (r : Int32) : ∃ kd, kd < 3 ∧ gz_rem (gz_ushr r 16) 3 = nI kd := by
  have hu : (gz_ushr r 16).toBitVec.toNat = r.toBitVec.toNat / 2 ^ 16 := pk_ushr r 16 16 (by decide)
  have hr := r.toBitVec.isLt
  generalize gz_ushr r 16 = z at hu
  have hz : z.toBitVec.toNat < 65536 := by omega
  have ht : z.toInt = if 2 * z.toBitVec.toNat < 4294967296 then (z.toBitVec.toNat : Int) else (z.toBitVec.toNat : Int) - 4294967296 := BitVec.toInt_eq_toNat_cond z.toBitVec
  rw [if_pos (by omega)] at ht
  refine ⟨z.toBitVec.toNat % 3, Nat.mod_lt _ (by omega), ?_⟩
  have hm : z.toBitVec.toNat % 3 < 3 := Nat.mod_lt _ (by omega)
  apply Int32.toInt_inj.mp
  rw [gp_remE, Int32.toInt_mod, nI_toInt (by omega), ht, show ((3 : Int32)).toInt = 3 from rfl]
  rfl
def gq_yL (R R' : gz_M) : Prop := R'.2 = R.2 ∧ (∀ c, c ≠ 0 → c ≠ 1 → R'.1 c = R.1 c) ∧ ∀ i, i ≠ 54 → R'.1 0 i = R.1 0 i
theorem gq_yL.trans {M1 M2 M3 : gz_M} (a : gq_yL M1 M2) (b : gq_yL M2 M3) : gq_yL M1 M3 := ⟨b.1.trans a.1, fun c h h' => (b.2.1 c h h').trans (a.2.1 c h h'), fun i h => (b.2.2 i h).trans (a.2.2 i h)⟩
theorem gq_yr1 (hk : kd < 3) (hC : gp_lC 58 C l) (hR : gp_lR R l) (q s : Int32) (hs : kd = 2 → s = 0) : ∃ C' R' l', f5_change 58 (nI kd) q s C = some C' ∧ (∀ (c50 : Int32 → Int32 → gz_M → Option (Int32 × gz_M)) (x2 x3 : Int32), f12_years_86 c50 x2 x3 (nI kd) q s R = c50 x2 (x3 + 1) R') ∧ gp_lL 58 C C' ∧ gp_lC 58 C' l' ∧ R'.2 = R.2 ∧ (∀ c, c ≠ 1 → R'.1 c = R.1 c) ∧ gp_lR R' l' := by
  rcases gq_ref hC hR hk q s hs with ⟨v, v1, v2, v3, v4⟩ | ⟨j, z, rfl, rfl, g1, g2, g3⟩
  · refine ⟨C, R, l, ?_, fun c50 x2 x3 => ?_, ⟨rfl, fun _ _ _ => rfl⟩, hC, rfl, fun _ _ => rfl, hR⟩
    · unfold f5_change
      rw [v3, gp_eB2, if_neg v1]
    · unfold f12_years_86
      rw [v4, gp_eB2, if_neg v2, gp_eL]
  · obtain ⟨C', c1, c2, c3⟩ := gq_doC hk hC g1 g2
    obtain ⟨R', r1, r2, r3, r4, r5⟩ := gq_doR hk hR g1
    refine ⟨C', R', _, c1, fun c50 x2 x3 => ?_, c2, c3, r2, r3, r5⟩
    unfold f12_years_86
    rw [g3, gp_eB2, if_pos rfl, r1, gp_eB, gp_eL]
theorem gq_drwC (a : Int32) {n : Int32} (h : ¬ n ≤ 0) (h' : ¬ n = 0) (N : gz_M) : f11_drawn a n N = some (gz_rem (gz_ushr a 16) n, N) := by
  unfold f11_drawn
  rw [if_neg h, decide_eq_false h', Bool.not_false, gp_eC]
theorem gq_drwR {n r : Int32} (h' : ¬ n = 0) (h54 : R.1 0 54 = r) : f12_draw n R = some (gz_rem (gz_ushr (r * 1103515245 + 12345) 16) n, gz_w R 0 54 (r * 1103515245 + 12345)) := by
  unfold f12_draw
  rw [gp_eL, decide_eq_false h', Bool.not_false, gp_eC, gp_gs, h54]
theorem gq_yw (v : Int32) : gq_yL R (gz_w R 0 54 v) := ⟨rfl, fun c h _ => gp_wc _ (by omega), fun i h => gp_gn (by omega)⟩
/-- one year -/
theorem gq_yr {n k N : Nat} {r : Int32} (hk : k < N) (hN : N ≤ 20) (hC : gp_lC 58 C l) (hR : gp_lR R l) (h54 : R.1 0 54 = r) : ∃ C' R' l' r', f11_years_32 (n + 1) (nI N) r (nI k) C = f11_years_32 n (nI N) r' (nI (k + 1)) C' ∧ f12_years_50 (n + 1) (nI N) (nI k) R = f12_years_50 n (nI N) (nI (k + 1)) R' ∧ gp_lL 58 C C' ∧ gp_lC 58 C' l' ∧ gq_yL R R' ∧ gp_lR R' l' ∧ R'.1 0 54 = r' := by
  obtain ⟨a, ha⟩ : ∃ a : Int32, a = r * 1103515245 + 12345 := ⟨_, rfl⟩
  obtain ⟨d, hd⟩ : ∃ d : Int32, d = a * 1103515245 + 12345 := ⟨_, rfl⟩
  obtain ⟨e, he⟩ : ∃ e : Int32, e = d * 1103515245 + 12345 := ⟨_, rfl⟩
  obtain ⟨kd, hkd, ekd⟩ := gq_draw3 a
  obtain ⟨R1, hR1⟩ : ∃ R1, R1 = gz_w R 0 54 a := ⟨_, rfl⟩
  obtain ⟨R2, hR2⟩ : ∃ R2, R2 = gz_w R1 0 54 d := ⟨_, rfl⟩
  obtain ⟨R3, hR3⟩ : ∃ R3, R3 = gz_w R2 0 54 e := ⟨_, rfl⟩
  have y1 : gq_yL R R1 := by rw [hR1]; exact gq_yw _
  have y2 : gq_yL R R2 := y1.trans (by rw [hR2]; exact gq_yw _)
  have y3 : gq_yL R R3 := y2.trans (by rw [hR3]; exact gq_yw _)
  have o1 : R1.1 0 54 = a := by rw [hR1]; exact gp_gs _ _ _ _
  have o2 : R2.1 0 54 = d := by rw [hR2]; exact gp_gs _ _ _ _
  have o3 : R3.1 0 54 = e := by rw [hR3]; exact gp_gs _ _ _ _
  have l1 : R1.1 1 = R.1 1 := by rw [hR1]; exact gp_wc _ (by omega)
  have l2 : R2.1 1 = R.1 1 := by rw [hR2, ← l1]; exact gp_wc _ (by omega)
  have l3 : R3.1 1 = R.1 1 := by rw [hR3, ← l2]; exact gp_wc _ (by omega)
  have d1 : f12_draw 3 R = some (nI kd, R1) := by rw [gq_drwR (n := 3) (by decide) h54, ← ha, ekd, ← hR1]
  have d2 : f12_draw 24 R1 = some (gz_rem (gz_ushr d 16) 24, R2) := by rw [gq_drwR (n := 24) (by decide) o1, ← hd, ← hR2]
  have d3 : f12_draw 8 R2 = some (gz_rem (gz_ushr e 16) 8, R3) := by rw [gq_drwR (n := 8) (by decide) o2, ← he, ← hR3]
  have hc : f11_years_32 (n + 1) (nI N) r (nI k) C = if nI kd = 2 then f11_years_85 (f11_years_32 n) (nI N) d (nI k) (nI kd) (gz_rem (gz_ushr d 16) 24) 0 C else f11_years_85 (f11_years_32 n) (nI N) e (nI k) (nI kd) (gz_rem (gz_ushr d 16) 24) (gz_rem (gz_ushr e 16) 8) C := by
    rw [f11_years_32, if_neg (nI_ge hk (by omega))]
    unfold f11_nextOf
    rw [gp_eB2, ← ha, gq_drwC a (n := 3) (by decide) (by decide), gp_eB2, ekd, gp_eB2, ← hd, gq_drwC d (n := 24) (by decide) (by decide), gp_eB2, gp_eB2, ← he, gq_drwC e (n := 8) (by decide) (by decide), gp_eB2]
  have hr : f12_years_50 (n + 1) (nI N) (nI k) R = if nI kd = 2 then f12_years_86 (f12_years_50 n) (nI N) (nI k) (nI kd) (gz_rem (gz_ushr d 16) 24) 0 R2 else f12_years_86 (f12_years_50 n) (nI N) (nI k) (nI kd) (gz_rem (gz_ushr d 16) 24) (gz_rem (gz_ushr e 16) 8) R3 := by
    rw [f12_years_50, if_neg (nI_ge hk (by omega)), d1, gp_eB2, d2, gp_eB2, d3, gp_eB2]
  rw [hc, hr]
  by_cases g : kd = 2
  · obtain ⟨C', R', l', f1, f2, f3, f4, f5, f6, f7⟩ := gq_yr1 hkd hC (hR.fr l2) (gz_rem (gz_ushr d 16) 24) 0 (fun _ => rfl)
    refine ⟨C', R', l', d, ?_, ?_, f3, f4, y2.trans ⟨f5, fun c _ h => f6 c h, fun i _ => by rw [f6 0 (by omega)]⟩, f7, by rw [f6 0 (by omega)]; exact o2⟩
    · rw [if_pos (by rw [g]; rfl)]
      unfold f11_years_85
      rw [f1, gp_eB, nI_1, gp_eL]
    · rw [if_pos (by rw [g]; rfl), f2, nI_1]
  · obtain ⟨C', R', l', f1, f2, f3, f4, f5, f6, f7⟩ := gq_yr1 hkd hC (hR.fr l3) (gz_rem (gz_ushr d 16) 24) (gz_rem (gz_ushr e 16) 8) (fun h => absurd h g)
    have hn : ¬ nI kd = (2 : Int32) := fun h => g ((nI_eq (b := 2) (by omega) (by omega)).mp h)
    refine ⟨C', R', l', e, ?_, ?_, f3, f4, y3.trans ⟨f5, fun c _ h => f6 c h, fun i _ => by rw [f6 0 (by omega)]⟩, f7, by rw [f6 0 (by omega)]; exact o3⟩
    · rw [if_neg hn]
      unfold f11_years_85
      rw [f1, gp_eB, nI_1, gp_eL]
    · rw [if_neg hn, f2, nI_1]
theorem gq_yrs {N : Nat} (hN : N ≤ 20) : ∀ (d k n : Nat) (C R : gz_M) (l : List Nat) (r : Int32), k + d = N → d < n → gp_lC 58 C l → gp_lR R l → R.1 0 54 = r → ∃ C' R' l' r' n', f11_years_32 n (nI N) r (nI k) C = f11_years_32 (n' + 1) (nI N) r' (nI N) C' ∧ f12_years_50 n (nI N) (nI k) R = f12_years_50 (n' + 1) (nI N) (nI N) R' ∧ gp_lL 58 C C' ∧ gp_lC 58 C' l' ∧ gq_yL R R' ∧ gp_lR R' l' := by
  intro d
  induction d with
  | zero =>
    intro k n C R l r hk hn hC hR h54
    obtain ⟨n, rfl⟩ : ∃ z, n = z + 1 := ⟨n - 1, by omega⟩
    rw [show k = N by omega]
    exact ⟨C, R, l, r, n, rfl, rfl, ⟨rfl, fun _ _ _ => rfl⟩, hC, ⟨rfl, fun _ _ _ => rfl, fun _ _ => rfl⟩, hR⟩
  | succ d ih =>
    intro k n C R l r hk hn hC hR h54
    obtain ⟨n, rfl⟩ : ∃ z, n = z + 1 := ⟨n - 1, by omega⟩
    obtain ⟨C1, R1, l1, r1, e1, e2, e3, e4, e5, e6, e7⟩ := gq_yr (n := n) (show k < N by omega) hN hC hR h54
    obtain ⟨C2, R2, l2, r2, n2, f1, f2, f3, f4, f5, f6⟩ := ih (k + 1) n C1 R1 l1 r1 (by omega) (by omega) e4 e6 e7
    exact ⟨C2, R2, l2, r2, n2, e1.trans f1, e2.trans f2, ⟨f3.1.trans e3.1, fun c c1 c2 => (f3.2 c c1 c2).trans (e3.2 c c1 c2)⟩, f4, e5.trans f5, f6⟩
theorem gp_a37 (h : gp_RI B pf cu Mc Mr x b us ks o) (a0 a1 : Int32) : ∃ v Mc' Mr', f11_years a0 a1 Mc = some (v, Mc') ∧ f12_years a0 a1 Mr = some (v, Mr') ∧ gp_R B pf Mc' Mr' := by
  have hR := h
  have hq := h.1
  obtain ⟨⟨h1, h2, h3, h4, h5, h6, h7, h8⟩, hb, _, _, _, hB1, _⟩ := h
  have hcu := h6.1
  have no : f11_years a0 a1 Mc = some (-1, Mc) → f12_years a0 a1 Mr = some (-1, gz_w Mr 0 5 0) → ∃ v Mc' Mr', f11_years a0 a1 Mc = some (v, Mc') ∧ f12_years a0 a1 Mr = some (v, Mr') ∧ gp_R B pf Mc' Mr' := fun e1 e2 => hR.q (gp_ansN hq (-1) e1 e2)
  rcases pk_ix a1 (n := 21) (by omega) with ha | ha | ⟨N, hN, rfl⟩
  · have g : a1 < 1 := by
      rw [Int32.lt_iff_toInt_lt] at ha ⊢
      exact Int.lt_trans ha (by decide)
    refine no ?_ ?_
    · unfold f11_years; rw [if_pos g]
    · unfold f12_years f12_in; rw [gp_eL, if_pos g, gp_eB2, if_pos rfl]
  · have g0 := gp_tge (by omega) ha
    have g : ¬ a1 < 1 := fun g => by
      rw [Int32.lt_iff_toInt_lt, show ((1 : Int32)).toInt = 1 from rfl] at g
      omega
    have g1 : ¬ a1 ≤ 20 := fun g => by
      rw [Int32.le_iff_toInt_le, show ((20 : Int32)).toInt = 20 from rfl] at g
      omega
    have g2 : (20 : Int32) < a1 := by
      rw [Int32.lt_iff_toInt_lt, show ((20 : Int32)).toInt = 20 from rfl]
      omega
    refine no ?_ ?_
    · unfold f11_years; rw [if_neg g, if_neg g1]
    · unfold f12_years f12_in; rw [gp_eL, if_neg g, if_pos g2, gp_eB2, if_pos rfl]
  · by_cases hN0 : N = 0
    · subst hN0
      refine no ?_ ?_
      · unfold f11_years; rw [if_pos (by decide)]
      · unfold f12_years f12_in; rw [gp_eL, if_pos (by decide), gp_eB2, if_pos rfl]
    · have g : ¬ nI N < (1 : Int32) := nI_nlt (b := 1) (by omega) (by omega)
      have g1 : nI N ≤ (20 : Int32) := nI_le (b := 20) (by omega) (by omega)
      have g2 : ¬ (20 : Int32) < nI N := nI_nlt (a := 20) (by omega) (by omega)
      obtain ⟨C1, c1, c2, c3, c4⟩ := gp_lcp (l := b.2) (k := 58) (k0 := 9) (by omega) Mc
      obtain ⟨R1, hR1⟩ : ∃ R1, R1 = gz_w (gz_w Mr 0 5 0) 0 54 a0 := ⟨_, rfl⟩
      obtain ⟨R2, hR2⟩ : ∃ R2, R2 = gp_fl R1 34 0 106 (fun i => R1.1 1 i) := ⟨_, rfl⟩
      have cpy : f12_years_24 gz_FU (nI N) (nI 0) R1 = f12_years_50 gz_FU (nI N) 0 R2 := by
        rw [hR2]
        refine gp_fl_l (M := R1) (c := 34) (o := 0) (N := 106) (v := fun i => R1.1 1 i) (fun n a M => f12_years_24 n (nI N) a M) (fun M1 => f12_years_50 gz_FU (nI N) 0 M1) (fun n => ?_) (fun n i hi => ?_) gz_FU (by unfold gz_FU; omega)
        · show f12_years_24 (n + 1) _ _ _ = _
          rw [f12_years_24, if_pos (show (106 : Int32) ≤ nI 106 by decide)]
        · show f12_years_24 (n + 1) _ _ _ = f12_years_24 n _ _ _
          rw [f12_years_24, if_neg (show ¬ (106 : Int32) ≤ nI i from nI_ge (b := 106) hi (by omega)), gp_ckb (show i < 106 by omega) (by omega), gp_ckb (show i < 106 by omega) (by omega), nI_clamp (by omega), gp_fl_c (by omega), gp_eL, gp_eL, nI_1, Nat.zero_add]
      have w1 : R2.1 1 = Mr.1 1 := by rw [hR2, gp_fl_c (by omega), hR1, gp_wc _ (by omega), gp_wc _ (by omega)]
      have w0 : ∀ i, i ≠ 5 → i ≠ 54 → R2.1 0 i = Mr.1 0 i := fun i i1 i2 => by rw [hR2, gp_fl_c (by omega), hR1, gp_gn (by omega), gp_gn (by omega)]
      have wc : ∀ c, c ≠ 0 → c ≠ 34 → R2.1 c = Mr.1 c := fun c i1 i2 => by rw [hR2, gp_fl_c (by omega), hR1, gp_wc _ (by omega), gp_wc _ (by omega)]
      have w34 : ∀ i, i < 106 → R2.1 34 i = Mr.1 1 i := fun i hi => by
        have := gp_fl_i (M := R1) (c := 34) (o := 0) (N := 106) (v := fun i => R1.1 1 i) hi
        rw [Nat.zero_add] at this
        rw [hR2, this, hR1, gp_gn (by omega), gp_gn (by omega)]
      have w54 : R2.1 0 54 = a0 := by rw [hR2, gp_fl_c (by omega), hR1]; exact gp_gs _ _ _ _
      obtain ⟨C2, R3, l', r', n', s1, s2, s3, s4, s5, s6⟩ := gq_yrs (N := N) (by omega) N 0 gz_FU C1 R2 b.2 a0 (by omega) (by unfold gz_FU; omega) (c4 h4) (h5.fr w1) w54
      -- the component's end
      have t2 : gp_tC 11 C2 (gp_tab b.1) := h2.fr (fun c d1 d2 => by rw [s3.2 c (by omega) (by omega), c3 c (by omega) (by omega)])
      have k8 : gz_cIx (C2.1 0 8) = 90 - cu := by rw [s3.2 0 (by omega) (by omega), c3 0 (by omega) (by omega)]; exact h7
      obtain ⟨C3, m1, m2, m3, m4⟩ := gp_make (k := 90 - cu) (k0 := 11) (k1 := 58) h1 (by omega) (by omega) t2 s4
      have hok := gp_cut_ok (l := l') h1
      have hlen := gp_cut_len (T := gp_tab b.1) (l := l')
      have t3 : gp_tC 11 C3 (gp_tab b.1) := t2.fr (fun c d1 d2 => m3 c (by omega))
      have l3 : gp_lC 58 C3 l' := s4.fr (fun c d1 d2 => m3 c (by omega))
      obtain ⟨C4, cs, K4, a1, a2, a3, a4⟩ := gq_rem (k1 := 58) (k2 := 90 - cu) h1 (by omega) (by omega) hok (gq_tkR_cut (T := gp_tab b.1) (l := l')) hlen ⟨t3, l3, m4⟩
      obtain ⟨C5, C6, C7, p1, p2, p3, p4, p5, p6, p7⟩ := gp_tell3C C4 (nI (gp_stk (gp_cut (gp_tab b.1) l'))).toInt64 (nI l'.length).toInt64 (nI (gq_mem (gp_tab b.1) l' (gp_cut (gp_tab b.1) l') []).2).toInt64
      have k83 : gz_cIx (C3.1 0 8) = 90 - cu := by rw [m3 0 (by omega)]; exact k8
      have k84 : gz_cIx (C4.1 0 8) = 90 - cu := by rw [a2.2 0 (by omega)]; exact k83
      have c44 : gp_cC (90 - cu) C4 (gp_cut (gp_tab b.1) l') := m4.fr (fun c d1 d2 => a2.2 c (by omega))
      have ec : f11_years a0 (nI N) Mc = some (nI (gp_cut (gp_tab b.1) l').length, C7) := by
        unfold f11_years
        rw [if_neg g, if_pos g1, show (7 + 2 : Nat) = 9 from rfl, c1, gp_eB]
        refine s1.trans ?_
        have e7 : gz_cIx ((gz_w C4 0 15 0).1 0 8) = 90 - cu := by rw [gp_gn (by omega)]; exact k84
        have es : f2_stuckTokens (90 - cu) (gz_w C4 0 15 0) = some (nI (gp_stk (gp_cut (gp_tab b.1) l')), gz_w C4 0 15 0) := gp_stuckC h1 hok (c44.fr (fun c d1 d2 => gp_wc _ (by omega))) hlen
        have e58 : C5.1 58 1 = nI l'.length := by rw [p6.1 58 (by omega), a2.2 58 (by omega)]; exact l3.2.1
        have e69 : C6.1 69 4 = nI (gq_mem (gp_tab b.1) l' (gp_cut (gp_tab b.1) l') []).2 := by rw [p7.1 69 (by omega)]; exact a3.2.2
        have e78 : gz_cIx (C7.1 0 8) = 90 - cu := by rw [p4.2 8 (by omega)]; exact k84
        have e7v : C7.1 (90 - cu) 0 = nI (gp_cut (gp_tab b.1) l').length := by rw [p4.1 _ (by omega)]; exact c44.1
        rw [f11_years_32, if_pos (nI_le (Nat.le_refl _) (by omega)), k8, m1, gp_eB, k83, a1, gp_eB, gp_eL, e7, es, gp_eB2, p1, gp_eB, e58, p2, gp_eB, e69, p3, gp_eB, e78, e7v]
      -- the reference's end
      have u1 : gp_tR R3 (gp_tab b.1) := h3.fr (fun c d1 d2 => by rw [s5.2.1 c (by omega) (by omega), wc c (by omega) (by omega)]) (by rw [s5.2.2 10 (by omega), w0 10 (by omega) (by omega)])
      obtain ⟨R4, v1, v2, v3, v4, v5, v6⟩ := gq_cutAll1 (l := l') h1 u1 s6
      have vs := gq_stuckR2 (M := R4) h1 hok v3 v6 hlen
      obtain ⟨R5, hR5⟩ : ∃ R5, R5 = gp_fl R4 1 0 106 (fun i => R4.1 34 i) := ⟨_, rfl⟩
      obtain ⟨R6, R7, R8, q1, q2, q3, q4, q5⟩ := gp_tell3R R5 (nI (gp_stk (gp_cut (gp_tab b.1) l'))).toInt64 (nI l'.length).toInt64 (nI (gq_mem (gp_tab b.1) l' (gp_cut (gp_tab b.1) l') []).2).toInt64
      have back : f12_years_146 gz_FU (nI (gq_mem (gp_tab b.1) l' (gp_cut (gp_tab b.1) l') []).2) (nI l'.length) (nI (gp_cut (gp_tab b.1) l').length) (nI (gp_stk (gp_cut (gp_tab b.1) l'))) (nI 0) R4 = some (nI (gp_cut (gp_tab b.1) l').length, R8) := by
        have e := gp_fl_l (M := R4) (c := 1) (o := 0) (N := 106) (v := fun i => R4.1 34 i) (fun n a M => f12_years_146 n (nI (gq_mem (gp_tab b.1) l' (gp_cut (gp_tab b.1) l') []).2) (nI l'.length) (nI (gp_cut (gp_tab b.1) l').length) (nI (gp_stk (gp_cut (gp_tab b.1) l'))) a M) (fun M1 => f12_years_146 1 (nI (gq_mem (gp_tab b.1) l' (gp_cut (gp_tab b.1) l') []).2) (nI l'.length) (nI (gp_cut (gp_tab b.1) l').length) (nI (gp_stk (gp_cut (gp_tab b.1) l'))) (nI 106) M1) (fun n => ?_) (fun n i hi => ?_) gz_FU (by unfold gz_FU; omega)
        · rw [← hR5, f12_years_146, if_pos (show (106 : Int32) ≤ nI 106 by decide), gp_eL, q1, gp_eB, q2, gp_eB, q3, gp_eB] at e
          exact e
        · show f12_years_146 (n + 1) _ _ _ _ _ _ = f12_years_146 1 _ _ _ _ _ _
          rw [f12_years_146, f12_years_146, if_pos (show (106 : Int32) ≤ nI 106 by decide), if_pos (show (106 : Int32) ≤ nI 106 by decide)]
        · show f12_years_146 (n + 1) _ _ _ _ _ _ = f12_years_146 n _ _ _ _ _ _
          rw [f12_years_146, if_neg (show ¬ (106 : Int32) ≤ nI i from nI_ge (b := 106) hi (by omega)), gp_ckb (show i < 106 by omega) (by omega), gp_ckb (show i < 106 by omega) (by omega), nI_clamp (by omega), gp_fl_c (by omega), gp_eL, gp_eL, nI_1, Nat.zero_add]
      have l4 : gp_lR R4 l' := s6.fr (v2.2.1 1 (by omega) (by omega))
      have er : f12_years a0 (nI N) Mr = some (nI (gp_cut (gp_tab b.1) l').length, R8) := by
        unfold f12_years f12_in
        rw [gp_eL, if_neg g, if_neg g2, gp_eB2, if_neg (by decide), gp_eL, ← hR1]
        refine (cpy.trans s2).trans ?_
        rw [f12_years_50, if_pos (nI_le (Nat.le_refl _) (by omega))]
        unfold f12_readWithMemory
        rw [v1, gp_eB, gp_eB2, gp_c81, gp_eL, gp_k81, l4.2.1, gp_eL, vs, gp_eB2, v3, v4]
        exact back
      refine ⟨_, C7, R8, ec, er, cu, x, b, us, ks, o, hR.ans3 ?_ ?_ ?_ ?_ ?_ ?_ ⟨_, _, ?_, ?_, p5, q5, fun _ => rfl⟩⟩
      · refine ⟨fun c hc => ?_, ?_, ?_⟩
        · rw [p4.1 c (by omega), a2.2 c (by omega), m3 c (by omega), s3.2 c (by omega) (by omega), c3 c (by omega) (by omega)]
        · rw [p4.2 5 (by omega), a2.2 0 (by omega), m3 0 (by omega), s3.2 0 (by omega) (by omega), c3 0 (by omega) (by omega)]
        · rw [p4.2 8 (by omega), a2.2 0 (by omega), m3 0 (by omega), s3.2 0 (by omega) (by omega), c3 0 (by omega) (by omega)]
      · intro c hc
        rw [q4.1 c (by omega), hR5, gp_fl_c (by omega), v2.2.1 c (by omega) (by omega), s5.2.1 c (by omega) (by omega), wc c (by omega) (by omega)]
      · refine hB1.cp (by have := hb.1.1; omega) hb.2.2.1 (fun i hi => ?_)
        have := gp_fl_i (M := R4) (c := 1) (o := 0) (N := 106) (v := fun i => R4.1 34 i) hi
        rw [q4.1 1 (by omega), hR5, this, Nat.zero_add, v2.2.1 34 (by omega) (by omega), s5.2.1 34 (by omega) (by omega), w34 i hi]
      · rw [q4.2 2 (by omega), hR5, gp_fl_c (by omega), v2.2.2 2 (by omega) (by omega) (by omega) (by omega) (by omega), s5.2.2 2 (by omega), w0 2 (by omega) (by omega)]
      · rw [q4.2 51 (by omega), hR5, gp_fl_c (by omega), v2.2.2 51 (by omega) (by omega) (by omega) (by omega) (by omega), s5.2.2 51 (by omega), w0 51 (by omega) (by omega)]
      · exact u1.fr (fun c d1 d2 => by rw [q4.1 c (by omega), hR5, gp_fl_c (by omega), v2.2.1 c (by omega) (by omega)]) (by rw [q4.2 10 (by omega), hR5, gp_fl_c (by omega), v2.2.2 10 (by omega) (by omega) (by omega) (by omega) (by omega)])
      · simp
      · simp
end
end
section
/-! count and row where the rows may differ: what a part of the promise needs of them -/
section
variable {B : Prop} {pf : Nat → Bool} {Mc Mr : gz_M} {cu o : Nat} {x : List Nat} {b : gp_Bk} {us : List gp_Bk} {ks : Nat → Option gp_Bk}
theorem gp_a40v (h : gp_RI B pf cu Mc Mr x b us ks o) (a : Int32) (hB : a = nI 4 → B) : gp_ans B cu Mc Mr (f11_count a Mc) (f12_count a Mr) := by
  obtain ⟨hq, h2', h3', h4', _, _, _, h8', _, h10', _⟩ := h
  have hQ := hq
  obtain ⟨h1, h2, h3, h4, h5, h6, h7, h8⟩ := hq
  have tR : gp_tR (gz_w Mr 0 5 0) (gp_tab b.1) := h3.fr (fun c c1 c2 => gp_wc _ (by omega)) (gp_gn (by omega))
  obtain ⟨M1, e1, e2, e3, e4, e5, e6, e7, e8, _⟩ := gp_cutT hQ
  rcases pk_ix a (n := 9) (by omega) with ha | ha | ⟨j, hj, rfl⟩
  · refine gp_ansN hQ (-1) ?_ ?_
    · unfold f11_count; rw [if_pos (Or.inl (gp_tneg ha))]
    · unfold f12_count; rw [gp_eL, if_pos (Or.inl (gp_tneg ha))]
  · have g := gp_tge (by omega) ha
    refine gp_ansN hQ (-1) ?_ ?_
    · unfold f11_count; rw [if_pos (Or.inr (by omega))]
    · unfold f12_count; rw [gp_eL, if_pos (Or.inr (by omega))]
  · have hc : j = 0 ∨ j = 1 ∨ j = 2 ∨ j = 3 ∨ j = 4 ∨ j = 5 ∨ j = 6 ∨ j = 7 ∨ j = 8 := by omega
    rcases hc with rfl | rfl | rfl | rfl | rfl | rfl | rfl | rfl | rfl
    · refine gp_ansN hQ (nI (gp_tab b.1).1) ?_ ?_
      · unfold f11_count; rw [if_neg (by decide), if_pos (by decide), h2.1]
      · unfold f12_count; rw [gp_eL, if_neg (by decide), if_pos (by decide), tR.1]
    · refine gp_ansN hQ (nI b.2.length) ?_ ?_
      · unfold f11_count; rw [if_neg (by decide), if_neg (by decide), if_pos (by decide)]; exact congrArg (fun v => some (v, Mc)) h4.2.1
      · unfold f12_count; rw [gp_eL, if_neg (by decide), if_neg (by decide), if_pos (by decide), gp_c81, gp_wc _ (by omega), gp_k81, h5.2.1]
    · refine gp_ansK (v := nI (gp_cut (gp_tab b.1) b.2).length) (Mc' := Mc) (Mr' := M1) ?_ ?_ gp_qC.refl e2 h8 rfl rfl e7 e8
      · unfold f11_count; rw [if_neg (by decide), if_neg (by decide), if_neg (by decide), if_pos (by decide), h6.2.1, h6.2.2.1.1]
      · unfold f12_count; rw [gp_eL, if_neg (by decide), if_neg (by decide), if_neg (by decide), if_pos (by decide), e1, gp_eB, e3.1]
    · refine gp_ansN hQ (nI us.length) ?_ ?_
      · unfold f11_count; rw [if_neg (by decide), if_neg (by decide), if_neg (by decide), if_neg (by decide), if_pos (by decide), h8'.2.2.2.1]
      · unfold f12_count; rw [gp_eL, if_neg (by decide), if_neg (by decide), if_neg (by decide), if_neg (by decide), if_pos (by decide), gp_gn (by omega), h10'.1]
    · obtain ⟨r, r', p0, p1, p2, p3, p4⟩ := h8
      have hrr := p4 (hB rfl)
      subst hrr
      refine gp_ansN hQ (nI r.length) ?_ ?_
      · unfold f11_count; rw [if_neg (by decide), if_neg (by decide), if_neg (by decide), if_neg (by decide), if_neg (by decide), if_pos (by decide), p2.1]
      · unfold f12_count; rw [gp_eL, if_neg (by decide), if_neg (by decide), if_neg (by decide), if_neg (by decide), if_neg (by decide), if_pos (by decide), gp_gn (by omega), p3.1]
    · refine gp_ansN hQ (nI x.length) ?_ ?_
      · unfold f11_count; rw [if_neg (by decide), if_neg (by decide), if_neg (by decide), if_neg (by decide), if_neg (by decide), if_neg (by decide), if_pos (by decide), h3'.2.1]
      · unfold f12_count; rw [gp_eL, if_neg (by decide), if_neg (by decide), if_neg (by decide), if_neg (by decide), if_neg (by decide), if_neg (by decide), if_pos (by decide), gp_gn (by omega), h4'.2.1]
    · refine gp_ansK (v := nI (gp_most (gp_cut (gp_tab b.1) b.2))) (Mc' := Mc) (Mr' := M1) ?_ ?_ gp_qC.refl e2 h8 rfl rfl e7 e8
      · unfold f11_count; rw [if_neg (by decide), if_neg (by decide), if_neg (by decide), if_neg (by decide), if_neg (by decide), if_neg (by decide), if_neg (by decide), if_pos (by decide), h6.2.1, h6.2.2.1.2.1]
      · unfold f12_count; rw [gp_eL, if_neg (by decide), if_neg (by decide), if_neg (by decide), if_neg (by decide), if_neg (by decide), if_neg (by decide), if_neg (by decide), if_pos (by decide), e1, gp_eB, e3.2.1]
    · refine gp_ansN hQ (gp_ac (fun v x => v + nI ((gp_tab b.1).2.2 2 x)) (gp_tab b.1).1) ?_ ?_
      · unfold f11_count; rw [if_neg (by decide), if_neg (by decide), if_neg (by decide), if_neg (by decide), if_neg (by decide), if_neg (by decide), if_neg (by decide), if_neg (by decide), if_pos (by decide), gp_allL h2 h1, gp_eB2]
      · unfold f12_count; rw [gp_eL, if_neg (by decide), if_neg (by decide), if_neg (by decide), if_neg (by decide), if_neg (by decide), if_neg (by decide), if_neg (by decide), if_neg (by decide), if_pos (by decide), gp_allR tR h1, gp_eB2]
    · refine gp_ansN hQ (gp_ac (fun v x => v ||| gz_shl 1 (nI ((gp_tab b.1).2.2 1 x))) (gp_tab b.1).1) ?_ ?_
      · unfold f11_count; rw [if_neg (by decide), if_neg (by decide), if_neg (by decide), if_neg (by decide), if_neg (by decide), if_neg (by decide), if_neg (by decide), if_neg (by decide), if_neg (by decide), if_pos (by decide), gp_modL h2 h1, gp_eB2]
      · unfold f12_count; rw [gp_eL, if_neg (by decide), if_neg (by decide), if_neg (by decide), if_neg (by decide), if_neg (by decide), if_neg (by decide), if_neg (by decide), if_neg (by decide), if_neg (by decide), if_pos (by decide), gp_modR tR h1, gp_eB2]
/-- count: both answer, and both worlds hold again -/
theorem gp_a40w (h : gp_RI B pf cu Mc Mr x b us ks o) (a : Int32) : ∃ v v' Mc' Mr', f11_count a Mc = some (v, Mc') ∧ f12_count a Mr = some (v', Mr') ∧ gp_R B pf Mc' Mr' := by
  by_cases h4 : a = nI 4
  · subst h4
    obtain ⟨hq, _⟩ := id h
    have hQ := hq
    obtain ⟨h1, h2, h3, h4, h5, h6, h7, r, r', p0, p1, p2, p3, p4⟩ := hq
    have h8 : gp_rw B Mc Mr := ⟨r, r', p0, p1, p2, p3, p4⟩
    refine ⟨nI r.length, nI r'.length, Mc, gz_w Mr 0 5 0, ?_, ?_, cu, x, b, us, ks, o, h.ans gp_qC.refl (gp_thr 0).1 (h8.fr rfl rfl rfl (gp_gn (by omega)))⟩
    · unfold f11_count; rw [if_neg (by decide), if_neg (by decide), if_neg (by decide), if_neg (by decide), if_neg (by decide), if_pos (by decide), p2.1]
    · unfold f12_count; rw [gp_eL, if_neg (by decide), if_neg (by decide), if_neg (by decide), if_neg (by decide), if_neg (by decide), if_pos (by decide), gp_gn (by omega), p3.1]
  · obtain ⟨v, Mc', Mr', e1, e2, hR⟩ := h.q (gp_a40v h a (fun e => absurd e h4))
    exact ⟨v, v, Mc', Mr', e1, e2, hR⟩
/-- row: both answer or throw, and both worlds hold again -/
theorem gp_a41w (h : gp_RI B pf cu Mc Mr x b us ks o) (a : Int32) : ∃ r v Mc' Mr', f11_row a Mc = some (r, Mc') ∧ f12_row a Mr = some (v, Mr') ∧ gp_R B pf Mc' Mr' := by
  obtain ⟨hq, _⟩ := id h
  obtain ⟨h1, h2, h3, h4, h5, h6, h7, r, r', p0, p1, p2, p3, p4⟩ := hq
  have h8 : gp_rw B Mc Mr := ⟨r, r', p0, p1, p2, p3, p4⟩
  have n0 : (gz_w Mr 0 5 0).1 0 4 = nI r'.length := by rw [gp_gn (by omega)]; exact p3.1
  have hcl : ∃ q, f11_row a Mc = some (q, Mc) := by
    rcases pk_ix a (n := r.length) (by omega) with ha | ha | ⟨j, hj, rfl⟩
    · exact ⟨none, by unfold f11_row; rw [if_pos ha]; rfl⟩
    · exact ⟨none, by unfold f11_row; rw [if_neg (gp_neg_of (by omega) ha), p2.1, if_pos ha]; rfl⟩
    · exact ⟨some (r.getD j 0), by unfold f11_row; rw [if_neg (nI_pos (by omega)), p2.1, if_neg (nI_ge hj (by omega)), if_pos (show nI j < (1024 : Int32) from nI_lt (b := 1024) (by omega) (by omega)), gp_ckb (show j < 1024 by omega) (by omega), nI_clamp (by omega), p2.2 j hj]⟩
  obtain ⟨q, hq⟩ := hcl
  have t0 := (gp_thr (M := Mr) 0).1
  rcases pk_ix a (n := r'.length) (by omega) with ha | ha | ⟨j, hj, rfl⟩
  · refine ⟨q, (0 : Int32).toInt64, Mc, gz_w (gz_w Mr 0 5 0) 0 5 1, hq, by unfold f12_row; rw [gp_eL, n0, gp_in0 _ _ ha]; rfl, cu, x, b, us, ks, o, h.ans gp_qC.refl (t0.trans (gp_thr 1).1) (h8.fr rfl rfl rfl ((gp_gn (by omega)).trans (gp_gn (by omega))))⟩
  · refine ⟨q, (0 : Int32).toInt64, Mc, gz_w (gz_w Mr 0 5 0) 0 5 1, hq, by unfold f12_row; rw [gp_eL, n0, gp_in0b _ (by omega) (gp_neg_of (by omega) ha) ha]; rfl, cu, x, b, us, ks, o, h.ans gp_qC.refl (t0.trans (gp_thr 1).1) (h8.fr rfl rfl rfl ((gp_gn (by omega)).trans (gp_gn (by omega))))⟩
  · refine ⟨q, r'.getD j 0, Mc, gz_w Mr 0 5 0, hq, ?_, cu, x, b, us, ks, o, h.ans gp_qC.refl t0 (h8.fr rfl rfl rfl (gp_gn (by omega)))⟩
    unfold f12_row
    rw [gp_eL, n0, gp_in1 _ (by omega) hj, gp_eB2, if_neg (by decide), gp_ckb (show j < 64 by omega) (by omega), nI_clamp (by omega)]
    show some (Mr.2 j, _) = _
    rw [p3.2 j hj]
end
end
