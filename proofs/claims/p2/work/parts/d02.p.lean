/-! pairs of a standing and a place, in the component -/
def gq_sum (g : Nat → Nat) : Nat → Nat
  | 0 => 0
  | n + 1 => gq_sum g n + g n
theorem gq_sum_ext {g h : Nat → Nat} : ∀ {n : Nat}, (∀ p, p < n → g p = h p) → gq_sum g n = gq_sum h n
  | 0, _ => rfl
  | n + 1, e => by rw [gq_sum, gq_sum, gq_sum_ext (fun p hp => e p (by omega)), e n (by omega)]
theorem gq_sum_upd {g h : Nat → Nat} {p : Nat} (hp : h p = g p + 1) : ∀ {n : Nat}, (∀ y, y < n → y ≠ p → h y = g y) → gq_sum h n = gq_sum g n + if p < n then 1 else 0
  | 0, _ => by rw [if_neg (by omega)]; rfl
  | n + 1, e => by
    rw [gq_sum, gq_sum, gq_sum_upd hp (fun y hy hn => e y (by omega) hn)]
    by_cases h1 : n = p
    · subst h1
      rw [hp, if_neg (by omega), if_pos (by omega)]
      omega
    · rw [e n (by omega) h1]
      by_cases h2 : p < n
      · rw [if_pos h2, if_pos (by omega)]; omega
      · rw [if_neg h2, if_neg (by omega)]; omega
theorem gq_sum_add (g h : Nat → Nat) : ∀ n, gq_sum (fun p => g p + h p) n = gq_sum g n + gq_sum h n
  | 0 => rfl
  | n + 1 => by rw [gq_sum, gq_sum, gq_sum, gq_sum_add g h n]; omega
def gq_pL (M M' : gz_M) : Prop := M'.2 = M.2 ∧ ∀ c, c < 69 ∨ 122 < c → M'.1 c = M.1 c
theorem gq_pL.refl (M : gz_M) : gq_pL M M := ⟨rfl, fun _ _ => rfl⟩
theorem gq_pL.trans {M M1 M2 : gz_M} (a : gq_pL M M1) (b : gq_pL M1 M2) : gq_pL M M2 := ⟨b.1.trans a.1, fun c h => (b.2 c h).trans (a.2 c h)⟩
/-- at place p the keys L, told cs -/
def gq_pK (M : gz_M) (cs : List Nat) (p : Nat) (L : List Nat) : Prop := L.Nodup ∧ L.length ≤ 24 ∧ M.1 122 p = nI L.length ∧ (∀ i, i < L.length → M.1 (71 + p) i = nI (L.getD i 0) ∧ M.1 (97 + p) i = nI (cs.count (L.getD i 0 * 25 + p))) ∧ ∀ key, key ∈ L ↔ (key < 4096 ∧ key * 25 + p ∈ cs)
def gq_pC (M : gz_M) (cs : List Nat) (rd : Nat) (Bd : Nat → Nat) (K : Nat → List Nat) : Prop := (∀ p, p < 25 → gq_pK M cs p (K p) ∧ (K p).length ≤ Bd p) ∧ M.1 69 3 = nI (gq_sum (fun p => (K p).length) 25) ∧ M.1 69 4 = nI rd
section
variable {M M' : gz_M} {cs : List Nat} {rd p key : Nat} {Bd Bd' : Nat → Nat} {K : Nat → List Nat} {L : List Nat}
theorem gq_idx (h : gq_pK M cs p L) (hp : p < 25) (hk : key < 4096) : f6_indexOf (nI p) (nI key) M = some (gp_o (gp_fst (fun i => decide (L.getD i 0 = key)) L.length 0), M) := by
  obtain ⟨h1, h2, h3, h4, h5⟩ := h
  have main : ∀ d i n, i + d = L.length → d < n → f6_indexOf_14 n (nI p) (nI key) (nI i) M = some (gp_o (gp_fst (fun i => decide (L.getD i 0 = key)) d i), M) := by
    intro d
    induction d with
    | zero =>
      intro i n hi hn
      obtain ⟨n, rfl⟩ : ∃ q, n = q + 1 := ⟨n - 1, by omega⟩
      rw [f6_indexOf_14, gp_ckb hp (by omega), nI_clamp (by omega), h3, if_pos (nI_le (by omega) (by omega))]
      rfl
    | succ d ih =>
      intro i n hi hn
      obtain ⟨n, rfl⟩ : ∃ q, n = q + 1 := ⟨n - 1, by omega⟩
      have hm := (h5 (L.getD i 0)).mp (gp_getD_mem (show i < L.length by omega))
      rw [f6_indexOf_14, gp_ckb hp (by omega), nI_clamp (by omega), h3, if_neg (nI_ge (by omega) (by omega)), gp_ckb hp (by omega), gp_ckb (show i < 24 by omega) (by omega), nI_clamp (by omega), show 70 + 1 + p = 71 + p by omega, (h4 i (by omega)).1, gp_fst]
      by_cases e : L.getD i 0 = key
      · rw [if_pos (by rw [e]), if_pos (show decide (L.getD i 0 = key) = true from decide_eq_true e)]
        rfl
      · rw [if_neg (fun g => e ((nI_eq (by omega) (by omega)).mp g)), if_neg (show ¬ decide (L.getD i 0 = key) = true from fun g => e (of_decide_eq_true g)), gp_eL, nI_1]
        exact ih (i + 1) n (by omega) (by omega)
  unfold f6_indexOf
  rw [if_neg (nI_pos (by omega)), if_pos (show nI p ≤ (24 : Int32) from nI_le (b := 24) (by omega) (by omega))]
  exact main L.length 0 gz_FU (by omega) (by unfold gz_FU; omega)
theorem gq_fst_mem {L : List Nat} {key : Nat} : ∀ (n i : Nat), i + n = L.length → (∀ j, gp_fst (fun i => decide (L.getD i 0 = key)) n i = some j → i ≤ j ∧ j < L.length ∧ L.getD j 0 = key) ∧ (gp_fst (fun i => decide (L.getD i 0 = key)) n i = none → ∀ j, i ≤ j → j < L.length → L.getD j 0 ≠ key)
  | 0, i, h => ⟨fun j g => (by cases g), fun _ j h1 h2 => by omega⟩
  | n + 1, i, h => by
    obtain ⟨a, b⟩ := gq_fst_mem (L := L) (key := key) n (i + 1) (by omega)
    rw [gp_fst]
    by_cases e : L.getD i 0 = key
    · rw [if_pos (show decide (L.getD i 0 = key) = true from decide_eq_true e)]
      exact ⟨fun j g => by cases g; exact ⟨Nat.le_refl _, by omega, e⟩, fun g => by cases g⟩
    · rw [if_neg (show ¬ decide (L.getD i 0 = key) = true from fun g => e (of_decide_eq_true g))]
      refine ⟨fun j g => ?_, fun g j h1 h2 => ?_⟩
      · obtain ⟨x, y, z⟩ := a j g
        exact ⟨by omega, y, z⟩
      · by_cases hj : j = i
        · rw [hj]; exact e
        · exact b g j (by omega) h2
/-- whether a pair is there -/
theorem gq_idxO (h : gq_pK M cs p L) (hp : p < 25) (hk : key < 4096) : ∃ r : Option Nat, f6_indexOf (nI p) (nI key) M = some (gp_o r, M) ∧ (∀ j, r = some j → j < L.length ∧ L.getD j 0 = key) ∧ (r = none ↔ key * 25 + p ∉ cs) := by
  have e := gq_idx h hp hk
  obtain ⟨a, b⟩ := gq_fst_mem (L := L) (key := key) L.length 0 (by omega)
  refine ⟨_, e, fun j g => ⟨(a j g).2.1, (a j g).2.2⟩, ⟨fun g hm => ?_, fun g => ?_⟩⟩
  · obtain ⟨i, hi, e⟩ := List.mem_iff_getElem.mp ((h.2.2.2.2 key).mpr ⟨hk, hm⟩)
    exact b g i (by omega) hi (by simp [List.getD, hi, e])
  · cases hr : gp_fst (fun i => decide (L.getD i 0 = key)) L.length 0 with
    | none => rfl
    | some j =>
      obtain ⟨_, x, y⟩ := a j hr
      exact absurd ((h.2.2.2.2 key).mp (by rw [← y]; exact gp_getD_mem x)).2 g
theorem gq_pK.fr (h : gq_pK M cs p L) (e : M'.1 (71 + p) = M.1 (71 + p)) (e' : M'.1 (97 + p) = M.1 (97 + p)) (e2 : M'.1 122 p = M.1 122 p) : gq_pK M' cs p L := by
  obtain ⟨h1, h2, h3, h4, h5⟩ := h
  exact ⟨h1, h2, by rw [e2]; exact h3, fun i hi => by rw [e, e']; exact h4 i hi, h5⟩
theorem gq_pK.snoc (h : gq_pK M cs p L) {y : Nat} (hy : ∀ key, key < 4096 → key * 25 + p ≠ y) : gq_pK M (cs ++ [y]) p L := by
  obtain ⟨h1, h2, h3, h4, h5⟩ := h
  refine ⟨h1, h2, h3, fun i hi => ⟨(h4 i hi).1, ?_⟩, fun key => ?_⟩
  · have hm := (h5 (L.getD i 0)).mp (gp_getD_mem hi)
    rw [(h4 i hi).2, List.count_append, List.count_eq_zero_of_not_mem (show L.getD i 0 * 25 + p ∉ [y] from fun g => hy _ hm.1 (List.mem_singleton.mp g)), Nat.add_zero]
  · rw [h5, List.mem_append, List.mem_singleton]
    constructor
    · rintro ⟨a, b⟩; exact ⟨a, Or.inl b⟩
    · rintro ⟨a, b | b⟩
      · exact ⟨a, b⟩
      · exact absurd b (hy key a)
theorem gq_nodup_inj {L : List Nat} (h : L.Nodup) {i j : Nat} (hi : i < L.length) (hj : j < L.length) (e : L.getD i 0 = L.getD j 0) : i = j := by
  have e : L[i] = L[j] := by simpa [List.getD, hi, hj] using e
  rcases Nat.lt_trichotomy i j with g | g | g
  · exact absurd e (List.pairwise_iff_getElem.mp h i j hi hj g)
  · exact g
  · exact absurd e.symm (List.pairwise_iff_getElem.mp h j i hj hi g)
/-- a pair is come to -/
theorem gq_come (h : gq_pC M cs rd Bd K) (hp : p < 25) (hk : key < 4096) (hB : ∀ z, z < 25 → z ≠ p → Bd z ≤ Bd' z) (hB1 : Bd p + 1 ≤ Bd' p) (h24 : Bd p < 24) : ∃ M' K', f6_comeTo (nI p) (nI key) M = some M' ∧ gq_pL M M' ∧ gq_pC M' (cs ++ [key * 25 + p]) rd Bd' K' ∧ M'.1 69 4 = M.1 69 4 := by
  obtain ⟨h1, h2, h3⟩ := h
  obtain ⟨hK, hb⟩ := h1 p hp
  obtain ⟨r, e1, e2, e3⟩ := gq_idxO hK hp hk
  obtain ⟨k1, k2, k3, k4, k5⟩ := hK
  have oth : ∀ z, z < 25 → z ≠ p → ∀ key', key' < 4096 → key' * 25 + z ≠ key * 25 + p := fun z hz hn key' hk' => by omega
  unfold f6_comeTo
  rw [if_neg (nI_pos (by omega)), if_pos (show nI p ≤ (24 : Int32) from nI_le (b := 24) (by omega) (by omega)), e1, gp_eB2]
  cases r with
  | none =>
    have hni := e3.mp rfl
    have hnk : key ∉ K p := fun g => hni ((k5 key).mp g).2
    rw [if_pos (show gp_o none = -1 from rfl), gp_ckb hp (by omega), nI_clamp (by omega), k3, if_neg (show ¬ (24 : Int32) ≤ nI (K p).length from nI_ge (b := 24) (by omega) (by omega)), gp_ckb (show (K p).length < 24 by omega) (by omega), nI_clamp (by omega), gp_eL, show 70 + 1 + p = 71 + p by omega, gp_gn (by omega), k3, gp_ckb (show (K p).length < 24 by omega) (by omega), nI_clamp (by omega), gp_eL, show 96 + 1 + p = 97 + p by omega, gp_gn (by omega), gp_gn (by omega), k3, nI_1, gp_eL, gp_gn (by omega), gp_gn (by omega), gp_gn (by omega), h2, nI_1, gp_eL, gp_ckb hp (by omega), gp_ckb hp (by omega), gp_ckb hp (by omega), gp_ckb hp (by omega), gp_ckb hp (by omega), gp_ckb hp (by omega)]
    refine ⟨_, fun z => if z = p then K p ++ [key] else K z, rfl, ⟨rfl, fun c hc => by rw [gp_wc _ (by omega), gp_wc _ (by omega), gp_wc _ (by omega), gp_wc _ (by omega)]⟩, ⟨fun z hz => ?_, ?_, ?_⟩, ?_⟩
    · dsimp only
      by_cases e : z = p
      · subst e
        rw [if_pos rfl]
        have hlen : (K z ++ [key]).length = (K z).length + 1 := by simp
        refine ⟨⟨?_, by omega, ?_, fun i hi => ?_, fun key' => ?_⟩, by omega⟩
        · rw [List.nodup_append]
          exact ⟨k1, by simp, fun a ha b hb => by rw [List.mem_singleton.mp hb]; exact fun g => hnk (g ▸ ha)⟩
        · rw [gp_gn (by omega), gp_gs, hlen]
        · rw [hlen] at hi
          by_cases ei : i = (K z).length
          · rw [ei, gp_getD_r]
            refine ⟨by rw [gp_gn (by omega), gp_gn (by omega), gp_gn (by omega), gp_gs], ?_⟩
            rw [gp_gn (by omega), gp_gn (by omega), gp_gs, List.count_append, List.count_eq_zero_of_not_mem hni]
            simp
            rfl
          · rw [gp_getD_l (by omega)]
            have hm := (k5 ((K z).getD i 0)).mp (gp_getD_mem (show i < (K z).length by omega))
            have hne : (K z).getD i 0 * 25 + z ≠ key * 25 + z := fun g => hni (by rw [← g]; exact hm.2)
            refine ⟨by rw [gp_gn (by omega), gp_gn (by omega), gp_gn (by omega), gp_gn (by omega)]; exact (k4 i (by omega)).1, ?_⟩
            rw [gp_gn (by omega), gp_gn (by omega), gp_gn (by omega), gp_gn (by omega), (k4 i (by omega)).2, List.count_append, List.count_eq_zero_of_not_mem (show (K z).getD i 0 * 25 + z ∉ [key * 25 + z] from fun g => hne (List.mem_singleton.mp g)), Nat.add_zero]
        · rw [List.mem_append, List.mem_append, List.mem_singleton, List.mem_singleton, k5]
          constructor
          · rintro (⟨a, b⟩ | a)
            · exact ⟨a, Or.inl b⟩
            · rw [a]; exact ⟨hk, Or.inr rfl⟩
          · rintro ⟨a, b | b⟩
            · exact Or.inl ⟨a, b⟩
            · exact Or.inr (by omega)
      · rw [if_neg e]
        obtain ⟨a, b⟩ := h1 z hz
        refine ⟨(a.fr ?_ ?_ ?_).snoc (oth z hz e), Nat.le_trans b (hB z hz e)⟩
        · rw [gp_wc _ (by omega), gp_wc _ (by omega), gp_wc _ (by omega), gp_wc _ (by omega)]
        · rw [gp_wc _ (by omega), gp_wc _ (by omega), gp_wc _ (by omega), gp_wc _ (by omega)]
        · rw [gp_gn (by omega), gp_gn (by omega), gp_gn (by omega), gp_gn (by omega)]
    · rw [gp_gs]
      congr 1
      have := gq_sum_upd (g := fun z => (K z).length) (h := fun z => (if z = p then K p ++ [key] else K z).length) (p := p) (by simp) (n := 25) (fun y hy hn => by rw [if_neg hn])
      rw [if_pos hp] at this
      exact this.symm
    · rw [gp_gn (by omega), gp_gn (by omega), gp_gn (by omega), gp_gn (by omega)]
      exact h3
    · rw [gp_gn (by omega), gp_gn (by omega), gp_gn (by omega), gp_gn (by omega)]
  | some j =>
    obtain ⟨j1, j2⟩ := e2 j rfl
    rw [if_neg (show ¬ gp_o (some j) = -1 from by rw [gp_oS, gp_m1, gp_ne1 (by omega)]; exact id), gp_oS, gp_ckb hp (by omega), nI_clamp (by omega), gp_ckb (show j < 24 by omega) (by omega), gp_ckb (show j < 24 by omega) (by omega), nI_clamp (by omega), show 96 + 1 + p = 97 + p by omega, (k4 j j1).2, nI_1, gp_eL, j2]
    have hin : key * 25 + p ∈ cs := ((k5 key).mp (by rw [← j2]; exact gp_getD_mem j1)).2
    refine ⟨_, K, rfl, ⟨rfl, fun c hc => gp_wc _ (by omega)⟩, ⟨fun z hz => ?_, ?_, ?_⟩, gp_gn (by omega)⟩
    · obtain ⟨a, b⟩ := h1 z hz
      by_cases e : z = p
      · subst e
        refine ⟨⟨k1, k2, by rw [gp_gn (by omega)]; exact k3, fun i hi => ⟨by rw [gp_gn (by omega)]; exact (k4 i hi).1, ?_⟩, fun key' => ?_⟩, by omega⟩
        · by_cases ei : i = j
          · rw [ei, gp_gs, j2, List.count_append]
            simp
          · have hm := (k5 ((K z).getD i 0)).mp (gp_getD_mem hi)
            have hne : (K z).getD i 0 ≠ key := fun g => ei (gq_nodup_inj k1 hi j1 (by rw [g, j2]))
            rw [gp_gn (by omega), (k4 i hi).2, List.count_append, List.count_eq_zero_of_not_mem (show (K z).getD i 0 * 25 + z ∉ [key * 25 + z] from fun g => hne (by have := List.mem_singleton.mp g; omega)), Nat.add_zero]
        · rw [k5, List.mem_append, List.mem_singleton]
          constructor
          · rintro ⟨a, b⟩; exact ⟨a, Or.inl b⟩
          · rintro ⟨a, b | b⟩
            · exact ⟨a, b⟩
            · exact ⟨a, by rw [b]; exact hin⟩
      · refine ⟨(a.fr (gp_wc _ (by omega)) (gp_wc _ (by omega)) (gp_gn (by omega))).snoc (oth z hz e), Nat.le_trans b (hB z hz e)⟩
    · rw [gp_gn (by omega)]; exact h2
    · rw [gp_gn (by omega)]; exact h3
theorem gq_clear (M : gz_M) : ∃ M', f6_clear M = some M' ∧ gq_pL M M' ∧ gq_pC M' [] 0 (fun _ => 0) (fun _ => []) := by
  obtain ⟨M1, e1, e2, e3, e4, e5⟩ := gp_fill 122 25 0 (by omega) M
  unfold f6_clear
  rw [e1, gp_eB, gp_eL, gp_eL]
  refine ⟨_, rfl, ⟨e2, fun c hc => by rw [gp_wc _ (by omega), gp_wc _ (by omega), e3 c (by omega)]⟩, ⟨fun p hp => ⟨⟨List.nodup_nil, by simp, ?_, fun i hi => absurd hi (by simp), fun key => by simp⟩, Nat.le_refl _⟩, ?_, gp_gs _ _ _ _⟩⟩
  · rw [gp_gn (by omega), gp_gn (by omega), e4 p hp]
    rfl
  · rw [gp_gn (by omega), gp_gs]
    have : gq_sum (fun p => ([] : List Nat).length) 25 = 0 := by decide
    rw [this]
    rfl
end
