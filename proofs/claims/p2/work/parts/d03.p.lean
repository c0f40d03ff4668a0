/-! pairs: counted -/
def gq_cnt (P : Nat → Bool) : Nat → Nat
  | 0 => 0
  | n + 1 => gq_cnt P n + if P n = true then 1 else 0
def gq_mx (f : Nat → Nat) : Nat → Nat
  | 0 => 0
  | n + 1 => max (gq_mx f n) (f n)
theorem gq_mx_le (f : Nat → Nat) (b : Nat) : ∀ n, gq_mx f n ≤ b ↔ ∀ x, x < n → f x ≤ b
  | 0 => ⟨fun _ x h => absurd h (by omega), fun _ => Nat.zero_le _⟩
  | n + 1 => by
    rw [gq_mx, Nat.max_le, gq_mx_le f b n]
    constructor
    · rintro ⟨h1, h2⟩ x hx
      by_cases e : x = n
      · rw [e]; exact h2
      · exact h1 x (by omega)
    · exact fun h => ⟨fun x hx => h x (by omega), h n (by omega)⟩
theorem gq_cnt_ext {P Q : Nat → Bool} : ∀ {n : Nat}, (∀ x, x < n → P x = Q x) → gq_cnt P n = gq_cnt Q n
  | 0, _ => rfl
  | n + 1, h => by rw [gq_cnt, gq_cnt, gq_cnt_ext (fun x hx => h x (by omega)), h n (by omega)]
theorem gq_cnt_no {P : Nat → Bool} : ∀ {n : Nat}, (∀ x, x < n → P x = false) → gq_cnt P n = 0
  | 0, _ => rfl
  | n + 1, h => by rw [gq_cnt, gq_cnt_no (fun x hx => h x (by omega)), h n (by omega)]; rfl
theorem gq_cnt_le (P : Nat → Bool) : ∀ n, gq_cnt P n ≤ n
  | 0 => Nat.le_refl _
  | n + 1 => by
    have := gq_cnt_le P n
    rw [gq_cnt]
    split <;> omega
theorem gq_cnt_rm {P : Nat → Bool} {y : Nat} : ∀ {n : Nat}, y < n → gq_cnt P n = gq_cnt (fun x => P x && decide (x ≠ y)) n + if P y = true then 1 else 0
  | 0, h => absurd h (by omega)
  | n + 1, h => by
    rw [gq_cnt, gq_cnt]
    by_cases e : y = n
    · subst e
      have : gq_cnt (fun x => P x && decide (x ≠ y)) y = gq_cnt P y := gq_cnt_ext (fun x hx => by simp; omega)
      rw [this]
      simp
    · rw [gq_cnt_rm (show y < n by omega)]
      have : (P n && decide (n ≠ y)) = P n := by simp; intro _; omega
      rw [this]
      omega
theorem gq_cnt_list : ∀ (L : List Nat) (P : Nat → Bool) (N : Nat), L.Nodup → (∀ y, y ∈ L → y < N) → (∀ x, x < N → P x = true → x ∈ L) → gq_cnt P N = (L.filter P).length
  | [], P, N, _, _, h => by
    rw [gq_cnt_no (fun x hx => by
      cases hp : P x with
      | false => rfl
      | true => exact absurd (h x hx hp) (by simp))]
    rfl
  | y :: L, P, N, hd, hl, h => by
    have hd1 : y ∉ L ∧ L.Nodup := List.nodup_cons.mp hd
    rw [gq_cnt_rm (hl y List.mem_cons_self), gq_cnt_list L (fun x => P x && decide (x ≠ y)) N hd1.2 (fun z hz => hl z (List.mem_cons_of_mem _ hz)) (fun x hx hp => by
      simp at hp
      rcases List.mem_cons.mp (h x hx hp.1) with g | g
      · exact absurd g hp.2
      · exact g), List.filter_cons]
    have e : L.filter (fun x => P x && decide (x ≠ y)) = L.filter P := List.filter_congr (fun x hx => by
      have : x ≠ y := fun g => hd1.1 (g ▸ hx)
      simp [this])
    rw [e]
    by_cases hp : P y = true
    · rw [if_pos hp, if_pos hp, List.length_cons]
    · rw [if_neg hp, if_neg hp, Nat.add_zero]
theorem gq_cnt_add (P : Nat → Bool) (a : Nat) : ∀ b, gq_cnt P (a + b) = gq_cnt P a + gq_cnt (fun x => P (a + x)) b
  | 0 => rfl
  | b + 1 => by rw [← Nat.add_assoc, gq_cnt, gq_cnt_add P a b, gq_cnt]; omega
theorem gq_cnt_sum (Q : Nat → Bool) : ∀ n, gq_cnt Q n = gq_sum (fun p => if Q p = true then 1 else 0) n
  | 0 => rfl
  | n + 1 => by rw [gq_cnt, gq_sum, gq_cnt_sum Q n]
theorem gq_cnt_prod (P : Nat → Bool) : ∀ n, gq_cnt P (25 * n) = gq_sum (fun p => gq_cnt (fun key => P (key * 25 + p)) n) 25
  | 0 => by
    show 0 = gq_sum (fun _ => 0) 25
    decide
  | n + 1 => by
    have e : (fun p => gq_cnt (fun key => P (key * 25 + p)) (n + 1)) = fun p => gq_cnt (fun key => P (key * 25 + p)) n + (if P (n * 25 + p) = true then 1 else 0) := funext fun p => rfl
    rw [show 25 * (n + 1) = 25 * n + 25 by omega, gq_cnt_add, gq_cnt_prod P n, e, gq_sum_add, gq_cnt_sum]
    congr 1
    exact gq_sum_ext (fun p _ => by rw [Nat.mul_comm 25 n])
section
variable {M M' : gz_M} {cs : List Nat} {rd p key : Nat} {Bd Bd' : Nat → Nat} {K : Nat → List Nat} {L : List Nat}
/-- counted over all codes, or over the keys of each place -/
theorem gq_cntK (h : gq_pC M cs rd Bd K) (P : Nat → Bool) (hP : ∀ y, P y = true → y ∈ cs) : gq_cnt P 102400 = gq_sum (fun p => ((K p).filter (fun key => P (key * 25 + p))).length) 25 := by
  rw [show (102400 : Nat) = 25 * 4096 from rfl, gq_cnt_prod]
  refine gq_sum_ext (fun p hp => ?_)
  obtain ⟨⟨k1, k2, k3, k4, k5⟩, _⟩ := h.1 p hp
  exact gq_cnt_list (K p) _ 4096 k1 (fun y hy => ((k5 y).mp hy).1) (fun x hx hq => (k5 x).mpr ⟨hx, hP _ hq⟩)
theorem gq_total (h : gq_pC M cs rd Bd K) : gq_sum (fun p => (K p).length) 25 = gq_cnt (fun y => decide (y ∈ cs)) 102400 := by
  rw [gq_cntK h _ (fun y hy => of_decide_eq_true hy)]
  refine gq_sum_ext (fun p hp => ?_)
  obtain ⟨⟨k1, k2, k3, k4, k5⟩, _⟩ := h.1 p hp
  rw [List.filter_eq_self.mpr (fun key hk => decide_eq_true ((k5 key).mp hk).2)]
theorem gq_filter_s {L : List Nat} {P : Nat → Bool} {i : Nat} (h : i < L.length) : ((L.take (i + 1)).filter P).length = ((L.take i).filter P).length + if P (L.getD i 0) = true then 1 else 0 := by
  rw [gp_take (d := 0) h, List.filter_append, List.length_append]
  congr 1
  rw [List.filter_cons]
  split <;> rfl
/-- pairs come to more than once -/
theorem gq_rep (h : gq_pC M cs rd Bd K) (hcs : cs.length < 2 ^ 30) : f6_repeated M = some (nI (gq_cnt (fun y => decide (1 < cs.count y)) 102400), M) := by
  rw [gq_cntK h _ (fun y hy => List.count_pos_iff.mp (Nat.lt_trans Nat.zero_lt_one (of_decide_eq_true hy)))]
  have inner : ∀ (c4 : Int32 → Int32 → gz_M → Option (Int32 × gz_M)) (p a : Nat), p < 25 → f6_repeated_12 c4 gz_FU (nI a) (nI p) 0 M = c4 (nI (a + ((K p).filter (fun key => decide (1 < cs.count (key * 25 + p)))).length)) (nI (p + 1)) M := fun c4 p a hp => by
    obtain ⟨⟨k1, k2, k3, k4, k5⟩, _⟩ := h.1 p hp
    have main : ∀ d i n, i + d = (K p).length → d < n → f6_repeated_12 c4 n (nI (a + (((K p).take i).filter (fun key => decide (1 < cs.count (key * 25 + p)))).length)) (nI p) (nI i) M = c4 (nI (a + ((K p).filter (fun key => decide (1 < cs.count (key * 25 + p)))).length)) (nI (p + 1)) M := by
      intro d
      induction d with
      | zero =>
        intro i n hi hn
        obtain ⟨n, rfl⟩ : ∃ q, n = q + 1 := ⟨n - 1, by omega⟩
        rw [f6_repeated_12, gp_ckb hp (by omega), nI_clamp (by omega), k3, if_pos (nI_le (by omega) (by omega)), gp_eL, nI_1, List.take_of_length_le (by omega)]
      | succ d ih =>
        intro i n hi hn
        obtain ⟨n, rfl⟩ : ∃ q, n = q + 1 := ⟨n - 1, by omega⟩
        have hf := gq_filter_s (L := K p) (P := fun key => decide (1 < cs.count (key * 25 + p))) (show i < (K p).length by omega)
        have nx := ih (i + 1) n (by omega) (by omega)
        rw [hf] at nx
        have hlen : (((K p).take i).filter (fun key => decide (1 < cs.count (key * 25 + p)))).length ≤ 24 := Nat.le_trans (List.length_filter_le _ _) (by rw [List.length_take]; omega)
        rw [f6_repeated_12, gp_ckb hp (by omega), nI_clamp (by omega), k3, if_neg (nI_ge (by omega) (by omega)), gp_ckb hp (by omega), gp_ckb (show i < 24 by omega) (by omega), nI_clamp (by omega), show 96 + 1 + p = 97 + p by omega, (k4 i (by omega)).2]
        have hcl := List.count_le_length (a := (K p).getD i 0 * 25 + p) (l := cs)
        by_cases hc : 1 < cs.count ((K p).getD i 0 * 25 + p)
        · rw [if_neg (show ¬ nI (cs.count ((K p).getD i 0 * 25 + p)) ≤ (1 : Int32) from nI_ge (a := 1) hc (by omega)), gp_eL, gp_eL, nI_1, nI_1]
          rw [if_pos (decide_eq_true hc), ← Nat.add_assoc] at nx
          exact nx
        · rw [if_pos (show nI (cs.count ((K p).getD i 0 * 25 + p)) ≤ (1 : Int32) from nI_le (b := 1) (by omega) (by omega)), gp_eL, gp_eL, nI_1, gp_add0]
          rw [if_neg (show ¬ decide (1 < cs.count ((K p).getD i 0 * 25 + p)) = true from fun g => hc (of_decide_eq_true g)), Nat.add_zero] at nx
          exact nx
    exact main (K p).length 0 gz_FU (by omega) (by unfold gz_FU; omega)
  have outer : ∀ d p n, p + d = 25 → d < n → f6_repeated_4 n (nI (gq_sum (fun p => ((K p).filter (fun key => decide (1 < cs.count (key * 25 + p)))).length) p)) (nI p) M = some (nI (gq_sum (fun p => ((K p).filter (fun key => decide (1 < cs.count (key * 25 + p)))).length) 25), M) := by
    intro d
    induction d with
    | zero =>
      intro p n hp hn
      obtain ⟨n, rfl⟩ : ∃ q, n = q + 1 := ⟨n - 1, by omega⟩
      have : p = 25 := by omega
      subst this
      rw [f6_repeated_4, if_pos (by decide)]
    | succ d ih =>
      intro p n hp hn
      obtain ⟨n, rfl⟩ : ∃ q, n = q + 1 := ⟨n - 1, by omega⟩
      rw [f6_repeated_4, if_neg (show ¬ (24 : Int32) < nI p from nI_nlt (a := 24) (b := p) (by omega) (by omega)), inner _ p _ (by omega)]
      exact ih (p + 1) n (by omega) (by omega)
  unfold f6_repeated
  exact outer 25 0 gz_FU (by omega) (by unfold gz_FU; omega)
def gq_pm (cs L : List Nat) (p : Nat) : Nat := gq_mx (fun i => cs.count (L.getD i 0 * 25 + p)) L.length
theorem gq_most (h : gq_pC M cs rd Bd K) (hcs : cs.length < 2 ^ 30) : f6_mostTimes M = some (nI (gq_mx (fun p => gq_pm cs (K p) p) 25), M) := by
  have hpm : ∀ p, gq_pm cs (K p) p ≤ cs.length := fun p => (gq_mx_le _ _ _).mpr (fun x hx => List.count_le_length)
  have hmx : ∀ p, gq_mx (fun p => gq_pm cs (K p) p) p ≤ cs.length := fun p => (gq_mx_le _ _ _).mpr (fun x hx => hpm x)
  have inner : ∀ (c4 : Int32 → Int32 → gz_M → Option (Int32 × gz_M)) (p a : Nat), p < 25 → a ≤ cs.length → f6_mostTimes_12 c4 gz_FU (nI a) (nI p) 0 M = c4 (nI (max a (gq_pm cs (K p) p))) (nI (p + 1)) M := fun c4 p a hp ha => by
    obtain ⟨⟨k1, k2, k3, k4, k5⟩, _⟩ := h.1 p hp
    have main : ∀ d i n, i + d = (K p).length → d < n → f6_mostTimes_12 c4 n (nI (max a (gq_mx (fun i => cs.count ((K p).getD i 0 * 25 + p)) i))) (nI p) (nI i) M = c4 (nI (max a (gq_pm cs (K p) p))) (nI (p + 1)) M := by
      intro d
      induction d with
      | zero =>
        intro i n hi hn
        obtain ⟨n, rfl⟩ : ∃ q, n = q + 1 := ⟨n - 1, by omega⟩
        rw [f6_mostTimes_12, gp_ckb hp (by omega), nI_clamp (by omega), k3, if_pos (nI_le (by omega) (by omega)), gp_eL, nI_1, show i = (K p).length by omega]
        rfl
      | succ d ih =>
        intro i n hi hn
        obtain ⟨n, rfl⟩ : ∃ q, n = q + 1 := ⟨n - 1, by omega⟩
        have nx := ih (i + 1) n (by omega) (by omega)
        have hcl := List.count_le_length (a := (K p).getD i 0 * 25 + p) (l := cs)
        have hgl : gq_mx (fun i => cs.count ((K p).getD i 0 * 25 + p)) i ≤ cs.length := (gq_mx_le _ _ _).mpr (fun x hx => List.count_le_length)
        rw [f6_mostTimes_12, gp_ckb hp (by omega), nI_clamp (by omega), k3, if_neg (nI_ge (by omega) (by omega)), gp_ckb hp (by omega), gp_ckb (show i < 24 by omega) (by omega), nI_clamp (by omega), show 96 + 1 + p = 97 + p by omega, (k4 i (by omega)).2, gp_max (by omega) (by omega), gp_eL, gp_eL, nI_1, Nat.max_assoc]
        exact nx
    have := main (K p).length 0 gz_FU (by omega) (by unfold gz_FU; omega)
    rw [gq_mx, Nat.max_zero] at this
    exact this
  have outer : ∀ d p n, p + d = 25 → d < n → f6_mostTimes_4 n (nI (gq_mx (fun p => gq_pm cs (K p) p) p)) (nI p) M = some (nI (gq_mx (fun p => gq_pm cs (K p) p) 25), M) := by
    intro d
    induction d with
    | zero =>
      intro p n hp hn
      obtain ⟨n, rfl⟩ : ∃ q, n = q + 1 := ⟨n - 1, by omega⟩
      have : p = 25 := by omega
      subst this
      rw [f6_mostTimes_4, if_pos (by decide)]
    | succ d ih =>
      intro p n hp hn
      obtain ⟨n, rfl⟩ : ∃ q, n = q + 1 := ⟨n - 1, by omega⟩
      rw [f6_mostTimes_4, if_neg (show ¬ (24 : Int32) < nI p from nI_nlt (a := 24) (b := p) (by omega) (by omega)), inner _ p _ (by omega) (hmx p)]
      exact ih (p + 1) n (by omega) (by omega)
  unfold f6_mostTimes
  exact outer 25 0 gz_FU (by omega) (by unfold gz_FU; omega)
theorem gq_mostE (h : gq_pC M cs rd Bd K) (hc : ∀ y, y ∈ cs → y < 102400) : gq_mx (fun y => if 2 ≤ cs.count y then cs.count y else 0) 102400 = if gq_mx (fun p => gq_pm cs (K p) p) 25 ≤ 1 then 0 else gq_mx (fun p => gq_pm cs (K p) p) 25 := by
  have hY : ∀ b, gq_mx (fun p => gq_pm cs (K p) p) 25 ≤ b ↔ ∀ y, y ∈ cs → cs.count y ≤ b := fun b => by
    rw [gq_mx_le]
    constructor
    · intro g y hy
      have h1 := hc y hy
      have h2 := g (y % 25) (Nat.mod_lt _ (by omega))
      obtain ⟨⟨k1, k2, k3, k4, k5⟩, _⟩ := h.1 (y % 25) (Nat.mod_lt _ (by omega))
      have h3 : y / 25 * 25 + y % 25 = y := by omega
      have h4 : y / 25 ∈ K (y % 25) := (k5 _).mpr ⟨by omega, by rw [h3]; exact hy⟩
      obtain ⟨i, hi, e⟩ := List.mem_iff_getElem.mp h4
      have h5 := ((gq_mx_le _ _ _).mp h2) i hi
      have e2 : (K (y % 25)).getD i 0 = y / 25 := by simp [List.getD, hi, e]
      rw [e2, h3] at h5
      exact h5
    · intro g p hp
      obtain ⟨⟨k1, k2, k3, k4, k5⟩, _⟩ := h.1 p hp
      refine (gq_mx_le _ _ _).mpr (fun i hi => g _ ((k5 _).mp (gp_getD_mem hi)).2)
  have hX : ∀ b, gq_mx (fun y => if 2 ≤ cs.count y then cs.count y else 0) 102400 ≤ b ↔ ∀ y, y ∈ cs → 2 ≤ cs.count y → cs.count y ≤ b := fun b => by
    rw [gq_mx_le]
    constructor
    · intro g y hy h2
      have := g y (hc y hy)
      rwa [if_pos h2] at this
    · intro g y hy
      split
      · rename_i h2
        exact g y (List.count_pos_iff.mp (by omega)) h2
      · exact Nat.zero_le _
  split
  · rename_i g
    refine Nat.le_zero.mp ((hX 0).mpr (fun y hy h2 => ?_))
    have := (hY 1).mp g y hy
    omega
  · rename_i g
    refine Nat.le_antisymm ((hX _).mpr (fun y hy _ => (hY _).mp (Nat.le_refl _) y hy)) ((hY _).mpr (fun y hy => ?_))
    by_cases h2 : 2 ≤ cs.count y
    · exact (hX _).mp (Nat.le_refl _) y hy h2
    · have : ¬ gq_mx (fun y => if 2 ≤ cs.count y then cs.count y else 0) 102400 ≤ 1 := fun g2 => g ((hY 1).mpr (fun z hz => by
        by_cases h3 : 2 ≤ cs.count z
        · have := (hX 1).mp g2 z hz h3
          omega
        · omega))
      omega
end
