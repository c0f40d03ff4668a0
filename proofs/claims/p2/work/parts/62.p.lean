/-! questions about stretches: 21 matches -/
theorem gp_bitL {a i : Nat} (ha : a < 2 ^ 31) (hi : i < 32) : ((gz_shr (nI a) (nI i) &&& (1 : Int32)) = (0 : Int32)) = (a.testBit i = false) := gp_bit ha hi
theorem gp_bit1L {a i : Nat} (ha : a < 2 ^ 31) (hi : i < 32) : ((gz_shr (nI a) (nI i) &&& (1 : Int32)) = (1 : Int32)) = (a.testBit i = true) := gp_bit1 ha hi
/-- rule k matches the signs from i up to j -/
def gp_mt (T : gp_T) (l : List Nat) (i j k : Nat) : Prop := if i = j then T.2.2 6 k ≠ 0 else T.2.2 5 k &&& (gp_ss T (T.2.2 1 k) l i (j - i)).2 ≠ 0
theorem gp_mtD (T : gp_T) (l : List Nat) (i j k : Nat) : gp_mt T l i j k ∨ ¬ gp_mt T l i j k := Classical.em _
/-- as a bit -/
def gp_mb (T : gp_T) (l : List Nat) (i j k : Nat) : Bool := if i = j then decide (T.2.2 6 k ≠ 0) else decide (T.2.2 5 k &&& (gp_ss T (T.2.2 1 k) l i (j - i)).2 ≠ 0)
def gp_mP (T : gp_T) (l : List Nat) (i j m k : Nat) : Bool := decide (T.2.2 1 k = m) && gp_mb T l i j k
def gp_mB (p : Nat → Bool) (n : Nat) : Nat := gp_orN (fun k => if p k = true then 1 <<< k else 0) n
theorem gp_mB_bit (p : Nat → Bool) (n k : Nat) : (gp_mB p n).testBit k = (decide (k < n) && p k) := by
  unfold gp_mB
  rw [Bool.eq_iff_iff, gp_orN_bit]
  simp only [Bool.and_eq_true, decide_eq_true_eq]
  constructor
  · rintro ⟨i, h1, h2⟩
    split at h2
    · rename_i h3
      rw [Nat.one_shiftLeft, Nat.testBit_two_pow, decide_eq_true_iff] at h2
      subst h2
      exact ⟨h1, h3⟩
    · simp at h2
  · rintro ⟨h1, h2⟩
    exact ⟨k, h1, by rw [if_pos h2, Nat.one_shiftLeft, Nat.testBit_two_pow]; simp⟩
theorem gp_mB_lt (p : Nat → Bool) {n b : Nat} (h : n ≤ b) : gp_mB p n < 2 ^ b := by
  unfold gp_mB
  refine gp_orN_lt (fun i hi => ?_)
  split
  · rw [Nat.one_shiftLeft]
    exact Nat.pow_lt_pow_right (by decide) (by omega)
  · exact Nat.two_pow_pos _
theorem gp_mB_s (p : Nat → Bool) (n : Nat) : gp_mB p (n + 1) = gp_mB p n ||| if p n = true then 1 <<< n else 0 := rfl
theorem gp_fst_ext {p q : Nat → Bool} : ∀ (n i : Nat), (∀ k, i ≤ k → k < i + n → p k = q k) → gp_fst p n i = gp_fst q n i
  | 0, i, _ => rfl
  | n + 1, i, h => by rw [gp_fst, gp_fst, h i (by omega) (by omega), gp_fst_ext n (i + 1) (fun k h1 h2 => h k (by omega) (by omega))]
theorem gp_fst_f {p : Nat → Bool} : ∀ (n i : Nat), (∀ k, i ≤ k → k < i + n → p k = false) → gp_fst p n i = none
  | 0, i, _ => rfl
  | n + 1, i, h => by rw [gp_fst, h i (by omega) (by omega), gp_fst_f n (i + 1) (fun k h1 h2 => h k (by omega) (by omega))]; rfl
theorem gp_fst_add {p : Nat → Bool} : ∀ (n d i : Nat), (∀ k, i + n ≤ k → k < i + n + d → p k = false) → gp_fst p (n + d) i = gp_fst p n i
  | 0, d, i, h => by rw [Nat.zero_add, gp_fst_f d i (fun k h1 h2 => h k (by omega) (by omega))]; rfl
  | n + 1, d, i, h => by
    rw [show n + 1 + d = (n + d) + 1 by omega, gp_fst, gp_fst, gp_fst_add n d (i + 1) (fun k h1 h2 => h k (by omega) (by omega))]
section
variable {B : Prop} {k k0 k1 m S s x p cu i j : Nat} {M M' Mc Mr Mc' Mr' : gz_M} {T : gp_T} {l : List Nat} {ts : List gp_K} {r : List Int64}
theorem gp_firstOf (b : Nat) (hb : b < 2 ^ 31) (M : gz_M) : f11_firstOf (nI b) M = some (gp_o (gp_fst (fun k => b.testBit k) 8 0), M) := by
  have main : ∀ (d n x : Nat), x + d = 8 → d < n → f11_firstOf_2 n (nI b) (nI x) M = some (gp_o (gp_fst (fun k => b.testBit k) d x), M) := by
    intro d
    induction d with
    | zero =>
      intro n x hx hn
      obtain ⟨n, rfl⟩ : ∃ q, n = q + 1 := ⟨n - 1, by omega⟩
      have : x = 8 := by omega
      subst this
      rw [f11_firstOf_2, if_pos (by decide)]
      rfl
    | succ d ih =>
      intro n x hx hn
      obtain ⟨n, rfl⟩ : ∃ q, n = q + 1 := ⟨n - 1, by omega⟩
      rw [f11_firstOf_2, if_neg (by exact nI_ge (show x < 8 by omega) (by decide)), gp_fst]
      have e := gp_bitL (a := b) (i := x) hb (by omega)
      by_cases ht : b.testBit x = true
      · rw [if_pos ht, if_neg (show ¬ (gz_shr (nI b) (nI x) &&& (1 : Int32)) = (0 : Int32) by rw [e, ht]; simp)]
        rfl
      · rw [if_neg ht, if_pos (show (gz_shr (nI b) (nI x) &&& (1 : Int32)) = (0 : Int32) by rw [e]; simpa using ht), gp_eL, nI_1]
        exact ih n (x + 1) (by omega) (by omega)
  exact main 8 gz_FU 0 rfl (by unfold gz_FU; omega)
theorem gp_firstP (p : Nat → Bool) {n : Nat} (hn : n ≤ 8) (M : gz_M) : f11_firstOf (nI (gp_mB p n)) M = some (gp_o (gp_fst p n 0), M) := by
  have h1 := gp_mB_lt p hn
  rw [gp_firstOf _ (by omega)]
  congr 3
  obtain ⟨d, hd⟩ : ∃ d, 8 = n + d := ⟨8 - n, by omega⟩
  rw [hd, gp_fst_add n d 0 (fun k h1 h2 => by rw [gp_mB_bit]; simp; omega)]
  exact gp_fst_ext n 0 (fun k h1 h2 => by rw [gp_mB_bit]; simp; omega)
theorem gp_matching (hw : gp_wT T) (h : gp_tC k0 M T) (hm : m < 4) (hS : S < 2 ^ 10) : f7_matching k0 (nI m) (nI S) M = some (nI (gp_mB (fun k => decide (T.2.2 1 k = m) && decide (T.2.2 5 k &&& S ≠ 0)) T.1), M) := by
  have hw1 := hw.1
  unfold f7_matching
  refine gp_forE (fun n x (a : Int32) => f7_matching_5 k0 n (nI m) (nI S) a (nI x) M) T.1 (fun x a => a = nI (gp_mB (fun k => decide (T.2.2 1 k = m) && decide (T.2.2 5 k &&& S ≠ 0)) x)) _ (fun n a hI => ?_) (fun n x a hx hI => Or.inr ⟨_, ?_, rfl⟩) gz_FU 0 (nI 0) (by omega) (by unfold gz_FU; omega) rfl
  · subst hI
    show f7_matching_5 k0 (n + 1) _ _ _ (nI T.1) M = _
    rw [f7_matching_5, h.1, if_pos (nI_le (Nat.le_refl _) (by omega))]
  · subst hI
    show f7_matching_5 k0 (n + 1) _ _ _ (nI x) M = f7_matching_5 k0 n _ _ _ (nI (x + 1)) M
    have hv := h.2.1 x hx
    have hwx := hw.2.1 x hx
    have hlt : T.2.2 5 x &&& S < 2 ^ 10 := Nat.lt_of_le_of_lt Nat.and_le_right hS
    rw [f7_matching_5, h.1, if_neg (nI_ge hx (by omega)), gp_ckb (by omega) (by omega), nI_clamp (by omega), hv.1, gp_mB_s]
    by_cases hc : T.2.2 1 x = m
    · rw [if_pos (by rw [hc]), gp_ckb (by omega) (by omega), hv.2.2.2.2.1, gp_and]
      by_cases hz : T.2.2 5 x &&& S = 0
      · rw [if_pos (by rw [hz]; rfl), gp_eL, gp_eL, nI_1, if_neg (by simp [hz]), show (0 : Int32) = nI 0 from rfl, gp_or]
      · rw [if_neg (show ¬ nI (T.2.2 5 x &&& S) = (0 : Int32) from fun e => hz ((nI_eq (b := 0) (by omega) (by omega)).mp e)), gp_eL, gp_eL, nI_1, if_pos (by simp [hz, hc]), show (1 : Int32) = nI 1 from rfl, gp_shl1 (by omega), gp_or]
    · rw [if_neg (fun e => hc ((nI_eq (by omega) (by omega)).mp e)), gp_eL, gp_eL, nI_1, if_neg (by simp [hc]), show (0 : Int32) = nI 0 from rfl, gp_or]
theorem gp_matching0 (hw : gp_wT T) (h : gp_tC k0 M T) (hm : m < 4) : f7_matchingNothing k0 (nI m) M = some (nI (gp_mB (fun k => decide (T.2.2 1 k = m) && decide (T.2.2 6 k ≠ 0)) T.1), M) := by
  have hw1 := hw.1
  unfold f7_matchingNothing
  refine gp_forE (fun n x (a : Int32) => f7_matchingNothing_4 k0 n (nI m) a (nI x) M) T.1 (fun x a => a = nI (gp_mB (fun k => decide (T.2.2 1 k = m) && decide (T.2.2 6 k ≠ 0)) x)) _ (fun n a hI => ?_) (fun n x a hx hI => Or.inr ⟨_, ?_, rfl⟩) gz_FU 0 (nI 0) (by omega) (by unfold gz_FU; omega) rfl
  · subst hI
    show f7_matchingNothing_4 k0 (n + 1) _ _ (nI T.1) M = _
    rw [f7_matchingNothing_4, h.1, if_pos (nI_le (Nat.le_refl _) (by omega))]
  · subst hI
    show f7_matchingNothing_4 k0 (n + 1) _ _ (nI x) M = f7_matchingNothing_4 k0 n _ _ (nI (x + 1)) M
    have hv := h.2.1 x hx
    have hwx := hw.2.1 x hx
    rw [f7_matchingNothing_4, h.1, if_neg (nI_ge hx (by omega)), gp_ckb (by omega) (by omega), nI_clamp (by omega), hv.1, gp_mB_s]
    by_cases hc : T.2.2 1 x = m
    · rw [if_pos (by rw [hc]), gp_ckb (by omega) (by omega), hv.2.2.2.2.2]
      by_cases hz : T.2.2 6 x = 0
      · rw [if_pos (by rw [hz]; rfl), gp_eL, gp_eL, nI_1, if_neg (by simp [hz]), show (0 : Int32) = nI 0 from rfl, gp_or]
      · rw [if_neg (show ¬ nI (T.2.2 6 x) = (0 : Int32) from fun e => hz ((nI_eq (b := 0) (by omega) (by omega)).mp e)), gp_eL, gp_eL, nI_1, if_pos (by simp [hz, hc]), show (1 : Int32) = nI 1 from rfl, gp_shl1 (by omega), gp_or]
    · rw [if_neg (fun e => hc ((nI_eq (by omega) (by omega)).mp e)), gp_eL, gp_eL, nI_1, if_neg (by simp [hc]), show (0 : Int32) = nI 0 from rfl, gp_or]
theorem gp_mB_ext {p q : Nat → Bool} {n : Nat} (h : ∀ k, k < n → p k = q k) : gp_mB p n = gp_mB q n := gp_orN_ext (fun k hk => by simp only [h k hk])
/-- bits of the first modes -/
theorem gp_mB_modes (hw : gp_wT T) : gp_orN (fun m => gp_mB (gp_mP T l i j m) T.1) 4 = gp_mB (gp_mb T l i j) T.1 := by
  apply Nat.eq_of_testBit_eq
  intro k
  rw [Bool.eq_iff_iff, gp_orN_bit]
  simp only [gp_mB_bit, Bool.and_eq_true, decide_eq_true_eq, gp_mP]
  constructor
  · rintro ⟨m, _, h1, _, h2⟩
    exact ⟨h1, h2⟩
  · rintro ⟨h1, h2⟩
    exact ⟨_, (hw.2.1 k h1).1, h1, rfl, h2⟩
theorem gp_doesMatch (hw : gp_wT T) (h : gp_tR M T) (hl : gp_lR M l) (hij : i ≤ j) (hj : j ≤ l.length) (hk : k < T.1) : f12_doesMatch (nI k) (nI i) (nI j) M = some ((if gp_mb T l i j k = true then 1 else 0), M) := by
  have hl1 := hl.1
  have hw1 := hw.1
  have hv := h.2.1 k hk
  have hwk := hw.2.1 k hk
  unfold f12_doesMatch gp_mb
  by_cases hz : i = j
  · rw [if_pos (by rw [hz]), gp_ckb (by omega) (by omega), nI_clamp (by omega), hv.2.2.2.2.1, if_pos hz]
    have : T.2.2 6 k = 0 ∨ T.2.2 6 k = 1 := by omega
    rcases this with e | e <;> rw [e] <;> rfl
  · have hS := (gp_ss_lt (T := T) (i := i) hw hwk.1 (fun p hp => (hl.2.2 p hp).2) (j - i) (by omega)).2
    have hS10 := gp_lt10 hw hwk.1 hS
    rw [if_neg (fun e => hz ((nI_eq (by omega) (by omega)).mp e)), gp_ckb (by omega) (by omega), nI_clamp (by omega), hv.1, gp_standR hw h hl hwk.1 hij hj, gp_eB2, gp_ckb (by omega) (by omega), hv.2.2.2.2.2, gp_and, if_neg hz, Nat.and_comm]
    have hlt : T.2.2 5 k &&& (gp_ss T (T.2.2 1 k) l i (j - i)).2 < 2 ^ 10 := Nat.lt_of_le_of_lt Nat.and_le_right hS10
    by_cases hc : T.2.2 5 k &&& (gp_ss T (T.2.2 1 k) l i (j - i)).2 = 0
    · rw [if_pos (by rw [hc]; rfl), if_neg (by simp [hc])]
    · rw [if_neg (show ¬ nI (T.2.2 5 k &&& (gp_ss T (T.2.2 1 k) l i (j - i)).2) = (0 : Int32) from fun e => hc ((nI_eq (b := 0) (by omega) (by omega)).mp e)), if_pos (by simp [hc])]
def gp_mrow (T : gp_T) (l : List Nat) (i j : Nat) (m : Nat) : Int64 := (gp_o (gp_fst (gp_mP T l i j m) T.1 0)).toInt64
theorem gp_a21 (h : gp_Q B cu Mc Mr T l) (a b : Int32) : gp_ans B cu Mc Mr (f11_matches a b Mc) (f12_matches a b Mr) := by
  have hq := h
  obtain ⟨h1, h2, h3, h4, h5, h6, h7, h8⟩ := h
  have hcu := h6.1
  have h24 := h4.1
  have hw1 := h1.1
  have ht : gp_tR (gz_w Mr 0 5 0) T := h3.fr (fun c c1 c2 => gp_wc _ (by omega)) (gp_gn (by omega))
  have hl : gp_lR (gz_w Mr 0 5 0) l := h5.fr (gp_wc _ (by omega))
  rcases gp_strE h4 hl a b with ⟨e1, e2⟩ | ⟨i, j, hij, hj, rfl, rfl, e1, e2⟩
  · refine gp_ansN hq (-1) ?_ ?_
    · unfold f11_matches; rw [e1]; rfl
    · unfold f12_matches; rw [gp_eL, e2]; rfl
  · have c : ∃ b, f11_matches_21 gz_FU (nI i) (nI j) (nI 0) (nI 0) (gz_w Mc 0 15 0) = some b ∧ ∃ M', b = (nI (gp_mB (gp_mb T l i j) T.1), M') ∧ gp_fC Mc M' ∧ gp_wC M' ((List.range 4).map (gp_mrow T l i j)) := by
      refine gp_for (fun n x (a : Int32 × gz_M) => f11_matches_21 n (nI i) (nI j) a.1 (nI x) a.2) 4 (fun x a => a.1 = nI (gp_orN (fun m => gp_mB (gp_mP T l i j m) T.1) x) ∧ gp_fC Mc a.2 ∧ gp_wC a.2 ((List.range x).map (gp_mrow T l i j))) _ (fun n a hI => ?_) (fun n x a hx hI => Or.inr ?_) gz_FU 0 (nI 0, gz_w Mc 0 15 0) (by omega) (by unfold gz_FU; omega) ⟨rfl, (gp_wC0 Mc).1, (gp_wC0 Mc).2⟩
      · obtain ⟨a1, M1⟩ := a
        obtain ⟨rfl, i1, i2⟩ := hI
        refine ⟨_, ?_, M1, rfl, i1, i2⟩
        show f11_matches_21 (n + 1) _ _ _ (nI 4) M1 = _
        rw [f11_matches_21, if_pos (by decide), gp_mB_modes h1]
      · obtain ⟨a1, M1⟩ := a
        obtain ⟨i0, i1, i2⟩ := hI
        have i0 : a1 = nI (gp_orN (fun m => gp_mB (gp_mP T l i j m) T.1) x) := i0
        subst i0
        have i1 : gp_fC Mc M1 := i1
        have h2' : gp_tC 11 M1 T := h2.fr (fun c c1 c2 => i1.1 c (by omega))
        have h4' : gp_lC 9 M1 l := h4.fr (fun c c1 c2 => i1.1 c (by omega))
        obtain ⟨M2, g1, g2, g3⟩ := gp_tellC (gp_mrow T l i j x) i2 (by rw [List.length_map, List.length_range]; omega)
        have hS := (gp_ss_lt (T := T) (i := i) h1 hx (fun p hp => (h4.2.2 p hp).2) (j - i) (by omega)).2
        have hS10 := gp_lt10 h1 hx hS
        have e75 : ∀ v : Nat, v = gp_mB (gp_mP T l i j x) T.1 → f11_matches_75 (f11_matches_21 n) (nI i) (nI j) (nI (gp_orN (fun m => gp_mB (gp_mP T l i j m) T.1) x)) (nI x) (nI v) M1 = f11_matches_21 n (nI i) (nI j) (nI (gp_orN (fun m => gp_mB (gp_mP T l i j m) T.1) (x + 1))) (nI (x + 1)) M2 := by
          intro v hv
          unfold f11_matches_75
          have : (gp_o (gp_fst (gp_mP T l i j x) T.1 0)).toInt64 = gp_mrow T l i j x := rfl
          rw [gp_eL, hv, gp_firstP _ hw1, gp_eB2, this, g1, gp_eB, gp_eL, nI_1, gp_or]
          rfl
        refine ⟨(nI (gp_orN (fun m => gp_mB (gp_mP T l i j m) T.1) (x + 1)), M2), ?_, rfl, i1.trans g2, ?_⟩
        · show f11_matches_21 (n + 1) _ _ _ (nI x) M1 = _
          rw [f11_matches_21, if_neg (by exact nI_ge hx (by decide)), gp_standing h1 h2' h4' hx hij hj, gp_eB2]
          by_cases hz : i = j
          · rw [if_pos (by rw [hz]), gp_matching0 h1 h2' hx, gp_eB2]
            refine e75 _ (gp_mB_ext (fun k hk => ?_))
            unfold gp_mP gp_mb
            rw [if_pos hz]
          · rw [if_neg (fun e => hz ((nI_eq (by omega) (by omega)).mp e)), gp_matching h1 h2' hx hS10, gp_eB2]
            refine e75 _ (gp_mB_ext (fun k hk => ?_))
            unfold gp_mP gp_mb
            rw [if_neg hz]
            by_cases hm : T.2.2 1 k = x
            · rw [hm]
            · simp [hm]
        · rw [List.range_succ, List.map_append]
          exact g3
    -- the reference: bits
    have rb : f12_matches_21 gz_FU (nI i) (nI j) (nI 0) (nI 0) (gz_w Mr 0 5 0) = f12_matches_66 gz_FU (nI (gp_mB (gp_mb T l i j) T.1)) 0 (gz_w (gz_w Mr 0 5 0) 0 4 0) := by
      have key : ∃ b, f12_matches_66 gz_FU (nI (gp_mB (gp_mb T l i j) T.1)) 0 (gz_w (gz_w Mr 0 5 0) 0 4 0) = b := ⟨_, rfl⟩
      obtain ⟨b, hb⟩ := key
      rw [hb]
      have main : ∀ (d n x : Nat), x + d = T.1 → d < n → f12_matches_21 n (nI i) (nI j) (nI (gp_mB (gp_mb T l i j) x)) (nI x) (gz_w Mr 0 5 0) = b := by
        intro d
        induction d with
        | zero =>
          intro n x hx hn
          obtain ⟨n, rfl⟩ : ∃ q, n = q + 1 := ⟨n - 1, by omega⟩
          have : x = T.1 := by omega
          subst this
          rw [f12_matches_21, ht.1, if_pos (nI_le (Nat.le_refl _) (by omega)), gp_eL]
          exact hb
        | succ d ih =>
          intro n x hx hn
          obtain ⟨n, rfl⟩ : ∃ q, n = q + 1 := ⟨n - 1, by omega⟩
          have e := ih n (x + 1) (by omega) (by omega)
          rw [gp_mB_s] at e
          rw [f12_matches_21, ht.1, if_neg (nI_ge (by omega) (by omega)), gp_doesMatch h1 ht hl hij hj (by omega), gp_eB2]
          by_cases hc : gp_mb T l i j x = true
          · simp only [hc, if_true] at e ⊢
            rw [if_neg (by decide), gp_eL, gp_eL, nI_1, show (1 : Int32) = nI 1 from rfl, gp_shl1 (by omega), gp_or]
            exact e
          · simp only [hc, Bool.false_eq_true, if_false] at e ⊢
            rw [if_pos trivial, gp_eL, gp_eL, nI_1, show (0 : Int32) = nI 0 from rfl, gp_or]
            exact e
      exact main T.1 gz_FU 0 (by omega) (by unfold gz_FU; omega)
    have hB8 : gp_mB (gp_mb T l i j) T.1 < 2 ^ 8 := gp_mB_lt _ hw1
    have rr : ∃ b, f12_matches_66 gz_FU (nI (gp_mB (gp_mb T l i j) T.1)) (nI 0) (gz_w (gz_w Mr 0 5 0) 0 4 0) = some b ∧ ∃ M', b = (nI (gp_mB (gp_mb T l i j) T.1), M') ∧ gp_fR (gz_w Mr 0 5 0) M' ∧ gp_wR M' ((List.range 4).map (gp_mrow T l i j)) := by
      refine gp_for (fun n x (M1 : gz_M) => f12_matches_66 n (nI (gp_mB (gp_mb T l i j) T.1)) (nI x) M1) 4 (fun x M1 => gp_fR (gz_w Mr 0 5 0) M1 ∧ gp_wR M1 ((List.range x).map (gp_mrow T l i j))) _ (fun n M1 hI => ?_) (fun n x M1 hx hI => Or.inr ?_) gz_FU 0 (gz_w (gz_w Mr 0 5 0) 0 4 0) (by omega) (by unfold gz_FU; omega) ⟨(gp_wR0 _).1, (gp_wR0 _).2⟩
      · obtain ⟨i1, i2⟩ := hI
        refine ⟨_, ?_, M1, rfl, i1, i2⟩
        show f12_matches_66 (n + 1) _ (nI 4) M1 = _
        rw [f12_matches_66, if_pos (by decide)]
      · obtain ⟨i1, i2⟩ := hI
        have ht1 : gp_tR M1 T := ht.fr (fun c c1 c2 => i1.1 c (by omega)) (i1.2 _ (by omega))
        obtain ⟨M2, g1, g2, g3⟩ := gp_tellR (gp_mrow T l i j x) i2 (by rw [List.length_map, List.length_range]; omega)
        refine ⟨M2, ?_, i1.trans g2, ?_⟩
        · show f12_matches_66 (n + 1) _ (nI x) M1 = f12_matches_66 n _ (nI (x + 1)) M2
          rw [f12_matches_66, if_neg (by exact nI_ge hx (by decide)), ht1.1, gp_eL]
          have key : ∃ b, f12_matches_66 n (nI (gp_mB (gp_mb T l i j) T.1)) (nI (x + 1)) M2 = b := ⟨_, rfl⟩
          obtain ⟨b, hb⟩ := key
          rw [hb]
          have main : ∀ (d n' t : Nat), t + d = T.1 → d < n' → f12_matches_83 (f12_matches_66 n) n' (nI (gp_mB (gp_mb T l i j) T.1)) (nI x) (gp_o (gp_fst (gp_mP T l i j x) t (T.1 - t))) (gp_dn T.1 t) M1 = b := by
            intro d
            induction d with
            | zero =>
              intro n' t htt hn
              obtain ⟨n', rfl⟩ : ∃ q, n' = q + 1 := ⟨n' - 1, by omega⟩
              have : t = T.1 := by omega
              subst this
              rw [f12_matches_83, gp_dn_e, if_pos (by decide), Nat.sub_self]
              have : (gp_o (gp_fst (gp_mP T l i j x) T.1 0)).toInt64 = gp_mrow T l i j x := rfl
              rw [this, g1, gp_eB, gp_eL, nI_1]
              exact hb
            | succ d ih =>
              intro n' t htt hn
              obtain ⟨n', rfl⟩ : ∃ q, n' = q + 1 := ⟨n' - 1, by omega⟩
              have e := ih n' (t + 1) (by omega) (by omega)
              have hkk : T.1 - 1 - t < T.1 := by omega
              rw [gp_fst, show T.1 - (t + 1) = T.1 - 1 - t by omega, show T.1 - 1 - t + 1 = T.1 - t by omega] at e
              have hv := ht1.2.1 _ hkk
              have hwk := (h1.2.1 _ hkk).1
              rw [f12_matches_83, gp_dn_n (by omega), gp_dn_s (by omega), if_neg (nI_pos (by omega)), gp_ckb (by omega) (by omega), nI_clamp (by omega), hv.1]
              have ebit := gp_bit1L (a := gp_mB (gp_mb T l i j) T.1) (i := T.1 - 1 - t) (by omega) (by omega)
              rw [gp_mB_bit] at ebit
              by_cases hc : T.2.2 1 (T.1 - 1 - t) = x
              · rw [if_pos (by rw [hc])]
                by_cases hb2 : gp_mb T l i j (T.1 - 1 - t) = true
                · rw [if_pos (show (gz_shr (nI (gp_mB (gp_mb T l i j) T.1)) (nI (T.1 - 1 - t)) &&& (1 : Int32)) = (1 : Int32) by rw [ebit]; simp [hb2, hkk]), gp_eL]
                  rw [if_pos (by unfold gp_mP; simp [hc, hb2])] at e
                  exact e
                · rw [if_neg (show ¬ (gz_shr (nI (gp_mB (gp_mb T l i j) T.1)) (nI (T.1 - 1 - t)) &&& (1 : Int32)) = (1 : Int32) by rw [ebit]; simp [hb2]), gp_eL]
                  rw [if_neg (by unfold gp_mP; simp [hb2])] at e
                  exact e
              · rw [if_neg (fun e => hc ((nI_eq (by omega) (by omega)).mp e)), gp_eL]
                rw [if_neg (by unfold gp_mP; simp [hc])] at e
                exact e
          exact main T.1 gz_FU 0 (by omega) (by unfold gz_FU; omega)
        · rw [List.range_succ, List.map_append]
          exact g3
    obtain ⟨_, c1, Mc', rfl, c2, c3⟩ := c
    obtain ⟨_, r1, Mr', rfl, r2, r3⟩ := rr
    refine gp_ansI (v := nI (gp_mB (gp_mb T l i j) T.1)) ?_ ?_ (c2.qq (by omega)) ((gp_thr 0).1.trans r2.qq) c3 r3 (by simp)
    · unfold f11_matches
      rw [e1, gp_eB2, if_neg (by decide), gp_eL]
      exact c1
    · unfold f12_matches
      rw [gp_eL, e2, gp_eB2, if_neg (by decide)]
      exact rb.trans r1
end
