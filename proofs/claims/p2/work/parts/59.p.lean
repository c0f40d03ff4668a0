/-! standings of stretches: 20 longest, 22 stands, 30 same -/
/-- behind t signs from place i on: what may come, what stands -/
def gp_ss (T : gp_T) (m : Nat) (l : List Nat) (i : Nat) : Nat → Nat × Nat
  | 0 => (T.2.2 8 m, 0)
  | t + 1 => (gp_aft T m ((gp_ss T m l i t).1 &&& T.2.2 (15 + m) (l.getD (i + t) 0)), (gp_ss T m l i t).1 &&& T.2.2 (15 + m) (l.getD (i + t) 0))
def gp_bc (a : Int32) : Int32 := match fJ_bitCount a ((fun _ _ => 0), fun _ => 0) with
  | some v => v.1
  | none => 0
theorem gp_bitCount (a : Int32) (M : gz_M) : fJ_bitCount a M = some (gp_bc a, M) := rfl
section
variable {B : Prop} {k k0 k1 m S s x p cu i j : Nat} {M M' Mc Mr Mc' Mr' : gz_M} {T : gp_T} {l : List Nat} {ts : List gp_K} {r : List Int64}
theorem gp_ss_lt (hw : gp_wT T) (hm : m < 4) (hl : ∀ p, p < l.length → l.getD p 0 < 8) : ∀ t, i + t ≤ l.length → (gp_ss T m l i t).1 < 2 ^ T.2.2 7 m ∧ (gp_ss T m l i t).2 < 2 ^ T.2.2 7 m
  | 0, _ => ⟨(hw.2.2 m hm).2.1, Nat.two_pow_pos _⟩
  | t + 1, h => ⟨gp_aft_lt hw hm _, Nat.lt_of_le_of_lt Nat.and_le_right ((hw.2.2 m hm).2.2.2 _ (hl _ (by omega)))⟩
theorem gp_aft0 (T : gp_T) (m : Nat) : gp_aft T m 0 = 0 := by
  unfold gp_aft
  have : ∀ n, gp_orN (fun x => if (0 : Nat).testBit x = true then T.2.2 (10 + m) x else 0) n = 0 := by
    intro n
    induction n with
    | zero => rfl
    | succ n ih => rw [gp_orN, ih]; simp
  exact this 10
theorem gp_ss_dead (T : gp_T) (m : Nat) (l : List Nat) (i : Nat) : ∀ t d, (gp_ss T m l i (t + 1)).2 = 0 → (gp_ss T m l i (t + 1 + d)).2 = 0 ∧ (gp_ss T m l i (t + 1 + d)).1 = 0
  | t, 0, h => ⟨h, by
    show gp_aft T m (gp_ss T m l i (t + 1)).2 = 0
    rw [h, gp_aft0]⟩
  | t, d + 1, h => by
    obtain ⟨h1, h2⟩ := gp_ss_dead T m l i t d h
    have : (gp_ss T m l i (t + 1 + d + 1)).2 = 0 := by
      show (gp_ss T m l i (t + 1 + d)).1 &&& _ = 0
      rw [h2, Nat.zero_and]
    refine ⟨this, ?_⟩
    show gp_aft T m (gp_ss T m l i (t + 1 + d + 1)).2 = 0
    rw [this, gp_aft0]
theorem gp_standing (hw : gp_wT T) (h : gp_tC k0 M T) (hl : gp_lC k1 M l) (hm : m < 4) (hij : i ≤ j) (hj : j ≤ l.length) : f7_standing k0 k1 (nI m) (nI i) (nI j) M = some (nI (gp_ss T m l i (j - i)).2, M) := by
  have hl1 := hl.1
  unfold f7_standing
  rw [gp_atFirst h hm, gp_eB2]
  refine gp_forE (fun n x (a : Int32 × Int32) => f7_standing_13 k0 k1 n (nI m) (nI j) a.1 a.2 (nI (i + x)) M) (j - i) (fun x a => a = (nI (gp_ss T m l i x).1, nI (gp_ss T m l i x).2)) _ (fun n a hI => ?_) (fun n x a hx hI => Or.inr ?_) gz_FU 0 (nI (T.2.2 8 m), nI 0) (by omega) (by unfold gz_FU; omega) rfl
  · subst hI
    show f7_standing_13 k0 k1 (n + 1) (nI m) (nI j) _ _ (nI (i + (j - i))) M = _
    rw [f7_standing_13, if_pos (nI_le (by omega) (by omega))]
  · subst hI
    refine ⟨_, ?_, rfl⟩
    show f7_standing_13 k0 k1 (n + 1) (nI m) (nI j) _ _ (nI (i + x)) M = f7_standing_13 k0 k1 n (nI m) (nI j) _ _ (nI (i + (x + 1))) M
    have hs := (hl.2.2 (i + x) (by omega)).2
    have h1 := gp_ss_lt (T := T) (i := i) hw hm (fun p hp => (hl.2.2 p hp).2) (x + 1) (by omega)
    rw [f7_standing_13, if_neg (nI_ge (by omega) (by omega)), gp_lget hl (by omega), gp_eB2, gp_takersOf h hm hs, gp_eB2, gp_eL, gp_and, show (gp_ss T m l i x).1 &&& T.2.2 (15 + m) (l.getD (i + x) 0) = (gp_ss T m l i (x + 1)).2 from rfl, gp_after h hm (gp_lt10 hw hm h1.2), gp_eB2, gp_eL, nI_1]
    rfl
theorem gp_stepS (hw : gp_wT T) (h : gp_tR M T) (hl : gp_lR M l) (hm : m < 4) (t : Nat) (ht : i + t < l.length) (s0 : Int32) (hs0 : s0 = if t = 0 then 1 else 0) : gz_ck (gz_inb (82 + nI (i + t)) 106) (f12_step (nI m) (nI (gp_ss T m l i t).2) s0 (M.1 1 (82 + nI (i + t)).toNatClampNeg) M) = some (nI (gp_ss T m l i (t + 1)).2, M) := by
  have hl1 := hl.1
  have hv := hl.2.2 (i + t) ht
  rw [show (82 : Int32) = nI 82 from rfl, nI_add, gp_ckb (by omega) (by omega), nI_clamp (by omega), hv.1]
  cases t with
  | zero =>
    rw [if_pos rfl] at hs0
    subst hs0
    rw [gp_stepR1 hw h hm hv.2]
    rfl
  | succ t =>
    rw [if_neg (by omega)] at hs0
    subst hs0
    have h1 := gp_ss_lt (T := T) (i := i) hw hm (fun p hp => (hl.2.2 p hp).2) (t + 1) (by omega)
    rw [gp_stepR hw h hm hv.2 h1.2]
    rfl
theorem gp_standR (hw : gp_wT T) (h : gp_tR M T) (hl : gp_lR M l) (hm : m < 4) (hij : i ≤ j) (hj : j ≤ l.length) : f12_standingBehind (nI m) (nI i) (nI j) M = some (nI (gp_ss T m l i (j - i)).2, M) := by
  have hl1 := hl.1
  unfold f12_standingBehind
  refine gp_forE (fun n x (a : Int32) => f12_standingBehind_6 n (nI m) (nI i) (nI j) a (nI (i + x)) M) (j - i) (fun x a => a = nI (gp_ss T m l i x).2) _ (fun n a hI => ?_) (fun n x a hx hI => ?_) gz_FU 0 (nI 0) (by omega) (by unfold gz_FU; omega) rfl
  · subst hI
    show f12_standingBehind_6 (n + 1) (nI m) (nI i) (nI j) _ (nI (i + (j - i))) M = _
    rw [f12_standingBehind_6, if_pos (nI_le (by omega) (by omega))]
  · subst hI
    show f12_standingBehind_6 (n + 1) (nI m) (nI i) (nI j) _ (nI (i + x)) M = _ ∨ ∃ s', f12_standingBehind_6 (n + 1) (nI m) (nI i) (nI j) _ (nI (i + x)) M = f12_standingBehind_6 n (nI m) (nI i) (nI j) s' (nI (i + (x + 1))) M ∧ s' = nI (gp_ss T m l i (x + 1)).2
    have e23 : f12_standingBehind_23 (f12_standingBehind_6 n) (nI m) (nI i) (nI j) (nI (gp_ss T m l i x).2) (nI (i + x)) M = f12_standingBehind_6 n (nI m) (nI i) (nI j) (nI (gp_ss T m l i (x + 1)).2) (nI (i + (x + 1))) M := by
      have e38 : ∀ s0 : Int32, (s0 = if x = 0 then 1 else 0) → f12_standingBehind_38 (f12_standingBehind_6 n) (nI m) (nI i) (nI j) (nI (i + x)) s0 (nI (gp_ss T m l i x).2) (nI m) M = f12_standingBehind_6 n (nI m) (nI i) (nI j) (nI (gp_ss T m l i (x + 1)).2) (nI (i + (x + 1))) M := by
        intro s0 hs0
        have e := gp_stepS (i := i) hw h hl hm x (by omega) s0 hs0
        unfold f12_standingBehind_38
        have hck : gz_inb (82 + nI (i + x)) 106 = true := by rw [show (82 : Int32) = nI 82 from rfl, nI_add]; exact gp_inb (by omega) (by omega)
        rw [hck, gp_eC] at e ⊢
        rw [e, gp_eB2, gp_eL, nI_1]
        rfl
      unfold f12_standingBehind_23
      by_cases hx0 : x = 0
      · rw [if_pos (by rw [hx0]; rfl), e38 1 (by rw [if_pos hx0])]
      · rw [if_neg (fun e => by have := (nI_eq (by omega) (by omega)).mp e; omega), e38 0 (by rw [if_neg hx0])]
    rw [f12_standingBehind_6, if_neg (nI_ge (by omega) (by omega)), e23]
    by_cases hx0 : x = 0
    · right
      exact ⟨_, if_pos (by rw [hx0]; rfl), rfl⟩
    · rw [if_neg (show ¬ nI (i + x) = nI i from fun e => by have := (nI_eq (by omega) (by omega)).mp e; omega)]
      by_cases hz : (gp_ss T m l i x).2 = 0
      · left
        rw [hz, if_pos nI_0]
        obtain ⟨t, rfl⟩ : ∃ t, x = t + 1 := ⟨x - 1, by omega⟩
        have := (gp_ss_dead T m l i t (j - i - (t + 1)) hz).1
        rw [show t + 1 + (j - i - (t + 1)) = j - i by omega] at this
        rw [this]
      · right
        have h1 := gp_ss_lt (T := T) (i := i) hw hm (fun p hp => (hl.2.2 p hp).2) x (by omega)
        have := gp_lt10 hw hm h1.2
        exact ⟨_, if_neg (show ¬ nI (gp_ss T m l i x).2 = (0 : Int32) from fun e => hz ((nI_eq (b := 0) (by omega) (by omega)).mp e)), rfl⟩
/-- stretches: both sides say the same -/
theorem gp_strE {Mc Mr : gz_M} (hc : gp_lC 9 Mc l) (hr : gp_lR Mr l) (a b : Int32) : (f11_isStretch a b Mc = some (0, Mc) ∧ f12_isStretch a b Mr = some (0, Mr)) ∨ (∃ i j, i ≤ j ∧ j ≤ l.length ∧ a = nI i ∧ b = nI j ∧ f11_isStretch a b Mc = some (1, Mc) ∧ f12_isStretch a b Mr = some (1, Mr)) := by
  have h24 := hc.1
  unfold f11_isStretch f12_isStretch
  rw [gp_c81, gp_k81, hr.2.1, show (7 + 2 : Nat) = 9 from rfl, hc.2.1]
  by_cases h1 : a < 0
  · left
    rw [if_pos h1, if_pos h1]
    exact ⟨rfl, rfl⟩
  · rw [if_neg h1, if_neg h1]
    by_cases h2 : b < a
    · left
      rw [if_pos h2, if_pos h2]
      exact ⟨rfl, rfl⟩
    · rw [if_neg h2, if_neg h2]
      by_cases h3 : nI l.length < b
      · left
        rw [if_pos h3, if_pos h3]
        exact ⟨rfl, rfl⟩
      · right
        rw [if_neg h3, if_neg h3]
        obtain ⟨i, hi, rfl⟩ := nI_of h1
        have hb0 : ¬ b < 0 := fun h => h1 (by
          have a1 : ¬ b.toInt < (nI i).toInt := fun h => h2 (Int32.lt_iff_toInt_lt.mpr h)
          have a2 := Int32.lt_iff_toInt_lt.mp h
          rw [nI_toInt hi] at a1
          rw [show ((0 : Int32)).toInt = 0 by decide] at a2
          omega)
        obtain ⟨j, hj, rfl⟩ := nI_of hb0
        refine ⟨i, j, ?_, ?_, rfl, rfl, rfl, rfl⟩
        · apply Classical.byContradiction
          intro h
          exact h2 (nI_lt (by omega) hi)
        · apply Classical.byContradiction
          intro h
          exact h3 (nI_lt (by omega) hj)
/-! promise 30: same -/
theorem gp_a30 (h : gp_Q B cu Mc Mr T l) (a b c d e : Int32) : gp_ans B cu Mc Mr (f11_same a b c d e Mc) (f12_same a b c d e Mr) := by
  have hq := h
  obtain ⟨h1, h2, h3, h4, h5, h6, h7, h8⟩ := h
  have hcu := h6.1
  have ht : gp_tR (gz_w Mr 0 5 0) T := h3.fr (fun c c1 c2 => gp_wc _ (by omega)) (gp_gn (by omega))
  have hl : gp_lR (gz_w Mr 0 5 0) l := h5.fr (gp_wc _ (by omega))
  have no : f11_same a b c d e Mc = some (-1, Mc) → f12_same a b c d e Mr = some (-1, gz_w Mr 0 5 0) → gp_ans B cu Mc Mr (f11_same a b c d e Mc) (f12_same a b c d e Mr) := gp_ansN hq (-1)
  rcases gp_isModeE a with ⟨_, _, m, hm, rfl⟩ | ⟨_, hE⟩
  · rcases gp_strE h4 hl b c with ⟨e1, e2⟩ | ⟨i, j, hij, hj, rfl, rfl, e1, e2⟩
    · refine no ?_ ?_
      · unfold f11_same; rw [gp_isMode hm, gp_eB2, if_neg (by decide), e1]; rfl
      · unfold f12_same; rw [gp_eL, gp_isModeR hm, gp_eB2, if_neg (by decide), e2]; rfl
    · rcases gp_strE h4 hl d e with ⟨f1, f2⟩ | ⟨k, n, hkn, hn, rfl, rfl, f1, f2⟩
      · refine no ?_ ?_
        · unfold f11_same
          rw [gp_isMode hm, gp_eB2, if_neg (by decide), e1, gp_eB2, if_neg (by decide), f1]
          split <;> rfl
        · unfold f12_same; rw [gp_eL, gp_isModeR hm, gp_eB2, if_neg (by decide), e2, gp_eB2, if_neg (by decide), f2]; rfl
      · by_cases hz1 : nI i = nI j
        · refine no ?_ ?_
          · unfold f11_same
            rw [gp_isMode hm, gp_eB2, if_neg (by decide), e1, gp_eB2, if_neg (by decide), if_pos hz1]
          · unfold f12_same; rw [gp_eL, gp_isModeR hm, gp_eB2, if_neg (by decide), e2, gp_eB2, if_neg (by decide), f2, gp_eB2, if_neg (by decide), if_pos hz1]
        · by_cases hz2 : nI k = nI n
          · refine no ?_ ?_
            · unfold f11_same
              rw [gp_isMode hm, gp_eB2, if_neg (by decide), e1, gp_eB2, if_neg (by decide), if_neg hz1, f1, gp_eB2, if_neg (by decide), if_pos hz2]
            · unfold f12_same; rw [gp_eL, gp_isModeR hm, gp_eB2, if_neg (by decide), e2, gp_eB2, if_neg (by decide), f2, gp_eB2, if_neg (by decide), if_neg hz1, if_pos hz2]
          · obtain ⟨M2, g1, g2, g3⟩ := gp_tellC (gp_bc (nI (gp_ss T m l i (j - i)).2 &&& nI (gp_ss T m l k (n - k)).2)).toInt64 (gp_wC0 Mc).2 (by simp)
            obtain ⟨N2, n1, n2, n3⟩ := gp_tellR (gp_bc (nI (gp_ss T m l i (j - i)).2 &&& nI (gp_ss T m l k (n - k)).2)).toInt64 (gp_wR0 (gz_w Mr 0 5 0)).2 (by simp)
            refine gp_ansI (v := if nI (gp_ss T m l i (j - i)).2 = nI (gp_ss T m l k (n - k)).2 then 1 else 0) ?_ ?_ (((gp_wC0 Mc).1.trans g2).qq (by omega)) ((gp_thr 0).1.trans ((gp_wR0 _).1.trans n2).qq) g3 n3 (by simp)
            · unfold f11_same
              rw [gp_isMode hm, gp_eB2, if_neg (by decide), e1, gp_eB2, if_neg (by decide), if_neg hz1, f1, gp_eB2, if_neg (by decide), if_neg hz2, gp_standing h1 h2 h4 hm hij hj, gp_eB2, gp_standing h1 h2 h4 hm hkn hn, gp_eB2, gp_eL, gp_bitCount, gp_eB2, g1, gp_eB]
              split <;> rfl
            · unfold f12_same
              rw [gp_eL, gp_isModeR hm, gp_eB2, if_neg (by decide), e2, gp_eB2, if_neg (by decide), f2, gp_eB2, if_neg (by decide), if_neg hz1, if_neg hz2, gp_standR h1 ht hl hm hij hj, gp_eB2, gp_standR h1 ht hl hm hkn hn, gp_eB2, gp_eL, gp_bitCount, gp_eB2, n1, gp_eB]
              split <;> rfl
  · refine no ?_ ?_
    · unfold f11_same; rw [(hE _).1]; rfl
    · unfold f12_same; rw [gp_eL, (hE _).2]; rfl
end
