/-! rules told as a text: the component's pieces as numbers -/
theorem gp_shl10 : ∀ v : Nat, v < 1024 → gz_shl (nI v) 10 = nI (v <<< 10) := by decide +kernel
def gp_pN (p : gp_P) : Nat := (p.1 ||| p.2.1 <<< 10) ||| (if p.2.2 = true then 1048576 else 0)
def gp_eO : Option gp_P → Int32
  | none => -1
  | some p => nI (gp_pN p)
def gp_sP (p : gp_P) : Prop := p.1 < 2 ^ 10 ∧ p.2.1 < 2 ^ 10
theorem gp_b20 (i : Nat) : Nat.testBit 1048576 i = decide (20 = i) := by
  rw [show 1048576 = 2 ^ 20 from rfl, Nat.testBit_two_pow]
theorem gp_pN_b (p : gp_P) (i : Nat) : (gp_pN p).testBit i = (p.1.testBit i || (decide (10 ≤ i) && p.2.1.testBit (i - 10)) || (p.2.2 && decide (20 = i))) := by
  unfold gp_pN
  rw [Nat.testBit_or, Nat.testBit_or, Nat.testBit_shiftLeft]
  cases p.2.2 with
  | false => simp
  | true => simp only [if_true, gp_b20]; rfl
theorem gp_hi {a n i : Nat} (h : a < 2 ^ n) (hi : n ≤ i) : a.testBit i = false := Nat.testBit_lt_two_pow (Nat.lt_of_lt_of_le h (Nat.pow_le_pow_right (by decide) hi))
theorem gp_pN_1 {p : gp_P} (h : gp_sP p) : gp_pN p &&& 1023 = p.1 := by
  apply Nat.eq_of_testBit_eq
  intro i
  rw [Nat.testBit_and, gp_pN_b, show 1023 = 2 ^ 10 - 1 from rfl, Nat.testBit_two_pow_sub_one]
  by_cases hi : i < 10
  · rw [show decide (10 ≤ i) = false from by simp; omega, show decide (20 = i) = false from by simp; omega, show decide (i < 10) = true from by simp [hi]]
    simp
  · rw [show decide (i < 10) = false from by simp; omega, gp_hi h.1 (by omega)]
    simp
theorem gp_pN_2 {p : gp_P} (h : gp_sP p) : (gp_pN p >>> 10) &&& 1023 = p.2.1 := by
  apply Nat.eq_of_testBit_eq
  intro i
  rw [Nat.testBit_and, Nat.testBit_shiftRight, gp_pN_b, show 1023 = 2 ^ 10 - 1 from rfl, Nat.testBit_two_pow_sub_one, gp_hi h.1 (by omega)]
  by_cases hi : i < 10
  · rw [show decide (10 ≤ 10 + i) = true from by simp, show decide (20 = 10 + i) = false from by simp; omega, show decide (i < 10) = true from by simp [hi], show 10 + i - 10 = i by omega]
    simp
  · rw [show decide (i < 10) = false from by simp; omega]
    simp
    exact gp_hi h.2 (by omega)
theorem gp_pN_3 {p : gp_P} (h : gp_sP p) : gp_pN p &&& 1048576 = if p.2.2 = true then 1048576 else 0 := by
  apply Nat.eq_of_testBit_eq
  intro i
  rw [Nat.testBit_and, gp_pN_b, gp_b20]
  by_cases hi : 20 = i
  · subst hi
    rw [gp_hi h.1 (by omega), gp_hi h.2 (by omega)]
    cases p.2.2 <;> decide
  · rw [show decide (20 = i) = false from by simp [hi]]
    cases p.2.2 with
    | false => simp
    | true => simp [gp_b20, hi]
theorem gp_pN_4 {p : gp_P} (h : gp_sP p) : gp_pN p ||| 1048576 = gp_pN (p.1, p.2.1, true) := by
  apply Nat.eq_of_testBit_eq
  intro i
  rw [Nat.testBit_or, gp_pN_b, gp_pN_b, gp_b20]
  cases p.2.2 <;> cases p.1.testBit i <;> cases (decide (10 ≤ i) && p.2.1.testBit (i - 10)) <;> cases decide (20 = i) <;> rfl
theorem gp_pN_lt {p : gp_P} (h : gp_sP p) : gp_pN p < 2 ^ 21 := by
  refine Nat.or_lt_two_pow (Nat.or_lt_two_pow (Nat.lt_of_lt_of_le h.1 (by decide)) ?_) ?_
  · rw [Nat.shiftLeft_eq]
    have := h.2
    omega
  · split <;> decide
theorem gp_mg_s {c p : gp_P} (hc : gp_sP c) (hp : gp_sP p) : gp_sP (gp_mgP c p) := by
  refine ⟨Nat.or_lt_two_pow hc.1 ?_, Nat.or_lt_two_pow hp.2 ?_⟩
  · split
    · exact hp.1
    · decide
  · split
    · exact hc.2
    · decide
theorem gp_mgN {c p : gp_P} (hc : gp_sP c) (hp : gp_sP p) : ((gp_mgP c p).1 ||| (gp_mgP c p).2.1 <<< 10) ||| ((gp_pN c &&& gp_pN p) &&& 1048576) = gp_pN (gp_mgP c p) := by
  unfold gp_pN
  congr 1
  rw [show ((c.1 ||| c.2.1 <<< 10) ||| (if c.2.2 = true then 1048576 else 0)) = gp_pN c from rfl, show ((p.1 ||| p.2.1 <<< 10) ||| (if p.2.2 = true then 1048576 else 0)) = gp_pN p from rfl, Nat.and_assoc, gp_pN_3 hp]
  show _ = if (c.2.2 && p.2.2) = true then 1048576 else 0
  cases p.2.2 with
  | false => simp
  | true =>
    rw [if_pos rfl, gp_pN_3 hc]
    simp
theorem gp_unN (c p : gp_P) : gp_pN c ||| gp_pN p = gp_pN (gp_unP c p) := by
  apply Nat.eq_of_testBit_eq
  intro i
  rw [Nat.testBit_or, gp_pN_b, gp_pN_b, gp_pN_b]
  unfold gp_unP
  dsimp only
  rw [Nat.testBit_or, Nat.testBit_or]
  cases c.1.testBit i <;> cases p.1.testBit i <;> cases decide (10 ≤ i) <;> cases c.2.1.testBit (i - 10) <;> cases p.2.1.testBit (i - 10) <;> cases c.2.2 <;> cases p.2.2 <;> cases decide (20 = i) <;> rfl
section
variable {p : gp_P} {M : gz_M}
theorem gp_fOf (h : gp_sP p) (M : gz_M) : f1_firstOf (nI (gp_pN p)) M = some (nI p.1, M) := by
  unfold f1_firstOf
  rw [show (1023 : Int32) = nI 1023 from rfl, gp_and, gp_pN_1 h]
theorem gp_lOf (h : gp_sP p) (M : gz_M) : f1_lastOf (nI (gp_pN p)) M = some (nI p.2.1, M) := by
  unfold f1_lastOf
  have := gp_pN_lt h
  rw [show (10 : Int32) = nI 10 from rfl, gp_shr (by omega) (by omega), show (1023 : Int32) = nI 1023 from rfl, gp_and, gp_pN_2 h]
theorem gp_mOf (h : gp_sP p) (M : gz_M) : f1_mayBeEmpty (nI (gp_pN p)) M = some ((if p.2.2 = true then 1 else 0), M) := by
  unfold f1_mayBeEmpty
  rw [show (1048576 : Int32) = nI 1048576 from rfl, gp_and, gp_pN_3 h]
  cases p.2.2 with
  | false => exact if_pos nI_0
  | true => exact if_neg (show ¬ nI 1048576 = 0 by decide)
end
