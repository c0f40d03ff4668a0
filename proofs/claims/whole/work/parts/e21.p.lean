/-! the bound of the rows: letters of the rule times standings of the earlier ones -/
section
variable {T : gp_T} {m k : Nat} {own : Nat → Nat → Nat}
def gq_subs : List Nat → List Nat
  | [] => [0]
  | y :: L => gq_subs L ++ (gq_subs L).map (fun v => v ||| 1 <<< y)
theorem gq_subs_len : ∀ L : List Nat, (gq_subs L).length = 2 ^ L.length
  | [] => rfl
  | y :: L => by rw [gq_subs, List.length_append, List.length_map, gq_subs_len L, List.length_cons, Nat.pow_succ]; omega
theorem gq_subs_mem : ∀ (L : List Nat) (v : Nat), (∀ y, v.testBit y = true → y ∈ L) → v ∈ gq_subs L
  | [], v, h => by
    have : v = 0 := Classical.byContradiction fun g => by
      obtain ⟨i, hi⟩ := gq_bit g
      exact absurd (h i hi) List.not_mem_nil
    rw [this]; exact List.mem_cons_self
  | y :: L, v, h => by
    rw [gq_subs, List.mem_append]
    by_cases e : v.testBit y = true
    · right
      refine List.mem_map.mpr ⟨v ^^^ (1 <<< y), gq_subs_mem L _ (fun z hz => ?_), Nat.eq_of_testBit_eq fun z => ?_⟩
      · rw [Nat.testBit_xor, Nat.one_shiftLeft, Nat.testBit_two_pow] at hz
        by_cases g : y = z
        · rw [← g, e] at hz; simp at hz
        · rw [decide_eq_false g, Bool.xor_false] at hz
          rcases List.mem_cons.mp (h z hz) with q | q
          · exact absurd q.symm g
          · exact q
      · rw [Nat.testBit_or, Nat.testBit_xor, Nat.one_shiftLeft, Nat.testBit_two_pow]
        by_cases g : y = z
        · rw [← g, e]; simp
        · rw [decide_eq_false g, Bool.xor_false, Bool.or_false]
    · left
      refine gq_subs_mem L v (fun z hz => ?_)
      rcases List.mem_cons.mp (h z hz) with q | q
      · rw [q] at hz; exact absurd hz e
      · exact q
theorem gq_mk_ex (own : Nat → Nat → Nat) (m k : Nat) : ∃ Mk, gq_mk own m k Mk := by
  refine ⟨gp_orN (fun y => if own m y < k then 1 <<< y else 0) 10, fun y => ?_⟩
  rw [gp_orN_bit]
  constructor
  · rintro ⟨i, h1, h2⟩
    split at h2
    · rename_i g
      rw [Nat.one_shiftLeft, Nat.testBit_two_pow] at h2
      rw [← of_decide_eq_true h2]; exact ⟨h1, g⟩
    · simp at h2
  · rintro ⟨h1, h2⟩
    exact ⟨y, h1, by rw [if_pos h2, Nat.one_shiftLeft, Nat.testBit_two_pow]; exact decide_eq_true rfl⟩
/-- the letters of a way to an end of k are k's -/
theorem gq_u_own (ho : gq_oT own T) (hm : m < 4) : ∀ (Z : List (Nat × Nat)) (x : Nat), x < 10 → gq_u T m (T.2.2 (10 + m) x) Z → own m (gq_ul x Z) = own m x ∧ ∀ q, q ∈ Z → q.2 < 10 ∧ own m q.2 = own m x
  | [], x, _, _ => ⟨rfl, fun q hq => by cases hq⟩
  | p :: Z, x, hx, hv => by
    obtain ⟨v1, v2, v3, v4, v5⟩ := hv
    obtain ⟨i1, i2⟩ := gq_u_own ho hm Z p.2 v2 v5
    have e : own m p.2 = own m x := ho.1 m hm x hx p.2 v3
    refine ⟨i1.trans e, fun q hq => ?_⟩
    rcases List.mem_cons.mp hq with g | g
    · rw [g]; exact ⟨v2, e⟩
    · exact ⟨(i2 q g).1, (i2 q g).2.trans e⟩
theorem gq_us_in (Mk : Nat) : ∀ (Z : List (Nat × Nat)) (nx : Nat) (r : Nat × Nat), r ∈ gq_us T m Mk nx Z → (∃ q, q ∈ Z ∧ q.2 = r.1) ∧ ∃ S, r.2 = S &&& Mk
  | [], _, _, h => by cases h
  | p :: Z, nx, r, h => by
    rw [gq_us] at h
    rcases List.mem_cons.mp h with g | g
    · rw [g]; exact ⟨⟨p, List.mem_cons_self, rfl⟩, _, rfl⟩
    · obtain ⟨⟨q, a, b⟩, c⟩ := gq_us_in Mk Z _ r g
      exact ⟨⟨q, List.mem_cons_of_mem _ a, b⟩, c⟩
theorem gq_count (ho : gq_oT own T) (hm : m < 4) (hk : k < T.1) (hmk : T.2.2 1 k = m) {Mk lx nx : Nat} (hM : gq_mk own m k Mk) {Z : List (Nat × Nat)} (hZ : Z ≠ []) (hu : gq_u T m lx Z) (he : (T.2.2 5 k).testBit (gq_ul 0 Z) = true) (hd : (gq_us T m Mk nx Z).Nodup) : Z.length ≤ ((List.range 10).filter (fun x => decide (own m x = k))).length * 2 ^ ((List.range 10).filter (fun x => decide (own m x < k))).length := by
  cases Z with
  | nil => exact absurd rfl hZ
  | cons p C =>
    obtain ⟨v1, v2, v3, v4, v5⟩ := hu
    obtain ⟨o1, o2⟩ := gq_u_own ho hm C p.2 v2 v5
    have ok := ho.2 k hk _ he
    rw [hmk] at ok
    have op : own m p.2 = k := o1.symm.trans ok
    have h1 := gq_sub (gq_us T m Mk nx (p :: C)) (((List.range 10).filter (fun x => decide (own m x = k))).flatMap (fun x => (gq_subs ((List.range 10).filter (fun x => decide (own m x < k)))).map (fun y => (x, y)))) hd (fun r hr => by
      obtain ⟨⟨q, q1, q2⟩, S, hS⟩ := gq_us_in Mk _ _ r hr
      have hq : q.2 < 10 ∧ own m q.2 = k := by
        rcases List.mem_cons.mp q1 with g | g
        · rw [g]; exact ⟨v2, op⟩
        · exact ⟨(o2 q g).1, (o2 q g).2.trans op⟩
      rw [q2] at hq
      refine List.mem_flatMap.mpr ⟨r.1, List.mem_filter.mpr ⟨List.mem_range.mpr hq.1, decide_eq_true hq.2⟩, List.mem_map.mpr ⟨r.2, gq_subs_mem _ _ (fun y hy => ?_), rfl⟩⟩
      rw [hS, Nat.testBit_and, Bool.and_eq_true] at hy
      obtain ⟨g1, g2⟩ := (hM y).mp hy.2
      exact List.mem_filter.mpr ⟨List.mem_range.mpr g1, decide_eq_true g2⟩)
    rw [gq_prod, gq_subs_len, gq_us_len] at h1
    exact h1
end
