/-! the bound of the rows: overlap tells 25 signs at most -/
section
variable {T : gp_T} {m nx ny S k j x y h : Nat} {own : Nat → Nat → Nat} {E : gp_E} {fr : Option Nat}
theorem gq_bit {n : Nat} (h : n ≠ 0) : ∃ i, n.testBit i = true := Classical.byContradiction fun c => h (Nat.eq_of_testBit_eq fun i => by
  rw [Nat.zero_testBit]
  cases e : n.testBit i with
  | false => rfl
  | true => exact absurd ⟨i, e⟩ c)
theorem gq_run_app (T : gp_T) (m s : Nat) : ∀ (w : List Nat) (S : Nat), gq_run T m S (w ++ [s]) = gp_aft T m (gq_run T m S w) &&& T.2.2 (15 + m) s
  | [], _ => rfl
  | z :: w, S => by
    show gq_run T m _ (w ++ [s]) = gp_aft T m (gq_run T m _ w) &&& _
    exact gq_run_app T m s w _
def gq_rc (T : gp_T) (m S : Nat) : Prop := ∃ s w, s < 8 ∧ (∀ z, z ∈ w → z < 8) ∧ gq_run T m (T.2.2 8 m &&& T.2.2 (15 + m) s) w = S
theorem gq_rc.go (h : gq_rc T m S) {s : Nat} (hs : s < 8) : gq_rc T m (gp_aft T m S &&& T.2.2 (15 + m) s) := by
  obtain ⟨z, w, h1, h2, h3⟩ := h
  refine ⟨z, w ++ [s], h1, fun u hu => ?_, by rw [gq_run_app, h3]⟩
  rcases List.mem_append.mp hu with g | g
  · exact h2 u g
  · rw [List.mem_singleton.mp g]; exact hs
def gq_rE (T : gp_T) (m : Nat) (E : gp_E) : Prop := ∀ e, e ∈ E → gq_rc T m e.1
theorem gq_rE.spr (h : gq_rE T m E) (hn : ∀ s, s < 8 → gq_rc T m (nx &&& T.2.2 (15 + m) s)) : ∀ x, x ≤ 8 → gq_rE T m (gp_spr T m nx fr E x)
  | 0, _ => h
  | x + 1, hx => by
    have ih := h.spr hn x (by omega)
    show gq_rE T m (gp_fnd _ _ _ _)
    unfold gp_fnd
    split
    · exact ih
    · intro e he
      rcases List.mem_append.mp he with g | g
      · exact ih e g
      · rw [List.mem_singleton.mp g]
        exact hn x (by omega)
theorem gq_rE.exF : ∀ (d h : Nat) (E : gp_E), gq_rE T m E → gq_rE T m (gp_exF T m d h E)
  | 0, _, _, hE => hE
  | d + 1, h, E, hE => by
    rw [gp_exF]
    split
    · rename_i hh
      exact gq_rE.exF d (h + 1) _ (hE.spr (fun s hs => (hE _ (gp_getD_mem hh)).go hs) 8 (Nat.le_refl _))
    · exact hE
theorem gq_rex (T : gp_T) (m : Nat) : gq_rE T m (gp_ex T m) := gq_rE.exF 1024 0 _ (gq_rE.spr (fun e he => absurd he List.not_mem_nil) (fun s hs => ⟨s, [], hs, fun z hz => absurd hz List.not_mem_nil, rfl⟩) 8 (Nat.le_refl _))
theorem gq_v_own (ho : gq_oT own T) (hm : m < 4) : ∀ (Z : List (Nat × Nat × Nat)) (p : Nat × Nat × Nat), p.2.1 < 10 → p.2.2 < 10 → gq_v T m (T.2.2 (10 + m) p.2.1) (T.2.2 (10 + m) p.2.2) Z → (∀ q, q ∈ p :: Z → own m q.2.1 = own m p.2.1 ∧ own m q.2.2 = own m p.2.2 ∧ q.2.1 < 10 ∧ q.2.2 < 10) ∧ gq_la p Z ∈ p :: Z
  | [], p, h1, h2, _ => ⟨fun q hq => by rw [List.mem_singleton.mp hq]; exact ⟨rfl, rfl, h1, h2⟩, List.mem_cons_self⟩
  | z :: Z, p, h1, h2, hv => by
    obtain ⟨v1, v2, v3, v4, v5, v6, v7, v8⟩ := hv
    obtain ⟨i1, i2⟩ := gq_v_own ho hm Z z v2 v3 v8
    have ex : own m z.2.1 = own m p.2.1 := ho.1 m hm p.2.1 h1 z.2.1 v4
    have ey : own m z.2.2 = own m p.2.2 := ho.1 m hm p.2.2 h2 z.2.2 v5
    refine ⟨fun q hq => ?_, List.mem_cons_of_mem _ i2⟩
    rcases List.mem_cons.mp hq with g | g
    · rw [g]; exact ⟨rfl, rfl, h1, h2⟩
    · obtain ⟨a, b, c, d⟩ := i1 q g
      exact ⟨a.trans ex, b.trans ey, c, d⟩
theorem gq_sub {α : Type} [DecidableEq α] : ∀ (L M : List α), L.Nodup → (∀ x, x ∈ L → x ∈ M) → L.length ≤ M.length
  | [], _, _, _ => Nat.zero_le _
  | a :: L, M, hd, hs => by
    have ha := hs a List.mem_cons_self
    have hd := List.nodup_cons.mp hd
    have := gq_sub L (M.erase a) hd.2 (fun x hx => (List.mem_erase_of_ne (fun (e : x = a) => hd.1 (by rw [← e]; exact hx))).mpr (hs x (List.mem_cons_of_mem _ hx)))
    rw [List.length_erase_of_mem ha] at this
    have h0 : 0 < M.length := List.length_pos_of_mem ha
    rw [List.length_cons]; omega
theorem gq_prod {α β : Type} (LY : List β) : ∀ LX : List α, (LX.flatMap (fun x => LY.map (fun y => (x, y)))).length = LX.length * LY.length
  | [] => by simp
  | a :: LX => by
    rw [List.flatMap_cons, List.length_append, gq_prod LY LX, List.length_map, List.length_cons, Nat.succ_mul, Nat.add_comm]
theorem gq_two (p q : Nat → Bool) (hpq : ∀ x, p x = true → q x = true → False) : ∀ L : List Nat, (L.filter p).length + (L.filter q).length ≤ L.length
  | [] => Nat.le_refl _
  | a :: L => by
    have := gq_two p q hpq L
    rw [List.filter_cons, List.filter_cons, List.length_cons]
    by_cases h1 : p a = true
    · have h2 : ¬ q a = true := fun g => hpq a h1 g
      rw [if_pos h1, if_neg h2, List.length_cons]; omega
    · rw [if_neg h1]
      split
      · rw [List.length_cons]; omega
      · omega
theorem gq_25 : ∀ a, a < 11 → ∀ b, b < 11 → a + b ≤ 10 → a * b ≤ 25 := by decide
theorem gq_pairs (hkj : k ≠ j) {P : List (Nat × Nat)} (hd : P.Nodup) (hP : ∀ p, p ∈ P → own m p.1 = k ∧ own m p.2 = j ∧ p.1 < 10 ∧ p.2 < 10) : P.length ≤ 25 := by
  have h1 := gq_sub P (((List.range 10).filter (fun x => decide (own m x = k))).flatMap (fun x => ((List.range 10).filter (fun x => decide (own m x = j))).map (fun y => (x, y)))) hd (fun p hp => by
    obtain ⟨a, b, c, d⟩ := hP p hp
    refine List.mem_flatMap.mpr ⟨p.1, List.mem_filter.mpr ⟨List.mem_range.mpr c, decide_eq_true a⟩, List.mem_map.mpr ⟨p.2, List.mem_filter.mpr ⟨List.mem_range.mpr d, decide_eq_true b⟩, rfl⟩⟩)
  rw [gq_prod] at h1
  have h2 := gq_two (fun x => decide (own m x = k)) (fun x => decide (own m x = j)) (fun x g1 g2 => hkj ((of_decide_eq_true g1).symm.trans (of_decide_eq_true g2))) (List.range 10)
  rw [List.length_range] at h2
  exact Nat.le_trans h1 (gq_25 _ (by omega) _ (by omega) h2)
theorem gq_lt10b (hw : gp_wT T) (hm : m < 4) {s u A : Nat} (hs : s < 8) (h : (A &&& T.2.2 (15 + m) s).testBit u = true) : u < 10 := by
  rw [Nat.testBit_and, Bool.and_eq_true] at h
  refine Classical.byContradiction fun hn => ?_
  have := Nat.testBit_lt_two_pow (x := T.2.2 (15 + m) s) (i := u) (Nat.lt_of_lt_of_le (gp_lt10 hw hm ((hw.2.2 m hm).2.2.2 s hs)) (Nat.pow_le_pow_right (by decide) (by omega)))
  rw [this] at h
  exact absurd h.2 (by decide)
theorem gq_ovl (hw : gp_wT T) (ho : gq_oT own T) (hk : k < T.1) (hj : j < T.1) (hkj : k ≠ j) (hmj : T.2.2 1 k = T.2.2 1 j) (hh : h < (gp_ex T (T.2.2 1 k)).length) (h1 : T.2.2 5 k &&& ((gp_ex T (T.2.2 1 k)).getD h gp_e0).1 ≠ 0) (h2 : T.2.2 5 j &&& ((gp_ex T (T.2.2 1 k)).getD h gp_e0).1 ≠ 0) (hf : ∀ g, g < h → ¬ (T.2.2 5 k &&& ((gp_ex T (T.2.2 1 k)).getD g gp_e0).1 ≠ 0 ∧ T.2.2 5 j &&& ((gp_ex T (T.2.2 1 k)).getD g gp_e0).1 ≠ 0)) : (gp_pth (gp_ex T (T.2.2 1 k)) 1024 h).length ≤ 25 := by
  have hm := (hw.2.1 k hk).1
  have ok := ho.2 k hk
  have oj := ho.2 j hj
  rw [← hmj] at oj
  generalize T.2.2 1 k = m at *
  obtain ⟨s, w, r1, r2, r3⟩ := gq_rex T m _ (gp_getD_mem (d := gp_e0) hh)
  rw [← r3] at h1 h2
  obtain ⟨x, hx⟩ := gq_bit h1
  obtain ⟨y, hy⟩ := gq_bit h2
  rw [Nat.testBit_and, Bool.and_eq_true] at hx hy
  obtain ⟨x0, y0, Z, a1, a2, a3, a4, a5, a6⟩ := gq_run_v (T := T) (m := m) w _ x y (fun z hz => gq_lt10b hw hm r1 hz) r2 hx.2 hy.2 (fun S z hz u hu => gq_lt10b hw hm (r2 z hz) hu)
  have b3 := a3
  have b4 := a4
  rw [Nat.testBit_and, Bool.and_eq_true] at b3 b4
  obtain ⟨Z', z1, z2, z3, z4, z5⟩ := gq_cutv (T := T) (m := m) _ ((s, x0, y0) :: Z) (T.2.2 8 m) (T.2.2 8 m) (Nat.le_refl _) (by simp) ⟨r1, a1, a2, b3.1, b4.1, b3.2, b4.2, a5⟩
  have z3 : (gq_la gq_z0 Z').2 = (x, y) := by
    rw [z3, ← a6]
    show (gq_la (s, x0, y0) Z).2 = _
    cases Z with
    | nil => rfl
    | cons a Z => rfl
  cases Z' with
  | nil => exact absurd rfl z1
  | cons p C =>
    obtain ⟨v1, v2, v3, v4, v5, v6, v7, v8⟩ := z2
    have z3 : (gq_la p C).2 = (x, y) := z3
    obtain ⟨o1, o2⟩ := gq_v_own ho hm C p v2 v3 v8
    obtain ⟨l1, l2, _⟩ := o1 _ o2
    rw [z3] at l1 l2
    have hlen := gq_pairs (own := own) (m := m) hkj z4 (fun q hq => by
      obtain ⟨q', g1, g2⟩ := List.mem_map.mp hq
      obtain ⟨c1, c2, c3, c4⟩ := o1 q' g1
      rw [← g2]
      exact ⟨c1.trans (l1.symm.trans (ok x hx.1)), c2.trans (l2.symm.trans (oj y hy.1)), c3, c4⟩)
    have hr := gq_v_run (T := T) (m := m) C p (T.2.2 8 m &&& T.2.2 (15 + m) p.1) (by rw [Nat.testBit_and, v4, v6]; rfl) (by rw [Nat.testBit_and, v5, v7]; rfl) v2 v3 v8
    rw [z3] at hr
    have fin := gq_first hw hm (fun S => T.2.2 5 k &&& S ≠ 0 ∧ T.2.2 5 j &&& S ≠ 0) (fun g => g.1 (Nat.and_zero _)) hh hf v1 (w := C.map (fun p => p.1)) (fun z hz => by
      obtain ⟨q, g1, g2⟩ := List.mem_map.mp hz
      have all : ∀ (C : List (Nat × Nat × Nat)) (a b : Nat), gq_v T m a b C → ∀ q, q ∈ C → q.1 < 8 := by
        intro C
        induction C with
        | nil => intro a b _ q hq; cases hq
        | cons z C ih =>
          intro a b hv q hq
          rcases List.mem_cons.mp hq with g | g
          · rw [g]; exact hv.1
          · exact ih _ _ hv.2.2.2.2.2.2.2 q g
      rw [← g2]; exact all C _ _ v8 q g1) ⟨fun g => by
        have := congrArg (fun n => Nat.testBit n x) g
        simp only [Nat.testBit_and, hx.1, hr.1, Nat.zero_testBit] at this
        exact absurd this (by decide), fun g => by
        have := congrArg (fun n => Nat.testBit n y) g
        simp only [Nat.testBit_and, hy.1, hr.2, Nat.zero_testBit] at this
        exact absurd this (by decide)⟩
    rw [List.length_map] at fin hlen
    rw [List.length_cons] at hlen
    omega
end
