/-! the bound of the rows: two rules' common words -/
section
variable {T : gp_T} {m nx ny S k j x y : Nat} {own : Nat → Nat → Nat} {E : gp_E}
theorem gq_aftB : (gp_aft T m S).testBit y = true ↔ ∃ x, x < 10 ∧ S.testBit x = true ∧ (T.2.2 (10 + m) x).testBit y = true := by
  unfold gp_aft
  rw [gp_orN_bit]
  constructor
  · rintro ⟨x, h1, h2⟩
    split at h2
    · rename_i g; exact ⟨x, h1, g, h2⟩
    · simp at h2
  · rintro ⟨x, h1, h2, h3⟩
    exact ⟨x, h1, by rw [if_pos h2]; exact h3⟩
/-- two letters' ways along one word: sign, first letter, second letter -/
def gq_v (T : gp_T) (m : Nat) : Nat → Nat → List (Nat × Nat × Nat) → Prop
  | _, _, [] => True
  | nx, ny, p :: Z => p.1 < 8 ∧ p.2.1 < 10 ∧ p.2.2 < 10 ∧ nx.testBit p.2.1 = true ∧ ny.testBit p.2.2 = true ∧ (T.2.2 (15 + m) p.1).testBit p.2.1 = true ∧ (T.2.2 (15 + m) p.1).testBit p.2.2 = true ∧ gq_v T m (T.2.2 (10 + m) p.2.1) (T.2.2 (10 + m) p.2.2) Z
def gq_z0 : Nat × Nat × Nat := (0, 0, 0)
def gq_la : (Nat × Nat × Nat) → List (Nat × Nat × Nat) → Nat × Nat × Nat
  | d, [] => d
  | _, p :: Z => gq_la p Z
theorem gq_la_app (q : Nat × Nat × Nat) (D : List (Nat × Nat × Nat)) : ∀ (B : List (Nat × Nat × Nat)) (d : Nat × Nat × Nat), gq_la d (B ++ q :: D) = gq_la q D
  | [], _ => rfl
  | b :: B, _ => gq_la_app q D B b
theorem gq_la_d {Z : List (Nat × Nat × Nat)} (h : Z ≠ []) (d d' : Nat × Nat × Nat) : gq_la d Z = gq_la d' Z := by
  cases Z with
  | nil => exact absurd rfl h
  | cons a Z => rfl
/-- the way with no pair of letters twice -/
theorem gq_cutv : ∀ (n : Nat) (Z : List (Nat × Nat × Nat)) (nx ny : Nat), Z.length ≤ n → Z ≠ [] → gq_v T m nx ny Z → ∃ Z', Z' ≠ [] ∧ gq_v T m nx ny Z' ∧ (gq_la gq_z0 Z').2 = (gq_la gq_z0 Z).2 ∧ (Z'.map (fun p => p.2)).Nodup ∧ ∀ p, p ∈ Z'.map (fun p => p.2) → p ∈ Z.map (fun p => p.2)
  | 0, Z, nx, ny, hn, h0, _ => absurd (List.eq_nil_of_length_eq_zero (by omega)) h0
  | n + 1, [], nx, ny, _, h0, _ => absurd rfl h0
  | n + 1, p :: C, nx, ny, hn, _, hv => by
    rw [List.length_cons] at hn
    by_cases hC : C = []
    · subst hC
      exact ⟨[p], by simp, hv, rfl, by simp, fun q hq => hq⟩
    by_cases hp : p.2 ∈ C.map (fun p => p.2)
    · obtain ⟨q, hq, hq2⟩ := List.mem_map.mp hp
      obtain ⟨B, D, e⟩ := List.append_of_mem hq
      have tail : ∀ (B : List (Nat × Nat × Nat)) (a b : Nat), gq_v T m a b (B ++ q :: D) → gq_v T m (T.2.2 (10 + m) q.2.1) (T.2.2 (10 + m) q.2.2) D := by
        intro B
        induction B with
        | nil => intro a b h; exact h.2.2.2.2.2.2.2
        | cons z B ih => intro a b h; exact ih _ _ h.2.2.2.2.2.2.2
      have hD := tail B _ _ (e ▸ hv.2.2.2.2.2.2.2)
      rw [hq2] at hD
      obtain ⟨v1, v2, v3, v4, v5, v6, v7, _⟩ := hv
      obtain ⟨Z', z1, z2, z3, z4, z5⟩ := gq_cutv n (p :: D) nx ny (by
        have := congrArg List.length e
        rw [List.length_append, List.length_cons] at this
        rw [List.length_cons]; omega) (by simp) ⟨v1, v2, v3, v4, v5, v6, v7, hD⟩
      refine ⟨Z', z1, z2, ?_, z4, fun a ha => ?_⟩
      · rw [z3]
        show (gq_la p D).2 = (gq_la p C).2
        rw [e, gq_la_app]
        cases D with
        | nil => exact hq2.symm
        | cons a D => rfl
      · have := z5 a ha
        rw [List.map_cons, List.mem_cons] at this ⊢
        refine this.imp id (fun h => ?_)
        rw [e, List.map_append, List.map_cons]
        exact List.mem_append_right _ (List.mem_cons_of_mem _ h)
    · obtain ⟨v1, v2, v3, v4, v5, v6, v7, v8⟩ := hv
      obtain ⟨Z', z1, z2, z3, z4, z5⟩ := gq_cutv n C _ _ (by omega) hC v8
      refine ⟨p :: Z', by simp, ⟨v1, v2, v3, v4, v5, v6, v7, z2⟩, ?_, ?_, fun a ha => ?_⟩
      · show (gq_la p Z').2 = (gq_la p C).2
        rw [gq_la_d z1 p gq_z0, gq_la_d hC p gq_z0]
        exact z3
      · rw [List.map_cons, List.nodup_cons]
        exact ⟨fun h => hp (z5 _ h), z4⟩
      · rw [List.map_cons, List.mem_cons] at ha ⊢
        exact ha.imp id (z5 a)
/-- ways to words: both letters stand in what the word leaves -/
theorem gq_v_run : ∀ (Z : List (Nat × Nat × Nat)) (p : Nat × Nat × Nat) (S : Nat), S.testBit p.2.1 = true → S.testBit p.2.2 = true → p.2.1 < 10 → p.2.2 < 10 → gq_v T m (T.2.2 (10 + m) p.2.1) (T.2.2 (10 + m) p.2.2) Z → (gq_run T m S (Z.map (fun p => p.1))).testBit (gq_la p Z).2.1 = true ∧ (gq_run T m S (Z.map (fun p => p.1))).testBit (gq_la p Z).2.2 = true
  | [], p, S, h1, h2, _, _, _ => ⟨h1, h2⟩
  | q :: Z, p, S, h1, h2, h3, h4, hv => by
    obtain ⟨v1, v2, v3, v4, v5, v6, v7, v8⟩ := hv
    rw [List.map_cons, gq_run]
    refine gq_v_run Z q _ ?_ ?_ v2 v3 v8
    · rw [Nat.testBit_and, v6, gq_aftB.mpr ⟨_, h3, h1, v4⟩]; rfl
    · rw [Nat.testBit_and, v7, gq_aftB.mpr ⟨_, h4, h2, v5⟩]; rfl
/-- words to ways: where both letters stand in what a word leaves -/
theorem gq_run_v : ∀ (w : List Nat) (S x y : Nat), (∀ z, S.testBit z = true → z < 10) → (∀ z, z ∈ w → z < 8) → (gq_run T m S w).testBit x = true → (gq_run T m S w).testBit y = true → (∀ S z, z ∈ w → ∀ u, (gp_aft T m S &&& T.2.2 (15 + m) z).testBit u = true → u < 10) → ∃ x0 y0 Z, x0 < 10 ∧ y0 < 10 ∧ S.testBit x0 = true ∧ S.testBit y0 = true ∧ gq_v T m (T.2.2 (10 + m) x0) (T.2.2 (10 + m) y0) Z ∧ (gq_la (0, x0, y0) Z).2 = (x, y)
  | [], S, x, y, hS, _, h1, h2, _ => ⟨x, y, [], hS x h1, hS y h2, h1, h2, trivial, rfl⟩
  | s :: w, S, x, y, hS, hz, h1, h2, hb => by
    rw [gq_run] at h1 h2
    obtain ⟨x1, y1, Z, a1, a2, a3, a4, a5, a6⟩ := gq_run_v w _ x y (hb S s List.mem_cons_self) (fun z h => hz z (List.mem_cons_of_mem _ h)) h1 h2 (fun S z h => hb S z (List.mem_cons_of_mem _ h))
    rw [Nat.testBit_and, Bool.and_eq_true] at a3 a4
    obtain ⟨x0, b1, b2, b3⟩ := gq_aftB.mp a3.1
    obtain ⟨y0, c1, c2, c3⟩ := gq_aftB.mp a4.1
    refine ⟨x0, y0, (s, x1, y1) :: Z, b1, c1, b2, c2, ⟨hz s List.mem_cons_self, a1, a2, b3, c3, a3.2, a4.2, a5⟩, ?_⟩
    rw [← a6]
    show (gq_la (s, x1, y1) Z).2 = (gq_la (0, x1, y1) Z).2
    cases Z with
    | nil => rfl
    | cons a Z => rfl
end
