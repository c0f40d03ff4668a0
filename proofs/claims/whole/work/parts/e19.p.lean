/-! the bound of the rows: a shortest way has no letter twice with the same earlier letters -/
section
variable {T : gp_T} {m k : Nat} {own : Nat → Nat → Nat}
/-- a letter's way: sign and letter -/
def gq_u (T : gp_T) (m : Nat) : Nat → List (Nat × Nat) → Prop
  | _, [] => True
  | lx, p :: Z => p.1 < 8 ∧ p.2 < 10 ∧ lx.testBit p.2 = true ∧ (T.2.2 (15 + m) p.1).testBit p.2 = true ∧ gq_u T m (T.2.2 (10 + m) p.2) Z
/-- letters with what stands (masked) after each sign -/
def gq_us (T : gp_T) (m Mk : Nat) : Nat → List (Nat × Nat) → List (Nat × Nat)
  | _, [] => []
  | nx, p :: Z => (p.2, (nx &&& T.2.2 (15 + m) p.1) &&& Mk) :: gq_us T m Mk (gp_aft T m (nx &&& T.2.2 (15 + m) p.1)) Z
/-- what stands at last -/
def gq_uf (T : gp_T) (m : Nat) : Nat → Nat → List (Nat × Nat) → Nat
  | _, S, [] => S
  | nx, _, p :: Z => gq_uf T m (gp_aft T m (nx &&& T.2.2 (15 + m) p.1)) (nx &&& T.2.2 (15 + m) p.1) Z
def gq_ul : Nat → List (Nat × Nat) → Nat
  | x, [] => x
  | _, p :: Z => gq_ul p.2 Z
theorem gq_uf_run : ∀ (Z : List (Nat × Nat)) (S : Nat), gq_uf T m (gp_aft T m S) S Z = gq_run T m S (Z.map (fun p => p.1))
  | [], _ => rfl
  | p :: Z, S => by
    rw [gq_uf, List.map_cons, gq_run]
    exact gq_uf_run Z _
theorem gq_ul_app (q : Nat × Nat) (D : List (Nat × Nat)) : ∀ (B : List (Nat × Nat)) (x : Nat), gq_ul x (B ++ q :: D) = gq_ul q.2 D
  | [], _ => rfl
  | b :: B, _ => gq_ul_app q D B b.2
/-- a letter's way goes through what stands -/
theorem gq_u_run : ∀ (Z : List (Nat × Nat)) (x : Nat), x < 10 → gq_u T m (T.2.2 (10 + m) x) Z → ∀ S, S.testBit x = true → (gq_run T m S (Z.map (fun p => p.1))).testBit (gq_ul x Z) = true
  | [], x, _, _, S, h => h
  | p :: Z, x, hx, hv, S, h => by
    obtain ⟨v1, v2, v3, v4, v5⟩ := hv
    rw [List.map_cons, gq_run]
    exact gq_u_run Z p.2 v2 v5 _ (by rw [Nat.testBit_and, v4, gq_aftB.mpr ⟨x, hx, h, v3⟩]; rfl)
/-- the mask of the letters of rules before k -/
def gq_mk (own : Nat → Nat → Nat) (m k Mk : Nat) : Prop := ∀ y, Mk.testBit y = true ↔ (y < 10 ∧ own m y < k)
theorem gq_mk.agr {Mk S S' : Nat} (hM : gq_mk own m k Mk) (hS : ∀ y, S.testBit y = true → y < 10) (hS' : ∀ y, S'.testBit y = true → y < 10) (e : S &&& Mk = S' &&& Mk) : gq_agr own m k S S' := fun y hy => by
  have h := congrArg (fun n => Nat.testBit n y) e
  simp only [Nat.testBit_and] at h
  constructor
  · intro g
    rw [g, (hM y).mpr ⟨hS y g, hy⟩] at h
    cases e2 : S'.testBit y with
    | true => rfl
    | false => rw [e2] at h; cases h
  · intro g
    rw [g, (hM y).mpr ⟨hS' y g, hy⟩] at h
    cases e2 : S.testBit y with
    | true => rfl
    | false => rw [e2] at h; cases h
theorem gq_mk.eq {Mk S S' : Nat} (hM : gq_mk own m k Mk) (h : gq_agr own m k S S') : S &&& Mk = S' &&& Mk := Nat.eq_of_testBit_eq fun y => by
  rw [Nat.testBit_and, Nat.testBit_and]
  cases e : Mk.testBit y with
  | false => rw [Bool.and_false, Bool.and_false]
  | true =>
    rw [Bool.and_true, Bool.and_true]
    have := h y ((hM y).mp e).2
    cases e1 : S.testBit y with
    | true => exact (this.mp e1).symm
    | false =>
      cases e2 : S'.testBit y with
      | false => rfl
      | true => rw [this.mpr e2] at e1; cases e1
theorem gq_us_agr (ho : gq_oT own T) (hm : m < 4) {Mk : Nat} (hM : gq_mk own m k Mk) : ∀ (D : List (Nat × Nat)) (S S' : Nat), gq_agr own m k S S' → gq_us T m Mk (gp_aft T m S) D = gq_us T m Mk (gp_aft T m S') D
  | [], _, _, _ => rfl
  | p :: D, S, S', h => by
    have h1 := gq_agr.run ho hm [p.1] h
    have h1 : gq_agr own m k (gp_aft T m S &&& T.2.2 (15 + m) p.1) (gp_aft T m S' &&& T.2.2 (15 + m) p.1) := h1
    rw [gq_us, gq_us, hM.eq h1, gq_us_agr ho hm hM D _ _ h1]
theorem gq_cutu (hw : gp_wT T) (ho : gq_oT own T) (hm : m < 4) {Mk : Nat} (hM : gq_mk own m k Mk) : ∀ (n : Nat) (Z : List (Nat × Nat)) (lx nx : Nat), Z.length ≤ n → Z ≠ [] → gq_inc lx nx → gq_u T m lx Z → (T.2.2 5 k).testBit (gq_ul 0 Z) = true → gp_win T m (gq_uf T m nx 0 Z) = some k → ∃ Z', Z' ≠ [] ∧ gq_u T m lx Z' ∧ (T.2.2 5 k).testBit (gq_ul 0 Z') = true ∧ gp_win T m (gq_uf T m nx 0 Z') = some k ∧ (gq_us T m Mk nx Z').Nodup ∧ ∀ p, p ∈ gq_us T m Mk nx Z' → p ∈ gq_us T m Mk nx Z
  | 0, Z, lx, nx, hn, h0, _, _, _, _ => absurd (List.eq_nil_of_length_eq_zero (by omega)) h0
  | n + 1, [], lx, nx, _, h0, _, _, _, _ => absurd rfl h0
  | n + 1, p :: C, lx, nx, hn, _, hi, hv, he, hwn => by
    rw [List.length_cons] at hn
    obtain ⟨v1, v2, v3, v4, v5⟩ := hv
    obtain ⟨S1, hS1⟩ : ∃ S1, S1 = nx &&& T.2.2 (15 + m) p.1 := ⟨_, rfl⟩
    have b1 : S1.testBit p.2 = true := by rw [hS1, Nat.testBit_and, hi _ v3, v4]; rfl
    have t1 : ∀ y, S1.testBit y = true → y < 10 := fun y hy => gq_lt10b hw hm v1 (by rw [← hS1]; exact hy)
    have inc1 : gq_inc (T.2.2 (10 + m) p.2) (gp_aft T m S1) := fun y hy => gq_aftB.mpr ⟨p.2, v2, b1, hy⟩
    have us1 : ∀ C, gq_us T m Mk nx (p :: C) = (p.2, S1 &&& Mk) :: gq_us T m Mk (gp_aft T m S1) C := fun C => by rw [gq_us, ← hS1]
    have uf1 : ∀ C, gq_uf T m nx 0 (p :: C) = gq_run T m S1 (C.map (fun p => p.1)) := fun C => by rw [gq_uf, ← hS1, gq_uf_run]
    by_cases hC : C = []
    · subst hC
      exact ⟨[p], by simp, ⟨v1, v2, v3, v4, trivial⟩, he, hwn, by rw [us1]; simp [gq_us], fun q hq => hq⟩
    by_cases hp : (p.2, S1 &&& Mk) ∈ gq_us T m Mk (gp_aft T m S1) C
    · -- where it comes again
      have find : ∀ (C : List (Nat × Nat)) (lx S : Nat), gq_u T m lx C → (p.2, S1 &&& Mk) ∈ gq_us T m Mk (gp_aft T m S) C → ∃ B q D S2, C = B ++ q :: D ∧ q.2 = p.2 ∧ gq_u T m (T.2.2 (10 + m) q.2) D ∧ S2 &&& Mk = S1 &&& Mk ∧ (∀ y, S2.testBit y = true → y < 10) ∧ gq_run T m S (C.map (fun p => p.1)) = gq_run T m S2 (D.map (fun p => p.1)) ∧ ∀ r, r ∈ gq_us T m Mk (gp_aft T m S2) D → r ∈ gq_us T m Mk (gp_aft T m S) C := by
        intro C
        induction C with
        | nil => intro lx S _ h; cases h
        | cons q C ih =>
          intro lx S hv h
          obtain ⟨u1, u2, u3, u4, u5⟩ := hv
          rw [gq_us] at h
          rcases List.mem_cons.mp h with g | g
          · injection g with g1 g2
            exact ⟨[], q, C, gp_aft T m S &&& T.2.2 (15 + m) q.1, rfl, g1.symm, u5, g2.symm, fun y hy => gq_lt10b hw hm u1 hy, rfl, fun r hr => by rw [gq_us]; exact List.mem_cons_of_mem _ hr⟩
          · obtain ⟨B, q', D, S2, w1, w2, w3, w4, w5, w6, w7⟩ := ih _ _ u5 g
            exact ⟨q :: B, q', D, S2, by rw [w1]; rfl, w2, w3, w4, w5, by rw [List.map_cons, gq_run]; exact w6, fun r hr => by rw [gq_us]; exact List.mem_cons_of_mem _ (w7 r hr)⟩
      obtain ⟨B, q, D, S2, w1, w2, w3, w4, w5, w6, w7⟩ := find C _ S1 v5 hp
      have ag : gq_agr own m k S1 S2 := hM.agr t1 w5 w4.symm
      rw [w2] at w3
      have he' : (T.2.2 5 k).testBit (gq_ul 0 (p :: D)) = true := by
        have : gq_ul 0 (p :: C) = gq_ul p.2 D := by
          show gq_ul p.2 C = _
          rw [w1, gq_ul_app, w2]
        rw [this] at he
        exact he
      rw [uf1, w6] at hwn
      have hx : gq_inc (1 <<< p.2) S1 := fun y hy => by
        rw [Nat.one_shiftLeft, Nat.testBit_two_pow] at hy
        rw [← of_decide_eq_true hy]; exact b1
      have hone : (1 <<< p.2).testBit p.2 = true := by rw [Nat.one_shiftLeft, Nat.testBit_two_pow]; exact decide_eq_true rfl
      have hwn' : gp_win T m (gq_uf T m nx 0 (p :: D)) = some k := by
        rw [uf1]
        exact gq_cutw ho hm ag hx (gq_u_run D p.2 v2 w3 _ hone) he' hwn
      obtain ⟨Z', z1, z2, z3, z4, z5, z6⟩ := gq_cutu hw ho hm hM n (p :: D) lx nx (by
        have := congrArg List.length w1
        rw [List.length_append, List.length_cons] at this
        rw [List.length_cons]; omega) (by simp) hi ⟨v1, v2, v3, v4, w3⟩ he' hwn'
      refine ⟨Z', z1, z2, z3, z4, z5, fun r hr => ?_⟩
      have := z6 r hr
      rw [us1] at this ⊢
      rcases List.mem_cons.mp this with g | g
      · rw [g]; exact List.mem_cons_self
      · rw [gq_us_agr ho hm hM D _ _ ag] at g
        exact List.mem_cons_of_mem _ (w7 r g)
    · have he2 : (T.2.2 5 k).testBit (gq_ul 0 C) = true := by
        have : gq_ul 0 C = gq_ul p.2 C := by
          cases C with
          | nil => exact absurd rfl hC
          | cons a C => rfl
        rw [this]; exact he
      have ufC : ∀ C, C ≠ [] → gq_uf T m (gp_aft T m S1) 0 C = gq_run T m S1 (C.map (fun p => p.1)) := fun C h => by
        rw [← gq_uf_run]
        cases C with
        | nil => exact absurd rfl h
        | cons a C => rfl
      obtain ⟨Z', z1, z2, z3, z4, z5, z6⟩ := gq_cutu hw ho hm hM n C _ (gp_aft T m S1) (by omega) hC inc1 v5 he2 (by rw [ufC C hC, ← uf1]; exact hwn)
      refine ⟨p :: Z', by simp, ⟨v1, v2, v3, v4, z2⟩, ?_, by rw [uf1, ← ufC Z' z1]; exact z4, ?_, fun r hr => ?_⟩
      · have : gq_ul 0 Z' = gq_ul p.2 Z' := by
          cases Z' with
          | nil => exact absurd rfl z1
          | cons a C => rfl
        show (T.2.2 5 k).testBit (gq_ul p.2 Z') = true
        rw [← this]; exact z3
      · rw [us1, List.nodup_cons]
        exact ⟨fun g => hp (z6 _ g), z5⟩
      · rw [us1] at hr ⊢
        rcases List.mem_cons.mp hr with g | g
        · rw [g]; exact List.mem_cons_self
        · exact List.mem_cons_of_mem _ (z6 r g)
end
