/-! the bound of the rows: from words to ways and back -/
section
variable {T : gp_T} {m k : Nat} {own : Nat → Nat → Nat}
theorem gq_run_u : ∀ (w : List Nat) (S y : Nat), (∀ z, S.testBit z = true → z < 10) → (∀ z, z ∈ w → z < 8) → (gq_run T m S w).testBit y = true → (∀ S z, z ∈ w → ∀ u, (gp_aft T m S &&& T.2.2 (15 + m) z).testBit u = true → u < 10) → ∃ x0 Z, x0 < 10 ∧ S.testBit x0 = true ∧ gq_u T m (T.2.2 (10 + m) x0) Z ∧ gq_ul x0 Z = y ∧ Z.map (fun p => p.1) = w
  | [], S, y, hS, _, h1, _ => ⟨y, [], hS y h1, h1, trivial, rfl, rfl⟩
  | s :: w, S, y, hS, hz, h1, hb => by
    rw [gq_run] at h1
    obtain ⟨x1, Z, a1, a3, a5, a6, a7⟩ := gq_run_u w _ y (hb S s List.mem_cons_self) (fun z h => hz z (List.mem_cons_of_mem _ h)) h1 (fun S z h => hb S z (List.mem_cons_of_mem _ h))
    rw [Nat.testBit_and, Bool.and_eq_true] at a3
    obtain ⟨x0, b1, b2, b3⟩ := gq_aftB.mp a3.1
    exact ⟨x0, (s, x1) :: Z, b1, b2, ⟨hz s List.mem_cons_self, a1, b3, a3.2, a5⟩, a6, by rw [List.map_cons, a7]⟩
theorem gq_way (hw : gp_wT T) (hm : m < 4) {s : Nat} {w : List Nat} (hs : s < 8) (hz : ∀ z, z ∈ w → z < 8) (hwin : gp_win T m (gq_run T m (T.2.2 8 m &&& T.2.2 (15 + m) s) w) = some k) : ∃ Z, Z ≠ [] ∧ gq_u T m (T.2.2 8 m) Z ∧ (T.2.2 5 k).testBit (gq_ul 0 Z) = true ∧ gp_win T m (gq_uf T m (T.2.2 8 m) 0 Z) = some k := by
  obtain ⟨h1, h2, h3, h4⟩ := gq_win.mp hwin
  obtain ⟨y, hy⟩ := gq_bit h3
  rw [Nat.testBit_and, Bool.and_eq_true] at hy
  obtain ⟨x0, Z, a1, a3, a5, a6, a7⟩ := gq_run_u (T := T) (m := m) w _ y (fun z hz => gq_lt10b hw hm hs hz) hz hy.2 (fun S z h u hu => gq_lt10b hw hm (hz z h) hu)
  have b3 := a3
  rw [Nat.testBit_and, Bool.and_eq_true] at b3
  refine ⟨(s, x0) :: Z, by simp, ⟨hs, a1, b3.1, b3.2, a5⟩, ?_, ?_⟩
  · show (T.2.2 5 k).testBit (gq_ul x0 Z) = true
    rw [a6]; exact hy.1
  · rw [gq_uf, gq_uf_run, a7]
    exact hwin
/-- a winning word: one whose letters never meet the same earlier letters twice -/
theorem gq_min (hw : gp_wT T) (ho : gq_oT own T) (hm : m < 4) {Mk : Nat} (hM : gq_mk own m k Mk) {s : Nat} {w : List Nat} (hs : s < 8) (hz : ∀ z, z ∈ w → z < 8) (hwin : gp_win T m (gq_run T m (T.2.2 8 m &&& T.2.2 (15 + m) s) w) = some k) : ∃ s' w', s' < 8 ∧ (∀ z, z ∈ w' → z < 8) ∧ gp_win T m (gq_run T m (T.2.2 8 m &&& T.2.2 (15 + m) s') w') = some k ∧ ∃ Z, gq_u T m (T.2.2 8 m) Z ∧ Z.length = w'.length + 1 ∧ (T.2.2 5 k).testBit (gq_ul 0 Z) = true ∧ (gq_us T m Mk (T.2.2 8 m) Z).Nodup := by
  obtain ⟨Z, a1, a2, a3, a4⟩ := gq_way hw hm hs hz hwin
  obtain ⟨Z', z1, z2, z3, z4, z5, _⟩ := gq_cutu hw ho hm hM _ Z _ _ (Nat.le_refl _) a1 (fun y h => h) a2 a3 a4
  have all : ∀ (C : List (Nat × Nat)) (a : Nat), gq_u T m a C → ∀ q, q ∈ C → q.1 < 8 := by
    intro C
    induction C with
    | nil => intro a _ q hq; cases hq
    | cons z C ih =>
      intro a hv q hq
      rcases List.mem_cons.mp hq with g | g
      · rw [g]; exact hv.1
      · exact ih _ hv.2.2.2.2 q g
  cases Z' with
  | nil => exact absurd rfl z1
  | cons p C =>
    refine ⟨p.1, C.map (fun p => p.1), z2.1, fun z hz => ?_, ?_, p :: C, z2, by simp, z3, z5⟩
    · obtain ⟨q, g1, g2⟩ := List.mem_map.mp hz
      rw [← g2]; exact all _ _ z2 q (List.mem_cons_of_mem _ g1)
    · rw [gq_uf, gq_uf_run] at z4
      exact z4
theorem gq_us_len (Mk : Nat) : ∀ (Z : List (Nat × Nat)) (nx : Nat), (gq_us T m Mk nx Z).length = Z.length
  | [], _ => rfl
  | p :: Z, nx => by rw [gq_us, List.length_cons, List.length_cons, gq_us_len Mk Z]
end
