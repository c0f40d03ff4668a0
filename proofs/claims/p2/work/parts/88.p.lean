/-! rules told as a text: the component's build -/
section
variable {k k1 : Nat} {M M' : gz_M} {s s' : gp_S} {t : List Nat}
/-- a text at cell k -/
def gp_xK (k : Nat) (M : gz_M) (t : List Nat) : Prop := t.length ≤ 80 ∧ M.1 k 1 = nI t.length ∧ ∀ i, i < t.length → M.1 (k + 1) i = nI (t.getD i 0) ∧ t.getD i 0 < 256
/-- a text lies apart of the builder and its table -/
def gp_apart (k k1 : Nat) : Prop := 6 < k ∧ ∀ c, c = k1 ∨ c = k1 + 1 → c ≠ 4 ∧ c ≠ 5 ∧ c ≠ 6 ∧ (c < k ∨ k + 18 < c)
theorem gp_xK.fr (ha : gp_apart k k1) (h : gp_xK k1 M t) (hL : gp_bL k M M') : gp_xK k1 M' t := by
  have e : ∀ c, c = k1 ∨ c = k1 + 1 → M'.1 c = M.1 c := fun c hc => by
    obtain ⟨a1, a2, a3, a4⟩ := ha.2 c hc
    exact hL.2 c a1 a2 a3 a4
  exact ⟨h.1, by rw [e k1 (Or.inl rfl)]; exact h.2.1, fun i hi => by rw [e (k1 + 1) (Or.inr rfl)]; exact h.2.2 i hi⟩
theorem gp_bGo (ha : gp_apart k k1) (ht : ∀ i, i < t.length → t.getD i 0 < 256) {sE : gp_S} (hu : ∀ m, m < 4 → sE.2.1.2.2 7 m ≤ 10) : ∀ (d n p : Nat) (s : gp_S) (M : gz_M), p + d = t.length → d < n → gp_wS s → gp_bC k M s → gp_xK k1 M t → gp_itr t d p s = some sE → ∃ M', f1_build_9 k k1 n (nI (if s.1 = 0 then 1 else 0)) (nI p) M = f1_build_110 k k1 M' ∧ gp_bL k M M' ∧ gp_bC k M' sE := by
  intro d
  induction d with
  | zero =>
    intro n p s M hp hn hw h hx e
    have h1 := hx.1
    obtain ⟨n, rfl⟩ : ∃ q, n = q + 1 := ⟨n - 1, by omega⟩
    have : p = t.length := by omega
    subst this
    have e := Option.some.inj e
    subst e
    refine ⟨M, ?_, gp_bL.refl k M, h⟩
    rw [f1_build_9, hx.2.1, if_pos (nI_le (Nat.le_refl _) (by omega))]
  | succ d ih =>
    intro n p s M hp hn hw h hx e
    have h1 := hx.1
    obtain ⟨n, rfl⟩ : ∃ q, n = q + 1 := ⟨n - 1, by omega⟩
    have hc := ht p (by omega)
    have hE := e
    rw [gp_itr] at e
    cases es : gp_stp s (t.getD p 0) with
    | none => rw [es] at e; cases e
    | some s1 =>
      rw [es] at e
      have hw1 := gp_stp_w hc hw es
      have hu1 : ∀ m, m < 4 → s1.2.1.2.2 7 m ≤ 10 := fun m hm => Nat.le_trans (gp_itr_u ht d (p + 1) s1 sE (by omega) hw1 e m) (hu m hm)
      obtain ⟨M1, e1, e2, e3⟩ := gp_bStep ha.1 hw hc h es hu1
      obtain ⟨M', g1, g2, g3⟩ := ih n (p + 1) s1 M1 (by omega) (by omega) hw1 e3 (hx.fr ha e2) e
      refine ⟨M', ?_, e2.trans g2, g3⟩
      have hst := (gp_stp_u hw hc es).2.1
      have t91 : f1_build_91 k k1 (f1_build_9 k k1 n) (nI p) (nI (t.getD p 0)) M1 = f1_build_110 k k1 M' := by
        unfold f1_build_91
        rw [gp_eL, gp_eL, nI_1]
        by_cases h59 : t.getD p 0 = 59
        · rw [if_pos (show nI (t.getD p 0) = 59 from by rw [h59]; rfl)]
          rw [if_pos (hst.mpr h59)] at g1
          exact g1
        · rw [if_neg (show ¬ nI (t.getD p 0) = (59 : Int32) from fun e => h59 ((nI_eq (b := 59) (by omega) (by omega)).mp e))]
          rw [if_neg (fun h => h59 (hst.mp h))] at g1
          exact g1
      rw [f1_build_9, hx.2.1, if_neg (nI_ge (by omega) (by omega)), if_neg (show ¬ (80 : Int32) ≤ nI p from nI_ge (b := 80) (by omega) (by omega)), gp_ckb (show p < 80 by omega) (by omega), nI_clamp (by omega), (hx.2.2 p (by omega)).1, gp_eL]
      by_cases h0 : s.1 = 0
      · rw [if_pos h0] at e1
        rw [if_pos h0, if_neg (show ¬ nI 1 = 0 by decide), e1, gp_eB]
        exact t91
      · rw [if_neg h0] at e1
        rw [if_neg h0, if_pos (show nI 0 = 0 from nI_0)]
        by_cases h59 : t.getD p 0 = 59
        · rw [if_pos h59] at e1
          rw [if_pos (show nI (t.getD p 0) = 59 from by rw [h59]; rfl), e1, gp_eB]
          exact t91
        · rw [if_neg h59] at e1
          rw [if_neg (show ¬ nI (t.getD p 0) = (59 : Int32) from fun e => h59 ((nI_eq (b := 59) (by omega) (by omega)).mp e)), gp_isLetE hc, gp_eB2]
          cases hl : gp_isL (t.getD p 0) with
          | true =>
            rw [hl, if_pos rfl] at e1
            rw [if_pos rfl, if_neg (by decide), e1, gp_eB]
            exact t91
          | false =>
            rw [hl, if_neg (by decide)] at e1
            rw [if_neg (show ¬ (false = true) by simp), if_pos rfl, e1, gp_eB]
            exact t91
theorem gp_clr (hk : 6 < k) (M : gz_M) : ∃ M', f7_clear k M = some M' ∧ gp_bL k M M' ∧ gp_tC k M' gp_s0.2.1 := by
  have main : ∃ M', f7_clear_7 k gz_FU (nI 0) (gz_w M k 0 0) = some M' ∧ (gp_bL k M M' ∧ M'.1 k 0 = 0 ∧ ∀ m, m < 4 → M'.1 (k + 7) m = nI 0 ∧ M'.1 (k + 8) m = nI 0 ∧ (∀ x, x < 10 → M'.1 (k + 9 + 1 + m) x = nI 0) ∧ ∀ z, z < 8 → M'.1 (k + 14 + 1 + m) z = nI 0) := by
    refine gp_for (fun n x M1 => f7_clear_7 k n (nI x) M1) 4 (fun x M1 => gp_bL k M M1 ∧ M1.1 k 0 = 0 ∧ ∀ m, m < x → M1.1 (k + 7) m = nI 0 ∧ M1.1 (k + 8) m = nI 0 ∧ (∀ x, x < 10 → M1.1 (k + 9 + 1 + m) x = nI 0) ∧ ∀ z, z < 8 → M1.1 (k + 14 + 1 + m) z = nI 0) (fun M1 => gp_bL k M M1 ∧ M1.1 k 0 = 0 ∧ ∀ m, m < 4 → M1.1 (k + 7) m = nI 0 ∧ M1.1 (k + 8) m = nI 0 ∧ (∀ x, x < 10 → M1.1 (k + 9 + 1 + m) x = nI 0) ∧ ∀ z, z < 8 → M1.1 (k + 14 + 1 + m) z = nI 0) ?_ ?_ gz_FU 0 _ (by omega) (by unfold gz_FU; omega) ⟨gp_bL.w _ (by omega), gp_gs _ _ _ _, fun m hm => absurd hm (by omega)⟩
    · intro n M1 h
      exact ⟨M1, by rw [f7_clear_7, if_pos (by decide)], h⟩
    · intro n x M1 hx h
      right
      obtain ⟨i1, i2, i3⟩ := h
      obtain ⟨M2, e1, e2, e3, e4, e5⟩ := gp_fill (k + 9 + 1 + x) 10 0 (by omega) (gz_w (gz_w M1 (k + 7) x 0) (k + 8) x 0)
      obtain ⟨M3, f1, f2, f3, f4, f5⟩ := gp_fill (k + 14 + 1 + x) 8 0 (by omega) M2
      have o : ∀ a i, a ≠ k + 9 + 1 + x → a ≠ k + 14 + 1 + x → ¬ (a = k + 7 ∧ i = x) → ¬ (a = k + 8 ∧ i = x) → M3.1 a i = M1.1 a i := fun a i h1 h2 h3 h4 => by
        rw [f3 a h2, e3 a h1, gp_gn h4, gp_gn h3]
      refine ⟨M3, ?_, ?_, ?_, fun m hm => ?_⟩
      · rw [f7_clear_7, if_neg (show ¬ (4 : Int32) ≤ nI x from nI_ge (b := 4) (by omega) (by omega)), gp_ckb hx (by omega), gp_eL, gp_ckb hx (by omega), gp_eL, gp_ckb hx (by omega), nI_clamp (by omega), e1, gp_eB, gp_ckb hx (by omega), f1, gp_eB, gp_eL, nI_1]
      · refine i1.trans ⟨by rw [f2, e2]; rfl, fun c h1 h2 h3 h4 => ?_⟩
        rw [f3 c (by omega), e3 c (by omega), gp_wc _ (by omega), gp_wc _ (by omega)]
      · rw [o k 0 (by omega) (by omega) (by omega) (by omega)]
        exact i2
      · by_cases hmx : m = x
        · subst hmx
          refine ⟨?_, ?_, fun y hy => ?_, fun z hz => ?_⟩
          · rw [f3 _ (by omega), e3 _ (by omega), gp_gn (by omega), gp_gs]; rfl
          · rw [f3 _ (by omega), e3 _ (by omega), gp_gs]; rfl
          · rw [f3 _ (by omega), e4 y hy]; rfl
          · rw [f4 z hz]; rfl
        · obtain ⟨c1, c2, c3, c4⟩ := i3 m (by omega)
          refine ⟨?_, ?_, fun y hy => ?_, fun z hz => ?_⟩
          · rw [o _ _ (by omega) (by omega) (by omega) (by omega)]; exact c1
          · rw [o _ _ (by omega) (by omega) (by omega) (by omega)]; exact c2
          · rw [o _ _ (by omega) (by omega) (by omega) (by omega)]; exact c3 y hy
          · rw [o _ _ (by omega) (by omega) (by omega) (by omega)]; exact c4 z hz
  obtain ⟨M', e1, e2, e3, e4⟩ := main
  unfold f7_clear
  rw [gp_eL]
  exact ⟨M', e1, e2, e3, fun j hj => absurd hj (by show ¬ j < 0; omega), fun m hm => e4 m hm⟩
/-- the component's table is the text's -/
theorem gp_bldC (ha : gp_apart k k1) (hok : gp_ok t) (hx : gp_xK k1 M t) : ∃ M', f1_build k k1 M = some M' ∧ gp_bL k M M' ∧ gp_tC k M' (gp_tab t) := by
  obtain ⟨h80, s, e, hm, hu⟩ := hok
  have ht : ∀ i, i < t.length → t.getD i 0 < 256 := fun i hi => (hx.2.2 i hi).2
  obtain ⟨M0, c1, c2, c3⟩ := gp_clr (k := k) ha.1 M
  obtain ⟨M1, b1, b2, b3⟩ := gp_bGo (k1 := k1) ha ht hu t.length gz_FU 0 gp_s0 M0 (by omega) (by unfold gz_FU; omega) gp_w0 ⟨c3, fun h => absurd h (by decide)⟩ (hx.fr ha c2) e
  have hx1 := (hx.fr ha c2).fr ha b2
  have hw := gp_itr_w ht t.length 0 gp_s0 s (by omega) gp_w0 e
  unfold f1_build
  rw [c1, gp_eB]
  have b1 : f1_build_9 k k1 gz_FU 1 0 M0 = f1_build_110 k k1 M1 := b1
  rw [b1]
  unfold f1_build_110 gp_tab
  rw [e, hx1.2.1]
  dsimp only
  by_cases h0 : t.length = 0
  · rw [if_pos h0, h0, if_pos (show nI 0 ≤ 0 by decide)]
    exact ⟨M1, rfl, c2.trans b2, b3.1⟩
  · rw [if_neg h0, if_neg (nI_nle (by omega) (by omega))]
    have h35 : 3 ≤ s.1 ∧ s.2.2.1.length ≤ 1 := by
      rcases hm with hm | hm | hm
      · exact absurd hm h0
      · have := hw.1.2.2.2.2.2 (by omega)
        omega
      · exact ⟨by omega, hm.2⟩
    obtain ⟨M2, g1, g2, g3⟩ := gp_erC ha.1 hw h35.1 h35.2 b3
    rw [g1, gp_eB]
    exact ⟨M2, rfl, (c2.trans b2).trans g2, g3⟩
end
