/-! promise 28: fewest -/
/-- the first end of a first row of the fewest -/
def gp_ft (E : Nat → Nat → Bool) (R : Nat → Option Nat) (p : Nat) : Nat → Nat
  | 0 => 0
  | x + 1 => if p < x ∧ E p x = true then (match R x with
    | none => gp_ft E R p x
    | some n => match gp_mn E R p x with
      | none => x
      | some m => if n + 1 < m then x else gp_ft E R p x) else gp_ft E R p x
theorem gp_ft_f {E : Nat → Nat → Bool} {R : Nat → Option Nat} {p : Nat} : ∀ x m, gp_mn E R p x = some m → 1 ≤ m ∧ p < gp_ft E R p x ∧ gp_ft E R p x < x ∧ E p (gp_ft E R p x) = true ∧ R (gp_ft E R p x) = some (m - 1) ∧ ∀ q, p < q → q < gp_ft E R p x → E p q = true → ∀ n, R q = some n → m < n + 1
  | 0, m, h => by cases h
  | x + 1, m, h => by
    rw [gp_mn] at h
    rw [gp_ft]
    by_cases hc : p < x ∧ E p x = true
    · rw [if_pos hc] at h ⊢
      cases hR : R x with
      | none =>
        rw [hR] at h
        dsimp only
        have h' : gp_mn E R p x = some m := by
          cases e : gp_mn E R p x with
          | none => rw [e] at h; cases h
          | some a => rw [e] at h; exact h
        obtain ⟨a1, a2, a3, a4, a5, a6⟩ := gp_ft_f x m h'
        exact ⟨a1, a2, by omega, a4, a5, a6⟩
      | some n =>
        rw [hR] at h
        dsimp only
        cases e : gp_mn E R p x with
        | none =>
          rw [e] at h
          have hm : n + 1 = m := by simpa [gp_mrg] using h
          dsimp only
          refine ⟨by omega, hc.1, by omega, hc.2, by rw [hR, ← hm]; rfl, fun q h1 h2 h3 n' hn' => ?_⟩
          -- none ahead of it: none has a way
          exfalso
          have hno : ∀ y, gp_mn E R p y = none → ∀ q, p < q → q < y → E p q = true → R q = none := by
            intro y
            induction y with
            | zero => intro _ q _ h; exact absurd h (by omega)
            | succ y ih =>
              intro hy q h1 h2 h3
              rw [gp_mn] at hy
              by_cases hcy : p < y ∧ E p y = true
              · rw [if_pos hcy] at hy
                have hRy : R y = none := by
                  cases hRy : R y with
                  | none => rfl
                  | some b =>
                    rw [hRy] at hy
                    cases e2 : gp_mn E R p y with
                    | none => rw [e2] at hy; simp [gp_mrg] at hy
                    | some a => rw [e2] at hy; simp only [gp_mrg] at hy; split at hy <;> simp at hy
                rw [hRy] at hy
                have hy' : gp_mn E R p y = none := by
                  cases e2 : gp_mn E R p y with
                  | none => rfl
                  | some a => rw [e2] at hy; simp [gp_mrg] at hy
                by_cases hqy : q = y
                · rw [hqy]; exact hRy
                · exact ih hy' q h1 (by omega) h3
              · rw [if_neg hcy] at hy
                by_cases hqy : q = y
                · subst hqy; exact absurd ⟨h1, h3⟩ hcy
                · exact ih hy q h1 (by omega) h3
          rw [hno x e q h1 h2 h3] at hn'
          cases hn'
        | some a =>
          rw [e] at h
          obtain ⟨a1, a2, a3, a4, a5, a6⟩ := gp_ft_f x a e
          have h : (if n + 1 < a then some (n + 1) else some a) = some m := h
          dsimp only
          by_cases hlt : n + 1 < a
          · rw [if_pos hlt] at h ⊢
            simp at h
            refine ⟨by omega, hc.1, by omega, hc.2, by rw [hR, ← h]; rfl, fun q h1 h2 h3 n' hn' => ?_⟩
            -- those ahead have a at least
            have hle : ∀ y b, gp_mn E R p y = some b → ∀ q, p < q → q < y → E p q = true → ∀ n', R q = some n' → b ≤ n' + 1 := by
              intro y
              induction y with
              | zero => intro b hb; cases hb
              | succ y ih =>
                intro b hb q h1 h2 h3 n' hn'
                rw [gp_mn] at hb
                by_cases hcy : p < y ∧ E p y = true
                · rw [if_pos hcy] at hb
                  cases hRy : R y with
                  | none =>
                    rw [hRy] at hb
                    have hb' : gp_mn E R p y = some b := by
                      cases e2 : gp_mn E R p y with
                      | none => rw [e2] at hb; cases hb
                      | some c => rw [e2] at hb; exact hb
                    by_cases hqy : q = y
                    · rw [hqy, hRy] at hn'; cases hn'
                    · exact ih b hb' q h1 (by omega) h3 n' hn'
                  | some v =>
                    rw [hRy] at hb
                    cases e2 : gp_mn E R p y with
                    | none =>
                      rw [e2] at hb
                      have hb : v + 1 = b := by simpa [gp_mrg] using hb
                      by_cases hqy : q = y
                      · rw [hqy, hRy] at hn'; simp at hn'; omega
                      · exfalso
                        have hno : ∀ z, gp_mn E R p z = none → ∀ q, p < q → q < z → E p q = true → R q = none := by
                          intro z
                          induction z with
                          | zero => intro _ q _ h; exact absurd h (by omega)
                          | succ z ihz =>
                            intro hz q h1 h2 h3
                            rw [gp_mn] at hz
                            by_cases hcz : p < z ∧ E p z = true
                            · rw [if_pos hcz] at hz
                              have hRz : R z = none := by
                                cases hRz : R z with
                                | none => rfl
                                | some b =>
                                  rw [hRz] at hz
                                  cases e3 : gp_mn E R p z with
                                  | none => rw [e3] at hz; simp [gp_mrg] at hz
                                  | some a => rw [e3] at hz; simp only [gp_mrg] at hz; split at hz <;> simp at hz
                              rw [hRz] at hz
                              have hz' : gp_mn E R p z = none := by
                                cases e3 : gp_mn E R p z with
                                | none => rfl
                                | some a => rw [e3] at hz; simp [gp_mrg] at hz
                              by_cases hqz : q = z
                              · rw [hqz]; exact hRz
                              · exact ihz hz' q h1 (by omega) h3
                            · rw [if_neg hcz] at hz
                              by_cases hqz : q = z
                              · subst hqz; exact absurd ⟨h1, h3⟩ hcz
                              · exact ihz hz q h1 (by omega) h3
                        rw [hno y e2 q h1 (by omega) h3] at hn'
                        cases hn'
                    | some c =>
                      rw [e2] at hb
                      have hb : (if v + 1 < c then some (v + 1) else some c) = some b := hb
                      by_cases hqy : q = y
                      · rw [hqy, hRy] at hn'
                        simp at hn'
                        split at hb <;> simp at hb <;> omega
                      · have := ih c e2 q h1 (by omega) h3 n' hn'
                        split at hb <;> simp at hb <;> omega
                · rw [if_neg hcy] at hb
                  by_cases hqy : q = y
                  · subst hqy; exact absurd ⟨h1, h3⟩ hcy
                  · exact ih b hb q h1 (by omega) h3 n' hn'
            have := hle x a e q h1 h2 h3 n' hn'
            omega
          · rw [if_neg hlt] at h ⊢
            simp at h
            subst h
            exact ⟨a1, a2, by omega, a4, a5, a6⟩
    · rw [if_neg hc] at h ⊢
      obtain ⟨a1, a2, a3, a4, a5, a6⟩ := gp_ft_f x m h
      exact ⟨a1, a2, by omega, a4, a5, a6⟩
def gp_chn (E : Nat → Nat → Bool) (j : Nat) : Nat → Nat → List Nat
  | 0, _ => []
  | f + 1, p => if p < j then gp_ft E (gp_Rb E j) p (j + 1) :: gp_chn E j f (gp_ft E (gp_Rb E j) p (j + 1)) else []
section
variable {B : Prop} {k k0 k1 m S s x p cu i j nx : Nat} {M M' Mc Mr Mc' Mr' : gz_M} {T : gp_T} {l : List Nat}
/-- the facts of the first end, where there is a way -/
theorem gp_ftF {E : Nat → Nat → Bool} {r : Nat} (hj : j ≤ 24) (hp : p < j) (hr : gp_Rb E j p = some r) : 1 ≤ r ∧ p < gp_ft E (gp_Rb E j) p (j + 1) ∧ gp_ft E (gp_Rb E j) p (j + 1) ≤ j ∧ E p (gp_ft E (gp_Rb E j) p (j + 1)) = true ∧ gp_Rb E j (gp_ft E (gp_Rb E j) p (j + 1)) = some (r - 1) ∧ ∀ q, p < q → q < gp_ft E (gp_Rb E j) p (j + 1) → E p q = true → ∀ n, gp_Rb E j q = some n → r < n + 1 := by
  rw [gp_Rb_p hj (by omega)] at hr
  obtain ⟨a1, a2, a3, a4, a5, a6⟩ := gp_ft_f (j + 1) r hr
  exact ⟨a1, a2, by omega, a4, a5, a6⟩
theorem gp_leads (hj : j ≤ 24) (hS : gp_spC M T l j i) (hip : i ≤ p) {q : Nat} (hpq : p < q) (hqj : q ≤ j) {r : Nat} (hr : gp_Rb (gp_eW T l) j p = some r) (hr1 : 1 ≤ r) : f9_leads (nI p) (nI q) M = some ((if gp_eW T l p q = true ∧ gp_Rb (gp_eW T l) j q = some (r - 1) then 1 else 0), M) := by
  obtain ⟨v1, _, v3⟩ := hS p hip (by omega)
  obtain ⟨_, _, w3⟩ := hS q (by omega) hqj
  have hbit := gp_bitL (a := gp_eT T l p (j + 1)) (i := q) (by have := gp_eT_lt T l p (show j + 1 ≤ 25 by omega); omega) (by omega)
  rw [gp_eT_bit hpq (by omega)] at hbit
  have hrb := gp_Rb_b hr
  unfold f9_leads
  rw [if_neg (nI_pos (by omega)), if_neg (nI_ge hpq (by omega)), if_pos (by exact nI_le (show q ≤ 24 by omega) (by decide)), gp_ckb (by omega) (by omega), show (nI p).toNatClampNeg = p from nI_clamp (by omega), v1, gp_ckb (by omega) (by omega), gp_ckb (by omega) (by omega), gp_ckb (by omega) (by omega), show (nI q).toNatClampNeg = q from nI_clamp (by omega), w3, v3, hr, gp_oS, show nI r - 1 = nI (r - 1) by
    obtain ⟨b, rfl⟩ : ∃ b, r = b + 1 := ⟨r - 1, by omega⟩
    exact nI_pred b, gp_itO (fun n hn => by have := gp_Rb_b hn; omega)]
  by_cases he : gp_eW T l p q = true
  · rw [if_neg (show ¬ (gz_shr (nI (gp_eT T l p (j + 1))) (nI q) &&& (1 : Int32)) = (0 : Int32) by rw [hbit, he]; simp)]
    cases hq : gp_Rb (gp_eW T l) j q with
    | none => rw [if_pos (show (none : Option Nat).isNone = true from rfl), if_neg (by simp)]
    | some n =>
      have hn := gp_Rb_b hq
      rw [if_neg (by simp), gp_oS]
      by_cases hnr : n = r - 1
      · rw [if_pos (by rw [hnr]), if_pos ⟨he, by rw [hnr]⟩]
      · rw [if_neg (fun e => hnr ((nI_eq (by omega) (by omega)).mp e)), if_neg (fun h => hnr (by simpa using h.2))]
  · rw [if_pos (show (gz_shr (nI (gp_eT T l p (j + 1))) (nI q) &&& (1 : Int32)) = (0 : Int32) by rw [hbit]; simpa using he), if_neg (fun h => he h.1)]
theorem gp_chn_len {E : Nat → Nat → Bool} (hj : j ≤ 24) : ∀ f p r, gp_Rb E j p = some r → (gp_chn E j f p).length + p ≤ j ∨ (gp_chn E j f p) = []
  | 0, p, r, _ => Or.inr rfl
  | f + 1, p, r, hr => by
    rw [gp_chn]
    split
    · rename_i hp
      obtain ⟨a1, a2, a3, a4, a5, a6⟩ := gp_ftF hj hp hr
      left
      rcases gp_chn_len hj f _ _ a5 with h | h
      · rw [List.length_cons]; omega
      · rw [h, List.length_singleton]; omega
    · exact Or.inr rfl
theorem gp_chn_s {E : Nat → Nat → Bool} (hj : j ≤ 24) : ∀ f p r, gp_Rb E j p = some r → j ≤ p + f → gp_chn E j (f + 1) p = gp_chn E j f p
  | 0, p, r, _, h => by
    show (if p < j then _ else []) = []
    rw [if_neg (by omega)]
  | f + 1, p, r, hr, h => by
    rw [gp_chn]
    conv => rhs; rw [gp_chn]
    split
    · rename_i hp
      obtain ⟨a1, a2, a3, a4, a5, a6⟩ := gp_ftF hj hp hr
      rw [gp_chn_s hj f _ _ a5 (by omega)]
    · rfl
def gp_crow (L : List Nat) : List Int64 := L.map fun q => (nI q).toInt64
/-- the component tells them -/
theorem gp_few59 (hij : i ≤ j) (hj : j ≤ 24) (tot : List Nat) (htot : tot.length ≤ 24) {ri : Nat} (hri : gp_Rb (gp_eW T l) j i = some ri) : ∀ (d n p q r : Nat) (pre : List Nat) (M : gz_M), q + d = j + 1 → d < n → i ≤ p → p < q → gp_Rb (gp_eW T l) j p = some r → (p < j → q ≤ gp_ft (gp_eW T l) (gp_Rb (gp_eW T l) j) p (j + 1)) → pre ++ gp_chn (gp_eW T l) j 25 p = tot → gp_spC M T l j i → gp_wC M (gp_crow pre) → ∃ M', f11_fewest_59 n (nI i) (nI j) (nI p) (nI q) M = some (nI ri, M') ∧ gp_fC M M' ∧ gp_wC M' (gp_crow tot) := by
  intro d
  induction d with
  | zero =>
    intro n p q r pre M hq hn hip hpq hr hft htt hS hw
    obtain ⟨n, rfl⟩ : ∃ q, n = q + 1 := ⟨n - 1, by omega⟩
    have : q = j + 1 := by omega
    subst this
    have hpj : p = j := by
      apply Classical.byContradiction
      intro h
      have := hft (by omega)
      have := (gp_ftF hj (show p < j by omega) hr).2.2.1
      omega
    subst hpj
    rw [gp_chn, if_neg (by omega), List.append_nil] at htt
    subst htt
    obtain ⟨_, _, v3⟩ := hS i (Nat.le_refl _) hij
    refine ⟨M, ?_, gp_fC.refl M, hw⟩
    rw [f11_fewest_59, if_pos (nI_lt (by omega) (by omega)), gp_ckb (by omega) (by omega), nI_clamp (by omega), v3, hri]
    rfl
  | succ d ih =>
    intro n p q r pre M hq hn hip hpq hr hft htt hS hw
    obtain ⟨n, rfl⟩ : ∃ q, n = q + 1 := ⟨n - 1, by omega⟩
    have hpj : p < j := by omega
    obtain ⟨a1, a2, a3, a4, a5, a6⟩ := gp_ftF hj hpj hr
    have hq2 := hft hpj
    rw [f11_fewest_59, if_neg (nI_nlt (by omega) (by omega)), gp_leads hj hS hip hpq (by omega) hr a1, gp_eB2]
    by_cases hqf : q = gp_ft (gp_eW T l) (gp_Rb (gp_eW T l) j) p (j + 1)
    · rw [← hqf] at a4 a5
      have hcnd : gp_eW T l p q = true ∧ gp_Rb (gp_eW T l) j q = some (r - 1) := ⟨a4, a5⟩
      rw [if_pos hcnd, if_neg (by decide)]
      have hpre : pre.length < 24 := by
        rw [gp_chn, if_pos hpj] at htt
        have := congrArg List.length htt
        simp at this
        omega
      obtain ⟨M1, g1, g2, g3⟩ := gp_tellC (nI q).toInt64 hw (by unfold gp_crow; rw [List.length_map]; omega)
      rw [g1, gp_eB, gp_eL, nI_1]
      have hg3 : gp_wC M1 (gp_crow (pre ++ [q])) := by
        unfold gp_crow at g3 ⊢
        rw [List.map_append]
        exact g3
      have hchn : gp_chn (gp_eW T l) j 25 p = q :: gp_chn (gp_eW T l) j 25 q := by
        rw [gp_chn, if_pos hpj, ← hqf, ← gp_chn_s hj 24 q _ a5 (by omega)]
      obtain ⟨M', f1, f2, f3⟩ := ih n q (q + 1) (r - 1) (pre ++ [q]) M1 (by omega) (by omega) (by omega) (by omega) a5 (fun hqj => by have := (gp_ftF hj hqj a5).2.1; omega) (by rw [List.append_assoc, ← htt, hchn]; rfl) (fun y h1 h2 => by
        rw [g2.1 _ (by omega), g2.1 _ (by omega), g2.1 _ (by omega)]
        exact hS y h1 h2) hg3
      exact ⟨M', f1, g2.trans f2, f3⟩
    · rw [if_neg (show ¬ (gp_eW T l p q = true ∧ gp_Rb (gp_eW T l) j q = some (r - 1)) from fun h => by
        have := a6 q hpq (by omega) h.1 _ h.2
        omega), if_pos rfl, gp_eL, nI_1]
      exact ih n p (q + 1) r pre M (by omega) (by omega) hip (by omega) hr (fun _ => by omega) htt hS hw
end
