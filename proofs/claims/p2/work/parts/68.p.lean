/-! ways to cut: how many, the fewest rows; from behind and from the front -/
def gp_mrg : Option Nat → Option Nat → Option Nat
  | o, none => o
  | none, some n => some (n + 1)
  | some m, some n => if n + 1 < m then some (n + 1) else some m
def gp_cs (E : Nat → Nat → Bool) (C : Nat → Nat) (p : Nat) : Nat → Nat
  | 0 => 0
  | x + 1 => gp_cs E C p x + if p < x ∧ E p x = true then C x else 0
def gp_mn (E : Nat → Nat → Bool) (R : Nat → Option Nat) (p : Nat) : Nat → Option Nat
  | 0 => none
  | x + 1 => if p < x ∧ E p x = true then gp_mrg (gp_mn E R p x) (R x) else gp_mn E R p x
def gp_Cf (E : Nat → Nat → Bool) (j : Nat) : Nat → Nat → Nat
  | 0, p => if p = j then 1 else 0
  | f + 1, p => if p = j then 1 else gp_cs E (gp_Cf E j f) p (j + 1)
def gp_Rf (E : Nat → Nat → Bool) (j : Nat) : Nat → Nat → Option Nat
  | 0, p => if p = j then some 0 else none
  | f + 1, p => if p = j then some 0 else gp_mn E (gp_Rf E j f) p (j + 1)
def gp_Aw (E : Nat → Nat → Bool) (i : Nat) : Nat → Nat → Nat
  | 0, q => if q = i then 1 else 0
  | p + 1, q => gp_Aw E i p q + if i ≤ p ∧ p < q ∧ E p q = true then gp_Aw E i p p else 0
def gp_Ww (E : Nat → Nat → Bool) (i : Nat) : Nat → Nat → Option Nat
  | 0, q => if q = i then some 0 else none
  | p + 1, q => if i ≤ p ∧ p < q ∧ E p q = true then gp_mrg (gp_Ww E i p q) (gp_Ww E i p p) else gp_Ww E i p q
theorem gp_cs_e {E : Nat → Nat → Bool} {C C' : Nat → Nat} {p : Nat} : ∀ x, (∀ q, p < q → q < x → C q = C' q) → gp_cs E C p x = gp_cs E C' p x
  | 0, _ => rfl
  | x + 1, h => by
    rw [gp_cs, gp_cs, gp_cs_e x (fun q h1 h2 => h q h1 (by omega))]
    congr 1
    split
    · rename_i hc
      exact h x hc.1 (by omega)
    · rfl
theorem gp_mn_e {E : Nat → Nat → Bool} {R R' : Nat → Option Nat} {p : Nat} : ∀ x, (∀ q, p < q → q < x → R q = R' q) → gp_mn E R p x = gp_mn E R' p x
  | 0, _ => rfl
  | x + 1, h => by
    rw [gp_mn, gp_mn, gp_mn_e x (fun q h1 h2 => h q h1 (by omega))]
    split
    · rename_i hc
      rw [h x hc.1 (by omega)]
    · rfl
theorem gp_cs_0 {E : Nat → Nat → Bool} {C : Nat → Nat} {p : Nat} : ∀ x, x ≤ p + 1 → gp_cs E C p x = 0
  | 0, _ => rfl
  | x + 1, h => by
    rw [gp_cs, gp_cs_0 x (by omega), if_neg (fun hc => by omega)]
theorem gp_mn_0 {E : Nat → Nat → Bool} {R : Nat → Option Nat} {p : Nat} : ∀ x, x ≤ p + 1 → gp_mn E R p x = none
  | 0, _ => rfl
  | x + 1, h => by
    rw [gp_mn, gp_mn_0 x (by omega), if_neg (fun hc => by omega)]
theorem gp_Cf_s {E : Nat → Nat → Bool} {j : Nat} : ∀ (f p : Nat), j ≤ p + f → gp_Cf E j (f + 1) p = gp_Cf E j f p
  | 0, p, h => by
    rw [gp_Cf, gp_Cf]
    split
    · rfl
    · exact gp_cs_0 (j + 1) (by omega)
  | f + 1, p, h => by
    rw [gp_Cf, gp_Cf]
    split
    · rfl
    · exact gp_cs_e (j + 1) (fun q h1 h2 => gp_Cf_s f q (by omega))
theorem gp_Rf_s {E : Nat → Nat → Bool} {j : Nat} : ∀ (f p : Nat), j ≤ p + f → gp_Rf E j (f + 1) p = gp_Rf E j f p
  | 0, p, h => by
    rw [gp_Rf, gp_Rf]
    split
    · rfl
    · exact gp_mn_0 (j + 1) (by omega)
  | f + 1, p, h => by
    rw [gp_Rf, gp_Rf]
    split
    · rfl
    · exact gp_mn_e (j + 1) (fun q h1 h2 => gp_Rf_s f q (by omega))
/-- from behind -/
def gp_Cb (E : Nat → Nat → Bool) (j p : Nat) : Nat := gp_Cf E j 25 p
def gp_Rb (E : Nat → Nat → Bool) (j p : Nat) : Option Nat := gp_Rf E j 25 p
theorem gp_Cb_j (E : Nat → Nat → Bool) (j : Nat) : gp_Cb E j j = 1 := by unfold gp_Cb; rw [gp_Cf, if_pos rfl]
theorem gp_Rb_j (E : Nat → Nat → Bool) (j : Nat) : gp_Rb E j j = some 0 := by unfold gp_Rb; rw [gp_Rf, if_pos rfl]
theorem gp_Cb_p {E : Nat → Nat → Bool} {j p : Nat} (hj : j ≤ 24) (hp : p ≠ j) : gp_Cb E j p = gp_cs E (gp_Cb E j) p (j + 1) := by
  unfold gp_Cb
  rw [gp_Cf, if_neg hp]
  exact gp_cs_e (j + 1) (fun q h1 h2 => (gp_Cf_s 24 q (by omega)).symm)
theorem gp_Rb_p {E : Nat → Nat → Bool} {j p : Nat} (hj : j ≤ 24) (hp : p ≠ j) : gp_Rb E j p = gp_mn E (gp_Rb E j) p (j + 1) := by
  unfold gp_Rb
  rw [gp_Rf, if_neg hp]
  exact gp_mn_e (j + 1) (fun q h1 h2 => (gp_Rf_s 24 q (by omega)).symm)
/-- how many: at most doubled a place -/
theorem gp_Cb_b {E : Nat → Nat → Bool} {j : Nat} (hj : j ≤ 24) : ∀ d p, p + d = j → gp_Cb E j p ≤ 2 ^ d ∧ ∀ x, x ≤ j + 1 → gp_cs E (gp_Cb E j) p x + 1 ≤ 2 ^ d := by
  intro d
  induction d using Nat.strongRecOn with
  | ind d ih =>
    intro p hp
    have hcs : ∀ x, x ≤ j + 1 → p < x → gp_cs E (gp_Cb E j) p x + 2 ^ (j + 1 - x) ≤ 2 ^ d := by
      intro x
      induction x with
      | zero => intro _ h; exact absurd h (by omega)
      | succ x ihx =>
        intro hx hpx
        by_cases h : p < x
        · have h1 := ihx (by omega) h
          have h2 := (ih (j - x) (by omega) x (by omega)).1
          rw [gp_cs]
          have h3 : 2 ^ (j + 1 - x) = 2 * 2 ^ (j - x) := by
            rw [show j + 1 - x = (j - x) + 1 by omega, Nat.pow_succ]; omega
          rw [show j + 1 - (x + 1) = j - x by omega]
          split <;> omega
        · have : x = p := by omega
          subst this
          rw [gp_cs_0 (x + 1) (by omega), show j + 1 - (x + 1) = d by omega]
          omega
    have hcs2 : ∀ x, x ≤ j + 1 → gp_cs E (gp_Cb E j) p x + 1 ≤ 2 ^ d := by
      intro x hx
      have hpos := Nat.two_pow_pos d
      by_cases h : p < x
      · have := hcs x hx h
        have := Nat.two_pow_pos (j + 1 - x)
        omega
      · rw [gp_cs_0 x (by omega)]
        omega
    refine ⟨?_, hcs2⟩
    by_cases hpj : p = j
    · subst hpj
      rw [gp_Cb_j]
      exact Nat.two_pow_pos d
    · rw [gp_Cb_p hj hpj]
      have := hcs2 (j + 1) (Nat.le_refl _)
      omega
/-- sums -/
def gp_sm (f : Nat → Nat) : Nat → Nat
  | 0 => 0
  | n + 1 => gp_sm f n + f n
theorem gp_sm_sp {f : Nat → Nat} {t : Nat} : ∀ x, gp_sm (fun q => if t ≤ q then f q else 0) x = (if t < x then f t else 0) + gp_sm (fun q => if t < q then f q else 0) x
  | 0 => by simp [gp_sm]
  | x + 1 => by
    rw [gp_sm, gp_sm, gp_sm_sp x]
    by_cases h1 : t < x
    · rw [if_pos h1, if_pos (by omega : t ≤ x), if_pos (by omega : t < x + 1), if_pos h1]
      omega
    · by_cases h2 : t = x
      · subst h2
        rw [if_neg (by omega : ¬ t < t), if_pos (Nat.le_refl t), if_pos (by omega : t < t + 1)]
        omega
      · rw [if_neg h1, if_neg (by omega : ¬ t ≤ x), if_neg (by omega : ¬ t < x + 1), if_neg h1]
        omega
theorem gp_sm_e {f g : Nat → Nat} : ∀ x, (∀ q, q < x → f q = g q) → gp_sm f x = gp_sm g x
  | 0, _ => rfl
  | x + 1, h => by rw [gp_sm, gp_sm, gp_sm_e x (fun q hq => h q (by omega)), h x (by omega)]
theorem gp_ph {E : Nat → Nat → Bool} {C : Nat → Nat} {i t : Nat} (hit : i ≤ t) : ∀ x, gp_Aw E i t t * gp_cs E C t x + gp_sm (fun q => if t < q then gp_Aw E i t q * C q else 0) x = gp_sm (fun q => if t + 1 ≤ q then gp_Aw E i (t + 1) q * C q else 0) x
  | 0 => by simp [gp_sm, gp_cs]
  | x + 1 => by
    rw [gp_cs, gp_sm, gp_sm, ← gp_ph hit x]
    by_cases h : t < x
    · rw [if_pos h, if_pos (by omega : t + 1 ≤ x), gp_Aw]
      by_cases he : E t x = true
      · rw [if_pos ⟨h, he⟩, if_pos ⟨hit, h, he⟩, Nat.mul_add, Nat.add_mul]
        omega
      · rw [if_neg (fun hc => he hc.2), if_neg (fun hc => he hc.2.2)]
        simp
        omega
    · rw [if_neg h, if_neg (by omega : ¬ t + 1 ≤ x), if_neg (fun hc => h hc.1)]
      simp
theorem gp_Aw_i {E : Nat → Nat → Bool} {i : Nat} : ∀ (p q : Nat), p ≤ i → gp_Aw E i p q = if q = i then 1 else 0
  | 0, _, _ => rfl
  | p + 1, q, h => by
    rw [gp_Aw, gp_Aw_i p q (by omega), if_neg (fun hc : i ≤ p ∧ p < q ∧ E p q = true => by have := hc.1; omega)]
    rfl
theorem gp_ways_eq {E : Nat → Nat → Bool} {i j : Nat} (hij : i ≤ j) (hj : j ≤ 24) : gp_Aw E i j j = gp_Cb E j i := by
  have ph : ∀ t, i ≤ t → t ≤ j → gp_sm (fun q => if t ≤ q then gp_Aw E i t q * gp_Cb E j q else 0) (j + 1) = gp_Cb E j i := by
    intro t hit
    induction t with
    | zero =>
      intro _
      have : i = 0 := by omega
      subst this
      rw [gp_sm_sp, if_pos (by omega), gp_Aw_i 0 0 (Nat.le_refl _), if_pos rfl]
      have : ∀ x, gp_sm (fun q => if 0 < q then gp_Aw E 0 0 q * gp_Cb E j q else 0) x = 0 := by
        intro x
        induction x with
        | zero => rfl
        | succ x ih =>
          rw [gp_sm, ih]
          split
          · rename_i h
            rw [gp_Aw_i 0 x (Nat.le_refl _), if_neg (by omega)]
            omega
          · rfl
      rw [this]
      omega
    | succ t ih =>
      intro htj
      by_cases h : i ≤ t
      · rw [← ih h (by omega), ← gp_ph h, gp_sm_sp, if_pos (by omega), gp_Cb_p hj (by omega : t ≠ j)]
      · have : i = t + 1 := by omega
        rw [gp_sm_sp, if_pos (by omega), gp_Aw_i (t + 1) (t + 1) (by omega), if_pos (by omega)]
        have : ∀ x, gp_sm (fun q => if t + 1 < q then gp_Aw E i (t + 1) q * gp_Cb E j q else 0) x = 0 := by
          intro x
          induction x with
          | zero => rfl
          | succ x ih =>
            rw [gp_sm, ih]
            split
            · rename_i h
              rw [gp_Aw_i (t + 1) x (by omega), if_neg (by omega)]
              omega
            · rfl
        rw [this]
        subst i
        omega
  have := ph j hij (Nat.le_refl _)
  rw [gp_sm_sp, if_pos (by omega), gp_Cb_j] at this
  have h0 : ∀ x, x ≤ j + 1 → gp_sm (fun q => if j < q then gp_Aw E i j q * gp_Cb E j q else 0) x = 0 := by
    intro x
    induction x with
    | zero => intro _; rfl
    | succ x ih =>
      intro hx
      rw [gp_sm, ih (by omega), if_neg (by omega)]
  rw [h0 (j + 1) (Nat.le_refl _)] at this
  omega
/-! the fewest -/
def gp_lst (Q : Nat → Prop) : Option Nat → Prop
  | none => ∀ n, ¬ Q n
  | some n => Q n ∧ ∀ m, m < n → ¬ Q m
theorem gp_lst_u {Q : Nat → Prop} {o o' : Option Nat} (h : gp_lst Q o) (h' : gp_lst Q o') : o = o' := by
  cases o with
  | none =>
    cases o' with
    | none => rfl
    | some n => exact absurd h'.1 (h n)
  | some n =>
    cases o' with
    | none => exact absurd h.1 (h' n)
    | some m =>
      have h1 : ¬ n < m := fun hl => h'.2 n hl h.1
      have h2 : ¬ m < n := fun hl => h.2 m hl h'.1
      congr 1
      omega
theorem gp_lst_e {Q Q' : Nat → Prop} {o : Option Nat} (h : gp_lst Q o) (e : ∀ n, Q n ↔ Q' n) : gp_lst Q' o := by
  cases o with
  | none => exact fun n hn => h n ((e n).mpr hn)
  | some n => exact ⟨(e n).mp h.1, fun m hm hq => h.2 m hm ((e m).mpr hq)⟩
theorem gp_lst_m {Q1 Q2 : Nat → Prop} {o1 o2 : Option Nat} (h1 : gp_lst Q1 o1) (h2 : gp_lst Q2 o2) : gp_lst (fun n => Q1 n ∨ ∃ m, n = m + 1 ∧ Q2 m) (gp_mrg o1 o2) := by
  cases o2 with
  | none =>
    have : gp_mrg o1 none = o1 := by cases o1 <;> rfl
    rw [this]
    exact gp_lst_e h1 (fun n => ⟨Or.inl, fun h => h.resolve_right (fun ⟨m, _, hm⟩ => h2 m hm)⟩)
  | some n2 =>
    cases o1 with
    | none =>
      refine ⟨Or.inr ⟨n2, rfl, h2.1⟩, fun m hm hq => ?_⟩
      rcases hq with hq | ⟨m', rfl, hq⟩
      · exact h1 m hq
      · exact h2.2 m' (by omega) hq
    | some n1 =>
      show gp_lst _ (if n2 + 1 < n1 then some (n2 + 1) else some n1)
      split
      · refine ⟨Or.inr ⟨n2, rfl, h2.1⟩, fun m hm hq => ?_⟩
        rcases hq with hq | ⟨m', rfl, hq⟩
        · exact h1.2 m (by omega) hq
        · exact h2.2 m' (by omega) hq
      · refine ⟨Or.inl h1.1, fun m hm hq => ?_⟩
        rcases hq with hq | ⟨m', rfl, hq⟩
        · exact h1.2 m hm hq
        · exact h2.2 m' (by omega) hq
/-- rows from p up to j, from behind; to q from the front, begun ahead of p -/
def gp_RQ (E : Nat → Nat → Bool) (j : Nat) : Nat → Nat → Nat → Prop
  | 0, p, n => p = j ∧ n = 0
  | f + 1, p, n => (p = j ∧ n = 0) ∨ (p ≠ j ∧ ∃ q, p < q ∧ q < j + 1 ∧ E p q = true ∧ ∃ m, n = m + 1 ∧ gp_RQ E j f q m)
def gp_AQ (E : Nat → Nat → Bool) (i : Nat) : Nat → Nat → Nat → Prop
  | 0, q, n => q = i ∧ n = 0
  | p + 1, q, n => gp_AQ E i p q n ∨ (i ≤ p ∧ p < q ∧ E p q = true ∧ ∃ m, n = m + 1 ∧ gp_AQ E i p p m)
theorem gp_mn_l {E : Nat → Nat → Bool} {R : Nat → Option Nat} {Q : Nat → Nat → Prop} {p : Nat} (h : ∀ q, p < q → gp_lst (Q q) (R q)) : ∀ x, gp_lst (fun n => ∃ q, p < q ∧ q < x ∧ E p q = true ∧ ∃ m, n = m + 1 ∧ Q q m) (gp_mn E R p x)
  | 0 => fun n ⟨q, _, h2, _⟩ => absurd h2 (by omega)
  | x + 1 => by
    have ih := gp_mn_l (E := E) h x
    rw [gp_mn]
    split
    · rename_i hc
      refine gp_lst_e (gp_lst_m ih (h x hc.1)) (fun n => ⟨fun hq => ?_, fun ⟨q, h1, h2, h3, h4⟩ => ?_⟩)
      · rcases hq with ⟨q, h1, h2, h3, h4⟩ | hq
        · exact ⟨q, h1, by omega, h3, h4⟩
        · exact ⟨x, hc.1, by omega, hc.2, hq⟩
      · by_cases hqx : q = x
        · subst hqx
          exact Or.inr h4
        · exact Or.inl ⟨q, h1, by omega, h3, h4⟩
    · rename_i hc
      refine gp_lst_e ih (fun n => ⟨fun ⟨q, h1, h2, h3, h4⟩ => ⟨q, h1, by omega, h3, h4⟩, fun ⟨q, h1, h2, h3, h4⟩ => ⟨q, h1, ?_, h3, h4⟩⟩)
      have : q ≠ x := fun e => hc ⟨e ▸ h1, e ▸ h3⟩
      omega
theorem gp_Rf_l {E : Nat → Nat → Bool} {j : Nat} : ∀ f p, gp_lst (gp_RQ E j f p) (gp_Rf E j f p)
  | 0, p => by
    rw [gp_Rf]
    split
    · rename_i h
      exact ⟨⟨h, rfl⟩, fun m hm => absurd hm (by omega)⟩
    · rename_i h
      exact fun n hn => h hn.1
  | f + 1, p => by
    rw [gp_Rf]
    split
    · rename_i h
      exact ⟨Or.inl ⟨h, rfl⟩, fun m hm => absurd hm (by omega)⟩
    · rename_i h
      exact gp_lst_e (gp_mn_l (fun q _ => gp_Rf_l f q) (j + 1)) (fun n => ⟨fun hq => Or.inr ⟨h, hq⟩, fun hq => (hq.resolve_left (fun h' => h h'.1)).2⟩)
theorem gp_Ww_l {E : Nat → Nat → Bool} {i : Nat} : ∀ p q, gp_lst (gp_AQ E i p q) (gp_Ww E i p q)
  | 0, q => by
    rw [gp_Ww]
    split
    · rename_i h
      exact ⟨⟨h, rfl⟩, fun m hm => absurd hm (by omega)⟩
    · rename_i h
      exact fun n hn => h hn.1
  | p + 1, q => by
    rw [gp_Ww]
    split
    · rename_i hc
      exact gp_lst_e (gp_lst_m (gp_Ww_l p q) (gp_Ww_l p p)) (fun n => ⟨fun hq => hq.imp id (fun h => ⟨hc.1, hc.2.1, hc.2.2, h⟩), fun hq => hq.imp id (fun h => h.2.2.2)⟩)
    · rename_i hc
      exact gp_lst_e (gp_Ww_l p q) (fun n => ⟨Or.inl, fun hq => hq.resolve_right (fun h => hc ⟨h.1, h.2.1, h.2.2.1⟩)⟩)
theorem gp_RQ_s {E : Nat → Nat → Bool} {j : Nat} : ∀ (f p n : Nat), j ≤ p + f → (gp_RQ E j (f + 1) p n ↔ gp_RQ E j f p n)
  | 0, p, n, h => by
    constructor
    · rintro (hq | ⟨h1, q, h2, h3, _⟩)
      · exact hq
      · omega
    · exact Or.inl
  | f + 1, p, n, h => by
    constructor
    · rintro (hq | ⟨h1, q, h2, h3, h4, m, h5, h6⟩)
      · exact Or.inl hq
      · exact Or.inr ⟨h1, q, h2, h3, h4, m, h5, (gp_RQ_s f q m (by omega)).mp h6⟩
    · rintro (hq | ⟨h1, q, h2, h3, h4, m, h5, h6⟩)
      · exact Or.inl hq
      · exact Or.inr ⟨h1, q, h2, h3, h4, m, h5, (gp_RQ_s f q m (by omega)).mpr h6⟩
theorem gp_AQ_i {E : Nat → Nat → Bool} {i : Nat} : ∀ (p q n : Nat), p ≤ i → (gp_AQ E i p q n ↔ q = i ∧ n = 0)
  | 0, _, _, _ => Iff.rfl
  | p + 1, q, n, h => by
    rw [gp_AQ, gp_AQ_i p q n (by omega)]
    exact ⟨fun hq => hq.resolve_right (fun h' => by omega), Or.inl⟩
theorem gp_few_eq {E : Nat → Nat → Bool} {i j : Nat} (hij : i ≤ j) (hj : j ≤ 24) : gp_Ww E i j j = gp_Rb E j i := by
  have ph : ∀ t, i ≤ t → t ≤ j → ∀ n, (∃ q a b, t ≤ q ∧ q < j + 1 ∧ a + b = n ∧ gp_AQ E i t q a ∧ gp_RQ E j 25 q b) ↔ gp_RQ E j 25 i n := by
    intro t hit
    induction t with
    | zero =>
      intro _ n
      have : i = 0 := by omega
      subst this
      constructor
      · rintro ⟨q, a, b, h1, h2, h3, h4, h5⟩
        obtain ⟨rfl, rfl⟩ := h4
        rw [Nat.zero_add] at h3
        rw [← h3]; exact h5
      · exact fun h => ⟨0, 0, n, by omega, by omega, by omega, ⟨rfl, rfl⟩, h⟩
    | succ t ih =>
      intro htj n
      by_cases h : i ≤ t
      · rw [← ih h (by omega) n]
        constructor
        · rintro ⟨q, a, b, h1, h2, h3, h4, h5⟩
          rcases h4 with h4 | ⟨_, h6, h7, m, h8, h9⟩
          · exact ⟨q, a, b, by omega, h2, h3, h4, h5⟩
          · exact ⟨t, m, b + 1, by omega, by omega, by omega, h9, Or.inr ⟨by omega, q, h6, h2, h7, b, rfl, (gp_RQ_s 24 q b (by omega)).mp h5⟩⟩
        · rintro ⟨q, a, b, h1, h2, h3, h4, h5⟩
          by_cases hqt : q = t
          · subst hqt
            rcases h5 with ⟨h6, _⟩ | ⟨h6, q', h7, h8, h9, m, h10, h11⟩
            · omega
            · exact ⟨q', a + 1, m, by omega, h8, by omega, Or.inr ⟨h, h7, h9, a, rfl, h4⟩, (gp_RQ_s 24 q' m (by omega)).mpr h11⟩
          · exact ⟨q, a, b, by omega, h2, h3, Or.inl h4, h5⟩
      · have hi : i = t + 1 := by omega
        constructor
        · rintro ⟨q, a, b, h1, h2, h3, h4, h5⟩
          obtain ⟨e1, e2⟩ := (gp_AQ_i (t + 1) q a (by omega)).mp h4
          subst e1; subst e2
          rw [Nat.zero_add] at h3
          rw [← h3]; exact h5
        · exact fun h => ⟨i, 0, n, by omega, by omega, by omega, (gp_AQ_i (t + 1) i 0 (by omega)).mpr ⟨rfl, rfl⟩, h⟩
  refine gp_lst_u (gp_Ww_l j j) (gp_lst_e (gp_Rf_l 25 i) (fun n => ?_))
  rw [← ph j hij (Nat.le_refl _) n]
  constructor
  · rintro ⟨q, a, b, h1, h2, h3, h4, h5⟩
    have : q = j := by omega
    subst this
    rcases h5 with ⟨_, h6⟩ | ⟨h6, _⟩
    · subst h6
      rw [Nat.add_zero] at h3
      rw [← h3]; exact h4
    · exact absurd rfl h6
  · exact fun h => ⟨j, n, 0, Nat.le_refl _, by omega, by omega, h, Or.inl ⟨rfl, rfl⟩⟩
/-- no way: nothing counted -/
theorem gp_AW {E : Nat → Nat → Bool} {i : Nat} : ∀ p q, gp_Aw E i p q = 0 ↔ gp_Ww E i p q = none
  | 0, q => by
    rw [gp_Aw, gp_Ww]
    split <;> simp
  | p + 1, q => by
    have h1 := gp_AW (E := E) (i := i) p q
    have h2 := gp_AW (E := E) (i := i) p p
    rw [gp_Aw, gp_Ww]
    split
    · cases e1 : gp_Ww E i p q with
      | none =>
        cases e2 : gp_Ww E i p p with
        | none =>
          rw [e1] at h1; rw [e2] at h2
          have := h1.mpr rfl
          have := h2.mpr rfl
          simp [gp_mrg]; omega
        | some b =>
          rw [e2] at h2
          have : ¬ gp_Aw E i p p = 0 := fun h => by have := h2.mp h; simp at this
          simp [gp_mrg]; omega
      | some a =>
        rw [e1] at h1
        have : ¬ gp_Aw E i p q = 0 := fun h => by have := h1.mp h; simp at this
        constructor
        · intro h; omega
        · intro h
          cases e2 : gp_Ww E i p p with
          | none => rw [e2] at h; simp [gp_mrg] at h
          | some b =>
            rw [e2] at h
            simp only [gp_mrg] at h
            split at h <;> simp at h
    · rw [Nat.add_zero]
      exact h1
