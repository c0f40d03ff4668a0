/-! promise 35: day: what is told -/
def gq_dk (c : Nat) : Option Nat := if c = 114 then some 0 else if c = 105 then some 1 else if c = 100 then some 2 else none
def gq_isd (x : List Nat) (p : Nat) : Bool := decide (p < x.length) && (decide (48 ≤ x.getD p 0) && decide (x.getD p 0 ≤ 57))
def gq_iss (x : List Nat) (p : Nat) : Bool := decide (p < x.length) && (decide (97 ≤ x.getD p 0) && decide (x.getD p 0 ≤ 104))
def gq_pq (x : List Nat) (p : Nat) : Nat := 10 * (x.getD (p + 1) 0 - 48) + (x.getD (p + 2) 0 - 48)
def gq_dy (x : List Nat) : Nat → Nat → Option Nat × List (Nat × Nat × Nat)
  | 0, _ => (none, [])
  | n + 1, p => if x.length ≤ p then (none, []) else match gq_dk (x.getD p 0) with
    | none => (some p, [])
    | some kd => if gq_isd x (p + 1) = false then (some (p + 1), []) else if gq_isd x (p + 2) = false then (some (p + 2), []) else if kd = 2 then ((gq_dy x n (p + 3)).1, (2, gq_pq x p, 0) :: (gq_dy x n (p + 3)).2) else if gq_iss x (p + 3) = false then (some (p + 3), []) else ((gq_dy x n (p + 4)).1, (kd, gq_pq x p, x.getD (p + 3) 0 - 97) :: (gq_dy x n (p + 4)).2)
theorem gq_dk_lt {c kd : Nat} (h : gq_dk c = some kd) : kd < 3 := by
  unfold gq_dk at h
  split at h
  · cases h; omega
  · split at h
    · cases h; omega
    · split at h
      · cases h; omega
      · cases h
theorem gq_dy_le {x : List Nat} : ∀ (n p q : Nat), p ≤ x.length → (gq_dy x n p).1 = some q → q ≤ x.length
  | 0, p, q, _, h => by cases h
  | n + 1, p, q, hp, h => by
    rw [gq_dy] at h
    by_cases c0 : x.length ≤ p
    · rw [if_pos c0] at h
      cases h
    · rw [if_neg c0] at h
      cases hk : gq_dk (x.getD p 0) with
      | none => rw [hk] at h; cases h; omega
      | some kd =>
        rw [hk] at h
        dsimp only at h
        by_cases c1 : gq_isd x (p + 1) = false
        · rw [if_pos c1] at h
          cases h
          omega
        · rw [if_neg c1] at h
          have b1 : p + 1 < x.length := by
            unfold gq_isd at c1
            simp at c1
            omega
          by_cases c2 : gq_isd x (p + 2) = false
          · rw [if_pos c2] at h
            cases h
            omega
          · rw [if_neg c2] at h
            have b2 : p + 2 < x.length := by
              unfold gq_isd at c2
              simp at c2
              omega
            by_cases c3 : kd = 2
            · rw [if_pos c3] at h
              exact gq_dy_le n (p + 3) q (by omega) h
            · rw [if_neg c3] at h
              by_cases c4 : gq_iss x (p + 3) = false
              · rw [if_pos c4] at h
                cases h
                omega
              · rw [if_neg c4] at h
                have b3 : p + 3 < x.length := by
                  unfold gq_iss at c4
                  simp at c4
                  omega
                exact gq_dy_le n (p + 4) q (by omega) h
section
variable {M M' : gz_M} {x : List Nat} {p : Nat}
theorem gq_isdE (hp : p < x.length) : (gq_isd x p = true) ↔ 48 ≤ x.getD p 0 ∧ x.getD p 0 ≤ 57 := by
  unfold gq_isd
  simp only [Bool.and_eq_true, decide_eq_true_eq]
  omega
theorem gq_issE (hp : p < x.length) : (gq_iss x p = true) ↔ 97 ≤ x.getD p 0 ∧ x.getD p 0 ≤ 104 := by
  unfold gq_iss
  simp only [Bool.and_eq_true, decide_eq_true_eq]
  omega
theorem gq_isdN (hp : x.length ≤ p) : gq_isd x p = false := by unfold gq_isd; simp; omega
theorem gq_issN (hp : x.length ≤ p) : gq_iss x p = false := by unfold gq_iss; simp; omega
theorem gq_dig {c : Nat} (hc : c < 256) (M : gz_M) : f3_isDigit (nI c) M = some ((if 48 ≤ c ∧ c ≤ 57 then 1 else 0), M) := by
  unfold f3_isDigit
  by_cases h1 : c < 48
  · rw [if_pos (show nI c < (48 : Int32) from nI_lt (b := 48) h1 (by omega)), if_neg (by omega)]
  · rw [if_neg (show ¬ nI c < (48 : Int32) from nI_nlt (b := 48) (by omega) (by omega))]
    by_cases h2 : 57 < c
    · rw [if_pos (show (57 : Int32) < nI c from nI_lt (a := 57) h2 (by omega)), if_neg (by omega)]
    · rw [if_neg (show ¬ (57 : Int32) < nI c from nI_nlt (a := 57) (b := c) (by omega) (by omega)), if_pos (by omega)]
theorem gq_kind {c : Nat} (hc : c < 256) (M : gz_M) : f3_kindOfChange (nI c) M = some (gp_o (gq_dk c), M) := by
  unfold f3_kindOfChange gq_dk
  have e : ∀ k : Nat, k < 256 → ((nI c = nI k) ↔ c = k) := fun k hk => nI_eq (by omega) (by omega)
  by_cases h1 : c = 114
  · rw [if_pos (show nI c = (114 : Int32) from (e 114 (by omega)).mpr h1), if_pos h1]; rfl
  · rw [if_neg (show ¬ nI c = (114 : Int32) from fun g => h1 ((e 114 (by omega)).mp g)), if_neg h1]
    by_cases h2 : c = 105
    · rw [if_pos (show nI c = (105 : Int32) from (e 105 (by omega)).mpr h2), if_pos h2]; rfl
    · rw [if_neg (show ¬ nI c = (105 : Int32) from fun g => h2 ((e 105 (by omega)).mp g)), if_neg h2]
      by_cases h3 : c = 100
      · rw [if_pos (show nI c = (100 : Int32) from (e 100 (by omega)).mpr h3), if_pos h3]; rfl
      · rw [if_neg (show ¬ nI c = (100 : Int32) from fun g => h3 ((e 100 (by omega)).mp g)), if_neg h3]; rfl
theorem gq_dyC (h : gp_xC M x) : ∀ (n p m : Nat) (v : Int32), x.length ≤ p + n → p ≤ x.length → 4 * n < m → f3_faultOfDay_7 m v 0 (nI p) M = some (gp_ans1 (gq_dy x n p).1, M) := by
  have h80 := h.1
  have z3 : ∀ k : Nat, k < 100 → ∀ j : Nat, j < 100 → ((nI k = nI j) ↔ k = j) := fun k hk j hj => nI_eq (by omega) (by omega)
  intro n
  induction n with
  | zero =>
    intro p m v hp hpl hm
    obtain ⟨m, rfl⟩ : ∃ q, m = q + 1 := ⟨m - 1, by omega⟩
    rw [f3_faultOfDay_7, h.2.1, if_pos (nI_le (by omega) (by omega)), if_pos rfl]
    rfl
  | succ n ih =>
    intro p m v hp hpl hm
    obtain ⟨m, rfl⟩ : ∃ q, m = q + 4 := ⟨m - 4, by omega⟩
    rw [gq_dy, f3_faultOfDay_7, h.2.1]
    by_cases c0 : x.length ≤ p
    · rw [if_pos (nI_le c0 (by omega)), if_pos rfl, if_pos c0]
      rfl
    · rw [if_neg (nI_ge (by omega) (by omega)), if_neg c0, gp_xget h (by omega), gp_eB2, if_pos rfl, gq_kind (h.2.2 p (by omega)).2, gp_eB2]
      unfold f3_faultOfDay_34
      rw [if_pos rfl]
      cases hk : gq_dk (x.getD p 0) with
      | none =>
        rw [if_pos (show gp_o none = -1 from rfl)]
        unfold f3_faultOfDay_69
        rw [if_pos rfl]
        rfl
      | some kd =>
        have hk3 := gq_dk_lt hk
        dsimp only
        have go : ∀ m v2, f3_faultOfDay_69 (f3_faultOfDay_7 m) v2 0 (nI p) 1 M = f3_faultOfDay_7 m v2 (nI 1) (nI (p + 1)) M := fun m v2 => by
          unfold f3_faultOfDay_69 f3_faultOfDay_101
          rw [if_neg (by decide), if_neg (by decide), if_neg (by decide), if_pos rfl, gp_eL, gp_eL, nI_1]
          rfl
        rw [if_neg (show ¬ gp_o (some kd) = -1 from by rw [gp_oS, gp_m1, gp_ne1 (by omega)]; exact id), go, gp_oS, f3_faultOfDay_7, h.2.1]
        by_cases g1 : x.length ≤ p + 1
        · rw [if_pos (nI_le g1 (by omega)), if_neg (by decide), if_pos (gq_isdN g1), show p + 1 = x.length by omega]
          rfl
        · rw [if_neg (nI_ge (by omega) (by omega)), gp_xget h (by omega), gp_eB2, if_neg (by decide)]
          unfold f3_faultOfDay_34
          rw [if_neg (by decide), if_neg (by decide), gq_dig (h.2.2 (p + 1) (by omega)).2, gp_eB2]
          by_cases d1 : gq_isd x (p + 1) = true
          · have d1' := (gq_isdE (show p + 1 < x.length by omega)).mp d1
            rw [if_neg (show ¬ gq_isd x (p + 1) = false by simp [d1]), if_pos d1']
            unfold f3_faultOfDay_69 f3_faultOfDay_101
            rw [if_neg (by decide), if_neg (by decide), if_neg (by decide), if_pos rfl, gp_eL, gp_eL, nI_1, nI_1, f3_faultOfDay_7, h.2.1]
            by_cases g2 : x.length ≤ p + 1 + 1
            · rw [if_pos (nI_le g2 (by omega)), if_neg (by decide), if_pos (gq_isdN g2), show p + 2 = x.length by omega]
              rfl
            · rw [if_neg (nI_ge (by omega) (by omega)), gp_xget h (by omega), gp_eB2, if_neg (by decide)]
              unfold f3_faultOfDay_34
              rw [if_neg (by decide), if_neg (by decide), gq_dig (h.2.2 (p + 1 + 1) (by omega)).2, gp_eB2]
              by_cases d2 : gq_isd x (p + 2) = true
              · have d2' := (gq_isdE (show p + 2 < x.length by omega)).mp d2
                rw [if_neg (show ¬ gq_isd x (p + 2) = false by simp [d2]), if_pos d2']
                unfold f3_faultOfDay_69 f3_faultOfDay_101
                rw [if_neg (by decide), if_neg (by decide), if_pos (by decide)]
                by_cases k2 : kd = 2
                · rw [if_pos (show nI kd = (2 : Int32) from by rw [k2]; rfl), if_neg (by decide), gp_eL, nI_1, if_pos k2]
                  exact ih (p + 3) (m + 1) (nI kd) (by omega) (by omega) (by omega)
                · rw [if_neg (show ¬ nI kd = (2 : Int32) from fun g => k2 ((nI_eq (b := 2) (by omega) (by omega)).mp g)), if_pos rfl, gp_eL, gp_eL, nI_1, nI_1, if_neg k2, f3_faultOfDay_7, h.2.1]
                  by_cases g3 : x.length ≤ p + 1 + 1 + 1
                  · rw [if_pos (nI_le g3 (by omega)), if_neg (by decide), if_pos (gq_issN g3), show p + 3 = x.length by omega]
                    rfl
                  · rw [if_neg (nI_ge (by omega) (by omega)), gp_xget h (by omega), gp_eB2, if_neg (by decide)]
                    unfold f3_faultOfDay_34
                    rw [if_neg (by decide), if_pos (by decide), gp_isS (h.2.2 (p + 1 + 1 + 1) (by omega)).2, gp_eB2]
                    by_cases d3 : gq_iss x (p + 3) = true
                    · have d3' := (gq_issE (show p + 3 < x.length by omega)).mp d3
                      rw [if_neg (show ¬ gq_iss x (p + 3) = false by simp [d3]), if_pos d3']
                      unfold f3_faultOfDay_69 f3_faultOfDay_101
                      rw [if_neg (by decide), if_pos (by decide), if_neg (by decide), gp_eL, nI_1]
                      exact ih (p + 4) m (nI kd) (by omega) (by omega) (by omega)
                    · have d3' : ¬ (97 ≤ x.getD (p + 1 + 1 + 1) 0 ∧ x.getD (p + 1 + 1 + 1) 0 ≤ 104) := fun g => d3 ((gq_issE (show p + 3 < x.length by omega)).mpr g)
                      rw [if_neg d3', if_pos (show gq_iss x (p + 3) = false by simpa using d3)]
                      unfold f3_faultOfDay_69
                      rw [if_pos rfl]
                      rfl
              · have d2' : ¬ (48 ≤ x.getD (p + 1 + 1) 0 ∧ x.getD (p + 1 + 1) 0 ≤ 57) := fun g => d2 ((gq_isdE (show p + 2 < x.length by omega)).mpr g)
                rw [if_neg d2', if_pos (show gq_isd x (p + 2) = false by simpa using d2)]
                unfold f3_faultOfDay_69
                rw [if_pos rfl]
                rfl
          · have d1' : ¬ (48 ≤ x.getD (p + 1) 0 ∧ x.getD (p + 1) 0 ≤ 57) := fun g => d1 ((gq_isdE (show p + 1 < x.length by omega)).mpr g)
            rw [if_neg d1', if_pos (show gq_isd x (p + 1) = false by simpa using d1)]
            unfold f3_faultOfDay_69
            rw [if_pos rfl]
            rfl
/-! the reference reads acts -/
def gq_dL (M M' : gz_M) : Prop := M'.2 = M.2 ∧ (∀ c, c ≠ 0 → c ≠ 35 → M'.1 c = M.1 c) ∧ ∀ i, i ≠ 8 → i ≠ 9 → M'.1 0 i = M.1 0 i
theorem gq_dL.trans {M1 : gz_M} (h : gq_dL M M1) (h' : gq_dL M1 M') : gq_dL M M' := ⟨h'.1.trans h.1, fun c a b => (h'.2.1 c a b).trans (h.2.1 c a b), fun i a b => (h'.2.2 i a b).trans (h.2.2 i a b)⟩
theorem gq_dL.w0 {i : Nat} (v : Int32) (M : gz_M) (h : i = 8 ∨ i = 9) : gq_dL M (gz_w M 0 i v) := ⟨rfl, fun c h1 h2 => gp_wc _ h1, fun a h1 h2 => gp_gn (by omega)⟩
theorem gq_dL.w35 {i : Nat} (v : Int32) (M : gz_M) : gq_dL M (gz_w M 35 i v) := ⟨rfl, fun c h1 h2 => gp_wc _ h2, fun a h1 h2 => gp_gn (by omega)⟩
theorem gp_at.dL {t : List Nat} (h : gp_at M t p) (hL : gq_dL M M') (e8 : M'.1 0 8 = M.1 0 8) (e9 : M'.1 0 9 = M.1 0 9) : gp_at M' t p := ⟨h.1, h.2.1, by rw [hL.2.2 7 (by omega) (by omega)]; exact h.2.2.1, by rw [e8]; exact h.2.2.2.1, by rw [e9]; exact h.2.2.2.2.1, fun i hi => by rw [hL.2.1 4 (by omega) (by omega)]; exact h.2.2.2.2.2 i hi⟩
/-- a digit, or a fault -/
theorem gq_oneD (h : gp_at M x p) : (gq_isd x p = true ∧ p < x.length ∧ f12_oneOf 48 10 M = some (nI (x.getD p 0 - 48), gz_w M 0 8 (nI (p + 1)))) ∨ (gq_isd x p = false ∧ f12_oneOf 48 10 M = some (0, gz_w M 0 9 (nI p))) := by
  have one := gp_oneE h (a := 48) (b := 9) (by omega) (by omega)
  by_cases hp : p < x.length
  · rw [gp_hrS hp] at one
    dsimp only at one
    by_cases hd : gq_isd x p = true
    · have d := (gq_isdE hp).mp hd
      rw [if_pos (show 48 ≤ x.getD p 0 ∧ x.getD p 0 ≤ 48 + 9 from d)] at one
      exact Or.inl ⟨hd, hp, one⟩
    · have d : ¬ (48 ≤ x.getD p 0 ∧ x.getD p 0 ≤ 57) := fun g => hd ((gq_isdE hp).mpr g)
      rw [if_neg (show ¬ (48 ≤ x.getD p 0 ∧ x.getD p 0 ≤ 48 + 9) from d)] at one
      exact Or.inr ⟨by simpa using hd, one⟩
  · have hn : gp_hr x p = none := by unfold gp_hr; rw [if_neg hp]
    rw [hn] at one
    exact Or.inr ⟨gq_isdN (by omega), one⟩
theorem gq_oneS (h : gp_at M x p) : (gq_iss x p = true ∧ p < x.length ∧ f12_oneOf 97 8 M = some (nI (x.getD p 0 - 97), gz_w M 0 8 (nI (p + 1)))) ∨ (gq_iss x p = false ∧ f12_oneOf 97 8 M = some (0, gz_w M 0 9 (nI p))) := by
  have one := gp_oneE h (a := 97) (b := 7) (by omega) (by omega)
  by_cases hp : p < x.length
  · rw [gp_hrS hp] at one
    dsimp only at one
    by_cases hd : gq_iss x p = true
    · have d := (gq_issE hp).mp hd
      rw [if_pos (show 97 ≤ x.getD p 0 ∧ x.getD p 0 ≤ 97 + 7 from d)] at one
      exact Or.inl ⟨hd, hp, one⟩
    · have d : ¬ (97 ≤ x.getD p 0 ∧ x.getD p 0 ≤ 104) := fun g => hd ((gq_issE hp).mpr g)
      rw [if_neg (show ¬ (97 ≤ x.getD p 0 ∧ x.getD p 0 ≤ 97 + 7) from d)] at one
      exact Or.inr ⟨by simpa using hd, one⟩
  · have hn : gp_hr x p = none := by unfold gp_hr; rw [if_neg hp]
    rw [hn] at one
    exact Or.inr ⟨gq_issN (by omega), one⟩
/-- one act is read -/
def gq_act3 (M : gz_M) (i : Nat) (a : Nat × Nat × Nat) : Prop := M.1 35 (3 * i) = nI a.1 ∧ M.1 35 (3 * i + 1) = nI a.2.1 ∧ M.1 35 (3 * i + 2) = nI a.2.2
theorem gq_rdAct {n i : Nat} (h : gp_at M x p) (hp : p < x.length) (hi : 3 * i ≤ p) : ∃ M', f12_readAct (nI (3 * i)) M = some M' ∧ gq_dL M M' ∧ (∀ y, y < 3 * i → M'.1 35 y = M.1 35 y) ∧ ((∃ q, (gq_dy x (n + 1) p) = (some q, []) ∧ q ≤ x.length ∧ M'.1 0 9 = nI q) ∨ (∃ a p', gq_dy x (n + 1) p = ((gq_dy x n p').1, a :: (gq_dy x n p').2) ∧ gp_at M' x p' ∧ p + 3 ≤ p' ∧ gq_act3 M' i a)) := by
  have h80 := h.1
  have hh : gp_hr x p = some (x.getD p 0) := gp_hrS hp
  have hc := (h.2.2.2.2.2 p hp).2
  have e : ∀ k : Nat, k < 256 → ((nI (x.getD p 0) = nI k) ↔ x.getD p 0 = k) := fun k hk => nI_eq (by omega) (by omega)
  have start : f12_readAct (nI (3 * i)) M = f12_readAct_36 (nI (3 * i)) (gp_o (gq_dk (x.getD p 0))) M := by
    unfold f12_readAct gq_dk
    rw [gp_hereE h, gp_eB2, hh, gp_oS]
    by_cases h1 : x.getD p 0 = 114
    · rw [if_pos (show nI (x.getD p 0) = (114 : Int32) from (e 114 (by omega)).mpr h1), if_pos h1]; rfl
    · rw [if_neg (show ¬ nI (x.getD p 0) = (114 : Int32) from fun g => h1 ((e 114 (by omega)).mp g)), if_neg h1]
      by_cases h2 : x.getD p 0 = 105
      · rw [if_pos (show nI (x.getD p 0) = (105 : Int32) from (e 105 (by omega)).mpr h2), if_pos h2]; rfl
      · rw [if_neg (show ¬ nI (x.getD p 0) = (105 : Int32) from fun g => h2 ((e 105 (by omega)).mp g)), if_neg h2]
        by_cases h3 : x.getD p 0 = 100
        · rw [if_pos (show nI (x.getD p 0) = (100 : Int32) from (e 100 (by omega)).mpr h3), if_pos h3]; rfl
        · rw [if_neg (show ¬ nI (x.getD p 0) = (100 : Int32) from fun g => h3 ((e 100 (by omega)).mp g)), if_neg h3]; rfl
  rw [start, gq_dy, if_neg (show ¬ x.length ≤ p by omega)]
  cases hk : gq_dk (x.getD p 0) with
  | none =>
    refine ⟨gz_w M 0 9 (nI p), ?_, gq_dL.w0 _ _ (by omega), fun y hy => by rw [gp_gn (by omega)], Or.inl ⟨p, rfl, by omega, gp_gs _ _ _ _⟩⟩
    unfold f12_readAct_36
    rw [if_pos (show gp_o none = -1 from rfl), gp_faultE h, gp_eB]
  | some kd =>
    have hk3 := gq_dk_lt hk
    dsimp only
    obtain ⟨K, hK⟩ : ∃ K, K = gz_w (gz_w M 0 8 (nI (p + 1))) 35 (3 * i) (nI kd) := ⟨_, rfl⟩
    have lK : gq_dL M K := by rw [hK]; exact (gq_dL.w0 _ _ (by omega)).trans (gq_dL.w35 _ _)
    have aK : gp_at K x (p + 1) := by rw [hK]; exact (h.nx hp).dL (gq_dL.w35 _ _) (gp_gn (by omega)) (gp_gn (by omega))
    have K35 : ∀ y, y < 3 * i → K.1 35 y = M.1 35 y := fun y hy => by rw [hK, gp_gn (by omega), gp_gn (by omega)]
    have K0 : K.1 35 (3 * i) = nI kd := by rw [hK, gp_gs]
    have k2 : (gp_o (some kd) = (2 : Int32)) ↔ kd = 2 := nI_eq (b := 2) (by omega) (by omega)
    have e36 : f12_readAct_36 (nI (3 * i)) (gp_o (some kd)) M = gz_bd2 (f12_twoDigits K) fun v7 M8 => gz_ck (gz_inb (nI (3 * i) + 1) 240) <| gz_lt (gz_w M8 35 (nI (3 * i) + 1).toNatClampNeg v7) fun M11 => if kd = 2 then (gz_ck (gz_inb (nI (3 * i) + 2) 240) <| gz_lt (gz_w M11 35 (nI (3 * i) + 2).toNatClampNeg 0) fun M14 => some M14) else (gz_bd2 (f12_oneOf 97 8 M11) fun v15 M16 => gz_ck (gz_inb (nI (3 * i) + 2) 240) <| gz_lt (gz_w M16 35 (nI (3 * i) + 2).toNatClampNeg v15) fun M19 => some M19) := by
      unfold f12_readAct_36
      rw [if_neg (show ¬ gp_o (some kd) = -1 from by rw [gp_oS, gp_m1, gp_ne1 (by omega)]; exact id), h.2.2.2.1, nI_1, gp_eL, gp_ckb (show 3 * i < 240 by omega) (by omega), nI_clamp (by omega), gp_oS, gp_eL, ← hK]
      congr 1
      funext v7 M8
      congr 1
      congr 1
      funext M11
      by_cases c : kd = 2
      · rw [if_pos (show nI kd = (2 : Int32) from k2.mpr c), if_pos c]
      · rw [if_neg (show ¬ nI kd = (2 : Int32) from fun g => c (k2.mp g)), if_neg c]
    rw [e36]
    have i1 : nI (3 * i) + 1 = nI (3 * i + 1) := nI_1 _
    have i2 : nI (3 * i) + 2 = nI (3 * i + 2) := nI_add _ 2
    rw [i1, i2]
    -- a fault in the digits: the rest writes acts alone
    have badD : ∀ q v7 M8, f12_twoDigits K = some (v7, M8) → gq_dL K M8 → M8.1 35 = K.1 35 → M8.1 0 9 = nI q → q ≤ x.length → ∃ M', (gz_bd2 (f12_twoDigits K) fun v7 M8 => gz_ck (gz_inb (nI (3 * i + 1)) 240) <| gz_lt (gz_w M8 35 (nI (3 * i + 1)).toNatClampNeg v7) fun M11 => if kd = 2 then (gz_ck (gz_inb (nI (3 * i + 2)) 240) <| gz_lt (gz_w M11 35 (nI (3 * i + 2)).toNatClampNeg 0) fun M14 => some M14) else (gz_bd2 (f12_oneOf 97 8 M11) fun v15 M16 => gz_ck (gz_inb (nI (3 * i + 2)) 240) <| gz_lt (gz_w M16 35 (nI (3 * i + 2)).toNatClampNeg v15) fun M19 => some M19)) = some M' ∧ gq_dL M M' ∧ (∀ y, y < 3 * i → M'.1 35 y = M.1 35 y) ∧ M'.1 0 9 = nI q := by
      intro q v7 M8 t1 t2 t3 t4 t5
      have h9 : (gz_w M8 35 (3 * i + 1) v7).1 0 9 = nI q := by rw [gp_gn (by omega)]; exact t4
      rw [t1, gp_eB2, gp_ckb (show 3 * i + 1 < 240 by omega) (by omega), nI_clamp (by omega), gp_eL]
      refine ⟨gz_w (gz_w M8 35 (3 * i + 1) v7) 35 (3 * i + 2) 0, ?_, ((lK.trans t2).trans (gq_dL.w35 _ _)).trans (gq_dL.w35 _ _), fun y hy => by rw [gp_gn (by omega), gp_gn (by omega), t3, K35 y hy], by rw [gp_gn (by omega)]; exact h9⟩
      by_cases c : kd = 2
      · rw [if_pos c, gp_ckb (show 3 * i + 2 < 240 by omega) (by omega), nI_clamp (by omega), gp_eL]
      · rw [if_neg c, gp_oneN h9 (by omega), gp_eB2, gp_ckb (show 3 * i + 2 < 240 by omega) (by omega), nI_clamp (by omega), gp_eL]
    rcases gq_oneD aK with ⟨d1, p1, t1⟩ | ⟨d1, t1⟩
    · have aK1 : gp_at (gz_w K 0 8 (nI (p + 1 + 1))) x (p + 1 + 1) := aK.nx p1
      rcases gq_oneD aK1 with ⟨d2, p2, t2⟩ | ⟨d2, t2⟩
      · have td : f12_twoDigits K = some (nI (gq_pq x p), gz_w (gz_w K 0 8 (nI (p + 1 + 1))) 0 8 (nI (p + 1 + 1 + 1))) := by
          unfold f12_twoDigits
          rw [t1, gp_eB2, t2, gp_eB2, show (10 : Int32) = nI 10 from rfl, pk_mul, nI_add]
          rfl
        obtain ⟨P, hP⟩ : ∃ P, P = gz_w (gz_w (gz_w K 0 8 (nI (p + 1 + 1))) 0 8 (nI (p + 1 + 1 + 1))) 35 (3 * i + 1) (nI (gq_pq x p)) := ⟨_, rfl⟩
        have lP : gq_dL M P := by rw [hP]; exact ((lK.trans (gq_dL.w0 _ _ (by omega))).trans (gq_dL.w0 _ _ (by omega))).trans (gq_dL.w35 _ _)
        have aP : gp_at P x (p + 3) := by rw [hP]; exact (aK1.nx p2).dL (gq_dL.w35 _ _) (gp_gn (by omega)) (gp_gn (by omega))
        have P35 : ∀ y, y < 3 * i → P.1 35 y = M.1 35 y := fun y hy => by rw [hP, gp_gn (by omega), gp_gn (by omega), gp_gn (by omega), K35 y hy]
        have P0 : P.1 35 (3 * i) = nI kd := by rw [hP, gp_gn (by omega), gp_gn (by omega), gp_gn (by omega), K0]
        have P1 : P.1 35 (3 * i + 1) = nI (gq_pq x p) := by rw [hP, gp_gs]
        rw [td, gp_eB2, gp_ckb (show 3 * i + 1 < 240 by omega) (by omega), nI_clamp (by omega), gp_eL, ← hP, if_neg (show ¬ gq_isd x (p + 1) = false by simp [d1]), if_neg (show ¬ gq_isd x (p + 2) = false by simp [show gq_isd x (p + 2) = true from d2])]
        by_cases c : kd = 2
        · rw [if_pos c, gp_ckb (show 3 * i + 2 < 240 by omega) (by omega), nI_clamp (by omega), gp_eL, if_pos c]
          refine ⟨_, rfl, lP.trans (gq_dL.w35 _ _), fun y hy => by rw [gp_gn (by omega), P35 y hy], Or.inr ⟨(2, gq_pq x p, 0), p + 3, rfl, aP.dL (gq_dL.w35 _ _) (gp_gn (by omega)) (gp_gn (by omega)), Nat.le_refl _, ?_, ?_, ?_⟩⟩
          · rw [gp_gn (by omega), P0, c]
          · rw [gp_gn (by omega), P1]
          · rw [gp_gs]; rfl
        · rw [if_neg c, if_neg c]
          rcases gq_oneS aP with ⟨d3, p3, t3⟩ | ⟨d3, t3⟩
          · rw [t3, gp_eB2, gp_ckb (show 3 * i + 2 < 240 by omega) (by omega), nI_clamp (by omega), gp_eL, if_neg (show ¬ gq_iss x (p + 3) = false by simp [d3])]
            refine ⟨_, rfl, (lP.trans (gq_dL.w0 _ _ (by omega))).trans (gq_dL.w35 _ _), fun y hy => by rw [gp_gn (by omega), gp_gn (by omega), P35 y hy], Or.inr ⟨(kd, gq_pq x p, x.getD (p + 3) 0 - 97), p + 4, rfl, (aP.nx p3).dL (gq_dL.w35 _ _) (gp_gn (by omega)) (gp_gn (by omega)), by omega, ?_, ?_, ?_⟩⟩
            · rw [gp_gn (by omega), gp_gn (by omega), P0]
            · rw [gp_gn (by omega), gp_gn (by omega), P1]
            · rw [gp_gs]
          · rw [t3, gp_eB2, gp_ckb (show 3 * i + 2 < 240 by omega) (by omega), nI_clamp (by omega), gp_eL, if_pos d3]
            exact ⟨_, rfl, (lP.trans (gq_dL.w0 _ _ (by omega))).trans (gq_dL.w35 _ _), fun y hy => by rw [gp_gn (by omega), gp_gn (by omega), P35 y hy], Or.inl ⟨p + 3, rfl, aP.2.1, by rw [gp_gn (by omega), gp_gs]⟩⟩
      · have td : f12_twoDigits K = some (10 * nI (x.getD (p + 1) 0 - 48) + 0, gz_w (gz_w K 0 8 (nI (p + 1 + 1))) 0 9 (nI (p + 1 + 1))) := by
          unfold f12_twoDigits
          rw [t1, gp_eB2, t2, gp_eB2]
        obtain ⟨M', f1, f2, f3, f4⟩ := badD (p + 1 + 1) _ _ td ((gq_dL.w0 _ _ (by omega)).trans (gq_dL.w0 _ _ (by omega))) (by rw [gp_wc _ (by omega), gp_wc _ (by omega)]) (gp_gs _ _ _ _) (by omega)
        rw [if_neg (show ¬ gq_isd x (p + 1) = false by simp [d1]), if_pos (show gq_isd x (p + 2) = false from d2)]
        exact ⟨M', f1, f2, f3, Or.inl ⟨p + 2, rfl, by omega, f4⟩⟩
    · have h9 : (gz_w K 0 9 (nI (p + 1))).1 0 9 = nI (p + 1) := gp_gs _ _ _ _
      have td : f12_twoDigits K = some (10 * 0 + 0, gz_w K 0 9 (nI (p + 1))) := by
        unfold f12_twoDigits
        rw [t1, gp_eB2, gp_oneN h9 (by omega), gp_eB2]
      obtain ⟨M', f1, f2, f3, f4⟩ := badD (p + 1) _ _ td (gq_dL.w0 _ _ (by omega)) (gp_wc _ (by omega)) h9 (by omega)
      rw [if_pos d1]
      exact ⟨M', f1, f2, f3, Or.inl ⟨p + 1, rfl, by omega, f4⟩⟩
/-- acts are read -/
theorem gq_day11 : ∀ (n p i m : Nat) (M : gz_M), x.length ≤ p + n → n + 1 < m → gp_at M x p → 3 * i ≤ p → ∃ M', gq_dL M M' ∧ (∀ y, y < 3 * i → M'.1 35 y = M.1 35 y) ∧ ((∃ q, (gq_dy x n p).1 = some q ∧ q ≤ x.length ∧ f12_day_11 m (nI i) M = some ((-1) - nI q, M')) ∨ ((gq_dy x n p).1 = none ∧ (∀ j, j < (gq_dy x n p).2.length → gq_act3 M' (i + j) ((gq_dy x n p).2.getD j (0, 0, 0))) ∧ 3 * (i + (gq_dy x n p).2.length) ≤ x.length ∧ f12_day_11 m (nI i) M = f12_day_58 gz_FU (nI (i + (gq_dy x n p).2.length)) 0 M')) := by
  have fin : ∀ (p i m : Nat) (M : gz_M), x.length = p → 1 < m → gp_at M x p → f12_day_11 m (nI i) M = f12_day_58 gz_FU (nI i) 0 M := fun p i m M hp hm ha => by
    have h80 := ha.1
    obtain ⟨m, rfl⟩ : ∃ q, m = q + 1 := ⟨m - 1, by omega⟩
    rw [f12_day_11, gp_fineE ha, gp_eB2, if_neg (by decide), ha.2.2.1, ha.2.2.2.1, if_pos (nI_le (by omega) (by omega))]
    unfold f12_day_42
    rw [gp_wrE ha, if_pos hp.symm, gp_eB2, if_neg (by decide)]
  intro n
  induction n with
  | zero =>
    intro p i m M hn hm ha hi
    have := ha.2.1
    refine ⟨M, ⟨rfl, fun _ _ _ => rfl, fun _ _ _ => rfl⟩, fun _ _ => rfl, Or.inr ⟨rfl, fun j hj => absurd hj (by simp [gq_dy]), by simp [gq_dy]; omega, ?_⟩⟩
    rw [fin p i m M (by omega) (by omega) ha]
    rfl
  | succ n ih =>
    intro p i m M hn hm ha hi
    have h80 := ha.1
    by_cases hp : p < x.length
    · obtain ⟨m, rfl⟩ : ∃ q, m = q + 2 := ⟨m - 2, by omega⟩
      obtain ⟨M1, e1, e2, e3, e4⟩ := gq_rdAct (n := n) ha hp hi
      have hm3 : (3 : Int32) * nI i = nI (3 * i) := by rw [show (3 : Int32) = nI 3 from rfl, pk_mul]
      rw [f12_day_11, gp_fineE ha, gp_eB2, if_neg (by decide), ha.2.2.1, ha.2.2.2.1, if_neg (nI_ge hp (by omega)), hm3, e1, gp_eB, gp_eL, nI_1]
      rcases e4 with ⟨q, g1, g2, g3⟩ | ⟨a, p', g1, g2, g3, g4⟩
      · refine ⟨M1, e2, e3, Or.inl ⟨q, by rw [g1], g2, ?_⟩⟩
        rw [f12_day_11, gp_nfine g3 (by omega), gp_eB2, if_pos rfl]
        unfold f12_day_42
        rw [gp_wrN g3 (by omega), gp_eB2, if_pos rfl, g3]
      · obtain ⟨M2, f1, f2, f3⟩ := ih p' (i + 1) (m + 1) M1 (by omega) (by omega) g2 (by omega)
        refine ⟨M2, e2.trans f1, fun y hy => by rw [f2 y (by omega), e3 y hy], ?_⟩
        rw [g1]
        rcases f3 with ⟨q, g5, g6, g7⟩ | ⟨g5, g6, g7, g8⟩
        · exact Or.inl ⟨q, g5, g6, g7⟩
        · refine Or.inr ⟨g5, fun j hj => ?_, by rw [List.length_cons]; omega, by rw [g8, List.length_cons, show i + 1 + (gq_dy x n p').2.length = i + ((gq_dy x n p').2.length + 1) by omega]⟩
          cases j with
          | zero =>
            have : (a :: (gq_dy x n p').2).getD 0 (0, 0, 0) = a := rfl
            rw [this, Nat.add_zero]
            obtain ⟨z1, z2, z3⟩ := g4
            exact ⟨by rw [f2 _ (by omega)]; exact z1, by rw [f2 _ (by omega)]; exact z2, by rw [f2 _ (by omega)]; exact z3⟩
          | succ j =>
            have e : (a :: (gq_dy x n p').2).getD (j + 1) (0, 0, 0) = (gq_dy x n p').2.getD j (0, 0, 0) := by simp [List.getD]
            rw [e, show i + (j + 1) = i + 1 + j by omega]
            exact g6 j (by simpa using hj)
    · have hl := ha.2.1
      have e : gq_dy x (n + 1) p = (none, []) := by rw [gq_dy, if_pos (by omega)]
      refine ⟨M, ⟨rfl, fun _ _ _ => rfl, fun _ _ _ => rfl⟩, fun _ _ => rfl, Or.inr ⟨by rw [e], fun j hj => absurd hj (by rw [e]; simp), by rw [e]; simp; omega, ?_⟩⟩
      rw [fin p i m M (by omega) (by omega) ha, e]
      rfl
end
