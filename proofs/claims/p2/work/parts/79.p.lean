/-! rules told as a text: the component counts letters -/
/-- the first mode with too many letters -/
def gp_over (u : Nat → Nat) : Option Nat := if 10 < u 0 then some 0 else if 10 < u 1 then some 1 else if 10 < u 2 then some 2 else if 10 < u 3 then some 3 else none
def gp_ans2 : Option Nat → Int32
  | none => 0
  | some p => (-100) - nI p
section
variable {M : gz_M} {t : List Nat}
theorem gp_lom : ∀ (d n p m : Nat) (s sE : gp_S) (x : Int32), m < 4 → p + d = t.length → d < n → gp_xC M t → gp_wS s → gp_itr t d p s = some sE → (s.1 = 0 ↔ p = 0 ∨ t.getD (p - 1) 0 = 59) → (s.1 ≠ 0 → x = nI (gp_md s.2.1)) → s.2.1.2.2 7 m ≤ p → f3_lettersOfMode_7 n (nI m) (nI (s.2.1.2.2 7 m)) x (nI p) M = some (nI (sE.2.1.2.2 7 m), M) ∧ sE.2.1.2.2 7 m ≤ t.length := by
  intro d
  induction d with
  | zero =>
    intro n p m s sE x hm hp hn hx hw e h59 hmd hc
    have h1 := hx.1
    obtain ⟨n, rfl⟩ : ∃ q, n = q + 1 := ⟨n - 1, by omega⟩
    have : p = t.length := by omega
    subst this
    have e := Option.some.inj e
    subst e
    rw [f3_lettersOfMode_7, hx.2.1, if_pos (nI_le (Nat.le_refl _) (by omega))]
    exact ⟨rfl, hc⟩
  | succ d ih =>
    intro n p m s sE x hm hp hn hx hw e h59 hmd hc
    have h1 := hx.1
    obtain ⟨n, rfl⟩ : ∃ q, n = q + 1 := ⟨n - 1, by omega⟩
    have hcc := (hx.2.2 p (by omega)).2
    rw [gp_itr] at e
    cases h : gp_stp s (t.getD p 0) with
    | none => rw [h] at e; cases e
    | some s1 =>
      rw [h] at e
      obtain ⟨u1, u2, u3, u4⟩ := gp_stp_u hw hcc h
      have hw1 := gp_stp_w hcc hw h
      have um := u1 m
      have next : ∀ x', (s1.1 ≠ 0 → x' = nI (gp_md s1.2.1)) → f3_lettersOfMode_7 n (nI m) (nI (s1.2.1.2.2 7 m)) x' (nI (p + 1)) M = some (nI (sE.2.1.2.2 7 m), M) ∧ sE.2.1.2.2 7 m ≤ t.length := fun x' hx' => by
        refine ih n (p + 1) m s1 sE x' hm (by omega) (by omega) hx hw1 e ?_ hx' ?_
        · rw [u2, Nat.add_sub_cancel]
          exact ⟨fun h => Or.inr h, fun h => h.elim (fun h => by omega) id⟩
        · rw [um]
          split <;> omega
      have hget := gp_xget hx (p := p) (by omega)
      rw [f3_lettersOfMode_7, hx.2.1, if_neg (nI_ge (by omega) (by omega)), hget, gp_eB2]
      -- a mode's digit
      have dig : s.1 = 0 → f3_lettersOfMode_7 n (nI m) (nI (s.2.1.2.2 7 m)) (nI (t.getD p 0) - 48) (nI p + 1) M = some (nI (sE.2.1.2.2 7 m), M) ∧ sE.2.1.2.2 7 m ≤ t.length := fun h0 => by
        obtain ⟨v1, v2⟩ := u3 h0
        have e48 : nI (t.getD p 0) - 48 = nI (gp_md s1.2.1) := by
          rw [show (48 : Int32) = nI 48 from rfl, gp_subI v2, v1]
        rw [e48, nI_1]
        have := next (nI (gp_md s1.2.1)) (fun _ => rfl)
        rw [um, if_neg (fun h => h.1 h0)] at this
        exact this
      by_cases hp0 : p = 0
      · rw [if_pos (by rw [hp0]; exact nI_0)]
        exact dig (h59.mpr (Or.inl hp0))
      · obtain ⟨q, rfl⟩ : ∃ q, p = q + 1 := ⟨p - 1, by omega⟩
        rw [if_neg (nI_ne0 (by omega) (by omega)), nI_pred, gp_xget hx (p := q) (by omega), gp_eB2]
        have hcq := (hx.2.2 q (by omega)).2
        by_cases hq : t.getD q 0 = 59
        · rw [if_pos (by rw [hq]; rfl)]
          exact dig (h59.mpr (Or.inr hq))
        · rw [if_neg (show ¬ nI (t.getD q 0) = (59 : Int32) from fun e => hq ((nI_eq (b := 59) (by omega) (by omega)).mp e))]
          have h0 : s.1 ≠ 0 := fun h => by
            rcases h59.mp h with h | h
            · exact hp0 h
            · exact hq h
          have hx0 := hmd h0
          have hm4 := (hw.2.2.1 (by omega)).1
          have hxn : s1.1 ≠ 0 → x = nI (gp_md s1.2.1) := fun h1 => by rw [hx0, u4 h0 (fun h => h1 (u2.mpr h))]
          by_cases hxm : m = gp_md s.2.1
          · rw [if_pos (by rw [hx0, hxm]), gp_isLetE hcc, gp_eB2]
            cases hl : gp_isL (t.getD (q + 1) 0) with
            | false =>
              rw [if_neg (show ¬ (false = true) by simp), if_pos rfl, gp_eL, nI_1]
              have := next x hxn
              rw [um, if_neg (fun h => by rw [hl] at h; exact absurd h.2.1 (by decide))] at this
              exact this
            | true =>
              rw [if_pos rfl, if_neg (by decide), gp_eL, gp_eL, nI_1, nI_1]
              have := next x hxn
              rw [um, if_pos ⟨h0, hl, hxm⟩] at this
              exact this
          · rw [if_neg (by rw [hx0]; exact fun h => hxm ((nI_eq (by omega) (by omega)).mp h).symm), gp_eL, nI_1]
            have := next x hxn
            rw [um, if_neg (fun h => hxm h.2.2)] at this
            exact this
theorem gp_lomC {s : gp_S} (hx : gp_xC M t) (e : gp_itr t t.length 0 gp_s0 = some s) {m : Nat} (hm : m < 4) : f3_lettersOfMode (nI m) M = some (nI (s.2.1.2.2 7 m), M) ∧ s.2.1.2.2 7 m ≤ 80 := by
  have h1 := hx.1
  obtain ⟨a, b⟩ := gp_lom (M := M) (t := t) t.length gz_FU 0 m gp_s0 s (-1) hm (by omega) (by unfold gz_FU; omega) hx gp_w0 e ⟨fun _ => Or.inl rfl, fun _ => rfl⟩ (fun h => absurd rfl h) (by show 0 ≤ 0; omega)
  exact ⟨a, by omega⟩
theorem gp_folC {s : gp_S} (hx : gp_xC M t) (e : gp_itr t t.length 0 gp_s0 = some s) : f3_faultOfLetters M = some (gp_ans2 (gp_over (s.2.1.2.2 7)), M) := by
  have st : ∀ (m n : Nat), m < 4 → f3_faultOfLetters_2 (n + 1) (nI m) M = if 10 < s.2.1.2.2 7 m then some ((-100) - nI m, M) else f3_faultOfLetters_2 n (nI (m + 1)) M := fun m n hm => by
    obtain ⟨a, b⟩ := gp_lomC hx e hm
    rw [f3_faultOfLetters_2, if_neg (show ¬ (4 : Int32) ≤ nI m from nI_ge (b := 4) (by omega) (by omega)), a, gp_eB2]
    by_cases h : 10 < s.2.1.2.2 7 m
    · rw [if_neg (show ¬ nI (s.2.1.2.2 7 m) ≤ (10 : Int32) from nI_ge (a := 10) (by omega) (by omega)), if_pos h]
    · rw [if_pos (show nI (s.2.1.2.2 7 m) ≤ (10 : Int32) from nI_le (b := 10) (by omega) (by omega)), if_neg h, gp_eL, nI_1]
  unfold f3_faultOfLetters
  rw [show (0 : Int32) = nI 0 from rfl, show gz_FU = 999995 + 1 + 1 + 1 + 1 + 1 from rfl, st 0 _ (by omega), st 1 _ (by omega), st 2 _ (by omega), st 3 _ (by omega)]
  unfold gp_over
  split
  · rfl
  · split
    · rfl
    · split
      · rfl
      · split
        · rfl
        · rw [f3_faultOfLetters_2, if_pos (by decide)]
          rfl
end
