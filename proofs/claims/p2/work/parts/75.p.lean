/-! rules told as a text: the component's grammar -/
/-- the first place of a fault; none: it is right -/
def gp_er (t : List Nat) : Nat → Nat → gp_S → Option Nat
  | 0, p, s => if t.length = 0 ∨ s.1 = 5 ∨ (s.1 = 3 ∧ s.2.2.1.length ≤ 1) then none else some p
  | n + 1, p, s => match gp_stp s (t.getD p 0) with
    | none => some p
    | some s' => gp_er t n (p + 1) s'
def gp_flt (t : List Nat) : Option Nat := gp_er t t.length 0 gp_s0
/-- what lies open of a state -/
def gp_opn (s : gp_S) : Prop := s.1 ≤ 5 ∧ s.2.2.1.length ≤ 7 ∧ s.2.1.1 ≤ 7 ∧ (s.1 = 0 → s.2.2.1 = []) ∧ (1 ≤ s.1 → 0 < s.2.2.1.length) ∧ (s.1 = 1 ∨ s.1 = 4 ∨ s.1 = 5 → s.2.2.1.length = 1)
theorem gp_eP_len (s : gp_S) : (gp_eP s).2.2.1.length = s.2.2.1.length := by
  unfold gp_eP
  split
  · rfl
  · rename_i h
    rw [h]; rfl
theorem gp_eP_1 (s : gp_S) : (gp_eP s).2.1.1 = s.2.1.1 := by
  unfold gp_eP
  split
  · rfl
  · show (gp_lnO _ _ _).1 = _
    unfold gp_lnO
    split <;> rfl
theorem gp_eCh_len (s : gp_S) : (gp_eCh s).2.2.1.length = s.2.2.1.length ∧ (gp_eCh s).2.1.1 = s.2.1.1 := by
  unfold gp_eCh
  split
  · exact ⟨gp_eP_len s, gp_eP_1 s⟩
  · rename_i h
    refine ⟨?_, gp_eP_1 s⟩
    have := gp_eP_len s
    rw [h] at this
    simpa using this
theorem gp_eR_1 {s : gp_S} : (gp_eR s).1 = s.2.1.1 + 1 := by
  unfold gp_eR
  split <;> rw [(gp_eCh_len s).2]
theorem gp_inP_opn {s s' : gp_S} {c : Nat} (h : gp_opn s) (h1 : 1 ≤ s.1) (e : gp_inP s c = some s') : gp_opn s' ∧ s'.2.1.1 = s.2.1.1 ∧ ((gp_isL c = true ∧ s'.1 = 3 ∧ s'.2.2.1.length = s.2.2.1.length) ∨ (gp_isL c = false ∧ c = 40 ∧ s.2.2.1.length ≤ 6 ∧ s'.1 = 2 ∧ s'.2.2.1.length = s.2.2.1.length + 1)) := by
  obtain ⟨a1, a2, a3, a4, a5, a6⟩ := h
  unfold gp_inP at e
  by_cases hl : gp_isL c = true
  · rw [if_pos hl] at e
    have e := Option.some.inj e
    subst e
    have hlen : (gp_let s c).2.2.1.length = s.2.2.1.length := gp_eP_len s
    have ht : (gp_let s c).2.1.1 = s.2.1.1 := gp_eP_1 s
    have h3 : (gp_let s c).1 = 3 := rfl
    refine ⟨⟨by omega, by omega, by omega, by omega, fun _ => by have := a5 h1; omega, by omega⟩, ht, Or.inl ⟨hl, h3, hlen⟩⟩
  · rw [if_neg hl] at e
    split at e
    · rename_i hc
      have e := Option.some.inj e
      subst e
      have hlen : (gp_brk s).2.2.1.length = s.2.2.1.length + 1 := by
        show ((none, none) :: (gp_eP s).2.2.1).length = _
        rw [List.length_cons, gp_eP_len]
      have ht : (gp_brk s).2.1.1 = s.2.1.1 := gp_eP_1 s
      have h3 : (gp_brk s).1 = 2 := rfl
      refine ⟨⟨by omega, by omega, by omega, by omega, by omega, by omega⟩, ht, Or.inr ⟨by simpa using hl, hc.1, hc.2, h3, hlen⟩⟩
    · cases e
def gp_gS (M : gz_M) (s : gp_S) : Prop := M.1 3 0 = nI (s.2.2.1.length - 1) ∧ M.1 3 1 = nI s.2.1.1
def gp_gL (M M' : gz_M) : Prop := M'.2 = M.2 ∧ ∀ c, c ≠ 3 → M'.1 c = M.1 c
section
variable {s : gp_S} {c : Nat} {M : gz_M}
theorem gp_isSignE (hc : c < 256) (M : gz_M) : f3_isSign (nI c) M = some ((if 97 ≤ c ∧ c ≤ 104 then 1 else 0), M) := by
  unfold f3_isSign
  by_cases h1 : c < 97
  · rw [if_pos (by exact nI_lt h1 (by decide)), if_neg (by omega)]
  · rw [if_neg (by exact nI_nlt (show 97 ≤ c by omega) (by omega))]
    by_cases h2 : 104 < c
    · rw [if_pos (by exact nI_lt h2 (by omega)), if_neg (by omega)]
    · rw [if_neg (show ¬ (104 : Int32) < nI c from nI_nlt (a := 104) (by omega) (by omega)), if_pos (by omega)]
theorem gp_isLetE (hc : c < 256) (M : gz_M) : f3_isLetter (nI c) M = some ((if gp_isL c = true then 1 else 0), M) := by
  unfold f3_isLetter
  by_cases h46 : c = 46
  · subst h46
    rw [if_pos (by rfl), if_pos (by decide)]
  · rw [if_neg (show ¬ nI c = (46 : Int32) from fun e => h46 ((nI_eq (b := 46) (by omega) (by omega)).mp e)), gp_isSignE hc, gp_eB2]
    by_cases h1 : 97 ≤ c ∧ c ≤ 104
    · rw [if_pos h1, if_neg (by decide), if_pos]
      unfold gp_isL
      simp [h1.1, h1.2]
    · rw [if_neg h1, if_pos rfl, if_neg]
      unfold gp_isL
      simp [h46]
      omega
theorem gp_isMDE (hc : c < 256) (M : gz_M) : f3_isModeDigit (nI c) M = some ((if 48 ≤ c ∧ c ≤ 51 then 1 else 0), M) := by
  unfold f3_isModeDigit
  by_cases h1 : c < 48
  · rw [if_pos (by exact nI_lt h1 (by decide)), if_neg (by omega)]
  · rw [if_neg (by exact nI_nlt (show 48 ≤ c by omega) (by omega))]
    by_cases h2 : 51 < c
    · rw [if_pos (by exact nI_lt h2 (by omega)), if_neg (by omega)]
    · rw [if_neg (show ¬ (51 : Int32) < nI c from nI_nlt (a := 51) (by omega) (by omega)), if_pos (by omega)]
/-- sign c is the number n -/
theorem gp_cN (hc : c < 256) (n : Nat) (hn : n < 2 ^ 31) : (nI c = nI n) = (c = n) := gp_eqe (by omega) hn
/-- what a step of the grammar says -/
def gp_gE (M : gz_M) (r : Option gp_S) (a : Option (Int32 × gz_M)) : Prop := match r with
  | none => ∃ M', a = some (-1, M') ∧ gp_gL M M'
  | some s' => ∃ M', a = some (nI s'.1, M') ∧ gp_gL M M' ∧ gp_gS M' s'
theorem gp_gInP (hc : c < 256) (h : gp_opn s) (h1 : 1 ≤ s.1) (hg : gp_gS M s) : gp_gE M (gp_inP s c) (f3_dueInPart (nI c) M) := by
  obtain ⟨a1, a2, a3, a4, a5, a6⟩ := h
  have h0 := a5 h1
  have L0 : gp_gL M M := ⟨rfl, fun _ _ => rfl⟩
  have hI := fun s' => gp_inP_opn (c := c) (s' := s') (⟨a1, a2, a3, a4, a5, a6⟩ : gp_opn s) h1
  unfold f3_dueInPart
  rw [gp_isLetE hc, gp_eB2]
  by_cases hl : gp_isL c = true
  · rw [if_pos hl, if_neg (by decide)]
    have e : gp_inP s c = some (gp_let s c) := by unfold gp_inP; rw [if_pos hl]
    obtain ⟨_, b2, b3⟩ := hI _ e
    rcases b3 with ⟨_, b4, b5⟩ | ⟨b4, _⟩
    · rw [e]
      exact ⟨M, rfl, L0, by rw [b5]; exact hg.1, by rw [b2]; exact hg.2⟩
    · rw [hl] at b4; cases b4
  · rw [if_neg hl, if_pos rfl]
    by_cases h40 : c = 40
    · rw [if_pos (by rw [h40]; rfl), hg.1]
      by_cases h6 : s.2.2.1.length ≤ 6
      · have e : gp_inP s c = some (gp_brk s) := by unfold gp_inP; rw [if_neg hl, if_pos ⟨h40, h6⟩]
        obtain ⟨_, b2, b3⟩ := hI _ e
        rcases b3 with ⟨b4, _⟩ | ⟨_, _, _, b4, b5⟩
        · rw [b4] at hl; exact absurd rfl hl
        · rw [if_pos (by exact nI_lt (show s.2.2.1.length - 1 < 6 by omega) (by decide)), gp_eL, e, nI_1]
          refine ⟨_, rfl, ⟨rfl, fun c hc => gp_wc _ hc⟩, ?_, ?_⟩
          · rw [gp_gs, b5]; congr 1; omega
          · rw [gp_gn (by omega), b2]; exact hg.2
      · rw [if_neg (by exact nI_nlt (show 6 ≤ s.2.2.1.length - 1 by omega) (by omega))]
        have e : gp_inP s c = none := by unfold gp_inP; rw [if_neg hl, if_neg (fun h => h6 h.2)]
        rw [e]
        exact ⟨M, rfl, L0⟩
    · rw [if_neg (show ¬ nI c = (40 : Int32) from fun e => h40 ((nI_eq (b := 40) (by omega) (by omega)).mp e))]
      have e : gp_inP s c = none := by unfold gp_inP; rw [if_neg hl, if_neg (fun h => h40 h.1)]
      rw [e]
      exact ⟨M, rfl, L0⟩
theorem gp_nxt_1 {s s' : gp_S} (e : gp_nxt s = some s') : s.2.1.1 + 1 < 8 ∧ s'.1 = 0 ∧ s'.2.2.1 = [] ∧ s'.2.1 = gp_eR s := by
  unfold gp_nxt at e
  split at e
  · have e := Option.some.inj e
    subst e
    exact ⟨by assumption, rfl, rfl, rfl⟩
  · cases e
theorem gp_inP_c (s : gp_S) (hc : gp_isL c = false) (h : c ≠ 40) : gp_inP s c = none := by
  unfold gp_inP
  rw [if_neg (by simp [hc]), if_neg (fun h' => h h'.1)]
theorem gp_opn_nxt {s' : gp_S} (e : gp_nxt s = some s') : gp_opn s' := by
  obtain ⟨a1, a2, a3, a4⟩ := gp_nxt_1 e
  have h1 : s'.2.1.1 = s.2.1.1 + 1 := by rw [a4, gp_eR_1]
  refine ⟨by omega, by rw [a3]; simp, by omega, fun _ => a3, fun h => by omega, fun h => by omega⟩
theorem gp_gNxt (hg : gp_gS M s) (h7 : s.2.1.1 ≤ 7) (h1 : s.2.2.1.length ≤ 1) : gp_gE M (gp_nxt s) (gz_bd2 (f3_dueInNextRule M) fun v M' => some (v, M')) := by
  unfold f3_dueInNextRule
  rw [gp_eL, hg.2, nI_1, gp_gs]
  have L1 : gp_gL M (gz_w M 3 1 (nI (s.2.1.1 + 1))) := ⟨rfl, fun c hc => gp_wc _ hc⟩
  by_cases h : s.2.1.1 + 1 < 8
  · have e : gp_nxt s = some (0, gp_eR s, [], none) := by unfold gp_nxt; rw [if_pos h]
    rw [if_neg (by exact nI_ge h (by decide)), e]
    refine ⟨_, rfl, L1, ?_, ?_⟩
    · rw [gp_gn (by omega), hg.1]
      show nI (s.2.2.1.length - 1) = nI 0
      congr 1
      omega
    · rw [gp_gs, gp_eR_1]
  · have e : gp_nxt s = none := by unfold gp_nxt; rw [if_neg h]
    rw [if_pos (by exact nI_le (show 8 ≤ s.2.1.1 + 1 by omega) (by omega)), e]
    exact ⟨_, rfl, L1⟩
theorem gp_gStep (hc : c < 256) (h : gp_opn s) (hg : gp_gS M s) : gp_gE M (gp_stp s c) (f3_dueBehind (nI s.1) (nI c) M) ∧ ∀ s', gp_stp s c = some s' → gp_opn s' := by
  have hop := h
  obtain ⟨a1, a2, a3, a4, a5, a6⟩ := h
  have L0 : gp_gL M M := ⟨rfl, fun _ _ => rfl⟩
  have cN : ∀ n : Nat, n < 2 ^ 31 → (nI c = nI n ↔ c = n) := fun n hn => nI_eq (by omega) hn
  have hcases : s.1 = 0 ∨ s.1 = 1 ∨ s.1 = 2 ∨ s.1 = 3 ∨ s.1 = 4 ∨ s.1 = 5 := by omega
  unfold f3_dueBehind
  rw [nI_toInt (by omega)]
  rcases hcases with e | e | e | e | e | e
  · -- a mode's digit
    have hl := a4 e
    rw [e, if_neg (by omega), if_pos (by rfl), gp_isMDE hc, gp_eB2]
    unfold gp_stp
    rw [if_pos e]
    by_cases hd : 48 ≤ c ∧ c ≤ 51
    · rw [if_pos hd, if_pos hd, if_neg (by decide)]
      refine ⟨⟨M, rfl, L0, ?_, hg.2⟩, fun s' hs => ?_⟩
      · rw [hg.1, hl]; rfl
      · have hs := Option.some.inj hs
        subst hs
        exact ⟨by show 1 ≤ 5; omega, by show 1 ≤ 7; omega, a3, fun h => absurd h (by show ¬ (1 : Nat) = 0; omega), fun _ => by show 0 < 1; omega, fun _ => rfl⟩
    · rw [if_neg hd, if_neg hd, if_pos rfl]
      exact ⟨⟨M, rfl, L0⟩, fun s' hs => by cases hs⟩
  · -- :
    rw [e, if_neg (by omega), if_neg (by decide), if_pos (by rfl)]
    unfold gp_stp
    rw [if_neg (by omega), if_pos e]
    by_cases h58 : c = 58
    · rw [if_pos h58, if_pos (show nI c = (58 : Int32) by rw [h58]; rfl)]
      refine ⟨⟨M, rfl, L0, hg.1, hg.2⟩, fun s' hs => ?_⟩
      have hs := Option.some.inj hs
      subst hs
      exact ⟨by show 2 ≤ 5; omega, a2, a3, fun h => absurd h (by show ¬ (2 : Nat) = 0; omega), fun _ => a5 (by omega), fun h => absurd h (by show ¬ ((2 : Nat) = 1 ∨ (2 : Nat) = 4 ∨ (2 : Nat) = 5); omega)⟩
    · rw [if_neg h58, if_neg (show ¬ nI c = (58 : Int32) from fun e => h58 ((cN 58 (by omega)).mp e))]
      exact ⟨⟨M, rfl, L0⟩, fun s' hs => by cases hs⟩
  · -- a part
    rw [e, if_neg (by omega), if_neg (by decide), if_neg (by decide), if_pos (by rfl)]
    unfold gp_stp
    rw [if_neg (by omega), if_neg (by omega), if_pos e]
    have hI := gp_gInP hc hop (by omega) hg
    refine ⟨?_, fun s' hs => (gp_inP_opn hop (by omega) hs).1⟩
    cases hp : gp_inP s c with
    | none =>
      rw [hp] at hI
      obtain ⟨M', i1, i2⟩ := hI
      rw [i1, gp_eB2]
      exact ⟨M', rfl, i2⟩
    | some s' =>
      rw [hp] at hI
      obtain ⟨M', i1, i2, i3⟩ := hI
      rw [i1, gp_eB2]
      exact ⟨M', rfl, i2, i3⟩
  · -- behind a part
    have hlen := a5 (by omega)
    rw [e, if_neg (by omega), if_neg (by decide), if_neg (by decide), if_neg (by decide), if_pos (by rfl)]
    have est : gp_stp s c = (if gp_isL c = true ∨ c = 40 then gp_inP s c
    else if c = 42 ∨ c = 43 ∨ c = 63 then some (gp_suf s c)
    else if c = 124 then some (2, (gp_eCh s).2.1, (gp_eCh s).2.2.1, none)
    else if c = 41 then (if s.2.2.1.length ≤ 1 then none else some (gp_cls s))
    else if s.2.2.1.length ≤ 1 then (if c = 60 then some (gp_act1 s 5 1) else if c = 62 then some (gp_act1 s 4 2) else if c = 61 then some (gp_act1 s 4 3) else if c = 59 then gp_nxt s else none)
    else none) := by
      unfold gp_stp
      rw [if_neg (by omega), if_neg (by omega), if_neg (by omega), if_pos e]
    have hI := gp_gInP hc hop (by omega) hg
    have part : gp_gE M (gp_inP s c) (gz_bd2 (f3_dueBehindPart_13 (nI c) M) fun v18 M19 => some (v18, M19)) := by
      unfold f3_dueBehindPart_13
      cases hp : gp_inP s c with
      | none =>
        rw [hp] at hI
        obtain ⟨M', i1, i2⟩ := hI
        rw [i1, gp_eB2, gp_eB2]
        exact ⟨M', rfl, i2⟩
      | some s' =>
        rw [hp] at hI
        obtain ⟨M', i1, i2, i3⟩ := hI
        rw [i1, gp_eB2, gp_eB2]
        exact ⟨M', rfl, i2, i3⟩
    unfold f3_dueBehindPart
    rw [gp_isLetE hc, gp_eB2]
    by_cases hl : gp_isL c = true
    · have es : gp_stp s c = gp_inP s c := by rw [est, if_pos (Or.inl hl)]
      rw [es]
      refine ⟨?_, fun s' hs => (gp_inP_opn hop (by omega) hs).1⟩
      rw [show (if gp_isL c = true then (1 : Int32) else 0) = 1 from if_pos hl, if_neg (by decide)]
      exact part
    · rw [show (if gp_isL c = true then (1 : Int32) else 0) = 0 from if_neg hl, if_pos rfl]
      by_cases h40 : c = 40
      · have es : gp_stp s c = gp_inP s c := by rw [est, if_pos (Or.inr h40)]
        rw [es]
        refine ⟨?_, fun s' hs => (gp_inP_opn hop (by omega) hs).1⟩
        rw [if_pos (show nI c = (40 : Int32) by rw [h40]; rfl)]
        exact part
      · have hn : ¬ (gp_isL c = true ∨ c = 40) := fun h => h.elim hl h40
        rw [if_neg hn] at est
        -- a sign behind a part that goes on there
        have go : ∀ s' : gp_S, gp_stp s c = some s' → gp_opn s' → gp_gS M s' → ∀ a : Option (Int32 × gz_M), a = some (nI s'.1, M) → gp_gE M (gp_stp s c) a ∧ ∀ s', gp_stp s c = some s' → gp_opn s' := by
          intro s' h1 h2 h3 a h4
          rw [h1, h4]
          exact ⟨⟨M, rfl, L0, h3⟩, fun s'' hs => by cases hs; exact h2⟩
        have no : gp_stp s c = none → ∀ a : Option (Int32 × gz_M), (∃ M', a = some (-1, M') ∧ gp_gL M M') → gp_gE M (gp_stp s c) a ∧ ∀ s', gp_stp s c = some s' → gp_opn s' := by
          intro h1 a h4
          rw [h1]
          exact ⟨h4, fun s'' hs => by cases hs⟩
        have hopS : ∀ (d : Nat) (T : gp_T) (pt : Option gp_P), (d = 2 ∨ d = 3) → T.1 = s.2.1.1 → gp_opn (d, T, s.2.2.1, pt) := fun d T pt hd hT => ⟨by show d ≤ 5; omega, a2, by show T.1 ≤ 7; omega, fun h => absurd h (by show ¬ d = 0; omega), fun _ => hlen, fun h => absurd h (by show ¬ (d = 1 ∨ d = 4 ∨ d = 5); omega)⟩
        have hopA : ∀ d : Nat, (d = 4 ∨ d = 5) → s.2.2.1.length ≤ 1 → ∀ a, gp_opn (gp_act1 s d a) := fun d hd h1 a => ⟨by show d ≤ 5; omega, a2, a3, fun h => absurd h (by show ¬ d = 0; omega), fun _ => hlen, fun _ => by show s.2.2.1.length = 1; omega⟩
        have hgS : ∀ (d : Nat) (T : gp_T) (pt : Option gp_P), T.1 = s.2.1.1 → gp_gS M (d, T, s.2.2.1, pt) := fun d T pt hT => ⟨hg.1, by rw [show ((d, T, s.2.2.1, pt) : gp_S).2.1.1 = s.2.1.1 from hT]; exact hg.2⟩
        have h0 : ∀ {A C : Option (Int32 × gz_M)}, (if M.1 3 0 = 0 then A else C) = if s.2.2.1.length ≤ 1 then A else C := by
          intro A C
          rw [hg.1]
          by_cases h1 : s.2.2.1.length ≤ 1
          · rw [if_pos h1, if_pos (by rw [show s.2.2.1.length - 1 = 0 by omega]; rfl)]
          · rw [if_neg h1, if_neg (show ¬ nI (s.2.2.1.length - 1) = (0 : Int32) from fun e => by have := (nI_eq (b := 0) (by omega) (by omega)).mp e; omega)]
        have hsuf : c = 42 ∨ c = 43 ∨ c = 63 → (gp_suf s c).1 = 3 ∧ gp_opn (gp_suf s c) ∧ gp_gS M (gp_suf s c) := by
          intro _
          unfold gp_suf
          split
          · exact ⟨e, hop, hg⟩
          · refine ⟨rfl, hopS 3 _ _ (Or.inr rfl) ?_, hgS 3 _ _ ?_⟩ <;> (split <;> rfl)
        unfold f3_dueBehindPart_144
        simp only [h0]
        by_cases h41 : c = 41
        · subst h41
          rw [if_neg (by decide), if_neg (by decide), if_pos rfl] at est
          rw [if_neg (by decide), if_pos (by rfl), gp_eL, hg.1]
          have L1 : gp_gL M (gz_w M 3 0 (nI (s.2.2.1.length - 1) - 1)) := ⟨rfl, fun c hc => gp_wc _ hc⟩
          by_cases h1 : s.2.2.1.length ≤ 1
          · rw [if_pos h1] at est
            refine no est _ ⟨_, ?_, L1⟩
            rw [gp_gs, if_neg]
            · rfl
            · intro hle
              have := Int32.le_iff_toInt_le.mp hle
              rw [gp_pI (by omega), show ((0 : Int32)).toInt = 0 by decide] at this
              omega
          · rw [if_neg h1] at est
            obtain ⟨q, hq⟩ : ∃ q, s.2.2.1.length = q + 2 := ⟨s.2.2.1.length - 2, by omega⟩
            have hcl := gp_eCh_len s
            have hlc : (gp_cls s).1 = 3 ∧ (gp_cls s).2.2.1.length = q + 1 ∧ (gp_cls s).2.1.1 = s.2.1.1 := by
              unfold gp_cls
              split
              · rename_i hL
                rw [hL] at hcl
                refine ⟨rfl, ?_, hcl.2⟩
                have := hcl.1
                rw [List.length_cons] at this
                dsimp only
                omega
              · rename_i hL
                rw [hL] at hcl
                have := hcl.1
                simp at this
                omega
            rw [est]
            refine ⟨⟨_, ?_, L1, ?_, ?_⟩, fun s' hs => ?_⟩
            · rw [gp_gs, hq, show q + 2 - 1 = q + 1 by omega, nI_pred, if_pos (nI_pos' (by omega)), gp_eB2, hlc.1]
              rfl
            · rw [gp_gs, hlc.2.1, hq, show q + 2 - 1 = q + 1 by omega, nI_pred]
              rfl
            · rw [gp_gn (by omega), hlc.2.2]; exact hg.2
            · have hs := Option.some.inj hs
              subst hs
              exact ⟨by omega, by omega, by omega, by omega, by omega, by omega⟩
        · by_cases h42 : c = 42
          · subst h42
            rw [if_pos (by decide)] at est
            obtain ⟨b1, b2, b3⟩ := hsuf (by decide)
            exact go _ est b2 b3 _ (by rw [b1]; rfl)
          · by_cases h43 : c = 43
            · subst h43
              rw [if_pos (by decide)] at est
              obtain ⟨b1, b2, b3⟩ := hsuf (by decide)
              exact go _ est b2 b3 _ (by rw [b1]; rfl)
            · by_cases h63 : c = 63
              · subst h63
                rw [if_pos (by decide)] at est
                obtain ⟨b1, b2, b3⟩ := hsuf (by decide)
                exact go _ est b2 b3 _ (by rw [b1]; rfl)
              · rw [if_neg (show ¬ (c = 42 ∨ c = 43 ∨ c = 63) by omega)] at est
                by_cases h124 : c = 124
                · subst h124
                  rw [if_pos rfl] at est
                  have hcl := gp_eCh_len s
                  refine go _ est ⟨by show 2 ≤ 5; omega, by show (gp_eCh s).2.2.1.length ≤ 7; omega, by show (gp_eCh s).2.1.1 ≤ 7; omega, fun h => absurd h (by show ¬ (2 : Nat) = 0; omega), fun _ => by show 0 < (gp_eCh s).2.2.1.length; omega, fun h => absurd h (by show ¬ ((2 : Nat) = 1 ∨ (2 : Nat) = 4 ∨ (2 : Nat) = 5); omega)⟩ ⟨?_, ?_⟩ _ rfl
                  · show M.1 3 0 = nI ((gp_eCh s).2.2.1.length - 1)
                    rw [hcl.1]; exact hg.1
                  · show M.1 3 1 = nI (gp_eCh s).2.1.1
                    rw [hcl.2]; exact hg.2
                · rw [if_neg h124, if_neg h41] at est
                  by_cases h1 : s.2.2.1.length ≤ 1
                  · rw [if_pos h1] at est
                    simp only [h1, if_true]
                    by_cases h60 : c = 60
                    · subst h60
                      rw [if_pos rfl] at est
                      exact go _ est (hopA 5 (by omega) h1 1) (hgS 5 _ _ rfl) _ rfl
                    · by_cases h62 : c = 62
                      · subst h62
                        rw [if_neg (by decide), if_pos rfl] at est
                        exact go _ est (hopA 4 (by omega) h1 2) (hgS 4 _ _ rfl) _ rfl
                      · by_cases h61 : c = 61
                        · subst h61
                          rw [if_neg (by decide), if_neg (by decide), if_pos rfl] at est
                          exact go _ est (hopA 4 (by omega) h1 3) (hgS 4 _ _ rfl) _ rfl
                        · by_cases h59 : c = 59
                          · subst h59
                            rw [if_neg (by decide), if_neg (by decide), if_neg (by decide), if_pos rfl] at est
                            rw [est]
                            refine ⟨?_, fun s' hs => gp_opn_nxt hs⟩
                            have := gp_gNxt hg a3 h1
                            rw [if_neg (by decide), if_neg (by decide), if_neg (by decide), if_neg (by decide), if_pos (by rfl)]
                            cases hp : gp_nxt s with
                            | none =>
                              rw [hp] at this
                              obtain ⟨M', i1, i2⟩ := this
                              exact ⟨M', by rw [i1]; rfl, i2⟩
                            | some s' =>
                              rw [hp] at this
                              obtain ⟨M', i1, i2, i3⟩ := this
                              exact ⟨M', by rw [i1]; rfl, i2, i3⟩
                          · rw [if_neg h60, if_neg h62, if_neg h61, if_neg h59] at est
                            refine no est _ ⟨M, ?_, L0⟩
                            have nn : ∀ n : Nat, n < 2 ^ 31 → c ≠ n → ¬ nI c = nI n := fun n h1 h2 e => h2 ((cN n h1).mp e)
                            rw [if_neg (show ¬ nI c = (40 : Int32) from nn 40 (by omega) h40), if_neg (show ¬ nI c = (41 : Int32) from nn 41 (by omega) h41), if_neg (show ¬ nI c = (42 : Int32) from nn 42 (by omega) h42), if_neg (show ¬ nI c = (43 : Int32) from nn 43 (by omega) h43), if_neg (show ¬ nI c = (59 : Int32) from nn 59 (by omega) h59), if_neg (show ¬ nI c = (60 : Int32) from nn 60 (by omega) h60), if_neg (show ¬ nI c = (61 : Int32) from nn 61 (by omega) h61), if_neg (show ¬ nI c = (62 : Int32) from nn 62 (by omega) h62), if_neg (show ¬ nI c = (63 : Int32) from nn 63 (by omega) h63), if_neg (show ¬ nI c = (124 : Int32) from nn 124 (by omega) h124)]
                            rfl
                  · rw [if_neg h1] at est
                    simp only [h1, if_false]
                    refine no est _ ⟨M, ?_, L0⟩
                    have nn : ∀ n : Nat, n < 2 ^ 31 → c ≠ n → ¬ nI c = nI n := fun n h1 h2 e => h2 ((cN n h1).mp e)
                    rw [if_neg (show ¬ nI c = (40 : Int32) from nn 40 (by omega) h40), if_neg (show ¬ nI c = (41 : Int32) from nn 41 (by omega) h41), if_neg (show ¬ nI c = (42 : Int32) from nn 42 (by omega) h42), if_neg (show ¬ nI c = (43 : Int32) from nn 43 (by omega) h43), if_neg (show ¬ nI c = (63 : Int32) from nn 63 (by omega) h63), if_neg (show ¬ nI c = (124 : Int32) from nn 124 (by omega) h124)]
                    simp only [ite_self]
                    rfl
  · -- an act's digit
    have hlen := a6 (by omega)
    rw [e, if_neg (by omega), if_neg (by decide), if_neg (by decide), if_neg (by decide), if_neg (by decide), if_pos (by rfl), gp_isMDE hc, gp_eB2]
    unfold gp_stp
    rw [if_neg (by omega), if_neg (by omega), if_neg (by omega), if_neg (by omega), if_pos e]
    by_cases hd : 48 ≤ c ∧ c ≤ 51
    · rw [if_pos hd, if_pos hd, if_neg (by decide)]
      refine ⟨⟨M, rfl, L0, hg.1, hg.2⟩, fun s' hs => ?_⟩
      have hs := Option.some.inj hs
      subst hs
      exact ⟨by show 5 ≤ 5; omega, a2, a3, fun h => absurd h (by show ¬ (5 : Nat) = 0; omega), fun _ => a5 (by omega), fun _ => hlen⟩
    · rw [if_neg hd, if_neg hd, if_pos rfl]
      exact ⟨⟨M, rfl, L0⟩, fun s' hs => by cases hs⟩
  · -- behind an act
    have hlen := a6 (by omega)
    rw [e, if_pos (by omega)]
    unfold gp_stp
    rw [if_neg (by omega), if_neg (by omega), if_neg (by omega), if_neg (by omega), if_neg (by omega)]
    by_cases h59 : c = 59
    · rw [if_pos h59, if_pos (show nI c = (59 : Int32) by rw [h59]; rfl)]
      exact ⟨gp_gNxt hg a3 (by omega), fun s' hs => gp_opn_nxt hs⟩
    · rw [if_neg h59, if_neg (show ¬ nI c = (59 : Int32) from fun e => h59 ((cN 59 (by omega)).mp e))]
      exact ⟨⟨M, rfl, L0⟩, fun s' hs => by cases hs⟩
end
