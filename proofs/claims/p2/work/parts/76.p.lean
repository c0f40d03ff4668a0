/-! rules told as a text: what the machine keeps -/
def gp_u10 (T : gp_T) (m : Nat) : Nat := min (T.2.2 7 m) 10
/-- a digit of an act -/
def gp_dg (T : gp_T) (j : Nat) : Prop := ∃ d, d < 4 ∧ T.2.1 j = nI d
def gp_wTb (T : gp_T) : Prop := (∀ m, m < 4 → T.2.2 8 m < 2 ^ gp_u10 T m ∧ (∀ x, x < 10 → T.2.2 (10 + m) x < 2 ^ gp_u10 T m ∧ (T.2.2 7 m ≤ x → T.2.2 (10 + m) x = 0)) ∧ ∀ s, s < 8 → T.2.2 (15 + m) s < 2 ^ gp_u10 T m) ∧ ∀ j, j < T.1 → T.2.2 1 j < 4 ∧ T.2.2 2 j ≤ T.2.2 7 (T.2.2 1 j) ∧ T.2.2 3 j < 4 ∧ T.2.2 5 j < 2 ^ gp_u10 T (T.2.2 1 j) ∧ T.2.2 6 j < 2 ∧ (2 ≤ T.2.2 3 j → gp_dg T j)
def gp_okP (T : gp_T) (p : gp_P) : Prop := p.1 < 2 ^ gp_u10 T (gp_md T) ∧ p.2.1 < 2 ^ gp_u10 T (gp_md T)
def gp_okO (T : gp_T) (o : Option gp_P) : Prop := ∀ p, o = some p → gp_okP T p
def gp_wS (s : gp_S) : Prop := gp_opn s ∧ gp_wTb s.2.1 ∧ (1 ≤ s.1 → gp_md s.2.1 < 4 ∧ s.2.1.2.2 2 s.2.1.1 ≤ s.2.1.2.2 7 (gp_md s.2.1) ∧ s.2.1.2.2 3 s.2.1.1 < 4 ∧ (2 ≤ s.2.1.2.2 3 s.2.1.1 → s.1 = 4 ∨ gp_dg s.2.1 s.2.1.1) ∧ (∀ x, x ∈ s.2.2.1 → gp_okO s.2.1 x.1 ∧ gp_okO s.2.1 x.2) ∧ gp_okO s.2.1 s.2.2.2) ∧ (3 ≤ s.1 → s.2.2.2 ≠ none) ∧ (s.1 = 1 ∨ s.1 = 2 → s.2.2.2 = none ∧ ∀ x L, s.2.2.1 = x :: L → x.1 = none)
/-- the rows of rules and the letters counted are the same -/
def gp_sm1 (T T' : gp_T) : Prop := T'.1 = T.1 ∧ T'.2.1 = T.2.1 ∧ (∀ c, c ≤ 8 → T'.2.2 c = T.2.2 c) ∧ (∀ c, 15 ≤ c → T'.2.2 c = T.2.2 c)
theorem gp_sm1.md {T T' : gp_T} (h : gp_sm1 T T') : gp_md T' = gp_md T := by unfold gp_md; rw [h.2.2.1 1 (by omega), h.1]
theorem gp_sm1.u {T T' : gp_T} (h : gp_sm1 T T') (m : Nat) : gp_u10 T' m = gp_u10 T m := by unfold gp_u10; rw [h.2.2.1 7 (by omega)]
theorem gp_sm1.ok {T T' : gp_T} (h : gp_sm1 T T') {o : Option gp_P} (ho : gp_okO T o) : gp_okO T' o := fun p hp => by
  have := ho p hp
  unfold gp_okP at this ⊢
  rw [h.md, h.u]
  exact this
theorem gp_lnk_sm (T : gp_T) (a b : Nat) (hm : gp_md T < 4) : gp_sm1 T (gp_lnk T a b) := by
  refine ⟨rfl, rfl, fun c hc => ?_, fun c hc => ?_⟩
  · funext y
    show (if c = 10 + gp_md T ∧ y < 10 ∧ a.testBit y = true then T.2.2 c y ||| b else T.2.2 c y) = _
    rw [if_neg (fun h => by omega)]
  · funext y
    show (if c = 10 + gp_md T ∧ y < 10 ∧ a.testBit y = true then T.2.2 c y ||| b else T.2.2 c y) = _
    rw [if_neg (fun h => by omega)]
theorem gp_sm1.refl (T : gp_T) : gp_sm1 T T := ⟨rfl, rfl, fun _ _ => rfl, fun _ _ => rfl⟩
theorem gp_lnk_w {T : gp_T} (hm : gp_md T < 4) (hT : gp_wTb T) {a b : Nat} (ha : a < 2 ^ gp_u10 T (gp_md T)) (hb : b < 2 ^ gp_u10 T (gp_md T)) : gp_wTb (gp_lnk T a b) := by
  have hs := gp_lnk_sm T a b hm
  refine ⟨fun m hm4 => ?_, fun j hj => ?_⟩
  · obtain ⟨h1, h2, h3⟩ := hT.1 m hm4
    rw [hs.u, hs.2.2.1 8 (by omega), hs.2.2.1 7 (by omega)]
    refine ⟨h1, fun x hx => ?_, fun s hs8 => by rw [hs.2.2.2 (15 + m) (by omega)]; exact h3 s hs8⟩
    show (if 10 + m = 10 + gp_md T ∧ x < 10 ∧ a.testBit x = true then T.2.2 (10 + m) x ||| b else T.2.2 (10 + m) x) < _ ∧ (_ → (if 10 + m = 10 + gp_md T ∧ x < 10 ∧ a.testBit x = true then T.2.2 (10 + m) x ||| b else T.2.2 (10 + m) x) = 0)
    split
    · rename_i hc
      have hmm : m = gp_md T := by omega
      subst hmm
      refine ⟨Nat.or_lt_two_pow (h2 x hx).1 hb, fun hle => ?_⟩
      have hbit := hc.2.2
      rw [Nat.testBit_lt_two_pow (Nat.lt_of_lt_of_le ha (Nat.pow_le_pow_right (by decide) (by unfold gp_u10; omega)))] at hbit
      cases hbit
    · exact h2 x hx
  · have h1 := hT.2 j (by rw [hs.1] at hj; exact hj)
    rw [hs.2.2.1 1 (by omega), hs.2.2.1 2 (by omega), hs.2.2.1 3 (by omega), hs.2.2.1 5 (by omega), hs.2.2.1 6 (by omega), hs.2.2.1 7 (by omega), hs.u]
    unfold gp_dg at h1 ⊢
    rw [hs.2.1]
    exact h1
theorem gp_mg_ok {T : gp_T} {c p : gp_P} (hc : gp_okP T c) (hp : gp_okP T p) : gp_okP T (gp_mgP c p) := by
  refine ⟨Nat.or_lt_two_pow hc.1 ?_, Nat.or_lt_two_pow hp.2 ?_⟩
  · split
    · exact hp.1
    · exact Nat.two_pow_pos _
  · split
    · exact hc.2
    · exact Nat.two_pow_pos _
theorem gp_un_ok {T : gp_T} {c p : gp_P} (hc : gp_okP T c) (hp : gp_okP T p) : gp_okP T (gp_unP c p) := ⟨Nat.or_lt_two_pow hc.1 hp.1, Nat.or_lt_two_pow hc.2 hp.2⟩
theorem gp_mgO_ok {T : gp_T} {c p : Option gp_P} (hc : gp_okO T c) (hp : gp_okO T p) : gp_okO T (gp_mgO c p) := by
  intro q hq
  cases c with
  | none => exact hp q hq
  | some c =>
    cases p with
    | none => cases hq; exact hc _ rfl
    | some p => cases hq; exact gp_mg_ok (hc c rfl) (hp p rfl)
theorem gp_unO_ok {T : gp_T} {c p : Option gp_P} (hc : gp_okO T c) (hp : gp_okO T p) : gp_okO T (gp_unO c p) := by
  intro q hq
  cases c with
  | none => exact hp q hq
  | some c =>
    cases p with
    | none => cases hq; exact hc _ rfl
    | some p => cases hq; exact gp_un_ok (hc c rfl) (hp p rfl)
theorem gp_noneO (T : gp_T) : gp_okO T none := fun p hp => by cases hp
/-- what the end of a part keeps: same rows, the pieces right -/
theorem gp_eP_f {s : gp_S} (h : gp_wS s) (h1 : 1 ≤ s.1) : gp_sm1 s.2.1 (gp_eP s).2.1 ∧ gp_wTb (gp_eP s).2.1 ∧ (∀ x, x ∈ (gp_eP s).2.2.1 → gp_okO (gp_eP s).2.1 x.1 ∧ gp_okO (gp_eP s).2.1 x.2) ∧ ∃ ch wh L, s.2.2.1 = (ch, wh) :: L ∧ (gp_eP s).2.2.1 = (gp_mgO ch s.2.2.2, wh) :: L ∧ (gp_eP s).2.2.2 = none ∧ (gp_eP s).1 = s.1 ∧ (gp_eP s).2.1 = gp_lnO s.2.1 ch s.2.2.2 := by
  obtain ⟨ho, hT, hc, hp, hq⟩ := h
  obtain ⟨c1, c2, c3, c4, c5, c6⟩ := hc h1
  have hl := ho.2.2.2.2.1 h1
  obtain ⟨x, L, hL⟩ : ∃ x L, s.2.2.1 = x :: L := by
    cases h : s.2.2.1 with
    | nil => rw [h] at hl; exact absurd hl (by simp)
    | cons x L => exact ⟨x, L, rfl⟩
  obtain ⟨ch, wh⟩ := x
  have e : gp_eP s = (s.1, gp_lnO s.2.1 ch s.2.2.2, (gp_mgO ch s.2.2.2, wh) :: L, none) := by
    unfold gp_eP
    rw [hL]
  have hx := c5 (ch, wh) (by rw [hL]; exact List.mem_cons_self)
  have hsm : gp_sm1 s.2.1 (gp_lnO s.2.1 ch s.2.2.2) := by
    unfold gp_lnO
    split
    · exact gp_lnk_sm _ _ _ c1
    · exact gp_sm1.refl _
  have hw : gp_wTb (gp_lnO s.2.1 ch s.2.2.2) := by
    unfold gp_lnO
    split
    · rename_i c p e2
      exact gp_lnk_w c1 hT (hx.1 c rfl).2 (c6 p e2).1
    · exact hT
  rw [e]
  refine ⟨hsm, hw, fun y hy => ?_, ch, wh, L, hL, rfl, rfl, rfl, rfl⟩
  rcases List.mem_cons.mp hy with rfl | hy
  · exact ⟨hsm.ok (gp_mgO_ok hx.1 c6), hsm.ok hx.2⟩
  · have := c5 y (by rw [hL]; exact List.mem_cons_of_mem _ hy)
    exact ⟨hsm.ok this.1, hsm.ok this.2⟩
theorem gp_eCh_f {s : gp_S} (h : gp_wS s) (h1 : 1 ≤ s.1) : ∃ ch wh L, s.2.2.1 = (ch, wh) :: L ∧ gp_eCh s = (s.1, (gp_eP s).2.1, (none, gp_unO wh (gp_mgO ch s.2.2.2)) :: L, none) := by
  obtain ⟨h2, h3, h4, ch, wh, L, e1, e2, e3, e4, e5⟩ := gp_eP_f h h1
  refine ⟨ch, wh, L, e1, ?_⟩
  unfold gp_eCh
  rw [e2]
theorem gp_unO_some {w c : Option gp_P} (h : c ≠ none) : ∃ p, gp_unO w c = some p := by
  cases c with
  | none => exact absurd rfl h
  | some c => cases w with
    | none => exact ⟨c, rfl⟩
    | some w => exact ⟨_, rfl⟩
theorem gp_mgO_some {c p : Option gp_P} (h : p ≠ none) : gp_mgO c p ≠ none := by
  cases p with
  | none => exact absurd rfl h
  | some p => cases c <;> simp [gp_mgO]
/-- a rule's end, told -/
theorem gp_eR_f {s : gp_S} (h : gp_wS s) (h3 : 3 ≤ s.1) : ∃ ch wh L w, s.2.2.1 = (ch, wh) :: L ∧ gp_unO wh (gp_mgO ch s.2.2.2) = some w ∧ gp_okP s.2.1 w ∧ gp_eR s = (s.2.1.1 + 1, s.2.1.2.1, gp_set (gp_set (gp_set (gp_eP s).2.1.2.2 8 (gp_md s.2.1) (s.2.1.2.2 8 (gp_md s.2.1) ||| w.1)) 5 s.2.1.1 w.2.1) 6 s.2.1.1 (if w.2.2 = true then 1 else 0)) := by
  have hw := h
  obtain ⟨ho, hT, hc, hp, hq⟩ := h
  obtain ⟨c1, c2, c3, c4, c5, c6⟩ := hc (by omega)
  obtain ⟨ch, wh, L, e1, e2⟩ := gp_eCh_f hw (by omega)
  obtain ⟨w, e3⟩ := gp_unO_some (w := wh) (gp_mgO_some (c := ch) (hp h3))
  have hsm := (gp_eP_f hw (by omega)).1
  have hx := c5 (ch, wh) (by rw [e1]; exact List.mem_cons_self)
  refine ⟨ch, wh, L, w, e1, e3, gp_unO_ok hx.2 (gp_mgO_ok hx.1 c6) w e3, ?_⟩
  unfold gp_eR
  rw [e2, e3]
  dsimp only
  rw [hsm.1, hsm.2.1, hsm.2.2.1 8 (by omega)]
theorem gp_eR_w {s : gp_S} (h : gp_wS s) (h3 : 3 ≤ s.1) (h4 : s.1 ≠ 4) : gp_wTb (gp_eR s) ∧ (gp_eR s).2.2 7 = s.2.1.2.2 7 := by
  have hw := h
  obtain ⟨ho, hT, hc, hp, hq⟩ := h
  obtain ⟨c1, c2, c3, c4, c5, c6⟩ := hc (by omega)
  obtain ⟨ch, wh, L, w, e1, e2, e3, e4⟩ := gp_eR_f hw h3
  obtain ⟨hsm, hT', _⟩ := gp_eP_f hw (by omega)
  have h7 : (gp_eR s).2.2 7 = s.2.1.2.2 7 := by
    rw [e4]
    funext y
    dsimp only [gp_set]
    rw [if_neg (by omega), if_neg (by omega), if_neg (by omega), hsm.2.2.1 7 (by omega)]
  have hu : ∀ m, gp_u10 (gp_eR s) m = gp_u10 s.2.1 m := fun m => by unfold gp_u10; rw [h7]
  have hr : ∀ a b, a ≠ 8 → a ≠ 5 → a ≠ 6 → (gp_eR s).2.2 a b = (gp_eP s).2.1.2.2 a b := fun a b a1 a2 a3 => by
    rw [e4]
    dsimp only [gp_set]
    rw [if_neg (by omega), if_neg (by omega), if_neg (by omega)]
  refine ⟨⟨fun m hm => ?_, fun j hj => ?_⟩, h7⟩
  · obtain ⟨a1, a2, a3⟩ := hT'.1 m hm
    rw [hsm.u] at a1 a2 a3
    rw [hu]
    refine ⟨?_, fun x hx => ?_, fun z hz => ?_⟩
    · rw [e4]
      dsimp only [gp_set]
      rw [if_neg (by omega), if_neg (by omega)]
      by_cases hm2 : m = gp_md s.2.1
      · rw [if_pos ⟨rfl, hm2⟩]
        rw [hm2]
        rw [hm2, hsm.2.2.1 8 (by omega)] at a1
        exact Nat.or_lt_two_pow a1 e3.1
      · rw [if_neg (fun h => hm2 h.2)]
        exact a1
    · rw [hr _ _ (by omega) (by omega) (by omega), h7]
      have := a2 x hx
      rw [hsm.2.2.1 7 (by omega)] at this
      exact this
    · rw [hr _ _ (by omega) (by omega) (by omega)]
      exact a3 z hz
  · have hj' : j < s.2.1.1 + 1 := by rw [gp_eR_1] at hj; exact hj
    have hd : ∀ j, gp_dg s.2.1 j → gp_dg (gp_eR s) j := fun j h => by
      unfold gp_dg at h ⊢
      rw [e4]
      exact h
    rw [hr 1 j (by omega) (by omega) (by omega), hr 2 j (by omega) (by omega) (by omega), hr 3 j (by omega) (by omega) (by omega), hsm.2.2.1 1 (by omega), hsm.2.2.1 2 (by omega), hsm.2.2.1 3 (by omega), h7, hu]
    by_cases hjj : j = s.2.1.1
    · subst hjj
      have h5 : (gp_eR s).2.2 5 s.2.1.1 = w.2.1 := by
        rw [e4]
        dsimp only [gp_set]
        rw [if_neg (by omega), if_pos ⟨rfl, rfl⟩]
      have h6 : (gp_eR s).2.2 6 s.2.1.1 < 2 := by
        rw [e4]
        dsimp only [gp_set]
        rw [if_pos ⟨rfl, rfl⟩]
        split <;> omega
      exact ⟨c1, c2, c3, by rw [h5]; exact e3.2, h6, fun h => hd _ ((c4 h).resolve_left h4)⟩
    · have h1 := hT.2 j (by omega)
      have h5 : (gp_eR s).2.2 5 j = s.2.1.2.2 5 j := by
        rw [e4]
        dsimp only [gp_set]
        rw [if_neg (by omega), if_neg (by omega), if_neg (by omega), hsm.2.2.1 5 (by omega)]
      have h6 : (gp_eR s).2.2 6 j = s.2.1.2.2 6 j := by
        rw [e4]
        dsimp only [gp_set]
        rw [if_neg (by omega), if_neg (by omega), if_neg (by omega), hsm.2.2.1 6 (by omega)]
      rw [h5, h6]
      exact ⟨h1.1, h1.2.1, h1.2.2.1, h1.2.2.2.1, h1.2.2.2.2.1, fun h => hd _ (h1.2.2.2.2.2 h)⟩
