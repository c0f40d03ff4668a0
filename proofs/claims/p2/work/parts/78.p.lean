/-! rules told as a text: the component's faults and letters -/
def gp_xC (M : gz_M) (t : List Nat) : Prop := t.length ≤ 80 ∧ M.1 1 1 = nI t.length ∧ ∀ i, i < t.length → M.1 2 i = nI (t.getD i 0) ∧ t.getD i 0 < 256
def gp_ans1 : Option Nat → Int32
  | none => 0
  | some p => (-1) - nI p
section
variable {s : gp_S} {c p : Nat} {M M' : gz_M} {t : List Nat}
theorem gp_xC.fr (h : gp_xC M t) (e1 : M'.1 1 = M.1 1) (e2 : M'.1 2 = M.1 2) : gp_xC M' t := ⟨h.1, by rw [e1]; exact h.2.1, fun i hi => by rw [e2]; exact h.2.2 i hi⟩
theorem gp_xget (h : gp_xC M t) (hp : p < t.length) : f10_get (nI p) M = some (nI (t.getD p 0), M) := by
  have h1 := h.1
  unfold f10_get
  rw [if_neg (nI_pos (by omega)), h.2.1, if_neg (nI_ge hp (by omega)), if_neg (by exact nI_ge (show p < 80 by omega) (by decide)), gp_ckb (by omega) (by omega), nI_clamp (by omega), (h.2.2 p hp).1]
theorem gp_flt14 : ∀ (d n p : Nat) (s : gp_S) (M : gz_M), p + d = t.length → d < n → gp_xC M t → gp_opn s → gp_gS M s → ∃ M', f3_faultOfRules_14 n (nI s.1) (nI p) M = some (gp_ans1 (gp_er t d p s), M') ∧ gp_gL M M' := by
  intro d
  induction d with
  | zero =>
    intro n p s M hp hn hx ho hg
    have h1 := hx.1
    obtain ⟨n, rfl⟩ : ∃ q, n = q + 1 := ⟨n - 1, by omega⟩
    have : p = t.length := by omega
    subst this
    refine ⟨M, ?_, rfl, fun _ _ => rfl⟩
    have h5 := ho.1
    have hl7 := ho.2.1
    rw [f3_faultOfRules_14, hx.2.1, if_pos (nI_le (Nat.le_refl _) (by omega)), gp_er]
    have e1 : f3_faultOfRules_77 1 M = some (0, M) := by unfold f3_faultOfRules_77; rw [if_neg (by decide)]
    have e0 : f3_faultOfRules_77 0 M = some ((-1) - nI t.length, M) := by unfold f3_faultOfRules_77; rw [if_pos rfl, hx.2.1]
    rw [e1, e0, hg.1]
    have z0 : (nI t.length = (0 : Int32)) ↔ t.length = 0 := nI_eq (b := 0) (by omega) (by omega)
    have z5 : (nI s.1 = (5 : Int32)) ↔ s.1 = 5 := nI_eq (b := 5) (by omega) (by omega)
    have z3 : (nI s.1 = (3 : Int32)) ↔ s.1 = 3 := nI_eq (b := 3) (by omega) (by omega)
    have zl : (nI (s.2.2.1.length - 1) = (0 : Int32)) ↔ s.2.2.1.length ≤ 1 := (nI_eq (b := 0) (by omega) (by omega)).trans (by omega)
    by_cases c0 : t.length = 0
    · rw [if_pos (z0.mpr c0), if_pos (Or.inl c0)]; rfl
    · rw [if_neg (fun h => c0 (z0.mp h))]
      by_cases c5 : s.1 = 5
      · rw [if_pos (z5.mpr c5), if_pos (Or.inr (Or.inl c5))]; rfl
      · rw [if_neg (fun h => c5 (z5.mp h))]
        by_cases c3 : s.1 = 3
        · rw [if_pos (z3.mpr c3)]
          by_cases cl : s.2.2.1.length ≤ 1
          · rw [if_pos (zl.mpr cl), if_pos (Or.inr (Or.inr ⟨c3, cl⟩))]; rfl
          · rw [if_neg (fun h => cl (zl.mp h)), if_neg (fun h => h.elim c0 (fun h => h.elim c5 (fun h => cl h.2)))]; rfl
        · rw [if_neg (fun h => c3 (z3.mp h)), if_neg (fun h => h.elim c0 (fun h => h.elim c5 (fun h => c3 h.1)))]; rfl
  | succ d ih =>
    intro n p s M hp hn hx ho hg
    have h1 := hx.1
    obtain ⟨n, rfl⟩ : ∃ q, n = q + 1 := ⟨n - 1, by omega⟩
    have hc := (hx.2.2 p (by omega)).2
    obtain ⟨g1, g2⟩ := gp_gStep (M := M) hc ho hg
    rw [f3_faultOfRules_14, hx.2.1, if_neg (nI_ge (by omega) (by omega)), gp_xget hx (by omega), gp_eB2, gp_er]
    cases h : gp_stp s (t.getD p 0) with
    | none =>
      rw [h] at g1
      obtain ⟨M1, e1, e2⟩ := g1
      rw [e1, gp_eB2, if_pos rfl]
      exact ⟨M1, rfl, e2⟩
    | some s' =>
      rw [h] at g1
      obtain ⟨M1, e1, e2, e3⟩ := g1
      have ho' := g2 s' h
      have h5' := ho'.1
      rw [e1, gp_eB2, if_neg (by rw [gp_m1, gp_ne1 (by omega)]; exact id), gp_eL, nI_1]
      obtain ⟨M', f1, f2, f3⟩ := ih n (p + 1) s' M1 (by omega) (by omega) (hx.fr (e2.2 1 (by omega)) (e2.2 2 (by omega))) ho' e3
      exact ⟨M', f1, by rw [f2, e2.1], fun c hc => (f3 c hc).trans (e2.2 c hc)⟩
theorem gp_fltC (hx : gp_xC M t) : ∃ M', f3_faultOfRules M = some (gp_ans1 (gp_flt t), M') ∧ gp_gL M M' := by
  unfold f3_faultOfRules
  rw [gp_eL, gp_eL]
  have l0 : gp_gL M (gz_w (gz_w M 3 0 0) 3 1 0) := ⟨rfl, fun c hc => by rw [gp_wc _ hc, gp_wc _ hc]⟩
  obtain ⟨M', e1, e2, e3⟩ := gp_flt14 (t := t) t.length gz_FU 0 gp_s0 (gz_w (gz_w M 3 0 0) 3 1 0) (by omega) (by have := hx.1; unfold gz_FU; omega) (hx.fr (l0.2 1 (by omega)) (l0.2 2 (by omega))) gp_w0.1 ⟨by rw [gp_gn (by omega), gp_gs]; rfl, by rw [gp_gs]; rfl⟩
  exact ⟨M', e1, by rw [e2]; rfl, fun c hc => (e3 c hc).trans (l0.2 c hc)⟩
/-- no fault: the machine comes to its end, and may end so -/
theorem gp_er_none : ∀ (d p : Nat) (s : gp_S), gp_er t d p s = none → ∃ s', gp_itr t d p s = some s' ∧ gp_mEnd t s'
  | 0, p, s, h => by
    rw [gp_er] at h
    split at h
    · rename_i hc; exact ⟨s, rfl, hc⟩
    · cases h
  | d + 1, p, s, h => by
    rw [gp_er] at h
    rw [gp_itr]
    cases h1 : gp_stp s (t.getD p 0) with
    | none => rw [h1] at h; cases h
    | some s1 =>
      rw [h1] at h
      exact gp_er_none d (p + 1) s1 h
/-- what a step does with the letters counted, with the mode -/
theorem gp_stp_u {s' : gp_S} (hw : gp_wS s) (hc : c < 256) (e : gp_stp s c = some s') : (∀ m, s'.2.1.2.2 7 m = s.2.1.2.2 7 m + if s.1 ≠ 0 ∧ gp_isL c = true ∧ m = gp_md s.2.1 then 1 else 0) ∧ (s'.1 = 0 ↔ c = 59) ∧ (s.1 = 0 → gp_md s'.2.1 = c - 48 ∧ 48 ≤ c) ∧ (s.1 ≠ 0 → c ≠ 59 → gp_md s'.2.1 = gp_md s.2.1) := by
  have ho := hw.1
  have h5 := ho.1
  have hcases : s.1 = 0 ∨ s.1 = 1 ∨ s.1 = 2 ∨ s.1 = 3 ∨ s.1 = 4 ∨ s.1 = 5 := by omega
  have notL : ∀ n, n < 46 ∨ (46 < n ∧ n < 97) ∨ 104 < n → gp_isL n = false := fun n hn => by
    unfold gp_isL
    simp
    omega
  -- the letters stay
  have same : ∀ T : gp_T, (∀ y, T.2.2 7 y = s.2.1.2.2 7 y) → gp_isL c = false → ∀ m, T.2.2 7 m = s.2.1.2.2 7 m + if s.1 ≠ 0 ∧ gp_isL c = true ∧ m = gp_md s.2.1 then 1 else 0 := fun T hT hl m => by
    rw [hT, if_neg (fun h => by rw [hl] at h; simp at h)]
    rfl
  have nx : gp_nxt s = some s' → 3 ≤ s.1 → s.1 ≠ 4 → c = 59 → (∀ m, s'.2.1.2.2 7 m = s.2.1.2.2 7 m + if s.1 ≠ 0 ∧ gp_isL c = true ∧ m = gp_md s.2.1 then 1 else 0) ∧ (s'.1 = 0 ↔ c = 59) ∧ (s.1 = 0 → gp_md s'.2.1 = c - 48 ∧ 48 ≤ c) ∧ (s.1 ≠ 0 → c ≠ 59 → gp_md s'.2.1 = gp_md s.2.1) := by
    intro e h3 h4 h59
    obtain ⟨a1, a2, a3, a4⟩ := gp_nxt_1 e
    have := (gp_eR_w hw h3 h4).2
    refine ⟨same _ (fun y => by rw [a4, this]) (by rw [h59]; decide), ⟨fun _ => h59, fun _ => a2⟩, fun h => by omega, fun _ h => absurd h59 h⟩
  have inP : gp_inP s c = some s' → s.1 = 2 ∨ s.1 = 3 → (∀ m, s'.2.1.2.2 7 m = s.2.1.2.2 7 m + if s.1 ≠ 0 ∧ gp_isL c = true ∧ m = gp_md s.2.1 then 1 else 0) ∧ (s'.1 = 0 ↔ c = 59) ∧ (s.1 = 0 → gp_md s'.2.1 = c - 48 ∧ 48 ≤ c) ∧ (s.1 ≠ 0 → c ≠ 59 → gp_md s'.2.1 = gp_md s.2.1) := by
    intro e h23
    have hsm := (gp_eP_f hw (by omega)).1
    rcases (gp_inP_opn ho (by omega) e).2.2 with ⟨l1, l2, _⟩ | ⟨l1, l2, l3, l4, _⟩
    · unfold gp_inP at e
      rw [if_pos l1] at e
      have e := Option.some.inj e
      subst e
      refine ⟨fun m => ?_, ⟨fun h => by omega, fun h => by rw [h] at l1; exact absurd l1 (by decide)⟩, fun h => by omega, fun _ _ => ?_⟩
      · show (gp_aL (gp_eP s).2.1 c).2.2 7 m = _
        rw [gp_aL_7, hsm.md, hsm.2.2.1 7 (by omega)]
        congr 1
        by_cases hm : m = gp_md s.2.1
        · rw [if_pos hm, if_pos ⟨by omega, l1, hm⟩]
        · rw [if_neg hm, if_neg (fun h => hm h.2.2)]
      · show gp_md (gp_aL (gp_eP s).2.1 c) = _
        rw [gp_aL_md, hsm.md]
    · unfold gp_inP at e
      rw [if_neg (by simp [l1]), if_pos ⟨l2, l3⟩] at e
      have e := Option.some.inj e
      subst e
      refine ⟨same _ (fun y => ?_) l1, ⟨fun h => by omega, fun h => by omega⟩, fun h => by omega, fun _ _ => hsm.md⟩
      show (gp_eP s).2.1.2.2 7 y = _
      rw [hsm.2.2.1 7 (by omega)]
  have fin : ∀ s1 : gp_S, s1 = s' → 1 ≤ s1.1 → s.1 ≠ 0 → c ≠ 59 → gp_isL c = false → (∀ y, s1.2.1.2.2 7 y = s.2.1.2.2 7 y) → gp_md s1.2.1 = gp_md s.2.1 → (∀ m, s'.2.1.2.2 7 m = s.2.1.2.2 7 m + if s.1 ≠ 0 ∧ gp_isL c = true ∧ m = gp_md s.2.1 then 1 else 0) ∧ (s'.1 = 0 ↔ c = 59) ∧ (s.1 = 0 → gp_md s'.2.1 = c - 48 ∧ 48 ≤ c) ∧ (s.1 ≠ 0 → c ≠ 59 → gp_md s'.2.1 = gp_md s.2.1) := by
    intro s1 h1 h2 h3 h4 h5 h6 h7
    subst h1
    exact ⟨same _ h6 h5, ⟨fun h => by omega, fun h => absurd h h4⟩, fun h => absurd h h3, fun _ _ => h7⟩
  rcases hcases with h0 | h0 | h0 | h0 | h0 | h0
  · unfold gp_stp at e
    rw [if_pos h0] at e
    split at e
    · rename_i hd
      have e := Option.some.inj e
      subst e
      refine ⟨same _ (fun y => ?_) (notL c (by omega)), ⟨fun h => absurd h (by show ¬ (1 : Nat) = 0; omega), fun h => by omega⟩, fun _ => ⟨?_, hd.1⟩, fun h => absurd h0 h⟩
      · unfold gp_beg
        dsimp only [gp_set]
        rw [if_neg (by omega), if_neg (by omega), if_neg (by omega)]
      · unfold gp_md gp_beg
        dsimp only [gp_set]
        rw [if_neg (by omega), if_neg (by omega), if_pos ⟨rfl, rfl⟩]
    · cases e
  · unfold gp_stp at e
    rw [if_neg (by omega), if_pos h0] at e
    split at e
    · rename_i hd
      exact fin _ (Option.some.inj e) (by show 1 ≤ 2; omega) (by omega) (by omega) (notL c (by omega)) (fun y => rfl) rfl
    · cases e
  · unfold gp_stp at e
    rw [if_neg (by omega), if_neg (by omega), if_pos h0] at e
    exact inP e (Or.inl h0)
  · obtain ⟨hsm, hT', hlv, ch, wh, L, e1, e2, e3, e4, e5⟩ := gp_eP_f hw (by omega)
    obtain ⟨ch', wh', L', e1', e6⟩ := gp_eCh_f hw (by omega)
    unfold gp_stp at e
    rw [if_neg (by omega), if_neg (by omega), if_neg (by omega), if_pos h0] at e
    split at e
    · exact inP e (Or.inr h0)
    · rename_i hnl
      have hl : gp_isL c = false := by
        cases h : gp_isL c with
        | false => rfl
        | true => exact absurd (Or.inl h) hnl
      split at e
      · rename_i hd
        have e := Option.some.inj e
        have hmd4 := (hw.2.2.1 (by omega)).1
        cases hpp : s.2.2.2 with
        | none => exact absurd hpp (hw.2.2.2.1 (by omega))
        | some q =>
          have hs : gp_suf s c = (3, (if c = 63 then s.2.1 else gp_lnk s.2.1 q.2.1 q.1), s.2.2.1, some (q.1, q.2.1, (if c = 43 then q.2.2 else true))) := by
            unfold gp_suf
            rw [hpp]
          have hsm2 : gp_sm1 s.2.1 (if c = 63 then s.2.1 else gp_lnk s.2.1 q.2.1 q.1) := by
            split
            · exact gp_sm1.refl _
            · exact gp_lnk_sm _ _ _ hmd4
          rw [hs] at e
          exact fin _ e (by show 1 ≤ 3; omega) (by omega) (by omega) hl (fun y => by show _ = _; rw [hsm2.2.2.1 7 (by omega)]) hsm2.md
      · split at e
        · rename_i hd
          have e := Option.some.inj e
          rw [e6] at e
          exact fin _ e (by show 1 ≤ 2; omega) (by omega) (by omega) hl (fun y => by show (gp_eP s).2.1.2.2 7 y = _; rw [hsm.2.2.1 7 (by omega)]) hsm.md
        · split at e
          · rename_i hd
            split at e
            · cases e
            · have e := Option.some.inj e
              unfold gp_cls at e
              rw [e6] at e
              exact fin _ e (by show 1 ≤ 3; omega) (by omega) (by omega) hl (fun y => by show (gp_eP s).2.1.2.2 7 y = _; rw [hsm.2.2.1 7 (by omega)]) hsm.md
          · split at e
            · have act : ∀ d a, d = 4 ∨ d = 5 → gp_act1 s d a = s' → c ≠ 59 → (∀ m, s'.2.1.2.2 7 m = s.2.1.2.2 7 m + if s.1 ≠ 0 ∧ gp_isL c = true ∧ m = gp_md s.2.1 then 1 else 0) ∧ (s'.1 = 0 ↔ c = 59) ∧ (s.1 = 0 → gp_md s'.2.1 = c - 48 ∧ 48 ≤ c) ∧ (s.1 ≠ 0 → c ≠ 59 → gp_md s'.2.1 = gp_md s.2.1) := by
                intro d a hd e hc59
                refine fin _ e (by show 1 ≤ d; omega) (by omega) hc59 hl (fun y => ?_) ?_
                · unfold gp_act1
                  dsimp only [gp_set]
                  rw [if_neg (by omega)]
                · unfold gp_md gp_act1
                  dsimp only [gp_set]
                  rw [if_neg (by omega)]
              split at e
              · exact act 5 1 (by omega) (Option.some.inj e) (by omega)
              · split at e
                · exact act 4 2 (by omega) (Option.some.inj e) (by omega)
                · split at e
                  · exact act 4 3 (by omega) (Option.some.inj e) (by omega)
                  · split at e
                    · exact nx e (by omega) (by omega) (by assumption)
                    · cases e
            · cases e
  · unfold gp_stp at e
    rw [if_neg (by omega), if_neg (by omega), if_neg (by omega), if_neg (by omega), if_pos h0] at e
    split at e
    · rename_i hd
      exact fin _ (Option.some.inj e) (by show 1 ≤ 5; omega) (by omega) (by omega) (notL c (by omega)) (fun y => rfl) rfl
    · cases e
  · unfold gp_stp at e
    rw [if_neg (by omega), if_neg (by omega), if_neg (by omega), if_neg (by omega), if_neg (by omega)] at e
    split at e
    · exact nx e (by omega) (by omega) (by assumption)
    · cases e
end
