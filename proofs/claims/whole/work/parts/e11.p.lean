/-! the bound of the rows: the search finds shortest words -/
section
variable {T : gp_T} {m nx h i j S s x : Nat} {E : gp_E} {fr : Option Nat}
def gq_dp (E : gp_E) (h : Nat) : Nat := (gp_pth E 1024 h).length
theorem gq_pth_app (hE : gp_wE E) (L : gp_E) : ∀ (d h : Nat), h < E.length → gp_pth (E ++ L) d h = gp_pth E d h
  | 0, _, _ => rfl
  | d + 1, h, hh => by
    have e : (E ++ L).getD h gp_e0 = E.getD h gp_e0 := by simp [List.getD, List.getElem?_append_left hh]
    rw [gp_pth, gp_pth, e]
    have hg := (hE.2 h hh).2.2.2
    cases hfr : (E.getD h gp_e0).2.1 with
    | none => rfl
    | some g =>
      have := hg g hfr
      show _ :: gp_pth (E ++ L) d g = _ :: gp_pth E d g
      rw [gq_pth_app hE L d g (by omega)]
theorem gq_fnd_app (E : gp_E) (S : Nat) (fr : Option Nat) (s : Nat) : ∃ L, gp_fnd E S fr s = E ++ L ∧ (L = [] ∨ L = [(S, fr, s)]) := by
  unfold gp_fnd
  split
  · exact ⟨[], (List.append_nil E).symm, Or.inl rfl⟩
  · exact ⟨[(S, fr, s)], rfl, Or.inr rfl⟩
theorem gq_dp_app (hE : gp_wE E) (L : gp_E) (hh : h < E.length) : gq_dp (E ++ L) h = gq_dp E h := by
  unfold gq_dp
  rw [gq_pth_app hE L _ _ hh]
theorem gq_dp_new (hE : gp_wE E) (hE2 : gp_wE (E ++ [(S, some h, s)])) (hh : h < E.length) : gq_dp (E ++ [(S, some h, s)]) E.length = gq_dp E h + 1 := by
  have hl := hE2.len
  have hl2 : E.length + 1 ≤ 1023 := by simpa using hl
  unfold gq_dp
  rw [gp_pth, gp_getD_r]
  show (s :: gp_pth (E ++ [(S, some h, s)]) 1023 h).length = _
  rw [List.length_cons, gq_pth_app hE _ _ _ hh, (gp_pth_f hE 1023 h (by omega) hh).2.2.2 1024 (by omega)]
theorem gq_dp_root (E : gp_E) : gq_dp (E ++ [(S, none, s)]) E.length = 1 := by
  unfold gq_dp
  rw [gp_pth, gp_getD_r]
  rfl
/-- the queue: depths don't fall, and lie close -/
def gq_bf (E : gp_E) (b : Nat) : Prop := gp_wE E ∧ (∀ i j, i ≤ j → j < E.length → gq_dp E i ≤ gq_dp E j) ∧ ∀ i, i < E.length → gq_dp E i ≤ b
theorem gq_bf.add {b : Nat} (hb : gq_bf E b) (hw : gp_wE (gp_fnd E S fr s)) (hd : ∀ L, L = [(S, fr, s)] → gp_wE (E ++ L) → gq_dp (E ++ L) E.length = b) : gq_bf (gp_fnd E S fr s) b ∧ ∀ i, i < E.length → gq_dp (gp_fnd E S fr s) i = gq_dp E i := by
  obtain ⟨b1, b2, b3⟩ := hb
  obtain ⟨L, e, hL⟩ := gq_fnd_app E S fr s
  rw [e] at hw ⊢
  rcases hL with hL | hL
  · subst hL
    rw [List.append_nil]
    exact ⟨⟨b1, b2, b3⟩, fun i _ => rfl⟩
  · have hn := hd L hL hw
    have old : ∀ i, i < E.length → gq_dp (E ++ L) i = gq_dp E i := fun i hi => gq_dp_app b1 L hi
    have hlen : (E ++ L).length = E.length + 1 := by rw [hL]; simp
    have last : ∀ j, j < (E ++ L).length → ¬ j < E.length → j = E.length := fun j h1 h2 => by omega
    refine ⟨⟨hw, fun i j hij hj => ?_, fun i hi => ?_⟩, old⟩
    · by_cases h1 : j < E.length
      · rw [old j h1, old i (by omega)]
        exact b2 i j hij h1
      · rw [last j hj h1, hn]
        by_cases h2 : i < E.length
        · rw [old i h2]; exact b3 i h2
        · rw [last i (by omega) h2, hn]; exact Nat.le_refl _
    · by_cases h2 : i < E.length
      · rw [old i h2]; exact b3 i h2
      · rw [last i hi h2, hn]; exact Nat.le_refl _
/-- what is found of one entry: all that it leads to -/
theorem gq_spr_bf {b : Nat} (hw : gp_wT T) (hm : m < 4) (hn : nx < 1024) (hf : ∀ g, fr = some g → g < E.length) (hb : gq_bf E b) (hd : ∀ E', gp_wE E' → E.length ≤ E'.length → (∀ i, i < E.length → gq_dp E' i = gq_dp E i) → ∀ S s, gp_wE (E' ++ [(S, fr, s)]) → gq_dp (E' ++ [(S, fr, s)]) E'.length = b) : ∀ x, x ≤ 8 → gq_bf (gp_spr T m nx fr E x) b ∧ E.length ≤ (gp_spr T m nx fr E x).length ∧ (∀ i, i < E.length → gq_dp (gp_spr T m nx fr E x) i = gq_dp E i) ∧ ∀ s, s < x → nx &&& T.2.2 (15 + m) s ≠ 0 → ∃ j, j < (gp_spr T m nx fr E x).length ∧ ((gp_spr T m nx fr E x).getD j gp_e0).1 = nx &&& T.2.2 (15 + m) s
  | 0, _ => ⟨hb, Nat.le_refl _, fun _ _ => rfl, fun s hs => absurd hs (Nat.not_lt_zero _)⟩
  | x + 1, hx => by
    obtain ⟨h1, h2, h3, h4⟩ := gq_spr_bf hw hm hn hf hb hd x (by omega)
    have hwE := h1.1.fnd (S := nx &&& T.2.2 (15 + m) x) (s := x) (fr := fr) (Nat.lt_of_le_of_lt Nat.and_le_left hn) (by omega) (fun g hg => by have := hf g hg; omega)
    obtain ⟨a1, a2⟩ := h1.add hwE (fun L hL hwL => by rw [hL] at hwL ⊢; exact hd _ h1.1 h2 h3 _ _ hwL)
    have hlen := gp_fnd_len (gp_spr T m nx fr E x) (nx &&& T.2.2 (15 + m) x) x fr
    refine ⟨a1, Nat.le_trans h2 hlen, fun i hi => (a2 i (by omega)).trans (h3 i hi), fun s hs h0 => ?_⟩
    show ∃ j, j < (gp_fnd (gp_spr T m nx fr E x) (nx &&& T.2.2 (15 + m) x) fr x).length ∧ _
    by_cases e : s = x
    · subst e
      show ∃ j, j < (gp_fnd (gp_spr T m nx fr E s) (nx &&& T.2.2 (15 + m) s) fr s).length ∧ ((gp_fnd (gp_spr T m nx fr E s) (nx &&& T.2.2 (15 + m) s) fr s).getD j gp_e0).1 = _
      unfold gp_fnd
      split
      · rename_i hc
        rcases hc with hc | hc
        · exact absurd hc h0
        · obtain ⟨q, hq, hq2⟩ := List.mem_map.mp hc
          obtain ⟨j, hj, hj2⟩ := List.mem_iff_getElem.mp hq
          exact ⟨j, hj, by simp [List.getD, hj, hj2, hq2]⟩
      · exact ⟨_, by rw [List.length_append]; exact Nat.lt_succ_self _, by rw [gp_getD_r]⟩
    · obtain ⟨j, hj, hj2⟩ := h4 s (by omega) h0
      refine ⟨j, by omega, ?_⟩
      show ((gp_fnd (gp_spr T m nx fr E x) (nx &&& T.2.2 (15 + m) x) fr x).getD j gp_e0).1 = _
      rw [gp_fnd_get hj]
      exact hj2
/-- what reading leaves of letters that may come -/
def gq_run (T : gp_T) (m : Nat) : Nat → List Nat → Nat
  | S, [] => S
  | S, s :: w => gq_run T m (gp_aft T m S &&& T.2.2 (15 + m) s) w
theorem gq_run0 (T : gp_T) (m : Nat) : ∀ w : List Nat, gq_run T m 0 w = 0
  | [] => rfl
  | s :: w => by rw [gq_run, gp_aft0, Nat.zero_and, gq_run0 T m w]
theorem gq_exF (hw : gp_wT T) (hm : m < 4) : ∀ (d h : Nat) (E : gp_E), h + d = 1024 → gp_wE E → (h < E.length → gq_bf E (gq_dp E h + 1)) → (¬ h < E.length → ∃ b, gq_bf E b) → h ≤ E.length → (∀ i, i < h → ∀ s, s < 8 → gp_aft T m (E.getD i gp_e0).1 &&& T.2.2 (15 + m) s ≠ 0 → ∃ j, j < E.length ∧ (E.getD j gp_e0).1 = gp_aft T m (E.getD i gp_e0).1 &&& T.2.2 (15 + m) s ∧ gq_dp E j ≤ gq_dp E i + 1) → (∃ L, gp_exF T m d h E = E ++ L) ∧ gp_wE (gp_exF T m d h E) ∧ (∃ b, gq_bf (gp_exF T m d h E) b) ∧ ∀ i, i < (gp_exF T m d h E).length → ∀ s, s < 8 → gp_aft T m ((gp_exF T m d h E).getD i gp_e0).1 &&& T.2.2 (15 + m) s ≠ 0 → ∃ j, j < (gp_exF T m d h E).length ∧ ((gp_exF T m d h E).getD j gp_e0).1 = gp_aft T m ((gp_exF T m d h E).getD i gp_e0).1 &&& T.2.2 (15 + m) s ∧ gq_dp (gp_exF T m d h E) j ≤ gq_dp (gp_exF T m d h E) i + 1 := by
  intro d
  induction d with
  | zero =>
    intro h E hd hE hb hb2 hl hc
    have := hE.len
    rw [gp_exF]
    exact ⟨⟨[], (List.append_nil E).symm⟩, hE, hb2 (by omega), fun i hi => hc i (by omega)⟩
  | succ d ih =>
    intro h E hd hE hb hb2 hl hc
    rw [gp_exF]
    by_cases hh : h < E.length
    · rw [if_pos hh]
      have hS := hE.2 h hh
      have hA : gp_aft T m (E.getD h gp_e0).1 < 1024 := gp_lt10 hw hm (gp_aft_lt hw hm _)
      have b0 := hb hh
      obtain ⟨a1, a2, a3, a4⟩ := gq_spr_bf (fr := some h) hw hm hA (fun g hg => by cases hg; exact hh) b0 (fun E' w1 w2 w3 S s w4 => by rw [gq_dp_new w1 w4 (by omega), w3 h hh]) 8 (Nat.le_refl _)
      have gE : ∀ i, i < E.length → (gp_spr T m (gp_aft T m (E.getD h gp_e0).1) (some h) E 8).getD i gp_e0 = E.getD i gp_e0 := fun i hi => (gp_spr_get hi 8).2
      obtain ⟨E', hE'⟩ : ∃ E', E' = gp_spr T m (gp_aft T m (E.getD h gp_e0).1) (some h) E 8 := ⟨_, rfl⟩
      rw [← hE'] at a1 a2 a3 a4 gE ⊢
      have e1 : ∃ L, E' = E ++ L := by
        refine ⟨E'.drop E.length, ?_⟩
        apply List.ext_getElem
        · rw [List.length_append, List.length_drop]; omega
        · intro i h1 h2
          by_cases hi : i < E.length
          · have := gE i hi
            simp [List.getD, hi, h1] at this
            rw [List.getElem_append_left hi, this]
          · rw [List.getElem_append_right (by omega), List.getElem_drop]
            congr 1; omega
      have dh : gq_dp E' h = gq_dp E h := a3 h hh
      obtain ⟨c1, c2, c3, c4⟩ := ih (h + 1) E' (by omega) a1.1 (fun h1 => ⟨a1.1, a1.2.1, fun i hi => by
        have g1 := a1.2.2 i hi
        have g2 := a1.2.1 h (h + 1) (by omega) h1
        omega⟩) (fun _ => ⟨_, a1⟩) (by omega) (fun i hi s hs h0 => by
        rw [gE i (by omega)] at h0 ⊢
        by_cases e : i = h
        · rw [e] at h0 ⊢
          obtain ⟨j, hj, hj2⟩ := a4 s hs h0
          exact ⟨j, hj, hj2, by rw [dh]; exact a1.2.2 j hj⟩
        · obtain ⟨j, hj, hj2, hj3⟩ := hc i (by omega) s hs h0
          exact ⟨j, by omega, by rw [gE j hj]; exact hj2, by rw [a3 j hj, a3 i (by omega)]; exact hj3⟩)
      obtain ⟨L1, hL1⟩ := e1
      obtain ⟨L2, hL2⟩ := c1
      exact ⟨⟨L1 ++ L2, by rw [hL2, hL1, List.append_assoc]⟩, c2, c3, c4⟩
    · rw [if_neg hh]
      exact ⟨⟨[], (List.append_nil E).symm⟩, hE, hb2 hh, fun i hi => hc i (by omega)⟩
/-- a word that leads somewhere: an entry that lies no deeper -/
theorem gq_ex (hw : gp_wT T) (hm : m < 4) : (∃ b, gq_bf (gp_ex T m) b) ∧ ∀ (s : Nat) (w : List Nat), s < 8 → (∀ z, z ∈ w → z < 8) → gq_run T m (T.2.2 8 m &&& T.2.2 (15 + m) s) w ≠ 0 → ∃ j, j < (gp_ex T m).length ∧ ((gp_ex T m).getD j gp_e0).1 = gq_run T m (T.2.2 8 m &&& T.2.2 (15 + m) s) w ∧ gq_dp (gp_ex T m) j ≤ w.length + 1 := by
  have hA : T.2.2 8 m < 1024 := gp_lt10 hw hm (hw.2.2 m hm).2.1
  have w0 : gp_wE [] := ⟨by simp, fun i hi => absurd hi (by simp)⟩
  have hroot : ∀ E', gp_wE E' → (∀ i, i < E'.length → gq_dp E' i = 1) → ∀ S s, gq_dp (E' ++ [(S, none, s)]) E'.length = 1 := fun E' _ _ S s => gq_dp_root E'
  obtain ⟨a1, a2, a3, a4⟩ := gq_spr_bf (fr := none) (E := []) (b := 1) hw hm hA (fun g hg => by cases hg) ⟨w0, fun i j _ hj => absurd hj (Nat.not_lt_zero _), fun i hi => absurd hi (Nat.not_lt_zero _)⟩ (fun E' _ _ _ S s _ => gq_dp_root E') 8 (Nat.le_refl _)
  obtain ⟨E', hE'⟩ : ∃ E', E' = gp_spr T m (T.2.2 8 m) none [] 8 := ⟨_, rfl⟩
  have hex : gp_ex T m = gp_exF T m 1024 0 E' := by rw [hE']; rfl
  rw [← hE'] at a1 a2 a3 a4
  have d1 : ∀ i, i < E'.length → 1 ≤ gq_dp E' i := fun i hi => (gp_pth_f a1.1 1024 i (by have := a1.1.len; omega) hi).2.1
  obtain ⟨⟨L, hL⟩, c2, c3, c4⟩ := gq_exF hw hm 1024 0 E' (by omega) a1.1 (fun h1 => ⟨a1.1, a1.2.1, fun i hi => Nat.le_trans (a1.2.2 i hi) (by omega)⟩) (fun _ => ⟨_, a1⟩) (Nat.zero_le _) (fun i hi => absurd hi (Nat.not_lt_zero _))
  rw [hex]
  refine ⟨c3, ?_⟩
  have go : ∀ (w : List Nat) (i : Nat), i < (gp_exF T m 1024 0 E').length → (∀ z, z ∈ w → z < 8) → gq_run T m ((gp_exF T m 1024 0 E').getD i gp_e0).1 w ≠ 0 → ∃ j, j < (gp_exF T m 1024 0 E').length ∧ ((gp_exF T m 1024 0 E').getD j gp_e0).1 = gq_run T m ((gp_exF T m 1024 0 E').getD i gp_e0).1 w ∧ gq_dp (gp_exF T m 1024 0 E') j ≤ gq_dp (gp_exF T m 1024 0 E') i + w.length := by
    intro w
    induction w with
    | nil => intro i hi _ _; exact ⟨i, hi, rfl, Nat.le_refl _⟩
    | cons s w ih =>
      intro i hi hz h0
      rw [gq_run] at h0 ⊢
      have hne : gp_aft T m ((gp_exF T m 1024 0 E').getD i gp_e0).1 &&& T.2.2 (15 + m) s ≠ 0 := fun e => by
        rw [e, gq_run0] at h0
        exact h0 rfl
      obtain ⟨j, hj, hj2, hj3⟩ := c4 i hi s (hz s List.mem_cons_self) hne
      rw [← hj2] at h0 ⊢
      obtain ⟨g, hg, hg2, hg3⟩ := ih j hj (fun z hz2 => hz z (List.mem_cons_of_mem _ hz2)) h0
      exact ⟨g, hg, hg2, by rw [List.length_cons]; omega⟩
  intro s w hs hz h0
  have hne : T.2.2 8 m &&& T.2.2 (15 + m) s ≠ 0 := fun e => by
    rw [e, gq_run0] at h0
    exact h0 rfl
  obtain ⟨i, hi, hi2⟩ := a4 s hs hne
  have hi' : i < (gp_exF T m 1024 0 E').length := by rw [hL, List.length_append]; omega
  have ei : (gp_exF T m 1024 0 E').getD i gp_e0 = E'.getD i gp_e0 := by rw [hL]; simp [List.getD, List.getElem?_append_left hi]
  rw [← hi2, ← ei] at h0 ⊢
  obtain ⟨j, hj, hj2, hj3⟩ := go w i hi' hz h0
  refine ⟨j, hj, hj2, Nat.le_trans hj3 ?_⟩
  have : gq_dp (gp_exF T m 1024 0 E') i = gq_dp E' i := by rw [hL]; exact gq_dp_app a1.1 L hi
  rw [this]
  have := a1.2.2 i hi
  omega
/-- the first entry of a kind lies no deeper than any word to that kind is long -/
theorem gq_first (hw : gp_wT T) (hm : m < 4) (P : Nat → Prop) (h0 : ¬ P 0) (hh : h < (gp_ex T m).length) (hf : ∀ g, g < h → ¬ P ((gp_ex T m).getD g gp_e0).1) {s : Nat} {w : List Nat} (hs : s < 8) (hz : ∀ z, z ∈ w → z < 8) (hP : P (gq_run T m (T.2.2 8 m &&& T.2.2 (15 + m) s) w)) : (gp_pth (gp_ex T m) 1024 h).length ≤ w.length + 1 := by
  obtain ⟨⟨b, hb⟩, hex⟩ := gq_ex (T := T) (m := m) hw hm
  obtain ⟨j, hj, hj2, hj3⟩ := hex s w hs hz (fun e => h0 (by rw [e] at hP; exact hP))
  have hjh : h ≤ j := Classical.byContradiction fun c => hf j (by omega) (by rw [hj2]; exact hP)
  exact Nat.le_trans (hb.2.1 h j hjh hj) hj3
end
