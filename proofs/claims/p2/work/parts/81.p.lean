/-! rules told as a text: the component builds a table -/
def gp_lv (M : gz_M) : List (Option gp_P × Option gp_P) → Prop
  | [] => True
  | x :: L => M.1 5 L.length = gp_eO x.1 ∧ M.1 6 L.length = gp_eO x.2 ∧ gp_lv M L
/-- what lies open of a rule that is read -/
def gp_bR (k : Nat) (M : gz_M) (s : gp_S) : Prop := M.1 4 2 = nI (s.2.2.1.length - 1) ∧ M.1 4 3 = gp_eO s.2.2.2 ∧ M.1 4 4 = nI s.2.1.1 ∧ M.1 4 5 = nI (gp_md s.2.1) ∧ gp_lv M s.2.2.1 ∧ M.1 (k + 1) s.2.1.1 = nI (s.2.1.2.2 1 s.2.1.1) ∧ M.1 (k + 2) s.2.1.1 = nI (s.2.1.2.2 2 s.2.1.1) ∧ M.1 (k + 3) s.2.1.1 = nI (s.2.1.2.2 3 s.2.1.1) ∧ M.1 (k + 4) s.2.1.1 = s.2.1.2.1 s.2.1.1
def gp_bC (k : Nat) (M : gz_M) (s : gp_S) : Prop := gp_tC k M s.2.1 ∧ (1 ≤ s.1 → gp_bR k M s)
def gp_bL (k : Nat) (M M' : gz_M) : Prop := M'.2 = M.2 ∧ ∀ c, c ≠ 4 → c ≠ 5 → c ≠ 6 → c < k ∨ k + 18 < c → M'.1 c = M.1 c
theorem gp_bL.refl (k : Nat) (M : gz_M) : gp_bL k M M := ⟨rfl, fun _ _ _ _ _ => rfl⟩
theorem gp_bL.trans {k : Nat} {M M1 M2 : gz_M} (h : gp_bL k M M1) (h' : gp_bL k M1 M2) : gp_bL k M M2 := ⟨h'.1.trans h.1, fun c a b d e => (h'.2 c a b d e).trans (h.2 c a b d e)⟩
theorem gp_bL.w {k c i : Nat} (v : Int32) {M : gz_M} (h : c = 4 ∨ c = 5 ∨ c = 6 ∨ (k ≤ c ∧ c ≤ k + 18)) : gp_bL k M (gz_w M c i v) := ⟨rfl, fun a h1 h2 h3 h4 => gp_wc _ (by omega)⟩
theorem gp_lv.fr {M M' : gz_M} : ∀ {L : List (Option gp_P × Option gp_P)}, gp_lv M L → (∀ i, i < L.length → M'.1 5 i = M.1 5 i ∧ M'.1 6 i = M.1 6 i) → gp_lv M' L
  | [], _, _ => trivial
  | x :: L, h, e => ⟨by rw [(e L.length (by simp)).1]; exact h.1, by rw [(e L.length (by simp)).2]; exact h.2.1, h.2.2.fr (fun i hi => e i (by simp; omega))⟩
theorem gp_okO_s {T : gp_T} {o : Option gp_P} (h : gp_okO T o) {p : gp_P} (e : o = some p) : gp_sP p := by
  have h1 : gp_u10 T (gp_md T) ≤ 10 := by unfold gp_u10; omega
  exact ⟨gp_pw (h p e).1 h1, gp_pw (h p e).2 h1⟩
theorem gp_tC.fr5 {k : Nat} {M M' : gz_M} {T : gp_T} (h : gp_tC k M T) (e : ∀ c, k ≤ c → c ≤ k + 18 → M'.1 c = M.1 c) : gp_tC k M' T := by
  obtain ⟨a, b, c⟩ := h
  refine ⟨by rw [e k (by omega) (by omega)]; exact a, fun j hj => ?_, fun m hm => ?_⟩
  · rw [e (k + 1) (by omega) (by omega), e (k + 2) (by omega) (by omega), e (k + 3) (by omega) (by omega), e (k + 4) (by omega) (by omega), e (k + 5) (by omega) (by omega), e (k + 6) (by omega) (by omega)]
    exact b j hj
  · rw [e (k + 7) (by omega) (by omega), e (k + 8) (by omega) (by omega), e (k + 9 + 1 + m) (by omega) (by omega), e (k + 14 + 1 + m) (by omega) (by omega)]
    exact c m hm
section
variable {k m : Nat} {M : gz_M} {s : gp_S}
theorem gp_link_3 (a f : Nat) (R : Nat → Nat) (hk : 6 < k) (hm : m < 4) (h5 : M.1 4 5 = nI m) (ha : a < 2 ^ 10) : ∀ (d n x : Nat) (M1 : gz_M), x + d = 10 → d < n → M1.2 = M.2 → (∀ c, c ≠ k + 9 + 1 + m → M1.1 c = M.1 c) → (∀ b, b < 10 → M1.1 (k + 9 + 1 + m) b = nI (if b < x ∧ a.testBit b = true then R b ||| f else R b)) → ∃ M', f1_link_3 k n (nI a) (nI f) (nI x) M1 = some M' ∧ M'.2 = M.2 ∧ (∀ c, c ≠ k + 9 + 1 + m → M'.1 c = M.1 c) ∧ (∀ b, b < 10 → M'.1 (k + 9 + 1 + m) b = nI (if a.testBit b = true then R b ||| f else R b)) := by
  intro d
  induction d with
  | zero =>
    intro n x M1 hx hn e1 e2 e3
    obtain ⟨n, rfl⟩ : ∃ q, n = q + 1 := ⟨n - 1, by omega⟩
    have hx : x = 10 := by omega
    subst hx
    refine ⟨M1, by rw [f1_link_3, if_pos (by exact nI_le (Nat.le_refl 10) (by decide))], e1, e2, fun b hb => ?_⟩
    rw [e3 b hb]
    by_cases h : a.testBit b = true
    · rw [if_pos ⟨hb, h⟩, if_pos h]
    · rw [if_neg (fun h' => h h'.2), if_neg h]
  | succ d ih =>
    intro n x M1 hx hn e1 e2 e3
    obtain ⟨n, rfl⟩ : ∃ q, n = q + 1 := ⟨n - 1, by omega⟩
    have h5' : M1.1 4 5 = nI m := by rw [e2 4 (by omega)]; exact h5
    have step : ∀ v, v = (if a.testBit x = true then R x ||| f else R x) → ∃ M', f1_link_3 k n (nI a) (nI f) (nI (x + 1)) (gz_w M1 (k + 9 + 1 + m) x (nI v)) = some M' ∧ M'.2 = M.2 ∧ (∀ c, c ≠ k + 9 + 1 + m → M'.1 c = M.1 c) ∧ (∀ b, b < 10 → M'.1 (k + 9 + 1 + m) b = nI (if a.testBit b = true then R b ||| f else R b)) := fun v hv => by
      refine ih n (x + 1) _ (by omega) (by omega) (by rw [gp_gl]; exact e1) (fun c hc => by rw [gp_wc _ hc]; exact e2 c hc) (fun b hb => ?_)
      by_cases hbx : b = x
      · subst hbx
        rw [gp_gs, hv]
        by_cases h : a.testBit b = true
        · rw [if_pos h, if_pos ⟨by omega, h⟩]
        · rw [if_neg h, if_neg (fun h' => h h'.2)]
      · rw [gp_gn (by omega), e3 b hb]
        by_cases h : b < x ∧ a.testBit b = true
        · rw [if_pos h, if_pos ⟨by omega, h.2⟩]
        · rw [if_neg h, if_neg (fun h' => h ⟨by omega, h'.2⟩)]
    have hx3 := e3 x (by omega)
    rw [if_neg (show ¬ (x < x ∧ _) from fun h => absurd h.1 (by omega))] at hx3
    rw [f1_link_3, if_neg (show ¬ (10 : Int32) ≤ nI x from nI_ge (b := 10) (by omega) (by omega)), h5', gp_ckb hm (by omega), gp_ckb (by omega) (by omega), nI_clamp (by omega), nI_clamp (by omega), hx3]
    by_cases hb : a.testBit x = true
    · rw [if_neg (show ¬ (gz_shr (nI a) (nI x) &&& 1) = 0 from fun h => by have h := (gp_bit (a := a) (i := x) (by omega) (by omega)).mp h; rw [hb] at h; cases h), gp_ckb (by omega) (by omega), gp_or, gp_eL, gp_eL, nI_1]
      exact step _ (by rw [if_pos hb])
    · rw [if_pos (show (gz_shr (nI a) (nI x) &&& 1) = 0 from (gp_bit (a := a) (i := x) (by omega) (by omega)).mpr (by simpa using hb)), gp_ckb (by omega) (by omega), show nI (R x) ||| 0 = nI (R x) from by rw [gp_n0, gp_or, Nat.or_zero], gp_eL, gp_eL, nI_1]
      exact step _ (by rw [if_neg hb])
theorem gp_linkC {T : gp_T} {a f : Nat} (hk : 6 < k) (hm : gp_md T < 4) (h5 : M.1 4 5 = nI (gp_md T)) (ha : a < 2 ^ 10) (h : gp_tC k M T) : ∃ M', f1_link k (nI a) (nI f) M = some M' ∧ M'.2 = M.2 ∧ (∀ c, c ≠ k + 9 + 1 + gp_md T → M'.1 c = M.1 c) ∧ gp_tC k M' (gp_lnk T a f) := by
  unfold f1_link
  obtain ⟨M', e1, e2, e3, e4⟩ := gp_link_3 (M := M) (m := gp_md T) a f (T.2.2 (10 + gp_md T)) hk hm h5 ha 10 gz_FU 0 M (by omega) (by unfold gz_FU; omega) rfl (fun _ _ => rfl) (fun b hb => by rw [if_neg (fun h => absurd h.1 (by omega))]; exact (h.2.2 _ hm).2.2.1 b hb)
  refine ⟨M', e1, e2, e3, by rw [e3 k (by omega)]; exact h.1, fun j hj => ?_, fun m hm' => ?_⟩
  · have h1 := h.2.1 j hj
    have e : ∀ c, c < 10 → (gp_lnk T a f).2.2 c j = T.2.2 c j := fun c hc => by
      unfold gp_lnk
      dsimp only
      rw [if_neg (by omega)]
    rw [e3 (k + 1) (by omega), e3 (k + 2) (by omega), e3 (k + 3) (by omega), e3 (k + 4) (by omega), e3 (k + 5) (by omega), e3 (k + 6) (by omega), e 1 (by omega), e 2 (by omega), e 3 (by omega), e 5 (by omega), e 6 (by omega)]
    exact h1
  · have h1 := h.2.2 m hm'
    have e : ∀ c b, c ≠ 10 + gp_md T → (gp_lnk T a f).2.2 c b = T.2.2 c b := fun c b hc => by
      unfold gp_lnk
      dsimp only
      rw [if_neg (fun h => hc h.1)]
    refine ⟨by rw [e3 (k + 7) (by omega), e 7 m (by omega)]; exact h1.1, by rw [e3 (k + 8) (by omega), e 8 m (by omega)]; exact h1.2.1, fun x hx => ?_, fun x hx => by rw [e3 (k + 14 + 1 + m) (by omega), e (15 + m) x (by omega)]; exact h1.2.2.2 x hx⟩
    by_cases hmm : m = gp_md T
    · rw [hmm, e4 x hx]
      unfold gp_lnk
      dsimp only
      by_cases hb : a.testBit x = true
      · rw [if_pos hb, if_pos ⟨rfl, hx, hb⟩]
      · rw [if_neg hb, if_neg (fun h => hb h.2.2)]
    · rw [e3 (k + 9 + 1 + m) (by omega), e (10 + m) x (by omega)]
      exact h1.2.2.1 x hx
end
