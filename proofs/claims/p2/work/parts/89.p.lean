/-! rules told as a text: the reference reads signs -/
/-- the text that is read, the place, no fault yet -/
def gp_at (M : gz_M) (t : List Nat) (p : Nat) : Prop := t.length ≤ 80 ∧ p ≤ t.length ∧ M.1 0 7 = nI t.length ∧ M.1 0 8 = nI p ∧ M.1 0 9 = gp_no ∧ ∀ i, i < t.length → M.1 4 i = nI (t.getD i 0) ∧ t.getD i 0 < 256
/-- the sign that stands there, if one does -/
def gp_hr (t : List Nat) (p : Nat) : Option Nat := if p < t.length then some (t.getD p 0) else none
/-- what a reading of rules may change -/
def gp_rL (M M' : gz_M) : Prop := M'.2 = M.2 ∧ (∀ c, c ≠ 0 → c < 5 ∨ 14 < c → M'.1 c = M.1 c) ∧ ∀ i, i < 8 ∨ (10 < i ∧ i < 21) ∨ 24 < i → M'.1 0 i = M.1 0 i
theorem gp_rL.refl (M : gz_M) : gp_rL M M := ⟨rfl, fun _ _ _ => rfl, fun _ _ => rfl⟩
theorem gp_rL.trans {M M1 M2 : gz_M} (h : gp_rL M M1) (h' : gp_rL M1 M2) : gp_rL M M2 := ⟨h'.1.trans h.1, fun c a b => (h'.2.1 c a b).trans (h.2.1 c a b), fun i a => (h'.2.2 i a).trans (h.2.2 i a)⟩
theorem gp_rL.w0 {i : Nat} (v : Int32) {M : gz_M} (h : i = 8 ∨ i = 9 ∨ i = 10 ∨ (21 ≤ i ∧ i ≤ 24)) : gp_rL M (gz_w M 0 i v) := ⟨rfl, fun c h1 h2 => gp_wc _ (by omega), fun a h1 => gp_gn (by omega)⟩
theorem gp_rL.w {c i : Nat} (v : Int32) {M : gz_M} (h : 5 ≤ c ∧ c ≤ 14) : gp_rL M (gz_w M c i v) := ⟨rfl, fun a h1 h2 => gp_wc _ (by omega), fun a h1 => gp_gn (by omega)⟩
section
variable {M M' : gz_M} {t : List Nat} {p c : Nat}
theorem gp_fineE (h : gp_at M t p) : f12_fine M = some (1, M) := by
  unfold f12_fine
  rw [h.2.2.2.2.1, if_pos gp_m1.symm]
theorem gp_nfine {q : Nat} (h : M.1 0 9 = nI q) (hq : q < 2 ^ 31) : f12_fine M = some (0, M) := by
  unfold f12_fine
  rw [h, if_neg (show ¬ nI q = (-1 : Int32) from by rw [gp_m1, gp_ne1 hq]; exact id)]
theorem gp_hereE (h : gp_at M t p) : f12_here M = some (gp_o (gp_hr t p), M) := by
  obtain ⟨h1, h2, h3, h4, h5, h6⟩ := h
  unfold f12_here gp_hr
  rw [h3, h4]
  by_cases hp : p < t.length
  · rw [if_neg (nI_ge hp (by omega)), gp_ckb (show p < 80 by omega) (by omega), nI_clamp (by omega), (h6 p hp).1, if_pos hp]
    rfl
  · rw [if_pos (nI_le (by omega) (by omega)), if_neg hp]
    rfl
theorem gp_hr_lt (h : gp_at M t p) (e : gp_hr t p = some c) : c < 256 ∧ p < t.length ∧ t.getD p 0 = c := by
  unfold gp_hr at e
  split at e
  · rename_i hp
    have e := Option.some.inj e
    exact ⟨by rw [← e]; exact (h.2.2.2.2.2 p hp).2, hp, e⟩
  · cases e
/-- the sign there is c -/
theorem gp_oEq {o : Option Nat} (ho : ∀ c, o = some c → c < 256) {n : Nat} (hn : n < 2 ^ 31) : (gp_o o = nI n) ↔ o = some n := by
  cases o with
  | none => exact ⟨fun h => (by have h : gp_no = nI n := h; rw [gp_ne2 hn] at h; exact h.elim), fun h => nomatch h⟩
  | some c =>
    have := ho c rfl
    exact (nI_eq (by omega) hn).trans ⟨fun h => by rw [h], fun h => Option.some.inj h⟩
theorem gp_faultE (h : gp_at M t p) : f12_fault (M.1 0 8) M = some (gz_w M 0 9 (nI p)) := by
  unfold f12_fault
  rw [gp_fineE h, gp_eB2, if_neg (by decide), h.2.2.2.1]
  rfl
/-- the place one on -/
theorem gp_at.nx (h : gp_at M t p) (hp : p < t.length) : gp_at (gz_w M 0 8 (nI (p + 1))) t (p + 1) := ⟨h.1, hp, by rw [gp_gn (by omega)]; exact h.2.2.1, by rw [gp_gs], by rw [gp_gn (by omega)]; exact h.2.2.2.2.1, fun i hi => by rw [gp_gn (by omega)]; exact h.2.2.2.2.2 i hi⟩
theorem gp_at.fr (h : gp_at M t p) (hL : gp_rL M M') (e8 : M'.1 0 8 = M.1 0 8) (e9 : M'.1 0 9 = M.1 0 9) : gp_at M' t p := ⟨h.1, h.2.1, by rw [hL.2.2 7 (by omega)]; exact h.2.2.1, by rw [e8]; exact h.2.2.2.1, by rw [e9]; exact h.2.2.2.2.1, fun i hi => by rw [hL.2.1 4 (by omega) (by omega)]; exact h.2.2.2.2.2 i hi⟩
theorem gp_passE (h : gp_at M t p) {n : Nat} (hn : n < 256) : f12_passes (nI n) M = if gp_hr t p = some n then some (1, gz_w M 0 8 (nI (p + 1))) else some (0, M) := by
  unfold f12_passes
  rw [gp_fineE h, gp_eB2, if_neg (by decide), gp_hereE h, gp_eB2]
  by_cases e : gp_hr t p = some n
  · rw [if_pos ((gp_oEq (fun c hc => (gp_hr_lt h hc).1) (by omega)).mpr e), if_pos e, h.2.2.2.1, nI_1]
    rfl
  · rw [if_neg (fun h' => e ((gp_oEq (fun c hc => (gp_hr_lt h hc).1) (by omega)).mp h')), if_neg e]
theorem gp_passN {q : Nat} (h : M.1 0 9 = nI q) (hq : q < 2 ^ 31) (a : Int32) : f12_passes a M = some (0, M) := by
  unfold f12_passes
  rw [gp_nfine h hq, gp_eB2, if_pos rfl]
theorem gp_faultN {q : Nat} (h : M.1 0 9 = nI q) (hq : q < 2 ^ 31) (a : Int32) : f12_fault a M = some M := by
  unfold f12_fault
  rw [gp_nfine h hq, gp_eB2, if_pos rfl]
theorem gp_needN {q : Nat} (h : M.1 0 9 = nI q) (hq : q < 2 ^ 31) (a : Int32) : f12_need a M = some M := by
  unfold f12_need
  rw [gp_passN h hq, gp_eB2, if_pos rfl, gp_faultN h hq]
  rfl
theorem gp_needE (h : gp_at M t p) {n : Nat} (hn : n < 256) : f12_need (nI n) M = if gp_hr t p = some n then some (gz_w M 0 8 (nI (p + 1))) else some (gz_w M 0 9 (nI p)) := by
  unfold f12_need
  rw [gp_passE h hn]
  by_cases e : gp_hr t p = some n
  · rw [if_pos e, gp_eB2, if_neg (by decide), if_pos e]
  · rw [if_neg e, gp_eB2, if_pos rfl, if_neg e, gp_faultE h]
    rfl
theorem gp_inE (h : gp_at M t p) {a b : Nat} (ha : a < 256) (hb : b < 256) : f12_in (gp_o (gp_hr t p)) (nI a) (nI b) M = some ((match gp_hr t p with | none => 0 | some c => if a ≤ c ∧ c ≤ b then 1 else 0), M) := by
  unfold f12_in
  cases e : gp_hr t p with
  | none =>
    rw [if_pos (by exact of_eq_true (gp_nolt2 (by omega)))]
  | some c =>
    have hc := (gp_hr_lt h e).1
    rw [show gp_o (some c) = nI c from rfl]
    show _ = some ((if a ≤ c ∧ c ≤ b then (1 : Int32) else 0), M)
    by_cases h1 : c < a
    · rw [if_pos (nI_lt h1 (by omega)), if_neg (by omega)]
    · rw [if_neg (nI_nlt (by omega) (by omega))]
      by_cases h2 : b < c
      · rw [if_pos (nI_lt h2 (by omega)), if_neg (by omega)]
      · rw [if_neg (nI_nlt (by omega) (by omega)), if_pos (by omega)]
/-- a sign where a part begins -/
def gp_isP (o : Option Nat) : Bool := match o with
  | none => false
  | some c => gp_isL c || c == 40
theorem gp_isPE (h : gp_at M t p) : f12_isPart M = some ((if gp_isP (gp_hr t p) = true then 1 else 0), M) := by
  unfold f12_isPart
  have hlt : ∀ c, gp_hr t p = some c → c < 256 := fun c hc => (gp_hr_lt h hc).1
  rw [gp_hereE h, gp_eB2, show (97 : Int32) = nI 97 from rfl, show (104 : Int32) = nI 104 from rfl, gp_inE h (by omega) (by omega), gp_eB2, gp_hereE h, gp_eB2, gp_hereE h, gp_eB2]
  cases e : gp_hr t p with
  | none =>
    rw [if_pos rfl, if_neg (show ¬ gp_o none = (46 : Int32) by decide), if_neg (show ¬ gp_o none = (40 : Int32) by decide)]
    rfl
  | some c =>
    have hc := hlt c e
    rw [show gp_o (some c) = nI c from rfl]
    unfold gp_isP gp_isL
    dsimp only
    by_cases h1 : 97 ≤ c ∧ c ≤ 104
    · rw [if_neg (show ¬ ((if 97 ≤ c ∧ c ≤ 104 then (1 : Int32) else 0) = 0) from by rw [if_pos h1]; decide), if_pos (by simp [h1.1, h1.2])]
    · rw [if_pos (show (if 97 ≤ c ∧ c ≤ 104 then (1 : Int32) else 0) = 0 from if_neg h1)]
      by_cases h46 : c = 46
      · rw [if_pos (show nI c = 46 from by rw [h46]; rfl), if_pos (by simp [h46])]
      · rw [if_neg (show ¬ nI c = (46 : Int32) from fun e => h46 ((nI_eq (b := 46) (by omega) (by omega)).mp e))]
        by_cases h40 : c = 40
        · rw [if_pos (show nI c = 40 from by rw [h40]; rfl), if_pos (by simp [h40])]
        · rw [if_neg (show ¬ nI c = (40 : Int32) from fun e => h40 ((nI_eq (b := 40) (by omega) (by omega)).mp e)), if_neg (by simp [h46, h40]; omega)]
/-- letters behind letters; on any numbers -/
theorem gp_folG {m : Nat} (hm : m < 4) (X Y : Int32) (M : gz_M) : ∃ M', f12_follow (nI m) X Y M = some M' ∧ M'.2 = M.2 ∧ (∀ c, c ≠ 14 → M'.1 c = M.1 c) ∧ ∀ i, M'.1 14 i = if 10 * m ≤ i ∧ i < 10 * m + 10 ∧ (gz_shr X (nI (i - 10 * m)) &&& 1) = 1 then M.1 14 i ||| Y else M.1 14 i := by
  unfold f12_follow
  refine gp_for (fun n x M1 => f12_follow_3 n (nI m) X Y (nI x) M1) 10 (fun x M1 => M1.2 = M.2 ∧ (∀ c, c ≠ 14 → M1.1 c = M.1 c) ∧ ∀ i, M1.1 14 i = if 10 * m ≤ i ∧ i < 10 * m + x ∧ (gz_shr X (nI (i - 10 * m)) &&& 1) = 1 then M.1 14 i ||| Y else M.1 14 i) (fun M1 => M1.2 = M.2 ∧ (∀ c, c ≠ 14 → M1.1 c = M.1 c) ∧ ∀ i, M1.1 14 i = if 10 * m ≤ i ∧ i < 10 * m + 10 ∧ (gz_shr X (nI (i - 10 * m)) &&& 1) = 1 then M.1 14 i ||| Y else M.1 14 i) ?_ ?_ gz_FU 0 M (by omega) (by unfold gz_FU; omega) ⟨rfl, fun _ _ => rfl, fun i => by rw [if_neg (by omega)]⟩
  · intro n M1 h
    exact ⟨M1, by rw [f12_follow_3, if_pos (by decide)], h⟩
  · intro n x M1 hx h
    right
    obtain ⟨i1, i2, i3⟩ := h
    have hmx : (10 : Int32) * nI m + nI x = nI (10 * m + x) := by rw [show (10 : Int32) = nI 10 from rfl, pk_mul, nI_add]
    have hold := i3 (10 * m + x)
    rw [if_neg (by omega)] at hold
    rw [f12_follow_3, if_neg (show ¬ (10 : Int32) ≤ nI x from nI_ge (b := 10) (by omega) (by omega))]
    by_cases hb : (gz_shr X (nI x) &&& 1) = 1
    · rw [if_pos hb, hmx, gp_eL, gp_ckb (show 10 * m + x < 40 by omega) (by omega), gp_ckb (show 10 * m + x < 40 by omega) (by omega), nI_clamp (by omega), hold, gp_eL, gp_eL, nI_1]
      refine ⟨_, rfl, by rw [gp_gl]; exact i1, fun c hc => by rw [gp_wc _ hc]; exact i2 c hc, fun i => ?_⟩
      by_cases hi : i = 10 * m + x
      · rw [hi, gp_gs, if_pos ⟨by omega, by omega, by rw [Nat.add_sub_cancel_left]; exact hb⟩]
      · rw [gp_gn (by omega), i3 i]
        by_cases hz : 10 * m ≤ i ∧ i < 10 * m + x ∧ (gz_shr X (nI (i - 10 * m)) &&& 1) = 1
        · rw [if_pos hz, if_pos ⟨hz.1, by omega, hz.2.2⟩]
        · rw [if_neg hz, if_neg (fun h => hz ⟨h.1, by have := h.2.1; omega, h.2.2⟩)]
    · rw [if_neg hb, gp_eL, nI_1]
      refine ⟨M1, rfl, i1, i2, fun i => ?_⟩
      rw [i3 i]
      by_cases hi : i = 10 * m + x
      · rw [if_neg (by omega), if_neg (fun h => hb (by have := h.2.2; rwa [hi, Nat.add_sub_cancel_left] at this))]
      · by_cases hz : 10 * m ≤ i ∧ i < 10 * m + x ∧ (gz_shr X (nI (i - 10 * m)) &&& 1) = 1
        · rw [if_pos hz, if_pos ⟨hz.1, by omega, hz.2.2⟩]
        · rw [if_neg hz, if_neg (fun h => hz ⟨h.1, by have := h.2.1; omega, h.2.2⟩)]
end
