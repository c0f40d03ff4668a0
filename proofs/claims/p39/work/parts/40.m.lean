section
/-! the pure side: what the f's answer. Total correctness of an f, and its rows -/
def gp_wp {α : Type} (a : Option α) (Q : α → Prop) : Prop := ∃ r, a = some r ∧ Q r
theorem gp_wpS {α : Type} {r : α} {Q : α → Prop} : gp_wp (some r) Q ↔ Q r := by
  constructor
  · rintro ⟨r', h, q⟩; cases h; exact q
  · exact fun q => ⟨r, rfl, q⟩
theorem gp_wpN {α : Type} {Q : α → Prop} : gp_wp none Q ↔ False := by
  constructor
  · rintro ⟨r', h, q⟩; cases h
  · exact False.elim
theorem gp_wpL {α β : Type} {a : α} {f : α → Option β} {Q : β → Prop} : gp_wp (gz_lt a f) Q ↔ gp_wp (f a) Q := Iff.rfl
theorem gp_wpC {β : Type} {b : Bool} {a : Option β} {Q : β → Prop} : gp_wp (gz_ck b a) Q ↔ (b = true ∧ gp_wp a Q) := by
  cases b
  · constructor
    · rintro ⟨r', h, q⟩; cases h
    · rintro ⟨h, _⟩; cases h
  · exact ⟨fun h => ⟨rfl, h⟩, fun h => h.2⟩
theorem gp_wpB {α β : Type} {a : Option α} {f : α → Option β} {Q : β → Prop} : gp_wp (gz_bd a f) Q ↔ gp_wp a (fun r => gp_wp (f r) Q) := by
  cases a with
  | none => constructor <;> rintro ⟨r', h, q⟩ <;> cases h
  | some v => exact ⟨fun h => ⟨v, rfl, h⟩, fun h => by obtain ⟨r, e, q⟩ := h; cases e; exact q⟩
theorem gp_wpB2 {α β γ : Type} {a : Option (α × β)} {f : α → β → Option γ} {Q : γ → Prop} : gp_wp (gz_bd2 a f) Q ↔ gp_wp a (fun r => gp_wp (f r.1 r.2) Q) := by
  cases a with
  | none => constructor <;> rintro ⟨r', h, q⟩ <;> cases h
  | some v => exact ⟨fun h => ⟨v, rfl, h⟩, fun h => by obtain ⟨r, e, q⟩ := h; cases e; exact q⟩
theorem gp_wpB3 {α β γ δ : Type} {a : Option (α × β × γ)} {f : α → β → γ → Option δ} {Q : δ → Prop} : gp_wp (gz_bd3 a f) Q ↔ gp_wp a (fun r => gp_wp (f r.1 r.2.1 r.2.2) Q) := by
  cases a with
  | none => constructor <;> rintro ⟨r', h, q⟩ <;> cases h
  | some v => exact ⟨fun h => ⟨v, rfl, h⟩, fun h => by obtain ⟨r, e, q⟩ := h; cases e; exact q⟩
theorem gp_wpI {α : Type} {c : Prop} [Decidable c] {a b : Option α} {Q : α → Prop} : gp_wp (if c then a else b) Q ↔ (c → gp_wp a Q) ∧ (¬ c → gp_wp b Q) := by
  by_cases h : c
  · rw [if_pos h]; exact ⟨fun q => ⟨fun _ => q, fun n => absurd h n⟩, fun q => q.1 h⟩
  · rw [if_neg h]; exact ⟨fun q => ⟨fun n => absurd n h, fun _ => q⟩, fun q => q.2 h⟩
theorem gp_wpM {α : Type} {a : Option α} {Q Q' : α → Prop} (h : gp_wp a Q) (k : ∀ r, Q r → Q' r) : gp_wp a Q' := by
  obtain ⟨r, e, q⟩ := h
  exact ⟨r, e, k r q⟩
theorem gp_wpE {α : Type} {a : Option α} {Q : α → Prop} {r : α} (e : a = some r) (q : Q r) : gp_wp a Q := ⟨r, e, q⟩
/-! equations of the words -/
theorem gp_eL {α β : Type} (a : α) (f : α → β) : gz_lt a f = f a := rfl
theorem gp_eB {α β : Type} (v : α) (f : α → Option β) : gz_bd (some v) f = f v := rfl
theorem gp_eB2 {α β γ : Type} (v : α) (w : β) (f : α → β → Option γ) : gz_bd2 (some (v, w)) f = f v w := rfl
theorem gp_eB3 {α β γ δ : Type} (v : α) (w : β) (z : γ) (f : α → β → γ → Option δ) : gz_bd3 (some (v, w, z)) f = f v w z := rfl
theorem gp_eC {β : Type} (a : Option β) : gz_ck true a = a := rfl
theorem gp_eCn {β : Type} (a : Option β) : gz_ck false a = none := rfl
theorem gp_inb {i n : Nat} (h : i < n) (hn : i < 2 ^ 31) : gz_inb (nI i) n = true := by
  unfold gz_inb
  rw [decide_eq_true_iff]
  rintro (h1 | h1)
  · exact nI_pos hn h1
  · rw [nI_clamp hn] at h1; omega
theorem gp_ckb {β : Type} {i n : Nat} (h : i < n) (hn : i < 2 ^ 31) (a : Option β) : gz_ck (gz_inb (nI i) n) a = a := by rw [gp_inb h hn, gp_eC]
/-! memory -/
theorem gp_gs (M : gz_M) (k i : Nat) (v : Int32) : (gz_w M k i v).1 k i = v := by
  simp [gz_w, upd]
theorem gp_gn {M : gz_M} {k i a b : Nat} {v : Int32} (h : ¬ (a = k ∧ b = i)) : (gz_w M k i v).1 a b = M.1 a b := by
  by_cases h1 : a = k
  · subst h1
    have h2 : ¬ b = i := fun e => h ⟨rfl, e⟩
    simp [gz_w, upd, h2]
  · simp [gz_w, h1]
theorem gp_gl (M : gz_M) (k i : Nat) (v : Int32) : (gz_w M k i v).2 = M.2 := rfl
theorem gp_l1 (M : gz_M) (i : Nat) (v : Int64) : (gz_wl M i v).1 = M.1 := rfl
theorem gp_ls (M : gz_M) (i : Nat) (v : Int64) : (gz_wl M i v).2 i = v := by simp [gz_wl, vp_updL]
theorem gp_ln {M : gz_M} {i b : Nat} {v : Int64} (h : ¬ b = i) : (gz_wl M i v).2 b = M.2 b := by simp [gz_wl, vp_updL, h]
/-! numbers as nI -/
theorem gp_lt0 (n : Nat) : (OfNat.ofNat n : Int32) = nI n := rfl
theorem gp_n0 : (0 : Int32) = nI 0 := rfl
theorem gp_n1 : (1 : Int32) = nI 1 := rfl
theorem gp_n2 : (2 : Int32) = nI 2 := rfl
theorem gp_n3 : (3 : Int32) = nI 3 := rfl
theorem gp_n4 : (4 : Int32) = nI 4 := rfl
theorem gp_n5 : (5 : Int32) = nI 5 := rfl
theorem gp_n6 : (6 : Int32) = nI 6 := rfl
theorem gp_n7 : (7 : Int32) = nI 7 := rfl
theorem gp_n8 : (8 : Int32) = nI 8 := rfl
theorem gp_n10 : (10 : Int32) = nI 10 := rfl
theorem gp_n12 : (12 : Int32) = nI 12 := rfl
theorem gp_n24 : (24 : Int32) = nI 24 := rfl
theorem gp_n25 : (25 : Int32) = nI 25 := rfl
theorem gp_n1024 : (1024 : Int32) = nI 1024 := rfl
theorem gp_or (a b : Nat) : nI a ||| nI b = nI (a ||| b) := by
  apply Int32.toBitVec_inj.mp
  simp [nI, BitVec.ofNat_or]
theorem gp_and (a b : Nat) : nI a &&& nI b = nI (a &&& b) := by
  apply Int32.toBitVec_inj.mp
  simp [nI, BitVec.ofNat_and]
theorem gp_lt0f {i : Nat} (h : i < 2 ^ 31) : (nI i < nI 0) = False := eq_false (by rw [nI_0]; exact nI_pos h)
theorem gp_lte {a b : Nat} (ha : a < 2 ^ 31) (hb : b < 2 ^ 31) : (nI a < nI b) = (a < b) := propext (nI_ltI ha hb)
theorem gp_lee {a b : Nat} (ha : a < 2 ^ 31) (hb : b < 2 ^ 31) : (nI a ≤ nI b) = (a ≤ b) := propext (nI_leI ha hb)
theorem gp_eqe {a b : Nat} (ha : a < 2 ^ 31) (hb : b < 2 ^ 31) : (nI a = nI b) = (a = b) := propext (nI_eq ha hb)
def gp_no : Int32 := -1
theorem gp_m1 : (-1 : Int32) = gp_no := rfl
theorem gp_ne1 {a : Nat} (ha : a < 2 ^ 31) : (nI a = gp_no) = False := eq_false (fun h => by
  rw [← gp_m1] at h
  have h1 := congrArg Int32.toInt h
  rw [nI_toInt ha] at h1
  have h2 : ((-1 : Int32)).toInt = -1 := by decide
  rw [h2] at h1
  omega)
theorem gp_ne2 {a : Nat} (ha : a < 2 ^ 31) : (gp_no = nI a) = False := eq_false (fun h => by
  have h1 := gp_ne1 ha
  rw [h] at h1
  simp at h1)
theorem gp_nolt {a : Nat} (ha : a < 2 ^ 31) : (nI a < gp_no) = False := eq_false (fun h => by
  have h1 := Int32.lt_iff_toInt_lt.mp h
  rw [nI_toInt ha] at h1
  have h2 : (gp_no).toInt = -1 := by decide
  rw [h2] at h1
  omega)
theorem gp_nolt2 {a : Nat} (ha : a < 2 ^ 31) : (gp_no < nI a) = True := eq_true (by
  apply Int32.lt_iff_toInt_lt.mpr
  rw [nI_toInt ha]
  have h2 : (gp_no).toInt = -1 := by decide
  rw [h2]
  omega)
theorem gp_nolt3 : (gp_no < gp_no) = False := by decide
theorem gp_nole {a : Nat} (ha : a < 2 ^ 31) : (nI a ≤ gp_no) = False := eq_false (fun h => by
  have h1 := Int32.le_iff_toInt_le.mp h
  rw [nI_toInt ha] at h1
  have h2 : (gp_no).toInt = -1 := by decide
  rw [h2] at h1
  omega)
theorem gp_nole2 {a : Nat} (ha : a < 2 ^ 31) : (gp_no ≤ nI a) = True := eq_true (by
  apply Int32.le_iff_toInt_le.mpr
  rw [nI_toInt ha]
  have h2 : (gp_no).toInt = -1 := by decide
  rw [h2]
  omega)
theorem gp_sl : ∀ n, n < 32 → ((nI n &&& 31).toBitVec.smod 32).toNat = n := by decide +kernel
theorem gp_shr {a i : Nat} (ha : a < 2 ^ 31) (hi : i < 32) : gz_shr (nI a) (nI i) = nI (a >>> i) := by
  unfold gz_shr
  rw [pk_shrN ha _ i (gp_sl i hi), Nat.shiftRight_eq_div_pow]
theorem gp_shl1 {i : Nat} (hi : i < 32) : gz_shl (nI 1) (nI i) = nI (1 <<< i) := by
  have h : ∀ i : Nat, i < 32 → gz_shl (nI 1) (nI i) = nI (1 <<< i) := by decide +kernel
  exact h i hi
theorem gp_bit {a i : Nat} (ha : a < 2 ^ 31) (hi : i < 32) : ((gz_shr (nI a) (nI i) &&& nI 1) = nI 0) = (a.testBit i = false) := by
  rw [gp_shr ha hi, gp_and]
  have h1 : (a >>> i) &&& 1 < 2 := by have := @Nat.and_le_right (a >>> i) 1; omega
  rw [gp_eqe (by omega) (by omega), Nat.testBit]
  have e : (1 &&& a >>> i) = (a >>> i &&& 1) := Nat.and_comm _ _
  rw [e]
  have h2 : (a >>> i) &&& 1 = 0 ∨ (a >>> i) &&& 1 = 1 := by omega
  rcases h2 with h2 | h2 <;> rw [h2] <;> simp
theorem gp_bit1 {a i : Nat} (ha : a < 2 ^ 31) (hi : i < 32) : ((gz_shr (nI a) (nI i) &&& nI 1) = nI 1) = (a.testBit i = true) := by
  rw [gp_shr ha hi, gp_and]
  have h1 : (a >>> i) &&& 1 < 2 := by have := @Nat.and_le_right (a >>> i) 1; omega
  rw [gp_eqe (by omega) (by omega), Nat.testBit]
  have e : (1 &&& a >>> i) = (a >>> i &&& 1) := Nat.and_comm _ _
  rw [e]
  have h2 : (a >>> i) &&& 1 = 0 ∨ (a >>> i) &&& 1 = 1 := by omega
  rcases h2 with h2 | h2 <;> rw [h2] <;> simp
/-- bits of many -/
def gp_orN (f : Nat → Nat) : Nat → Nat
  | 0 => 0
  | n + 1 => gp_orN f n ||| f n
theorem gp_orN_lt {f : Nat → Nat} {b : Nat} : ∀ {n : Nat}, (∀ i, i < n → f i < 2 ^ b) → gp_orN f n < 2 ^ b
  | 0, _ => Nat.two_pow_pos b
  | n + 1, h => Nat.or_lt_two_pow (gp_orN_lt (fun i hi => h i (by omega))) (h n (by omega))
theorem gp_orN_bit {f : Nat → Nat} {x : Nat} : ∀ {n : Nat}, (gp_orN f n).testBit x = true ↔ ∃ i, i < n ∧ (f i).testBit x = true
  | 0 => by simp [gp_orN]
  | n + 1 => by
    rw [gp_orN, Nat.testBit_or, Bool.or_eq_true, gp_orN_bit]
    constructor
    · rintro (⟨i, h1, h2⟩ | h)
      · exact ⟨i, by omega, h2⟩
      · exact ⟨n, by omega, h⟩
    · rintro ⟨i, h1, h2⟩
      by_cases h : i = n
      · subst h; exact Or.inr h2
      · exact Or.inl ⟨i, by omega, h2⟩
theorem gp_orN_ext {f g : Nat → Nat} : ∀ {n : Nat}, (∀ i, i < n → f i = g i) → gp_orN f n = gp_orN g n
  | 0, _ => rfl
  | n + 1, h => by rw [gp_orN, gp_orN, gp_orN_ext (fun i hi => h i (by omega)), h n (by omega)]
def gp_o : Option Nat → Int32
  | none => gp_no
  | some k => nI k
theorem gp_oN : gp_o none = gp_no := rfl
theorem gp_oS (k : Nat) : gp_o (some k) = nI k := rfl
/-- the first one from i on, n of them looked at -/
def gp_fst (p : Nat → Bool) : Nat → Nat → Option Nat
  | 0, _ => none
  | n + 1, i => if p i = true then some i else gp_fst p n (i + 1)
end
section
/-! the model: tables of rules. How many; digits; all else by cell and place (1 mode, 2 letters, 3 act, 5 last, 6 empty of a rule; 7 used, 8 opening of a mode; 10 + m follow; 15 + m takers) -/
abbrev gp_T : Type := Nat × (Nat → Int32) × (Nat → Nat → Nat)
def gp_wT (T : gp_T) : Prop := T.1 ≤ 8 ∧ (∀ j, j < T.1 → T.2.2 1 j < 4 ∧ T.2.2 2 j ≤ 80 ∧ T.2.2 3 j < 4 ∧ T.2.2 5 j < 2 ^ T.2.2 7 (T.2.2 1 j) ∧ T.2.2 6 j < 2 ∧ (2 ≤ T.2.2 3 j → ∃ d, d < 4 ∧ T.2.1 j = nI d)) ∧ ∀ m, m < 4 → T.2.2 7 m ≤ 10 ∧ T.2.2 8 m < 2 ^ T.2.2 7 m ∧ (∀ x, x < 10 → T.2.2 (10 + m) x < 2 ^ T.2.2 7 m) ∧ ∀ s, s < 8 → T.2.2 (15 + m) s < 2 ^ T.2.2 7 m
/-- the letters behind some -/
def gp_aft (T : gp_T) (m S : Nat) : Nat := gp_orN (fun x => if S.testBit x = true then T.2.2 (10 + m) x else 0) 10
def gp_st1 (T : gp_T) (m s : Nat) : Nat := T.2.2 8 m &&& T.2.2 (15 + m) s
def gp_st (T : gp_T) (m S s : Nat) : Nat := gp_aft T m S &&& T.2.2 (15 + m) s
def gp_win (T : gp_T) (m S : Nat) : Option Nat := gp_fst (fun j => decide (T.2.2 1 j = m ∧ T.2.2 5 j &&& S ≠ 0)) T.1 0
/-- a table of the component, at cell k -/
def gp_tC (k : Nat) (M : gz_M) (T : gp_T) : Prop := M.1 k 0 = nI T.1 ∧ (∀ j, j < T.1 → M.1 (k + 1) j = nI (T.2.2 1 j) ∧ M.1 (k + 2) j = nI (T.2.2 2 j) ∧ M.1 (k + 3) j = nI (T.2.2 3 j) ∧ M.1 (k + 4) j = T.2.1 j ∧ M.1 (k + 5) j = nI (T.2.2 5 j) ∧ M.1 (k + 6) j = nI (T.2.2 6 j)) ∧ ∀ m, m < 4 → M.1 (k + 7) m = nI (T.2.2 7 m) ∧ M.1 (k + 8) m = nI (T.2.2 8 m) ∧ (∀ x, x < 10 → M.1 (k + 9 + 1 + m) x = nI (T.2.2 (10 + m) x)) ∧ ∀ s, s < 8 → M.1 (k + 14 + 1 + m) s = nI (T.2.2 (15 + m) s)
section
variable {k m S s x : Nat} {M : gz_M} {T : gp_T}
theorem gp_isMode (h : m < 4) : f11_isMode (nI m) M = some (1, M) := by
  unfold f11_isMode
  rw [if_neg, if_neg]
  · exact nI_ge h (by decide)
  · exact nI_pos (by omega)
theorem gp_after_12 (h : gp_tC k M T) (hm : m < 4) (hS : S < 2 ^ 10) : ∀ (d n x : Nat), x + d = 10 → d < n → f7_after_12 k n (nI m) (nI S) (nI (gp_orN (fun x => if S.testBit x = true then T.2.2 (10 + m) x else 0) x)) (nI x) M = some (nI (gp_aft T m S), M) := by
  intro d
  induction d with
  | zero =>
    intro n x hx hn
    obtain ⟨n, rfl⟩ : ∃ q, n = q + 1 := ⟨n - 1, by omega⟩
    have hx : x = 10 := by omega
    subst hx
    rw [f7_after_12, if_pos (by exact nI_le (Nat.le_refl 10) (by decide))]
    rfl
  | succ d ih =>
    intro n x hx hn
    obtain ⟨n, rfl⟩ : ∃ q, n = q + 1 := ⟨n - 1, by omega⟩
    have h1 := (h.2.2 m hm).2.2.1 x (by omega)
    have e := ih n (x + 1) (by omega) (by omega)
    rw [f7_after_12]
    simp (disch := omega) only [gp_n0, gp_n1, gp_n10, gp_lee, gp_bit, gp_eL, nI_add, gp_ckb, nI_clamp, h1, gp_or, if_neg]
    rw [gp_orN] at e
    by_cases hb : S.testBit x = true
    · simp only [hb, Bool.true_eq_false, if_false, if_true] at e ⊢
      exact e
    · simp only [Bool.not_eq_true] at hb
      simp only [hb, Bool.false_eq_true, if_false, if_true] at e ⊢
      exact e
theorem gp_after (h : gp_tC k M T) (hm : m < 4) (hS : S < 2 ^ 10) : f7_after k (nI m) (nI S) M = some (nI (gp_aft T m S), M) := by
  unfold f7_after
  rw [gp_isMode hm, gp_eB2, if_neg (by decide)]
  exact gp_after_12 h hm hS 10 _ 0 rfl (by unfold gz_FU; omega)
theorem gp_win_2 (hw : gp_wT T) (h : gp_tC k M T) (hm : m < 4) (hS : S < 2 ^ 10) : ∀ (d n x : Nat), x + d = T.1 → d < n → f7_winner_2 k n (nI m) (nI S) (nI x) M = some (gp_o (gp_fst (fun j => decide (T.2.2 1 j = m ∧ T.2.2 5 j &&& S ≠ 0)) d x), M) := by
  have ht := hw.1
  intro d
  induction d with
  | zero =>
    intro n x hx hn
    obtain ⟨n, rfl⟩ : ∃ q, n = q + 1 := ⟨n - 1, by omega⟩
    have hx : x = T.1 := by omega
    subst hx
    rw [f7_winner_2]
    simp (disch := omega) only [h.1, gp_lee, Nat.le_refl, if_true]
    rfl
  | succ d ih =>
    intro n x hx hn
    obtain ⟨n, rfl⟩ : ∃ q, n = q + 1 := ⟨n - 1, by omega⟩
    have h1 := h.2.1 x (by omega)
    have h2 := hw.2.1 x (by omega)
    have h3 : T.2.2 5 x &&& S < 2 ^ 10 := Nat.lt_of_le_of_lt Nat.and_le_right hS
    have e := ih n (x + 1) (by omega) (by omega)
    have hl : ¬ T.1 ≤ x := by omega
    rw [f7_winner_2, gp_fst]
    simp (disch := omega) only [gp_n0, gp_n1, gp_lee, gp_eL, nI_add, gp_ckb, nI_clamp, h.1, h1, gp_and, gp_eqe, hl, if_false, e]
    by_cases ha : T.2.2 1 x = m
    · by_cases hb : T.2.2 5 x &&& S = 0
      · simp [ha, hb]
      · simp [ha, hb, gp_o]
    · simp [ha]
theorem gp_winner (hw : gp_wT T) (h : gp_tC k M T) (hm : m < 4) (hS : S < 2 ^ 10) : f7_winner k (nI m) (nI S) M = some (gp_o (gp_win T m S), M) := by
  have ht := hw.1
  unfold f7_winner gp_win
  exact gp_win_2 hw h hm hS T.1 _ 0 (by omega) (by unfold gz_FU; omega)
theorem gp_atFirst (h : gp_tC k M T) (hm : m < 4) : f7_atFirst k (nI m) M = some (nI (T.2.2 8 m), M) := by
  unfold f7_atFirst
  rw [gp_isMode hm, gp_eB2, if_neg (by decide), gp_ckb hm (by omega), nI_clamp (by omega), (h.2.2 m hm).2.1]
theorem gp_takersOf (h : gp_tC k M T) (hm : m < 4) (hs : s < 8) : f7_takersOf k (nI m) (nI s) M = some (nI (T.2.2 (15 + m) s), M) := by
  unfold f7_takersOf
  rw [gp_isMode hm, gp_eB2, if_neg (by decide), if_neg (nI_pos (by omega)), if_neg (by exact nI_ge hs (by decide)), gp_ckb hm (by omega), gp_ckb hs (by omega), nI_clamp (by omega), nI_clamp (by omega), (h.2.2 m hm).2.2.2 s hs]
end
end
section
/-! a table of the reference -/
def gp_tR (M : gz_M) (T : gp_T) : Prop := M.1 0 10 = nI T.1 ∧ (∀ j, j < T.1 → M.1 5 j = nI (T.2.2 1 j) ∧ M.1 6 j = nI (T.2.2 2 j) ∧ M.1 7 j = nI (T.2.2 3 j) ∧ M.1 8 j = T.2.1 j ∧ M.1 9 j = nI (T.2.2 6 j) ∧ M.1 11 j = nI (T.2.2 5 j)) ∧ (∃ bg : Nat → Nat, (∀ j, j < T.1 → M.1 10 j = nI (bg j)) ∧ ∀ m, m < 4 → T.2.2 8 m = gp_orN (fun j => if T.2.2 1 j = m then bg j else 0) T.1) ∧ ∀ m, m < 4 → M.1 12 m = nI (T.2.2 7 m) ∧ ∀ x, x < T.2.2 7 m → M.1 14 (10 * m + x) = nI (T.2.2 (10 + m) x) ∧ ∃ c, c ≤ 8 ∧ M.1 13 (10 * m + x) = nI c ∧ ∀ s, s < 8 → (T.2.2 (15 + m) s).testBit x = (decide (c = 8) || decide (c = s))
section
variable {k m S s x : Nat} {M : gz_M} {T : gp_T}
theorem gp_lt10 {a : Nat} (hw : gp_wT T) (hm : m < 4) (h : a < 2 ^ T.2.2 7 m) : a < 2 ^ 10 := Nat.lt_of_lt_of_le h (Nat.pow_le_pow_right (by decide) (hw.2.2 m hm).1)
theorem gp_aft_lt (hw : gp_wT T) (hm : m < 4) (S : Nat) : gp_aft T m S < 2 ^ T.2.2 7 m := by
  refine gp_orN_lt (fun x hx => ?_)
  split
  · exact (hw.2.2 m hm).2.2.1 x hx
  · exact Nat.two_pow_pos _
theorem gp_st_lt (hw : gp_wT T) (hm : m < 4) (S s : Nat) : gp_st T m S s < 2 ^ T.2.2 7 m := Nat.lt_of_le_of_lt Nat.and_le_left (gp_aft_lt hw hm S)
theorem gp_st1_lt (hw : gp_wT T) (hm : m < 4) (s : Nat) : gp_st1 T m s < 2 ^ T.2.2 7 m := Nat.lt_of_le_of_lt Nat.and_le_left (hw.2.2 m hm).2.1
theorem gp_step108 (hw : gp_wT T) (h : gp_tR M T) (hm : m < 4) (hs : s < 8) (A : Nat) (hA : A < 2 ^ 10) : ∀ (d n x : Nat), x + d = T.2.2 7 m → d < n → f12_step_108 n (nI m) (nI s) (nI A) (nI (gp_orN (fun x => if (A &&& T.2.2 (15 + m) s).testBit x = true then 1 <<< x else 0) x)) (nI x) M = some (nI (gp_orN (fun x => if (A &&& T.2.2 (15 + m) s).testBit x = true then 1 <<< x else 0) (T.2.2 7 m)), M) := by
  have hu := (hw.2.2 m hm).1
  have h2 := h.2.2.2 m hm
  intro d
  induction d with
  | zero =>
    intro n x hx hn
    obtain ⟨n, rfl⟩ : ∃ q, n = q + 1 := ⟨n - 1, by omega⟩
    have hx : x = T.2.2 7 m := by omega
    subst hx
    rw [f12_step_108]
    simp (disch := omega) only [gp_ckb, nI_clamp, h2.1, gp_lee, Nat.le_refl, if_true]
  | succ d ih =>
    intro n x hx hn
    obtain ⟨n, rfl⟩ : ∃ q, n = q + 1 := ⟨n - 1, by omega⟩
    obtain ⟨_, c, hc, h3, h4⟩ := h2.2 x (by omega)
    have h4 := h4 s hs
    have e := ih n (x + 1) (by omega) (by omega)
    rw [gp_orN] at e
    rw [f12_step_108]
    have hl : ¬ T.2.2 7 m ≤ x := by omega
    rw [Nat.testBit_and, h4] at e
    simp (disch := omega) only [gp_n0, gp_n1, gp_n8, gp_n10, gp_lee, gp_bit1, gp_eL, gp_ckb, nI_clamp, h2.1, h3, gp_or, hl, if_false, pk_mul, nI_add, gp_shl1, gp_eqe]
    by_cases hb : A.testBit x = true
    · by_cases h8 : c = 8
      · simp [hb, h8] at e ⊢
        exact e
      · by_cases h9 : c = s
        · simp [hb, h8, h9] at e ⊢
          exact e
        · simp [hb, h8, h9] at e ⊢
          exact e
    · simp only [Bool.not_eq_true] at hb
      simp [hb] at e ⊢
      exact e
theorem gp_step108' (hw : gp_wT T) (h : gp_tR M T) (hm : m < 4) (hs : s < 8) (A : Nat) (hA : A < 2 ^ 10) : f12_step_108 gz_FU (nI m) (nI s) (nI A) 0 0 M = some (nI (A &&& T.2.2 (15 + m) s), M) := by
  have hu := (hw.2.2 m hm).1
  have e := gp_step108 hw h hm hs A hA (T.2.2 7 m) gz_FU 0 (by omega) (by unfold gz_FU; omega)
  have e2 : gp_orN (fun x => if (A &&& T.2.2 (15 + m) s).testBit x = true then 1 <<< x else 0) (T.2.2 7 m) = A &&& T.2.2 (15 + m) s := by
    apply Nat.eq_of_testBit_eq
    intro i
    rw [Bool.eq_iff_iff, gp_orN_bit]
    constructor
    · rintro ⟨j, h1, h2⟩
      split at h2
      · rename_i h3
        rw [Nat.one_shiftLeft, Nat.testBit_two_pow, decide_eq_true_iff] at h2
        subst h2
        exact h3
      · simp at h2
    · intro h1
      have h2 : i < T.2.2 7 m := by
        apply Classical.byContradiction
        intro hn
        have h3 : A &&& T.2.2 (15 + m) s < 2 ^ i := Nat.lt_of_lt_of_le (Nat.lt_of_le_of_lt Nat.and_le_right ((hw.2.2 m hm).2.2.2 s hs)) (Nat.pow_le_pow_right (by decide) (by omega))
        rw [Nat.testBit_lt_two_pow h3] at h1
        cases h1
      refine ⟨i, h2, ?_⟩
      simp [h1]
  rw [e2] at e
  exact e
theorem gp_step58 (hw : gp_wT T) (h : gp_tR M T) (hm : m < 4) (hs : s < 8) (hS : S < 2 ^ T.2.2 7 m) : ∀ (d n x : Nat), x + d = 10 → d < n → f12_step_58 n (nI m) (nI S) (nI s) (nI (gp_orN (fun x => if S.testBit x = true then T.2.2 (10 + m) x else 0) x)) (nI x) M = some (nI (gp_st T m S s), M) := by
  have hu := (hw.2.2 m hm).1
  have hS' := gp_lt10 hw hm hS
  have h2 := h.2.2.2 m hm
  intro d
  induction d with
  | zero =>
    intro n x hx hn
    obtain ⟨n, rfl⟩ : ∃ q, n = q + 1 := ⟨n - 1, by omega⟩
    have hx : x = 10 := by omega
    subst hx
    rw [f12_step_58, if_pos (by exact nI_le (Nat.le_refl 10) (by decide))]
    exact gp_step108' hw h hm hs _ (gp_lt10 hw hm (gp_aft_lt hw hm S))
  | succ d ih =>
    intro n x hx hn
    obtain ⟨n, rfl⟩ : ∃ q, n = q + 1 := ⟨n - 1, by omega⟩
    have e := ih n (x + 1) (by omega) (by omega)
    rw [f12_step_58]
    have hl : ¬ 10 ≤ x := by omega
    rw [gp_orN] at e
    simp (disch := omega) only [gp_n0, gp_n1, gp_n10, gp_lee, gp_bit1, gp_eL, nI_add, hl, if_false]
    by_cases hb : S.testBit x = true
    · have hx2 : x < T.2.2 7 m := by
        apply Classical.byContradiction
        intro hn
        rw [Nat.testBit_lt_two_pow (Nat.lt_of_lt_of_le hS (Nat.pow_le_pow_right (by decide) (by omega)))] at hb
        cases hb
      have h3 := (h2.2 x hx2).1
      simp only [hb, if_true] at e ⊢
      simp (disch := omega) only [pk_mul, nI_add, gp_ckb, nI_clamp, h3, gp_or]
      exact e
    · simp only [hb] at e ⊢
      simp (disch := omega) only [gp_or]
      exact e
theorem gp_step10 (hw : gp_wT T) (h : gp_tR M T) (hm : m < 4) (hs : s < 8) : f12_step_10 gz_FU (nI m) (nI s) 0 0 M = some (nI (gp_st1 T m s), M) := by
  have ht := hw.1
  obtain ⟨bg, h3, h4⟩ := h.2.2.1
  have h4 := h4 m hm
  have e : ∀ (d n x : Nat), x + d = T.1 → d < n → f12_step_10 n (nI m) (nI s) (nI (gp_orN (fun j => if T.2.2 1 j = m then bg j else 0) x)) (nI x) M = some (nI (gp_st1 T m s), M) := by
    intro d
    induction d with
    | zero =>
      intro n x hx hn
      obtain ⟨n, rfl⟩ : ∃ q, n = q + 1 := ⟨n - 1, by omega⟩
      have hx : x = T.1 := by omega
      subst hx
      rw [f12_step_10, h.1, if_pos (nI_le (Nat.le_refl _) (by omega)), ← h4]
      exact gp_step108' hw h hm hs _ (gp_lt10 hw hm (hw.2.2 m hm).2.1)
    | succ d ih =>
      intro n x hx hn
      obtain ⟨n, rfl⟩ : ∃ q, n = q + 1 := ⟨n - 1, by omega⟩
      have e := ih n (x + 1) (by omega) (by omega)
      rw [f12_step_10]
      have hl : ¬ T.1 ≤ x := by omega
      have h5 := h3 x (by omega)
      have h6 := h.2.1 x (by omega)
      have h7 := hw.2.1 x (by omega)
      rw [gp_orN] at e
      simp (disch := omega) only [gp_n0, gp_n1, gp_lee, gp_eL, nI_add, hl, if_false, h.1, gp_ckb, nI_clamp, h5, h6, gp_eqe, gp_or]
      by_cases hb : T.2.2 1 x = m
      · simp only [hb, if_true] at e ⊢
        exact e
      · simp only [hb, if_false] at e ⊢
        exact e
  exact e T.1 gz_FU 0 (by omega) (by unfold gz_FU; omega)
theorem gp_stepR1 (hw : gp_wT T) (h : gp_tR M T) (hm : m < 4) (hs : s < 8) (S : Int32) : f12_step (nI m) S 1 (nI s) M = some (nI (gp_st1 T m s), M) := by
  unfold f12_step
  rw [if_neg (by decide)]
  exact gp_step10 hw h hm hs
theorem gp_stepR (hw : gp_wT T) (h : gp_tR M T) (hm : m < 4) (hs : s < 8) (hS : S < 2 ^ T.2.2 7 m) : f12_step (nI m) (nI S) 0 (nI s) M = some (nI (gp_st T m S s), M) := by
  unfold f12_step
  rw [if_pos rfl]
  exact gp_step58 hw h hm hs hS 10 gz_FU 0 (by omega) (by unfold gz_FU; omega)
theorem gp_winR_2 (hw : gp_wT T) (h : gp_tR M T) (hm : m < 4) (hS : S < 2 ^ 10) : ∀ (d n x : Nat), x + d = T.1 → d < n → f12_winner_2 n (nI m) (nI S) (nI x) M = some (gp_o (gp_fst (fun j => decide (T.2.2 1 j = m ∧ T.2.2 5 j &&& S ≠ 0)) d x), M) := by
  have ht := hw.1
  intro d
  induction d with
  | zero =>
    intro n x hx hn
    obtain ⟨n, rfl⟩ : ∃ q, n = q + 1 := ⟨n - 1, by omega⟩
    have hx : x = T.1 := by omega
    subst hx
    rw [f12_winner_2]
    simp (disch := omega) only [h.1, gp_lee, Nat.le_refl, if_true]
    rfl
  | succ d ih =>
    intro n x hx hn
    obtain ⟨n, rfl⟩ : ∃ q, n = q + 1 := ⟨n - 1, by omega⟩
    have h1 := h.2.1 x (by omega)
    have h2 := hw.2.1 x (by omega)
    have h3 : T.2.2 5 x &&& S < 2 ^ 10 := Nat.lt_of_le_of_lt Nat.and_le_right hS
    have e := ih n (x + 1) (by omega) (by omega)
    have hl : ¬ T.1 ≤ x := by omega
    rw [f12_winner_2, gp_fst]
    simp (disch := omega) only [gp_n0, gp_n1, gp_lee, gp_eL, nI_add, gp_ckb, nI_clamp, h.1, h1, gp_and, gp_eqe, hl, if_false, e]
    by_cases ha : T.2.2 1 x = m
    · by_cases hb : T.2.2 5 x &&& S = 0
      · simp [ha, hb]
      · simp [ha, hb, gp_o]
    · simp [ha]
theorem gp_winR (hw : gp_wT T) (h : gp_tR M T) (hm : m < 4) (hS : S < 2 ^ 10) : f12_winner (nI m) (nI S) M = some (gp_o (gp_win T m S), M) := by
  have ht := hw.1
  unfold f12_winner gp_win
  exact gp_winR_2 hw h hm hS T.1 _ 0 (by omega) (by unfold gz_FU; omega)
end
end
section
/-! lines; reading a token -/
def gp_lC (k : Nat) (M : gz_M) (l : List Nat) : Prop := l.length ≤ 24 ∧ M.1 k 1 = nI l.length ∧ ∀ i, i < l.length → M.1 (k + 1) i = nI (l.getD i 0) ∧ l.getD i 0 < 8
/-- reading in mode m on from place q, nx may come: the winner's rule, the place behind it, the place behind the last sign read, the dead one, the standings come to (F: remembered ones) -/
def gp_rm (T : gp_T) (m : Nat) (F : Nat → Nat → Bool) : List Nat → Nat → Nat → Option Nat → Nat → Option Nat × Nat × Nat × Option Nat × List Nat
  | [], q, _, r, b => (r, b, q, none, [])
  | s :: l, q, nx, r, b =>
    if nx &&& T.2.2 (15 + m) s = 0 then (r, b, q + 1, some q, [])
    else if F (nx &&& T.2.2 (15 + m) s) (q + 1) = true then ((gp_win T m (nx &&& T.2.2 (15 + m) s)).or r, (if (gp_win T m (nx &&& T.2.2 (15 + m) s)).isSome = true then q + 1 else b), q + 1, none, [nx &&& T.2.2 (15 + m) s])
    else
      ((gp_rm T m F l (q + 1) (gp_aft T m (nx &&& T.2.2 (15 + m) s)) ((gp_win T m (nx &&& T.2.2 (15 + m) s)).or r) (if (gp_win T m (nx &&& T.2.2 (15 + m) s)).isSome = true then q + 1 else b)).1,
       (gp_rm T m F l (q + 1) (gp_aft T m (nx &&& T.2.2 (15 + m) s)) ((gp_win T m (nx &&& T.2.2 (15 + m) s)).or r) (if (gp_win T m (nx &&& T.2.2 (15 + m) s)).isSome = true then q + 1 else b)).2.1,
       (gp_rm T m F l (q + 1) (gp_aft T m (nx &&& T.2.2 (15 + m) s)) ((gp_win T m (nx &&& T.2.2 (15 + m) s)).or r) (if (gp_win T m (nx &&& T.2.2 (15 + m) s)).isSome = true then q + 1 else b)).2.2.1,
       (gp_rm T m F l (q + 1) (gp_aft T m (nx &&& T.2.2 (15 + m) s)) ((gp_win T m (nx &&& T.2.2 (15 + m) s)).or r) (if (gp_win T m (nx &&& T.2.2 (15 + m) s)).isSome = true then q + 1 else b)).2.2.2.1,
       (nx &&& T.2.2 (15 + m) s) :: (gp_rm T m F l (q + 1) (gp_aft T m (nx &&& T.2.2 (15 + m) s)) ((gp_win T m (nx &&& T.2.2 (15 + m) s)).or r) (if (gp_win T m (nx &&& T.2.2 (15 + m) s)).isSome = true then q + 1 else b)).2.2.2.2)
def gp_F0 : Nat → Nat → Bool := fun _ _ => false
section
variable {k k0 k1 m S s x p q : Nat} {M M' : gz_M} {T : gp_T} {l : List Nat}
theorem gp_tC.fr (h : gp_tC k0 M T) (e : ∀ c, k0 ≤ c → c < k0 + 19 → M'.1 c = M.1 c) : gp_tC k0 M' T := by
  refine ⟨?_, fun j hj => ?_, fun m hm => ?_⟩
  · rw [e _ (by omega) (by omega)]; exact h.1
  · rw [e _ (by omega) (by omega), e _ (by omega) (by omega), e _ (by omega) (by omega), e _ (by omega) (by omega), e _ (by omega) (by omega), e _ (by omega) (by omega)]
    exact h.2.1 j hj
  · have h1 := h.2.2 m hm
    refine ⟨?_, ?_, fun x hx => ?_, fun s hs => ?_⟩
    · rw [e _ (by omega) (by omega)]; exact h1.1
    · rw [e _ (by omega) (by omega)]; exact h1.2.1
    · rw [e _ (by omega) (by omega)]; exact h1.2.2.1 x hx
    · rw [e _ (by omega) (by omega)]; exact h1.2.2.2 s hs
theorem gp_lC.fr (h : gp_lC k1 M l) (e : ∀ c, k1 ≤ c → c < k1 + 2 → M'.1 c = M.1 c) : gp_lC k1 M' l := by
  refine ⟨h.1, ?_, fun i hi => ?_⟩
  · rw [e _ (by omega) (by omega)]; exact h.2.1
  · rw [e _ (by omega) (by omega)]; exact h.2.2 i hi
theorem gp_lget (h : gp_lC k1 M l) (hp : p < l.length) : f5_get k1 (nI p) M = some (nI (l.getD p 0), M) := by
  have h1 := h.1
  unfold f5_get
  rw [h.2.1, if_neg (nI_pos (by omega)), if_neg (nI_ge hp (by omega)), if_neg (by exact nI_ge (show p < 24 by omega) (by decide)), gp_ckb (by omega) (by omega), nI_clamp (by omega), (h.2.2 p hp).1]
theorem gp_drop (hp : p < l.length) : l.drop p = l.getD p 0 :: l.drop (p + 1) := by
  rw [List.drop_eq_getElem_cons hp]
  simp [List.getD, hp]
theorem gp_wc (M : gz_M) {k c i : Nat} {v : Int32} (h : c ≠ k) : (gz_w M k i v).1 c = M.1 c := by
  simp [gz_w, h]
theorem gp_win_some {T : gp_T} {m S k : Nat} (h : gp_win T m S = some k) : k < T.1 ∧ T.2.2 1 k = m ∧ T.2.2 5 k &&& S ≠ 0 := by
  have g : ∀ (p : Nat → Bool) (n i : Nat), gp_fst p n i = some k → p k = true ∧ i ≤ k ∧ k < i + n := by
    intro p n
    induction n with
    | zero => intro i h; cases h
    | succ n ih =>
      intro i h
      rw [gp_fst] at h
      split at h
      · rename_i h1
        cases h
        exact ⟨h1, by omega, by omega⟩
      · obtain ⟨a, b, c⟩ := ih (i + 1) h
        exact ⟨a, by omega, by omega⟩
  obtain ⟨a, b, c⟩ := g _ _ _ h
  simp at a
  exact ⟨by omega, a.1, a.2⟩
theorem gp_readFrom_33 (hw : gp_wT T) (hm : m < 4) (hk : k + 9 ≤ k0 ∨ k0 + 19 ≤ k) (hk1 : k + 9 ≤ k1 ∨ k1 + 2 ≤ k) : ∀ (d n q nx b : Nat) (r : Option Nat) (M : gz_M), q + d = l.length → d < n → gp_tC k0 M T → gp_lC k1 M l → M.1 k 12 = gp_o r → M.1 k 13 = nI b → M.1 k 14 = nI q → M.1 k 15 = gp_no → nx < 2 ^ 10 →
    ∃ M', f2_readFrom_33 k k0 k1 n (nI m) (nI nx) (nI q) M = some M' ∧ M'.2 = M.2 ∧ (∀ c, c ≠ k → M'.1 c = M.1 c) ∧ (∀ i, i < 12 → M'.1 k i = M.1 k i) ∧ M'.1 k 12 = gp_o (gp_rm T m gp_F0 (l.drop q) q nx r b).1 ∧ M'.1 k 13 = nI (gp_rm T m gp_F0 (l.drop q) q nx r b).2.1 ∧ M'.1 k 14 = nI (gp_rm T m gp_F0 (l.drop q) q nx r b).2.2.1 ∧ M'.1 k 15 = gp_o (gp_rm T m gp_F0 (l.drop q) q nx r b).2.2.2.1 := by
  intro d
  induction d with
  | zero =>
    intro n q nx b r M hq hn ht hl h12 h13 h14 h15 hnx
    have hl1 := hl.1
    obtain ⟨n, rfl⟩ : ∃ q, n = q + 1 := ⟨n - 1, by omega⟩
    have hq : q = l.length := by omega
    subst hq
    rw [f2_readFrom_33, hl.2.1, if_pos (nI_le (Nat.le_refl _) (by omega)), List.drop_length]
    exact ⟨M, rfl, rfl, fun _ _ => rfl, fun _ _ => rfl, h12, h13, h14, h15⟩
  | succ d ih =>
    intro n q nx b r M hq hn ht hl h12 h13 h14 h15 hnx
    have hl1 := hl.1
    obtain ⟨n, rfl⟩ : ∃ q, n = q + 1 := ⟨n - 1, by omega⟩
    have hs := (hl.2.2 q (by omega)).2
    have hS : nx &&& T.2.2 (15 + m) (l.getD q 0) < 2 ^ 10 := Nat.lt_of_le_of_lt Nat.and_le_left hnx
    rw [gp_drop (by omega), gp_rm]
    generalize hSe : nx &&& T.2.2 (15 + m) (l.getD q 0) = S at hS
    have hA : gp_aft T m S < 2 ^ 10 := gp_lt10 hw hm (gp_aft_lt hw hm S)
    have hle : ¬ l.length ≤ q := by omega
    rw [f2_readFrom_33, hl.2.1, h15]
    simp (disch := omega) only [gp_n0, gp_n1, gp_lee, hle, if_false, ↓gp_m1, if_true, gp_lget hl, gp_eB2, gp_takersOf ht hm hs, gp_and, hSe, gp_eL, nI_add, gp_eqe]
    have ht1 : gp_tC k0 (gz_w M k 14 (nI (q + 1))) T := ht.fr (fun c h1 h2 => gp_wc _ (by omega))
    have hl2 : gp_lC k1 (gz_w M k 14 (nI (q + 1))) l := hl.fr (fun c h1 h2 => gp_wc _ (by omega))
    by_cases h0 : S = 0
    · simp only [h0, if_true]
      have ht2 : gp_tC k0 (gz_w (gz_w M k 14 (nI (q + 1))) k 15 (nI q)) T := ht1.fr (fun c h1 h2 => gp_wc _ (by omega))
      have hl3 : gp_lC k1 (gz_w (gz_w M k 14 (nI (q + 1))) k 15 (nI q)) l := hl2.fr (fun c h1 h2 => gp_wc _ (by omega))
      have hwin : gp_win T m 0 = none := by
        cases e : gp_win T m 0 with
        | none => rfl
        | some j => exact absurd (Nat.and_zero _) (gp_win_some e).2.2
      unfold f2_readFrom_85 f2_readFrom_114
      rw [gp_winner hw ht2 hm (by decide), hwin, gp_eB2, gp_oN]
      simp (disch := omega) only [↓gp_m1, if_true, gp_after ht2 hm (show 0 < 2 ^ 10 by decide), gp_eB2, gp_eL, gp_n1, nI_add]
      obtain ⟨n, rfl⟩ : ∃ q, n = q + 1 := ⟨n - 1, by omega⟩
      rw [f2_readFrom_33]
      simp (disch := omega) only [gp_gs, ↓gp_m1, gp_ne1, if_false, ite_self]
      refine ⟨_, rfl, rfl, fun c hc => ?_, fun i hi => ?_, ?_, ?_, ?_, ?_⟩
      · rw [gp_wc _ hc, gp_wc _ hc]
      · rw [gp_gn (by omega), gp_gn (by omega)]
      · rw [gp_gn (by omega), gp_gn (by omega), h12]
      · rw [gp_gn (by omega), gp_gn (by omega), h13]
      · rw [gp_gn (by omega), gp_gs]
      · rw [gp_gs, gp_oS]
    · simp only [h0, if_false, gp_F0, Bool.false_eq_true]
      unfold f2_readFrom_85 f2_readFrom_114
      rw [gp_winner hw ht1 hm hS, gp_eB2]
      cases hwin : gp_win T m S with
      | none =>
        simp (disch := omega) only [gp_oN, gp_oS, ↓gp_m1, if_true, gp_after ht1 hm hS, gp_eB2, gp_eL, gp_n1, nI_add]
        obtain ⟨M', e1, e2, e3, e4, e5⟩ := ih n (q + 1) (gp_aft T m S) b r (gz_w M k 14 (nI (q + 1))) (by omega) (by omega) ht1 hl2 (by rw [gp_gn (by omega), h12]) (by rw [gp_gn (by omega), h13]) (by rw [gp_gs]) (by rw [gp_gn (by omega), h15]) hA
        refine ⟨M', e1, e2, fun c hc => (e3 c hc).trans (gp_wc _ hc), fun i hi => (e4 i hi).trans (gp_gn (by omega)), ?_⟩
        simpa using e5
      | some j =>
        have hj := (gp_win_some hwin).1
        have hw1 := hw.1
        simp (disch := omega) only [gp_oN, gp_oS, ↓gp_m1, gp_ne1, if_false, gp_eL, gp_n1, nI_add]
        have ht2 : gp_tC k0 (gz_w (gz_w (gz_w M k 14 (nI (q + 1))) k 12 (nI j)) k 13 (nI (q + 1))) T := ht1.fr (fun c h1 h2 => (gp_wc _ (by omega)).trans (gp_wc _ (by omega)))
        have hl3 : gp_lC k1 (gz_w (gz_w (gz_w M k 14 (nI (q + 1))) k 12 (nI j)) k 13 (nI (q + 1))) l := hl2.fr (fun c h1 h2 => (gp_wc _ (by omega)).trans (gp_wc _ (by omega)))
        simp (disch := omega) only [gp_after ht2 hm hS, gp_eB2]
        obtain ⟨M', e1, e2, e3, e4, e5⟩ := ih n (q + 1) (gp_aft T m S) (q + 1) (some j) _ (by omega) (by omega) ht2 hl3 (by rw [gp_gn (by omega), gp_gs]; rfl) (by rw [gp_gs]) (by rw [gp_gn (by omega), gp_gn (by omega), gp_gs]) (by rw [gp_gn (by omega), gp_gn (by omega), gp_gn (by omega), h15]) hA
        refine ⟨M', e1, e2, fun c hc => (e3 c hc).trans (by rw [gp_wc _ hc, gp_wc _ hc, gp_wc _ hc]), fun i hi => (e4 i hi).trans (by rw [gp_gn (by omega), gp_gn (by omega), gp_gn (by omega)]), ?_⟩
        simpa using e5
end
end
section
/-! tokens: rule, first place, place behind, behind the last sign read, the dead sign, mode, modes behind it (the topmost first) -/
abbrev gp_K : Type := Option Nat × Nat × Nat × Nat × Option Nat × Nat × List Nat
def gp_k0 : gp_K := (none, 0, 0, 0, none, 0, [])
def gp_act (T : gp_T) (r : Option Nat) (stk : List Nat) : List Nat :=
  match r with
  | none => stk
  | some k => if T.2.2 3 k = 1 then (if stk.length ≤ 1 then stk else stk.tail) else if T.2.2 3 k = 2 then ((T.2.1 k).toNatClampNeg :: stk).take 5 else if T.2.2 3 k = 3 then (T.2.1 k).toNatClampNeg :: stk.tail else stk
def gp_tokO (T : gp_T) (p : Nat) (stk : List Nat) (R : Option Nat × Nat × Nat × Option Nat × List Nat) : gp_K := (R.1, p, (if R.1.isSome = true then R.2.1 else p + 1), R.2.2.1, R.2.2.2.1, stk.headD 0, gp_act T R.1 stk)
def gp_tok (T : gp_T) (l : List Nat) (p : Nat) (stk : List Nat) : gp_K := gp_tokO T p stk (gp_rm T (stk.headD 0) gp_F0 (l.drop p) p (T.2.2 8 (stk.headD 0)) none p)
def gp_cutF (T : gp_T) (l : List Nat) : Nat → Nat → List Nat → List gp_K
  | 0, _, _ => []
  | n + 1, p, stk => if p < l.length then gp_tok T l p stk :: gp_cutF T l n (gp_tok T l p stk).2.2.1 (gp_tok T l p stk).2.2.2.2.2.2 else []
def gp_cut (T : gp_T) (l : List Nat) : List gp_K := gp_cutF T l 24 0 [0]
def gp_most (ts : List gp_K) : Nat := ts.foldl (fun a t => max a t.2.2.2.2.2.2.length) 1
def gp_enc : List Nat → Nat
  | [] => 0
  | d :: t => d + 4 * gp_enc t
/-- modes on one another -/
def gp_sk (stk : List Nat) : Prop := 0 < stk.length ∧ stk.length ≤ 5 ∧ ∀ d, d ∈ stk → d < 4
def gp_cA (k : Nat) (M : gz_M) (ts : List gp_K) : Prop := ∀ i, i < ts.length → M.1 (k + 1) i = gp_o (ts.getD i gp_k0).1 ∧ M.1 (k + 2) i = nI (ts.getD i gp_k0).2.1 ∧ M.1 (k + 3) i = nI (ts.getD i gp_k0).2.2.1 ∧ M.1 (k + 4) i = nI (ts.getD i gp_k0).2.2.2.1 ∧ M.1 (k + 5) i = gp_o (ts.getD i gp_k0).2.2.2.2.1 ∧ M.1 (k + 6) i = nI (ts.getD i gp_k0).2.2.2.2.2.1 ∧ M.1 (k + 7) i = nI (ts.getD i gp_k0).2.2.2.2.2.2.length ∧ M.1 (k + 8) i = nI (gp_enc (ts.getD i gp_k0).2.2.2.2.2.2)
def gp_cC (k : Nat) (M : gz_M) (ts : List gp_K) : Prop := M.1 k 0 = nI ts.length ∧ M.1 k 1 = nI (gp_most ts) ∧ gp_cA k M ts
theorem gp_max {a b : Nat} (ha : a < 2 ^ 31) (hb : b < 2 ^ 31) : gz_max (nI a) (nI b) = nI (max a b) := by
  unfold gz_max
  by_cases h : a < b
  · rw [if_pos (nI_lt h hb), Nat.max_eq_right (by omega)]
  · rw [if_neg (nI_nlt (by omega) ha), Nat.max_eq_left (by omega)]
theorem gp_min {a b : Nat} (ha : a < 2 ^ 31) (hb : b < 2 ^ 31) : gz_min (nI a) (nI b) = nI (min a b) := by
  unfold gz_min
  by_cases h : b < a
  · rw [if_pos (nI_lt h ha), Nat.min_eq_right (by omega)]
  · rw [if_neg (nI_nlt (by omega) hb), Nat.min_eq_left (by omega)]
theorem gp_enc_lt : ∀ {stk : List Nat}, (∀ d, d ∈ stk → d < 4) → gp_enc stk < 4 ^ stk.length
  | [], _ => by decide
  | d :: t, h => by
    have h1 := gp_enc_lt (stk := t) (fun d hd => h d (List.mem_cons_of_mem _ hd))
    have h2 := h d List.mem_cons_self
    rw [gp_enc, List.length_cons, Nat.pow_succ]
    omega
theorem gp_sk.lt {stk : List Nat} (h : gp_sk stk) : gp_enc stk < 1024 := by
  have h1 := gp_enc_lt h.2.2
  have h2 : 4 ^ stk.length ≤ 4 ^ 5 := Nat.pow_le_pow_right (by decide) h.2.1
  omega
theorem gp_enc_take : ∀ (n : Nat) {stk : List Nat}, (∀ d, d ∈ stk → d < 4) → gp_enc (stk.take n) = gp_enc stk % 4 ^ n
  | 0, _, _ => by simp [gp_enc, Nat.mod_one]
  | n + 1, [], _ => by simp [gp_enc]
  | n + 1, d :: t, h => by
    have h1 := gp_enc_take n (stk := t) (fun d hd => h d (List.mem_cons_of_mem _ hd))
    have h2 := h d List.mem_cons_self
    rw [List.take_succ_cons, gp_enc, gp_enc, h1, Nat.pow_succ, Nat.mul_comm (4 ^ n) 4]
    have h3 : (d + 4 * gp_enc t) % (4 * 4 ^ n) = d + 4 * (gp_enc t % 4 ^ n) := by
      rw [Nat.mod_mul]
      have : (d + 4 * gp_enc t) % 4 = d := by omega
      have h4 : (d + 4 * gp_enc t) / 4 = gp_enc t := by omega
      rw [this, h4]
    rw [h3]
theorem gp_shl2 {a : Nat} : gz_shl (nI a) 2 = nI (a * 4) := by
  unfold gz_shl
  have := pk_shlN (n := a % 2 ^ 30) (2 &&& 31) 2 (by decide) (by omega)
  apply Int32.toBitVec_inj.mp
  have e : (nI a <<< ((2 : Int32) &&& 31)).toBitVec = (nI a).toBitVec <<< (2 : Nat) := by
    rw [Int32.toBitVec_shiftLeft]
    rfl
  rw [e]
  apply BitVec.eq_of_toNat_eq
  simp [nI, Nat.shiftLeft_eq]
theorem gp_shr2 {a : Nat} (ha : a < 2 ^ 31) : gz_shr (nI a) 2 = nI (a / 4) := by
  have := gp_shr ha (show 2 < 32 by decide)
  rw [Nat.shiftRight_eq_div_pow] at this
  exact this
theorem gp_push {e d : Nat} (he : e < 1024) (hd : d < 4) : ((gz_shl (nI e) 2) ||| nI d) &&& 1023 = nI ((d + 4 * e) % 1024) := by
  have h1 : (1023 : Int32) = nI 1023 := rfl
  rw [gp_shl2, gp_or, h1, gp_and]
  have h2 : e * 4 ||| d = e * 4 + d := by
    have := Nat.shiftLeft_add_eq_or_of_lt (i := 2) (b := d) (by omega) e
    rw [Nat.shiftLeft_eq] at this
    exact this.symm
  rw [h2]
  have h3 : (e * 4 + d) &&& 1023 = (e * 4 + d) % 2 ^ 10 := Nat.and_two_pow_sub_one_eq_mod _ 10
  rw [h3]
  congr 1
  omega
theorem gp_inpl {e d : Nat} (he : e < 1024) (hd : d < 4) : (nI e &&& (-4)) ||| nI d = nI (d + 4 * (e / 4)) := by
  have h : ∀ e : Fin 1024, ∀ d : Fin 4, (nI e.val &&& (-4)) ||| nI d.val = nI (d.val + 4 * (e.val / 4)) := by decide +kernel
  exact h ⟨e, he⟩ ⟨d, hd⟩
theorem gp_and3 (e : Nat) : nI e &&& 3 = nI (e % 4) := by
  have h1 : (3 : Int32) = nI 3 := rfl
  rw [h1, gp_and]
  have h3 : e &&& 3 = e % 2 ^ 2 := Nat.and_two_pow_sub_one_eq_mod _ 2
  rw [h3]
theorem gp_act_sk {T : gp_T} {r : Option Nat} {stk : List Nat} (hw : gp_wT T) (hr : ∀ k, r = some k → k < T.1) (h : gp_sk stk) : gp_sk (gp_act T r stk) := by
  cases r with
  | none => exact h
  | some k =>
    have h1 := hw.2.1 k (hr k rfl)
    obtain ⟨d, t, rfl⟩ : ∃ d t, stk = d :: t := by
      cases stk with
      | nil => exact absurd h.1 (by decide)
      | cons d t => exact ⟨d, t, rfl⟩
    have hl : t.length + 1 ≤ 5 := h.2.1
    have ht : ∀ x, x ∈ t → x < 4 := fun x hx => h.2.2 x (List.mem_cons_of_mem _ hx)
    unfold gp_act
    dsimp only
    split
    · split
      · exact h
      · rename_i h3
        simp only [List.length_cons] at h3
        exact ⟨by show 0 < t.length; omega, by show t.length ≤ 5; omega, fun x hx => ht x hx⟩
    · split
      · obtain ⟨d', hd', e⟩ := h1.2.2.2.2.2 (by omega)
        rw [e, nI_clamp (by omega)]
        refine ⟨by simp, by simp; omega, fun x hx => ?_⟩
        have := List.mem_of_mem_take hx
        rcases List.mem_cons.mp this with rfl | h5
        · exact hd'
        · exact h.2.2 x h5
      · split
        · obtain ⟨d', hd', e⟩ := h1.2.2.2.2.2 (by omega)
          rw [e, nI_clamp (by omega)]
          refine ⟨by simp, by simp; omega, fun x hx => ?_⟩
          rcases List.mem_cons.mp hx with rfl | h5
          · exact hd'
          · exact ht x h5
        · exact h
section
variable {k k0 k1 m S s x p q : Nat} {M M' : gz_M} {T : gp_T} {l : List Nat}
theorem gp_doAct (hw : gp_wT T) (hk : k + 9 ≤ k0 ∨ k0 + 19 ≤ k) (r : Option Nat) (hr : ∀ j, r = some j → j < T.1) (stk : List Nat) (hs : gp_sk stk) (mo : Nat) (hmo : stk.length ≤ mo) (hmo2 : mo ≤ 5) (M : gz_M) (ht : gp_tC k0 M T) (h1 : M.1 k 1 = nI mo) (h10 : M.1 k 10 = nI stk.length) (h11 : M.1 k 11 = nI (gp_enc stk)) :
    ∃ M', f2_doAct k k0 (gp_o r) M = some M' ∧ M'.2 = M.2 ∧ (∀ c, c ≠ k → M'.1 c = M.1 c) ∧ (∀ i, i ≠ 1 → i ≠ 10 → i ≠ 11 → M'.1 k i = M.1 k i) ∧ M'.1 k 10 = nI (gp_act T r stk).length ∧ M'.1 k 11 = nI (gp_enc (gp_act T r stk)) ∧ M'.1 k 1 = nI (max mo (gp_act T r stk).length) := by
  have hlt := hs.lt
  cases r with
  | none =>
    refine ⟨M, ?_, rfl, fun _ _ => rfl, fun _ _ _ _ => rfl, h10, h11, ?_⟩
    · unfold f2_doAct
      rw [if_pos (by decide)]
    · rw [gp_act, h1, Nat.max_eq_left hmo]
  | some j =>
    have hj := hr j rfl
    have hw1 := hw.1
    have hwj := hw.2.1 j hj
    have htj := ht.2.1 j hj
    have hsk := gp_act_sk hw hr hs
    have hl5 := hsk.2.1
    have hs5 := hs.2.1
    have fin : ∀ M1 : gz_M, M1.2 = M.2 → (∀ c, c ≠ k → M1.1 c = M.1 c) → (∀ i, i ≠ 1 → i ≠ 10 → i ≠ 11 → M1.1 k i = M.1 k i) → M1.1 k 10 = nI (gp_act T (some j) stk).length → M1.1 k 11 = nI (gp_enc (gp_act T (some j) stk)) → M1.1 k 1 = nI mo → ∃ M', f2_doAct_136 k k0 M1 = some M' ∧ M'.2 = M.2 ∧ (∀ c, c ≠ k → M'.1 c = M.1 c) ∧ (∀ i, i ≠ 1 → i ≠ 10 → i ≠ 11 → M'.1 k i = M.1 k i) ∧ M'.1 k 10 = nI (gp_act T (some j) stk).length ∧ M'.1 k 11 = nI (gp_enc (gp_act T (some j) stk)) ∧ M'.1 k 1 = nI (max mo (gp_act T (some j) stk).length) := by
      intro M1 e1 e2 e3 e4 e5 e6
      refine ⟨_, rfl, e1, fun c hc => ?_, fun i i1 i2 i3 => ?_, ?_, ?_, ?_⟩
      · rw [gp_wc _ hc, e2 c hc]
      · rw [gp_gn (by omega), e3 i i1 i2 i3]
      · rw [gp_gn (by omega), e4]
      · rw [gp_gn (by omega), e5]
      · rw [gp_gs, e6, e4, gp_max (by omega) (by omega)]
    unfold f2_doAct
    rw [gp_oS, if_neg (nI_pos (by omega)), ht.1, if_pos (nI_lt hj (by omega)), gp_ckb (by omega) (by omega), gp_eL, gp_ckb (by omega) (by omega), gp_eL, nI_clamp (by omega), htj.2.2.1, nI_toInt (by omega)]
    obtain ⟨d0, t, rfl⟩ : ∃ d t, stk = d :: t := by
      cases stk with
      | nil => exact absurd hs.1 (by decide)
      | cons d t => exact ⟨d, t, rfl⟩
    have hd0 : d0 < 4 := hs.2.2 d0 List.mem_cons_self
    have hc3 : T.2.2 3 j = 0 ∨ T.2.2 3 j = 1 ∨ T.2.2 3 j = 2 ∨ T.2.2 3 j = 3 := by omega
    rcases hc3 with e | e | e | e
    · rw [e, if_pos (by omega)]
      refine fin M rfl (fun _ _ => rfl) (fun _ _ _ _ => rfl) ?_ ?_ h1 <;> unfold gp_act <;> simp only [e] <;> simpa using by assumption
    · rw [e, if_neg (by omega), if_pos (show nI 1 = 1 from rfl), h10]
      by_cases hl : (d0 :: t).length ≤ 1
      · rw [if_pos (by exact nI_le hl (by decide))]
        refine fin M rfl (fun _ _ => rfl) (fun _ _ _ _ => rfl) ?_ ?_ h1 <;> unfold gp_act <;> simp only [e, hl, if_true] <;> assumption
      · rw [if_neg (show ¬ nI (d0 :: t).length ≤ (1 : Int32) from nI_ge (a := 1) (by omega) (by omega))]
        have ea : gp_act T (some j) (d0 :: t) = t := by unfold gp_act; simp only [e, hl, if_false, if_true]; rfl
        rw [ea] at fin ⊢
        refine fin _ rfl (fun c hc => ?_) (fun i i1 i2 i3 => ?_) ?_ ?_ ?_
        · rw [gp_wc _ hc, gp_wc _ hc]
        · rw [gp_gn (by omega), gp_gn (by omega)]
        · rw [gp_gn (by omega), gp_gs]
          exact nI_pred _
        · rw [gp_gs, gp_gn (by omega), h11, gp_shr2 (by omega)]
          congr 1
          rw [gp_enc]
          omega
        · rw [gp_gn (by omega), gp_gn (by omega), h1]
    · obtain ⟨d, hd, ed⟩ := hwj.2.2.2.2.2 (by omega)
      rw [e, if_neg (by omega), if_neg (by decide), if_pos (show nI 2 = 2 from rfl), htj.2.2.2.1, ed, gp_and3, h10]
      have ea : gp_act T (some j) (d0 :: t) = (d :: d0 :: t).take 5 := by unfold gp_act; simp only [e, ed]; rw [nI_clamp (by omega)]; rfl
      have hdm : d % 4 = d := by omega
      rw [ea] at fin ⊢
      refine fin _ rfl (fun c hc => ?_) (fun i i1 i2 i3 => ?_) ?_ ?_ ?_
      · rw [gp_wc _ hc, gp_wc _ hc]
      · rw [gp_gn (by omega), gp_gn (by omega)]
      · rw [gp_gn (by omega), gp_gs, nI_1]
        have : (5 : Int32) = nI 5 := rfl
        rw [this, gp_min (by omega) (by omega), List.length_take]
        simp [Nat.min_comm]
      · rw [gp_gs, gp_gn (by omega), h11, hdm, gp_push hlt hd, gp_enc_take 5 (by
          intro x hx
          rcases List.mem_cons.mp hx with rfl | h5
          · exact hd
          · exact hs.2.2 x h5)]
        rfl
      · rw [gp_gn (by omega), gp_gn (by omega), h1]
    · obtain ⟨d, hd, ed⟩ := hwj.2.2.2.2.2 (by omega)
      rw [e, if_neg (by omega), if_neg (by decide), if_neg (by decide), if_pos (show nI 3 = 3 from rfl), htj.2.2.2.1, ed, gp_and3, h11]
      have ea : gp_act T (some j) (d0 :: t) = d :: t := by unfold gp_act; simp only [e, ed]; rw [nI_clamp (by omega)]; rfl
      have hdm : d % 4 = d := by omega
      rw [ea] at fin ⊢
      refine fin _ rfl (fun c hc => ?_) (fun i i1 i2 i3 => ?_) ?_ ?_ ?_
      · rw [gp_wc _ hc]
      · rw [gp_gn (by omega)]
      · rw [gp_gn (by omega), h10]
        rfl
      · rw [gp_gs, hdm, gp_inpl hlt hd, gp_enc, gp_enc]
        congr 1
        omega
      · rw [gp_gn (by omega), h1]
end
end
section
/-! facts of reading -/
section
variable {k k0 k1 m S s x p q : Nat} {M M' : gz_M} {T : gp_T} {l : List Nat} {F : Nat → Nat → Bool}
theorem gp_rm_f : ∀ (L : List Nat) (q nx : Nat) (r : Option Nat) (b : Nat), (r.isSome = true → b ≤ q) → (∀ j, r = some j → j < T.1) →
    q ≤ (gp_rm T m F L q nx r b).2.2.1 ∧ (gp_rm T m F L q nx r b).2.2.1 ≤ q + L.length ∧ (L ≠ [] → q < (gp_rm T m F L q nx r b).2.2.1) ∧ ((gp_rm T m F L q nx r b).1.isSome = true → (gp_rm T m F L q nx r b).2.1 ≤ (gp_rm T m F L q nx r b).2.2.1) ∧ (r = none → (gp_rm T m F L q nx r b).1.isSome = true → q < (gp_rm T m F L q nx r b).2.1) ∧ (∀ j, (gp_rm T m F L q nx r b).1 = some j → j < T.1) ∧ (∀ x, (gp_rm T m F L q nx r b).2.2.2.1 = some x → (gp_rm T m F L q nx r b).2.2.1 = x + 1 ∧ q ≤ x) ∧ (gp_rm T m F L q nx r b).2.2.2.2.length + q + (if (gp_rm T m F L q nx r b).2.2.2.1.isSome = true then 1 else 0) = (gp_rm T m F L q nx r b).2.2.1 ∧ (r.isSome = true → b ≤ (gp_rm T m F L q nx r b).2.1 ∧ (gp_rm T m F L q nx r b).1.isSome = true)
  | [], q, nx, r, b, h1, h2 => by
    simp only [gp_rm]
    refine ⟨by omega, by simp, by simp, h1, fun h3 h4 => ?_, h2, by simp, by simp, fun h => ⟨by omega, h⟩⟩
    rw [h3] at h4
    simp at h4
  | s :: L, q, nx, r, b, h1, h2 => by
    rw [gp_rm]
    split
    · refine ⟨by simp, (by simp <;> omega), by simp, fun h => (by have := h1 h; simp <;> omega), fun h3 h4 => ?_, h2, ?_, (by simp <;> omega), fun h => ⟨by simp, h⟩⟩
      · rw [h3] at h4
        simp at h4
      · intro x hx
        simp at hx ⊢
        omega
    · have hor : ∀ j, (gp_win T m (nx &&& T.2.2 (15 + m) s)).or r = some j → j < T.1 := by
        intro j hj
        cases e : gp_win T m (nx &&& T.2.2 (15 + m) s) with
        | none => rw [e] at hj; exact h2 j hj
        | some i =>
          rw [e] at hj
          simp at hj
          subst hj
          exact (gp_win_some e).1
      split
      · refine ⟨by simp, (by simp <;> omega), by simp, fun h => ?_, fun h3 h4 => ?_, hor, by simp, (by simp <;> omega), fun h => ?_⟩
        · dsimp only at h ⊢
          split
          · omega
          · rename_i h5
            simp only [Bool.not_eq_true, Option.isSome_eq_false_iff, Option.isNone_iff_eq_none] at h5
            rw [h5] at h
            have := h1 h
            omega
        · dsimp only at h4 ⊢
          rw [h3] at h4
          simp at h4
          rw [if_pos h4]
          omega
        · dsimp only
          have h6 := h1 h
          refine ⟨by split <;> omega, ?_⟩
          simp [h]
      · obtain ⟨a1, a2, a3, a4, a5, a6, a7, a8, a9⟩ := gp_rm_f L (q + 1) (gp_aft T m (nx &&& T.2.2 (15 + m) s)) ((gp_win T m (nx &&& T.2.2 (15 + m) s)).or r) (if (gp_win T m (nx &&& T.2.2 (15 + m) s)).isSome = true then q + 1 else b) (by
          intro h
          split
          · omega
          · rename_i h5
            simp only [Bool.not_eq_true, Option.isSome_eq_false_iff, Option.isNone_iff_eq_none] at h5
            rw [h5] at h
            have := h1 h
            omega) hor
        dsimp only
        refine ⟨by omega, (by simp <;> omega), fun _ => by omega, a4, fun h3 h4 => ?_, a6, fun x hx => ?_, ?_, fun h => ?_⟩
        · cases e : gp_win T m (nx &&& T.2.2 (15 + m) s) with
          | none =>
            have := a5 (by rw [e, h3]; rfl) h4
            rw [e] at this
            omega
          | some i =>
            have := (a9 (by rw [e]; rfl)).1
            rw [e] at this
            simp at this
            simp
            omega
        · have := a7 x hx
          omega
        · rw [List.length_cons]
          omega
        · have h6 := h1 h
          have := a9 (by rw [Option.isSome_or]; simp [h])
          refine ⟨?_, this.2⟩
          refine Nat.le_trans ?_ this.1
          split <;> omega
theorem gp_rm_end : ∀ (L : List Nat) (q nx : Nat) (r : Option Nat) (b : Nat), (gp_rm T m gp_F0 L q nx r b).2.2.2.1 = none → (gp_rm T m gp_F0 L q nx r b).2.2.1 = q + L.length
  | [], q, nx, r, b, h => by simp [gp_rm]
  | s :: L, q, nx, r, b, h => by
    rw [gp_rm] at h ⊢
    split
    · rename_i h1
      rw [if_pos h1] at h
      simp at h
    · rename_i h1
      rw [if_neg h1] at h
      simp only [gp_F0, Bool.false_eq_true, if_false] at h ⊢
      have := gp_rm_end L (q + 1) _ _ _ h
      rw [this, List.length_cons]
      omega
theorem gp_rm_ge : ∀ (L : List Nat) (q nx : Nat) (r : Option Nat) (b : Nat), q ≤ (gp_rm T m F L q nx r b).2.2.1
  | [], q, nx, r, b => by simp [gp_rm]
  | s :: L, q, nx, r, b => by
    rw [gp_rm]
    split
    · simp
    · split
      · simp
      · exact Nat.le_trans (Nat.le_succ q) (gp_rm_ge L (q + 1) _ _ _)
/-- what a token is -/
def gp_tkOk (T : gp_T) (n : Nat) (t : gp_K) : Prop := t.2.1 < t.2.2.1 ∧ t.2.2.1 ≤ t.2.2.2.1 ∧ t.2.2.2.1 ≤ n ∧ (∀ j, t.1 = some j → j < T.1) ∧ (∀ x, t.2.2.2.2.1 = some x → t.2.2.2.1 = x + 1 ∧ t.2.1 ≤ x) ∧ (t.2.2.2.2.1 = none → t.2.2.2.1 = n) ∧ t.2.2.2.2.2.1 < 4 ∧ gp_sk t.2.2.2.2.2.2
theorem gp_tok_ok (hw : gp_wT T) (hp : p < l.length) {stk : List Nat} (hs : gp_sk stk) : gp_tkOk T l.length (gp_tok T l p stk) := by
  obtain ⟨a1, a2, a3, a4, a5, a6, a7, a8, a9⟩ := gp_rm_f (T := T) (m := stk.headD 0) (F := gp_F0) (l.drop p) p (T.2.2 8 (stk.headD 0)) none p (by simp) (by simp)
  have h1 := gp_rm_end (T := T) (m := stk.headD 0) (l.drop p) p (T.2.2 8 (stk.headD 0)) none p
  have h2 : (l.drop p) ≠ [] := by rw [gp_drop hp]; simp
  have h3 : (l.drop p).length = l.length - p := List.length_drop
  have h4 := a3 h2
  unfold gp_tok gp_tokO gp_tkOk
  dsimp only
  refine ⟨?_, ?_, by omega, a6, a7, fun h => ?_, ?_, gp_act_sk hw a6 hs⟩
  · split
    · rename_i h5
      exact a5 rfl h5
    · omega
  · split
    · rename_i h5
      exact a4 h5
    · omega
  · rw [h1 h]; omega
  · cases stk with
    | nil => exact absurd hs.1 (by decide)
    | cons d t => exact hs.2.2 d List.mem_cons_self
theorem gp_cutF_ok (hw : gp_wT T) : ∀ (n p : Nat) (stk : List Nat), gp_sk stk → ∀ t, t ∈ gp_cutF T l n p stk → gp_tkOk T l.length t
  | 0, _, _, _, t, h => by cases h
  | n + 1, p, stk, hs, t, h => by
    rw [gp_cutF] at h
    split at h
    · rename_i hp
      have h1 := gp_tok_ok hw hp hs
      rcases List.mem_cons.mp h with rfl | h2
      · exact h1
      · exact gp_cutF_ok hw n _ _ h1.2.2.2.2.2.2.2 t h2
    · cases h
theorem gp_cutF_len : ∀ (n p : Nat) (stk : List Nat), (gp_cutF T l n p stk).length ≤ n
  | 0, _, _ => by simp [gp_cutF]
  | n + 1, p, stk => by
    rw [gp_cutF]
    split
    · have := gp_cutF_len n (gp_tok T l p stk).2.2.1 (gp_tok T l p stk).2.2.2.2.2.2
      simp only [List.length_cons]
      omega
    · simp
theorem gp_cut_len : (gp_cut T l).length ≤ 24 := gp_cutF_len 24 0 [0]
theorem gp_sk0 : gp_sk [0] := ⟨by decide, by decide, fun d hd => by simp at hd; omega⟩
theorem gp_cut_ok (hw : gp_wT T) : ∀ t, t ∈ gp_cut T l → gp_tkOk T l.length t := gp_cutF_ok hw 24 0 [0] gp_sk0
end
end
section
/-! the component's cutting -/
section
variable {k k0 k1 m S s x p q : Nat} {M M' : gz_M} {T : gp_T} {l : List Nat}
theorem gp_readFrom (hw : gp_wT T) (hm : m < 4) (hk : k + 9 ≤ k0 ∨ k0 + 19 ≤ k) (hk1 : k + 9 ≤ k1 ∨ k1 + 2 ≤ k) (ht : gp_tC k0 M T) (hl : gp_lC k1 M l) (hp : p ≤ l.length) :
    ∃ M', f2_readFrom k k0 k1 (nI m) (nI p) M = some M' ∧ M'.2 = M.2 ∧ (∀ c, c ≠ k → M'.1 c = M.1 c) ∧ (∀ i, i < 12 → M'.1 k i = M.1 k i) ∧ M'.1 k 12 = gp_o (gp_rm T m gp_F0 (l.drop p) p (T.2.2 8 m) none p).1 ∧ M'.1 k 13 = nI (gp_rm T m gp_F0 (l.drop p) p (T.2.2 8 m) none p).2.1 ∧ M'.1 k 14 = nI (gp_rm T m gp_F0 (l.drop p) p (T.2.2 8 m) none p).2.2.1 ∧ M'.1 k 15 = gp_o (gp_rm T m gp_F0 (l.drop p) p (T.2.2 8 m) none p).2.2.2.1 := by
  have hl1 := hl.1
  unfold f2_readFrom
  simp only [gp_eL]
  have e : ∀ c, c ≠ k → (gz_w (gz_w (gz_w (gz_w M k 12 (-1)) k 13 (nI p)) k 14 (nI p)) k 15 (-1)).1 c = M.1 c := fun c hc => by rw [gp_wc _ hc, gp_wc _ hc, gp_wc _ hc, gp_wc _ hc]
  have ht1 := ht.fr (M' := gz_w (gz_w (gz_w (gz_w M k 12 (-1)) k 13 (nI p)) k 14 (nI p)) k 15 (-1)) (fun c h1 h2 => e c (by omega))
  have hl2 := hl.fr (M' := gz_w (gz_w (gz_w (gz_w M k 12 (-1)) k 13 (nI p)) k 14 (nI p)) k 15 (-1)) (fun c h1 h2 => e c (by omega))
  rw [gp_atFirst ht1 hm, gp_eB2]
  obtain ⟨M', e1, e2, e3, e4, e5⟩ := gp_readFrom_33 hw hm hk hk1 (l.length - p) gz_FU p (T.2.2 8 m) p none _ (by omega) (by unfold gz_FU; omega) ht1 hl2 (by rw [gp_gn (by omega), gp_gn (by omega), gp_gn (by omega), gp_gs]; rfl) (by rw [gp_gn (by omega), gp_gn (by omega), gp_gs]) (by rw [gp_gn (by omega), gp_gs]) (by rw [gp_gs]; rfl) (gp_lt10 hw hm (hw.2.2 m hm).2.1)
  exact ⟨M', e1, e2, fun c hc => (e3 c hc).trans (e c hc), fun i hi => (e4 i hi).trans (by rw [gp_gn (by omega), gp_gn (by omega), gp_gn (by omega), gp_gn (by omega)]), e5⟩
theorem gp_cA_snoc {done : List gp_K} {t : gp_K} (h : gp_cA k M done) (e : ∀ j, 1 ≤ j → j ≤ 8 → ∀ i, i < done.length → M'.1 (k + j) i = M.1 (k + j) i) (v : M'.1 (k + 1) done.length = gp_o t.1 ∧ M'.1 (k + 2) done.length = nI t.2.1 ∧ M'.1 (k + 3) done.length = nI t.2.2.1 ∧ M'.1 (k + 4) done.length = nI t.2.2.2.1 ∧ M'.1 (k + 5) done.length = gp_o t.2.2.2.2.1 ∧ M'.1 (k + 6) done.length = nI t.2.2.2.2.2.1 ∧ M'.1 (k + 7) done.length = nI t.2.2.2.2.2.2.length ∧ M'.1 (k + 8) done.length = nI (gp_enc t.2.2.2.2.2.2)) : gp_cA k M' (done ++ [t]) := by
  intro i hi
  rw [List.length_append, List.length_singleton] at hi
  by_cases h1 : i < done.length
  · have e0 : (done ++ [t]).getD i gp_k0 = done.getD i gp_k0 := by
      rw [List.getD_eq_getElem?_getD, List.getD_eq_getElem?_getD, List.getElem?_append_left h1]
    rw [e0]
    have h2 := h i h1
    rw [e 1 (by omega) (by omega) i h1, e 2 (by omega) (by omega) i h1, e 3 (by omega) (by omega) i h1, e 4 (by omega) (by omega) i h1, e 5 (by omega) (by omega) i h1, e 6 (by omega) (by omega) i h1, e 7 (by omega) (by omega) i h1, e 8 (by omega) (by omega) i h1]
    exact h2
  · have h2 : i = done.length := by omega
    subst h2
    have e0 : (done ++ [t]).getD done.length gp_k0 = t := by simp [List.getD_eq_getElem?_getD]
    rw [e0]
    exact v
theorem gp_most_snoc (done : List gp_K) (t : gp_K) : gp_most (done ++ [t]) = max (gp_most done) t.2.2.2.2.2.2.length := by
  unfold gp_most
  rw [List.foldl_append]
  rfl
theorem gp_make_25 (hw : gp_wT T) (hk : k + 9 ≤ k0 ∨ k0 + 19 ≤ k) (hk1 : k + 9 ≤ k1 ∨ k1 + 2 ≤ k) : ∀ (d n p : Nat) (stk : List Nat) (done : List gp_K) (M : gz_M), done.length + d = 24 → d < n → gp_tC k0 M T → gp_lC k1 M l → gp_cA k M done → M.1 k 0 = nI done.length → M.1 k 1 = nI (gp_most done) → M.1 k 10 = nI stk.length → M.1 k 11 = nI (gp_enc stk) → gp_sk stk → stk.length ≤ gp_most done → gp_most done ≤ 5 → p ≤ l.length →
    ∃ M', f2_make_25 k k0 k1 n (nI p) (nI done.length) M = some M' ∧ M'.2 = M.2 ∧ (∀ c, c < k ∨ k + 9 ≤ c → M'.1 c = M.1 c) ∧ gp_cC k M' (done ++ gp_cutF T l d p stk) := by
  intro d
  induction d with
  | zero =>
    intro n p stk done M hd hn ht hl hA h0 h1 h10 h11 hs hmo hmo2 hp
    obtain ⟨n, rfl⟩ : ∃ q, n = q + 1 := ⟨n - 1, by omega⟩
    have hd : done.length = 24 := by omega
    rw [f2_make_25, hd, if_pos (by exact nI_le (Nat.le_refl 24) (by decide))]
    refine ⟨M, rfl, rfl, fun _ _ => rfl, ?_⟩
    rw [gp_cutF, List.append_nil]
    exact ⟨h0, h1, hA⟩
  | succ d ih =>
    intro n p stk done M hd hn ht hl hA h0 h1 h10 h11 hs hmo hmo2 hp
    have hl1 := hl.1
    obtain ⟨n, rfl⟩ : ∃ q, n = q + 1 := ⟨n - 1, by omega⟩
    rw [f2_make_25, if_neg (by exact nI_ge (show done.length < 24 by omega) (by decide)), hl.2.1]
    by_cases hpl : p < l.length
    · rw [if_neg (nI_ge hpl (by omega)), gp_eL, h11, gp_and3]
      obtain ⟨d0, t0, rfl⟩ : ∃ d t, stk = d :: t := by
        cases stk with
        | nil => exact absurd hs.1 (by decide)
        | cons d t => exact ⟨d, t, rfl⟩
      have hd0 : d0 < 4 := hs.2.2 d0 List.mem_cons_self
      have hd4 : gp_enc (d0 :: t0) % 4 = d0 := by rw [gp_enc]; omega
      rw [hd4]
      obtain ⟨M1, e1, e2, e3, e4, e5, e6, e7, e8⟩ := gp_readFrom (p := p) hw hd0 hk hk1 ht hl hp
      rw [e1, gp_eB, gp_ckb (by omega) (by omega), gp_eL, gp_ckb (by omega) (by omega), gp_eL, nI_clamp (by omega)]
      have hok := gp_tok_ok (T := T) hw hpl hs
      have hR : (gp_tok T l p (d0 :: t0)) = gp_tokO T p (d0 :: t0) (gp_rm T d0 gp_F0 (l.drop p) p (T.2.2 8 d0) none p) := rfl
      generalize hRe : gp_rm T d0 gp_F0 (l.drop p) p (T.2.2 8 d0) none p = R at hR e5 e6 e7 e8
      have hr : ∀ j, R.1 = some j → j < T.1 := by rw [hR] at hok; exact hok.2.2.2.1
      rw [gp_cutF, if_pos hpl]
      generalize htk : gp_tok T l p (d0 :: t0) = t at hR hok
      have hb := hok.1
      have hb2 := hok.2.1
      have hb3 := hok.2.2.1
      generalize hM2 : gz_w (gz_w M1 (k + 2) done.length (nI p)) (k + 1) done.length ((gz_w M1 (k + 2) done.length (nI p)).1 k 12) = M2
      have M2a : ∀ c, c ≠ k + 1 → c ≠ k + 2 → M2.1 c = M1.1 c := by
        intro c c1 c2
        rw [← hM2, gp_wc _ c1, gp_wc _ c2]
      have M2k : M2.1 k = M1.1 k := M2a k (by omega) (by omega)
      have M212 : M2.1 k 12 = gp_o R.1 := by rw [M2k, e5]
      have hgo : ∃ M', f2_make_100 k k0 k1 (f2_make_25 k k0 k1 n) (nI done.length) (nI d0) (nI t.2.2.1) (nI done.length) M2 = some M' ∧ M'.2 = M.2 ∧ (∀ c, c < k ∨ k + 9 ≤ c → M'.1 c = M.1 c) ∧ gp_cC k M' (done ++ t :: gp_cutF T l d t.2.2.1 t.2.2.2.2.2.2) := by
        unfold f2_make_100
        simp (disch := omega) only [gp_ckb, gp_eL, nI_clamp]
        generalize hM3 : gz_w (gz_w (gz_w (gz_w M2 (k + 3) done.length (nI t.2.2.1)) (k + 4) done.length ((gz_w M2 (k + 3) done.length (nI t.2.2.1)).1 k 14)) (k + 5) done.length ((gz_w (gz_w M2 (k + 3) done.length (nI t.2.2.1)) (k + 4) done.length ((gz_w M2 (k + 3) done.length (nI t.2.2.1)).1 k 14)).1 k 15)) (k + 6) done.length (nI d0) = M3
        have M3a : ∀ c, c ≠ k + 3 → c ≠ k + 4 → c ≠ k + 5 → c ≠ k + 6 → M3.1 c = M2.1 c := by
          intro c c1 c2 c3 c4
          rw [← hM3, gp_wc _ c4, gp_wc _ c3, gp_wc _ c2, gp_wc _ c1]
        have M3k : M3.1 k = M1.1 k := (M3a k (by omega) (by omega) (by omega) (by omega)).trans M2k
        have M3o : ∀ c, c < k ∨ k + 7 ≤ c → M3.1 c = M.1 c := fun c hc => by
          rw [M3a c (by omega) (by omega) (by omega) (by omega), M2a c (by omega) (by omega), e3 c (by omega)]
        rw [show M3.1 k 12 = gp_o R.1 by rw [M3k, e5]]
        obtain ⟨M4, g1, g2, g3, g4, g5, g6, g7⟩ := gp_doAct hw hk R.1 hr (d0 :: t0) hs (gp_most done) hmo hmo2 M3 (ht.fr (fun c h1 h2 => M3o c (by omega))) (by rw [M3k, e4 _ (by omega), h1]) (by rw [M3k, e4 _ (by omega), h10]) (by rw [M3k, e4 _ (by omega), h11])
        rw [g1, gp_eB]
        simp (disch := omega) only [gp_ckb, gp_eL, nI_clamp, nI_1]
        generalize hM5 : gz_w (gz_w M4 (k + 7) done.length (M4.1 k 10)) (k + 8) done.length ((gz_w M4 (k + 7) done.length (M4.1 k 10)).1 k 11) = M5
        have M5a : ∀ c, c ≠ k + 7 → c ≠ k + 8 → M5.1 c = M4.1 c := by
          intro c c1 c2
          rw [← hM5, gp_wc _ c2, gp_wc _ c1]
        generalize hM6 : gz_w M5 k 0 (nI (done.length + 1)) = M6
        have M6a : ∀ c, c ≠ k → M6.1 c = M5.1 c := by
          intro c c1
          rw [← hM6, gp_wc _ c1]
        have hv : M5.1 (k + 3) done.length = nI t.2.2.1 := by
          rw [M5a _ (by omega) (by omega), g3 _ (by omega), ← hM3, gp_gn (by omega), gp_gn (by omega), gp_gn (by omega), gp_gs]
        rw [hv]
        have hact : t.2.2.2.2.2.2 = gp_act T R.1 (d0 :: t0) := by rw [hR]; rfl
        have hmost : gp_most (done ++ [t]) = max (gp_most done) (gp_act T R.1 (d0 :: t0)).length := by rw [gp_most_snoc, hact]
        have hsk := hok.2.2.2.2.2.2.2
        have hsk5 := hsk.2.1
        have M6o : ∀ c, c < k ∨ k + 9 ≤ c → M6.1 c = M.1 c := fun c hc => by
          rw [M6a c (by omega), M5a c (by omega) (by omega), g3 c (by omega), M3o c (by omega)]
        have hA6 : gp_cA k M6 (done ++ [t]) := by
          refine gp_cA_snoc hA (fun j j1 j2 i hi => ?_) ?_
          · rw [M6a _ (by omega), ← hM5, gp_gn (by omega), gp_gn (by omega), g3 _ (by omega), ← hM3, gp_gn (by omega), gp_gn (by omega), gp_gn (by omega), gp_gn (by omega), ← hM2, gp_gn (by omega), gp_gn (by omega), e3 _ (by omega)]
          · refine ⟨?_, ?_, ?_, ?_, ?_, ?_, ?_, ?_⟩
            · rw [M6a _ (by omega), M5a _ (by omega) (by omega), g3 _ (by omega), M3a _ (by omega) (by omega) (by omega) (by omega), ← hM2, gp_gs, gp_gn (by omega), e5, hR]; rfl
            · rw [M6a _ (by omega), M5a _ (by omega) (by omega), g3 _ (by omega), M3a _ (by omega) (by omega) (by omega) (by omega), ← hM2, gp_gn (by omega), gp_gs, hR]; rfl
            · rw [M6a _ (by omega), hv]
            · rw [M6a _ (by omega), M5a _ (by omega) (by omega), g3 _ (by omega), ← hM3, gp_gn (by omega), gp_gn (by omega), gp_gs, gp_gn (by omega), M2k, e7, hR]; rfl
            · rw [M6a _ (by omega), M5a _ (by omega) (by omega), g3 _ (by omega), ← hM3, gp_gn (by omega), gp_gs, gp_gn (by omega), gp_gn (by omega), M2k, e8, hR]; rfl
            · rw [M6a _ (by omega), M5a _ (by omega) (by omega), g3 _ (by omega), ← hM3, gp_gs, hR]; rfl
            · rw [M6a _ (by omega), ← hM5, gp_gn (by omega), gp_gs, g5, hact]
            · rw [M6a _ (by omega), ← hM5, gp_gs, gp_gn (by omega), g6, hact]
        have hlen : (done ++ [t]).length = done.length + 1 := by simp
        obtain ⟨M', i1, i2, i3, i4⟩ := ih n t.2.2.1 t.2.2.2.2.2.2 (done ++ [t]) M6 (by omega) (by omega) (ht.fr (fun c h1 h2 => M6o c (by omega))) (hl.fr (fun c h1 h2 => M6o c (by omega))) hA6 (by rw [← hM6, gp_gs, hlen]) (by rw [← hM6, gp_gn (by omega), M5a _ (by omega) (by omega), g7, hmost]) (by rw [← hM6, gp_gn (by omega), M5a _ (by omega) (by omega), g5, hact]) (by rw [← hM6, gp_gn (by omega), M5a _ (by omega) (by omega), g6, hact]) hsk (by rw [hmost, hact]; omega) (by rw [hmost, ← hact]; omega) (by omega)
        rw [hlen] at i1
        refine ⟨M', i1, ?_, fun c hc => (i3 c hc).trans (M6o c hc), ?_⟩
        · rw [i2, ← hM6, ← hM5, gp_gl, gp_gl, gp_gl, g2, ← hM3, gp_gl, gp_gl, gp_gl, gp_gl, ← hM2, gp_gl, gp_gl, e2]
        · rw [List.append_assoc] at i4
          exact i4
      rw [M212]
      cases hRc : R.1 with
      | none =>
        have ht3 : t.2.2.1 = p + 1 := by rw [hR]; unfold gp_tokO; rw [hRc]; rfl
        rw [ht3] at hgo ⊢
        simp only [gp_oN, gp_oS, ↓gp_m1, if_true, nI_1]
        exact hgo
      | some j =>
        have hj := hr j hRc
        have hw1 := hw.1
        have ht3 : t.2.2.1 = R.2.1 := by rw [hR]; unfold gp_tokO; rw [hRc]; rfl
        have e6' : M2.1 k 13 = nI R.2.1 := by rw [M2k, e6]
        rw [ht3] at hgo ⊢
        simp (disch := omega) only [gp_oN, gp_oS, ↓gp_m1, gp_ne1, if_false, e6']
        exact hgo
    · rw [if_pos (nI_le (by omega) (by omega))]
      refine ⟨M, rfl, rfl, fun _ _ => rfl, ?_⟩
      rw [gp_cutF, if_neg hpl, List.append_nil]
      exact ⟨h0, h1, hA⟩
theorem gp_make (hw : gp_wT T) (hk : k + 9 ≤ k0 ∨ k0 + 19 ≤ k) (hk1 : k + 9 ≤ k1 ∨ k1 + 2 ≤ k) (ht : gp_tC k0 M T) (hl : gp_lC k1 M l) : ∃ M', f2_make k k0 k1 M = some M' ∧ M'.2 = M.2 ∧ (∀ c, c < k ∨ k + 9 ≤ c → M'.1 c = M.1 c) ∧ gp_cC k M' (gp_cut T l) := by
  unfold f2_make
  simp only [gp_eL]
  have e : ∀ c, c ≠ k → (gz_w (gz_w (gz_w (gz_w M k 0 0) k 1 1) k 10 1) k 11 0).1 c = M.1 c := fun c hc => by rw [gp_wc _ hc, gp_wc _ hc, gp_wc _ hc, gp_wc _ hc]
  obtain ⟨M', e1, e2, e3, e4⟩ := gp_make_25 (l := l) hw hk hk1 24 gz_FU 0 [0] [] (gz_w (gz_w (gz_w (gz_w M k 0 0) k 1 1) k 10 1) k 11 0) rfl (by unfold gz_FU; omega) (ht.fr (fun c h1 h2 => e c (by omega))) (hl.fr (fun c h1 h2 => e c (by omega))) (fun i hi => absurd hi (by simp)) (by rw [gp_gn (by omega), gp_gn (by omega), gp_gn (by omega), gp_gs]; rfl) (by rw [gp_gn (by omega), gp_gn (by omega), gp_gs]; rfl) (by rw [gp_gn (by omega), gp_gs]; rfl) (by rw [gp_gs]; rfl) gp_sk0 (by decide) (by decide) (by omega)
  exact ⟨M', e1, e2, fun c hc => (e3 c hc).trans (e c (by omega)), e4⟩
end
end
section
/-! the reference's cutting -/
def gp_lR (M : gz_M) (l : List Nat) : Prop := l.length ≤ 24 ∧ M.1 1 81 = nI l.length ∧ ∀ i, i < l.length → M.1 1 (82 + i) = nI (l.getD i 0) ∧ l.getD i 0 < 8
def gp_sR (M : gz_M) (stk : List Nat) : Prop := M.1 0 28 = nI stk.length ∧ ∀ x, x < stk.length → M.1 16 x = nI (stk.getD (stk.length - 1 - x) 0)
def gp_code (m S p : Nat) : Nat := (1024 * m + S) * 25 + p
/-- the pairs that were come to, from place q on -/
def gp_codes (m : Nat) : List Nat → Nat → List Nat
  | [], _ => []
  | S :: L, q => gp_code m S (q + 1) :: gp_codes m L (q + 1)
def gp_rK (M : gz_M) (j : Nat) (t : gp_K) : Prop := M.1 17 (12 * j) = gp_o t.1 ∧ M.1 17 (12 * j + 1) = nI t.2.1 ∧ M.1 17 (12 * j + 2) = nI t.2.2.1 ∧ M.1 17 (12 * j + 3) = nI (if t.2.2.2.2.1.isSome = true then t.2.2.2.1 else t.2.2.2.1 + 1) ∧ M.1 17 (12 * j + 4) = nI t.2.2.2.2.2.1 ∧ M.1 17 (12 * j + 5) = nI t.2.2.2.2.2.2.length ∧ M.1 17 (12 * j + 6) = gp_o t.2.2.2.2.1 ∧ ∀ x, x < 5 → M.1 17 (12 * j + 7 + x) = if x < t.2.2.2.2.2.2.length then nI (t.2.2.2.2.2.2.getD (t.2.2.2.2.2.2.length - 1 - x) 0) else gp_no
theorem gp_c81 {β : Type} (a : Option β) : gz_ck (gz_inb 81 106) a = a := gp_ckb (i := 81) (by omega) (by omega) a
theorem gp_k81 : ((81 : Int32).toNatClampNeg) = 81 := rfl
section
variable {k k0 k1 m S s x p q : Nat} {M M' : gz_M} {T : gp_T} {l : List Nat} {F : Nat → Nat → Bool}
theorem gp_tR.fr (h : gp_tR M T) (e : ∀ c, 5 ≤ c → c ≤ 14 → M'.1 c = M.1 c) (e0 : M'.1 0 10 = M.1 0 10) : gp_tR M' T := by
  obtain ⟨h1, h2, ⟨bg, h3, h3'⟩, h4⟩ := h
  refine ⟨by rw [e0]; exact h1, fun j hj => ?_, ⟨bg, fun j hj => ?_, h3'⟩, fun m hm => ⟨?_, fun x hx => ?_⟩⟩
  · rw [e 5 (by omega) (by omega), e 6 (by omega) (by omega), e 7 (by omega) (by omega), e 8 (by omega) (by omega), e 9 (by omega) (by omega), e 11 (by omega) (by omega)]
    exact h2 j hj
  · rw [e 10 (by omega) (by omega)]; exact h3 j hj
  · rw [e 12 (by omega) (by omega)]; exact (h4 m hm).1
  · rw [e 14 (by omega) (by omega), e 13 (by omega) (by omega)]
    exact (h4 m hm).2 x hx
theorem gp_lR.fr (h : gp_lR M l) (e : M'.1 1 = M.1 1) : gp_lR M' l := by
  refine ⟨h.1, ?_, fun i hi => ?_⟩
  · rw [e]; exact h.2.1
  · rw [e]; exact h.2.2 i hi
theorem gp_code_lt {m S p : Nat} (hm : m < 4) (hS : S < 2 ^ 10) (hp : p ≤ 24) : gp_code m S p < 102400 := by unfold gp_code; omega
theorem gp_pairOf (m S p : Nat) (M : gz_M) : f12_pairOf (nI m) (nI S) (nI p) M = some (nI (gp_code m S p), M) := by
  unfold f12_pairOf gp_code
  rw [show (1024 : Int32) = nI 1024 from rfl, show (25 : Int32) = nI 25 from rfl, pk_mul, nI_add, pk_mul, nI_add]
theorem gp_codes_len (m : Nat) : ∀ (L : List Nat) (q : Nat), (gp_codes m L q).length = L.length
  | [], _ => rfl
  | S :: L, q => by rw [gp_codes, List.length_cons, List.length_cons, gp_codes_len m L]
/-- what reading leaves -/
def gp_rdL (M M' : gz_M) (many rd : Nat) (cs : List Nat) : Prop := M'.2 = M.2 ∧ (∀ c, c ≠ 0 → c ≠ 18 → c ≠ 20 → M'.1 c = M.1 c) ∧ (∀ i, i ≠ 32 → M'.1 0 i = M.1 0 i) ∧ M'.1 0 32 = M.1 0 32 + nI rd ∧ (∀ i, i < many → M'.1 20 i = M.1 20 i) ∧ (∀ i, i < cs.length → M'.1 20 (many + i) = nI (cs.getD i 0)) ∧ ∀ y, M'.1 18 y = M.1 18 y + nI (cs.count y)
theorem gp_cutOne_32 (hw : gp_wT T) (hm : m < 4) (mem : Nat) (hmem : mem < 2) (pl : Nat) : ∀ (d n q S b many : Nat) (r : Option Nat) (M : gz_M), q + d = l.length → d < n → gp_tR M T → gp_lR M l → M.1 0 26 = nI pl → S < 2 ^ T.2.2 7 m → (q ≠ pl → S ≠ 0) → (q = pl → 0 < d) → pl ≤ q → many + d ≤ 24 → (∀ S p, S < 2 ^ 10 → p ≤ 24 → (F S p = true ↔ mem = 1 ∧ M.1 19 (gp_code m S p) ≠ 0)) →
    ∃ S' M', f12_cutOne_32 n (nI mem) (nI m) (nI S) (gp_o (if r.isSome = true then some b else none)) (gp_o r) (nI q) (nI many) 0 M = f12_cutOne_190 (nI mem) (nI m) (nI S') (gp_o (if (gp_rm T m F (l.drop q) q (if q = pl then T.2.2 8 m else gp_aft T m S) r b).1.isSome = true then some (gp_rm T m F (l.drop q) q (if q = pl then T.2.2 8 m else gp_aft T m S) r b).2.1 else none)) (gp_o (gp_rm T m F (l.drop q) q (if q = pl then T.2.2 8 m else gp_aft T m S) r b).1) (nI (gp_rm T m F (l.drop q) q (if q = pl then T.2.2 8 m else gp_aft T m S) r b).2.2.1) (nI (many + (gp_rm T m F (l.drop q) q (if q = pl then T.2.2 8 m else gp_aft T m S) r b).2.2.2.2.length)) M' ∧ S' < 2 ^ 10 ∧ ((gp_rm T m F (l.drop q) q (if q = pl then T.2.2 8 m else gp_aft T m S) r b).2.2.2.1.isSome = true ↔ S' = 0) ∧ gp_rdL M M' many ((gp_rm T m F (l.drop q) q (if q = pl then T.2.2 8 m else gp_aft T m S) r b).2.2.1 - q) (gp_codes m (gp_rm T m F (l.drop q) q (if q = pl then T.2.2 8 m else gp_aft T m S) r b).2.2.2.2 q) := by
  have hI0 : ∀ y : Int32, y + nI 0 = y := fun y => by rw [nI_0]; simp
  intro d
  induction d with
  | zero =>
    intro n q S b many r M hq hn ht hl h26 hS h0 hpl hpq hmany hF
    have hl1 := hl.1
    obtain ⟨n, rfl⟩ : ∃ q, n = q + 1 := ⟨n - 1, by omega⟩
    have hqq : q = l.length := by omega
    subst hqq
    refine ⟨S, M, ?_, gp_lt10 hw hm hS, ?_, rfl, fun _ _ _ _ => rfl, fun _ _ => rfl, ?_, fun _ _ => rfl, ?_, ?_⟩
    · rw [f12_cutOne_32, gp_c81]
      rw [show ((81 : Int32).toNatClampNeg) = 81 from rfl, hl.2.1, if_pos (nI_le (Nat.le_refl _) (by omega)), List.drop_length]
      rfl
    · rw [List.drop_length, gp_rm]
      have : S ≠ 0 := h0 (fun e => by have := hpl e; omega)
      simp [this]
    · rw [List.drop_length, gp_rm]
      simp [hI0]
    · rw [List.drop_length, gp_rm]
      simp [gp_codes]
    · intro y
      rw [List.drop_length, gp_rm]
      simp [gp_codes, hI0]
  | succ d ih =>
    intro n q S b many r M hq hn ht hl h26 hS h0 hpl hpq hmany hF
    have hl1 := hl.1
    obtain ⟨n, rfl⟩ : ∃ q, n = q + 1 := ⟨n - 1, by omega⟩
    have hs := (hl.2.2 q (by omega)).2
    have hv := (hl.2.2 q (by omega)).1
    have hle : ¬ l.length ≤ q := by omega
    have h81 : ((81 : Int32).toNatClampNeg) = 81 := rfl
    -- the step
    have hst : (if q = pl then T.2.2 8 m else gp_aft T m S) &&& T.2.2 (15 + m) (l.getD q 0) < 2 ^ T.2.2 7 m := Nat.lt_of_le_of_lt Nat.and_le_right ((hw.2.2 m hm).2.2.2 _ hs)
    have hst' := gp_lt10 hw hm hst
    have e66 : ∀ s0 : Int32, (s0 = if q = pl then 1 else 0) → f12_cutOne_66 (f12_cutOne_32 n) (nI mem) (nI m) (gp_o (if r.isSome = true then some b else none)) (gp_o r) (nI q) (nI many) s0 (nI S) (nI m) M = (if (nI ((if q = pl then T.2.2 8 m else gp_aft T m S) &&& T.2.2 (15 + m) (l.getD q 0))) = 0 then (f12_cutOne_102 (f12_cutOne_32 n) (nI mem) (nI m) (nI ((if q = pl then T.2.2 8 m else gp_aft T m S) &&& T.2.2 (15 + m) (l.getD q 0))) (gp_o (if r.isSome = true then some b else none)) (gp_o r) (nI (q + 1)) (nI many) 1 (gz_w M 0 32 (M.1 0 32 + nI 1))) else (f12_cutOne_102 (f12_cutOne_32 n) (nI mem) (nI m) (nI ((if q = pl then T.2.2 8 m else gp_aft T m S) &&& T.2.2 (15 + m) (l.getD q 0))) (gp_o (if r.isSome = true then some b else none)) (gp_o r) (nI (q + 1)) (nI many) 0 (gz_w M 0 32 (M.1 0 32 + nI 1)))) := by
      intro s0 hs0
      unfold f12_cutOne_66
      rw [show (82 : Int32) = nI 82 from rfl, nI_add, gp_ckb (by omega) (by omega), nI_clamp (by omega), hv]
      by_cases hqp : q = pl
      · rw [if_pos hqp] at hs0
        subst hs0
        rw [gp_stepR1 hw ht hm hs, if_pos hqp, gp_eB2, gp_eL, gp_eL, nI_1]
        rfl
      · rw [if_neg hqp] at hs0
        subst hs0
        rw [gp_stepR hw ht hm hs hS, if_neg hqp, gp_eB2, gp_eL, gp_eL, nI_1]
        rfl
    have e32 : f12_cutOne_32 (n + 1) (nI mem) (nI m) (nI S) (gp_o (if r.isSome = true then some b else none)) (gp_o r) (nI q) (nI many) 0 M = (if (nI ((if q = pl then T.2.2 8 m else gp_aft T m S) &&& T.2.2 (15 + m) (l.getD q 0))) = 0 then (f12_cutOne_102 (f12_cutOne_32 n) (nI mem) (nI m) (nI ((if q = pl then T.2.2 8 m else gp_aft T m S) &&& T.2.2 (15 + m) (l.getD q 0))) (gp_o (if r.isSome = true then some b else none)) (gp_o r) (nI (q + 1)) (nI many) 1 (gz_w M 0 32 (M.1 0 32 + nI 1))) else (f12_cutOne_102 (f12_cutOne_32 n) (nI mem) (nI m) (nI ((if q = pl then T.2.2 8 m else gp_aft T m S) &&& T.2.2 (15 + m) (l.getD q 0))) (gp_o (if r.isSome = true then some b else none)) (gp_o r) (nI (q + 1)) (nI many) 0 (gz_w M 0 32 (M.1 0 32 + nI 1)))) := by
      rw [f12_cutOne_32, gp_c81, h81, hl.2.1, if_neg (nI_ge (by omega) (by omega)), if_pos rfl, h26]
      by_cases hqp : q = pl
      · rw [if_pos (by rw [hqp]), e66 1 (by rw [if_pos hqp])]
      · rw [if_neg (fun e => hqp ((nI_eq (by omega) (by omega)).mp e)), e66 0 (by rw [if_neg hqp])]
    rw [e32]
    rw [gp_drop (by omega : q < l.length), gp_rm]
    generalize hSe : (if q = pl then T.2.2 8 m else gp_aft T m S) &&& T.2.2 (15 + m) (l.getD q 0) = S1 at hst hst'
    have hM1 : ∀ c, c ≠ 0 → (gz_w M 0 32 (M.1 0 32 + nI 1)).1 c = M.1 c := fun c hc => gp_wc _ hc
    generalize hM1e : gz_w M 0 32 (M.1 0 32 + nI 1) = M1 at hM1
    have hM10 : ∀ i, i ≠ 32 → M1.1 0 i = M.1 0 i := fun i hi => by rw [← hM1e, gp_gn (by omega)]
    have hM132 : M1.1 0 32 = M.1 0 32 + nI 1 := by rw [← hM1e, gp_gs]
    have hM1l : M1.2 = M.2 := by rw [← hM1e]; rfl
    have ht1 : gp_tR M1 T := ht.fr (fun c c1 c2 => hM1 c (by omega)) (hM10 _ (by omega))
    have hl2 : gp_lR M1 l := hl.fr (hM1 1 (by omega))
    by_cases hz : S1 = 0
    · subst hz
      simp only [if_true]
      refine ⟨0, M1, ?_, by decide, by simp, hM1l, fun c c1 c2 c3 => hM1 c c1, hM10, ?_, fun i hi => by rw [hM1 _ (by omega)], by simp [gp_codes], fun y => by rw [hM1 _ (by omega)]; simp [gp_codes, hI0]⟩
      · rw [if_pos nI_0]
        unfold f12_cutOne_102
        rw [if_neg (by decide)]
        obtain ⟨n, rfl⟩ : ∃ q, n = q + 1 := ⟨n - 1, by omega⟩
        rw [f12_cutOne_32, gp_c81]
        split
        · rfl
        · rw [if_neg (by decide)]
          rfl
      · rw [hM132]
        congr 2
        omega
    · rw [if_neg (by rw [← nI_0]; exact fun e => hz ((nI_eq (by omega) (by omega)).mp e))]
      simp only [hz, if_false]
      have hc : gp_code m S1 (q + 1) < 102400 := gp_code_lt hm hst' (by omega)
      -- often and winner
      generalize hM2e : gz_w M1 18 (gp_code m S1 (q + 1)) (M1.1 18 (gp_code m S1 (q + 1)) + 1) = M2
      have hM2 : ∀ c, c ≠ 18 → M2.1 c = M1.1 c := fun c hc => by rw [← hM2e, gp_wc _ hc]
      have hM2l : M2.2 = M1.2 := by rw [← hM2e]; rfl
      have ht2 : gp_tR M2 T := ht1.fr (fun c c1 c2 => hM2 c (by omega)) (by rw [hM2 0 (by omega)])
      have hl3 : gp_lR M2 l := hl2.fr (hM2 1 (by omega))
      generalize hr1 : (gp_win T m S1).or r = r1
      generalize hb1 : (if (gp_win T m S1).isSome = true then q + 1 else b) = b1
      have e102 : f12_cutOne_102 (f12_cutOne_32 n) (nI mem) (nI m) (nI S1) (gp_o (if r.isSome = true then some b else none)) (gp_o r) (nI (q + 1)) (nI many) 0 M1 = f12_cutOne_154 (f12_cutOne_32 n) (nI mem) (nI m) (nI S1) (gp_o (if r1.isSome = true then some b1 else none)) (gp_o r1) (nI (q + 1)) (nI many) (nI (gp_code m S1 (q + 1))) M2 := by
        unfold f12_cutOne_102
        rw [if_pos rfl, gp_pairOf, gp_eB2, gp_ckb hc (by omega), gp_ckb hc (by omega), gp_eL, nI_clamp (by omega), hM2e, gp_winR hw ht2 hm hst', gp_eB2]
        cases hwin : gp_win T m S1 with
        | none =>
          rw [hwin] at hr1 hb1
          have hr1 : r = r1 := hr1
          have hb1 : b = b1 := hb1
          subst hr1
          subst hb1
          rw [if_pos (by rfl)]
        | some j =>
          rw [hwin] at hr1 hb1
          have hr1 : some j = r1 := hr1
          have hb1 : q + 1 = b1 := hb1
          subst hr1
          subst hb1
          have hj := (gp_win_some hwin).1
          have hw1 := hw.1
          rw [if_neg (by rw [gp_m1, gp_oS, gp_ne1 (by omega)]; exact id)]
          rfl
      rw [e102]
      generalize hM3e : gz_w M2 20 many (nI (gp_code m S1 (q + 1))) = M3
      have hM3 : ∀ c, c ≠ 20 → M3.1 c = M2.1 c := fun c hc => by rw [← hM3e, gp_wc _ hc]
      have hM3l : M3.2 = M2.2 := by rw [← hM3e]; rfl
      have ht3 : gp_tR M3 T := ht2.fr (fun c c1 c2 => hM3 c (by omega)) (by rw [hM3 0 (by omega)])
      have hl4 : gp_lR M3 l := hl3.fr (hM3 1 (by omega))
      have h19 : M3.1 19 = M.1 19 := by rw [hM3 _ (by omega), hM2 _ (by omega), hM1 _ (by omega)]
      have h30 : ∀ i, i ≠ 32 → M3.1 0 i = M.1 0 i := fun i hi => by rw [hM3 _ (by omega), hM2 _ (by omega), hM10 i hi]
      have h332 : M3.1 0 32 = M.1 0 32 + nI 1 := by rw [hM3 _ (by omega), hM2 _ (by omega), hM132]
      have h3c : ∀ c, c ≠ 0 → c ≠ 18 → c ≠ 20 → M3.1 c = M.1 c := fun c c1 c2 c3 => by rw [hM3 _ c3, hM2 _ c2, hM1 _ c1]
      have h318 : ∀ y, M3.1 18 y = M.1 18 y + nI ([gp_code m S1 (q + 1)].count y) := by
        intro y
        rw [hM3 _ (by omega), ← hM2e]
        by_cases hy : y = gp_code m S1 (q + 1)
        · subst hy
          rw [gp_gs, hM1 _ (by omega)]
          simp
          rfl
        · rw [gp_gn (by omega), hM1 _ (by omega)]
          have : ¬ gp_code m S1 (q + 1) = y := fun e => hy e.symm
          simp [List.count_cons, this, hI0]
      have h320 : ∀ i, i < many → M3.1 20 i = M.1 20 i := fun i hi => by rw [← hM3e, gp_gn (by omega), hM2 _ (by omega), hM1 _ (by omega)]
      have h320' : M3.1 20 many = nI (gp_code m S1 (q + 1)) := by rw [← hM3e, gp_gs]
      have hFS := hF S1 (q + 1) hst' (by omega)
      by_cases hf : F S1 (q + 1) = true
      · simp only [hf, if_true]
        obtain ⟨hm1, hne⟩ := hFS.mp hf
        subst hm1
        refine ⟨S1, M3, ?_, hst', by simp [hz], ?_⟩
        · unfold f12_cutOne_154
          rw [if_neg (by decide), gp_ckb hc (by omega), nI_clamp (by omega), hM2 _ (by omega), hM1 _ (by omega), if_neg hne, gp_eL, gp_ckb (by omega) (by omega), gp_eL, nI_clamp (by omega), hM3e, nI_1]
          obtain ⟨n, rfl⟩ : ∃ q, n = q + 1 := ⟨n - 1, by omega⟩
          rw [f12_cutOne_32, gp_c81]
          split
          · rfl
          · rw [if_neg (by decide)]
            rfl
        · refine ⟨by rw [hM3l, hM2l, hM1l], h3c, h30, ?_, h320, ?_, ?_⟩
          · rw [h332]
            congr 2
            omega
          · intro i hi
            have hi0 : i = 0 := by simp [gp_codes] at hi; omega
            subst hi0
            simpa [gp_codes] using h320'
          · intro y
            rw [h318]
            rfl
      · simp only [hf, Bool.false_eq_true, if_false]
        have e154 : f12_cutOne_154 (f12_cutOne_32 n) (nI mem) (nI m) (nI S1) (gp_o (if r1.isSome = true then some b1 else none)) (gp_o r1) (nI (q + 1)) (nI many) (nI (gp_code m S1 (q + 1))) M2 = f12_cutOne_32 n (nI mem) (nI m) (nI S1) (gp_o (if r1.isSome = true then some b1 else none)) (gp_o r1) (nI (q + 1)) (nI (many + 1)) 0 M3 := by
          have e172 : f12_cutOne_172 (f12_cutOne_32 n) (nI mem) (nI m) (nI S1) (gp_o (if r1.isSome = true then some b1 else none)) (gp_o r1) (nI (q + 1)) (nI many) (nI (gp_code m S1 (q + 1))) M2 = f12_cutOne_32 n (nI mem) (nI m) (nI S1) (gp_o (if r1.isSome = true then some b1 else none)) (gp_o r1) (nI (q + 1)) (nI (many + 1)) 0 M3 := by
            unfold f12_cutOne_172
            rw [gp_eL, gp_ckb (by omega) (by omega), gp_eL, nI_clamp (by omega), hM3e, nI_1]
          unfold f12_cutOne_154
          have hm2 : mem = 0 ∨ mem = 1 := by omega
          rcases hm2 with rfl | rfl
          · rw [if_pos nI_0, e172]
          · have : M.1 19 (gp_code m S1 (q + 1)) = 0 := Classical.byContradiction fun h => hf (hFS.mpr ⟨rfl, h⟩)
            rw [if_neg (by decide), gp_ckb hc (by omega), nI_clamp (by omega), hM2 _ (by omega), hM1 _ (by omega), if_pos this, e172]
        rw [e154]
        have hqpl : ¬ q + 1 = pl := by omega
        obtain ⟨S', M', i1, i2, i3, i4⟩ := ih n (q + 1) S1 b1 (many + 1) r1 M3 (by omega) (by omega) ht3 hl4 (by rw [h30 _ (by omega), h26]) hst (fun _ => hz) (fun e => absurd e hqpl) (by omega) (by omega) (fun S p h1 h2 => by rw [h19]; exact hF S p h1 h2)
        simp only [hqpl, if_false] at i1 i3 i4
        obtain ⟨j1, j2, j3, j4, j5, j6, j7⟩ := i4
        have hge : q + 1 ≤ (gp_rm T m F (List.drop (q + 1) l) (q + 1) (gp_aft T m S1) r1 b1).2.2.1 := gp_rm_ge _ _ _ _ _
        refine ⟨S', M', ?_, i2, i3, by rw [j1, hM3l, hM2l, hM1l], fun c c1 c2 c3 => by rw [j2 c c1 c2 c3, h3c c c1 c2 c3], fun i hi => by rw [j3 i hi, h30 i hi], ?_, fun i hi => by rw [j5 i (by omega), h320 i hi], ?_, ?_⟩
        · rw [i1]
          simp only [List.length_cons]
          congr 2
          omega
        · rw [j4, h332]
          have : (gp_rm T m F (List.drop (q + 1) l) (q + 1) (gp_aft T m S1) r1 b1).2.2.1 - q = 1 + ((gp_rm T m F (List.drop (q + 1) l) (q + 1) (gp_aft T m S1) r1 b1).2.2.1 - (q + 1)) := by omega
          rw [this, ← nI_add, Int32.add_assoc]
        · intro i hi
          simp only [gp_codes, List.length_cons] at hi ⊢
          cases i with
          | zero => simpa using (j5 many (by omega)).trans h320'
          | succ i =>
            have := j6 i (by omega)
            rw [show many + 1 + i = many + (i + 1) from by omega] at this
            simpa using this
        · intro y
          rw [j7, h318]
          simp only [gp_codes]
          rw [Int32.add_assoc, nI_add, List.count_cons, List.count_cons]
          simp
          congr 1
          omega
end
end
section
/-! the reference's cutting: the rest of a token -/
theorem gp_getD_snoc {stk : List Nat} {d : Nat} : ∀ x, x < (d :: stk).length → (d :: stk).getD ((d :: stk).length - 1 - x) 0 = if x < stk.length then stk.getD (stk.length - 1 - x) 0 else d := by
  intro x hx
  simp only [List.length_cons] at hx ⊢
  by_cases h : x < stk.length
  · rw [if_pos h]
    have : stk.length + 1 - 1 - x = (stk.length - 1 - x) + 1 := by omega
    rw [this]
    simp
  · rw [if_neg h]
    have : stk.length + 1 - 1 - x = 0 := by omega
    rw [this]
    simp
section
variable {k k0 k1 m S s x p q : Nat} {M M' : gz_M} {T : gp_T} {l : List Nat} {F : Nat → Nat → Bool}
/-- what an act of the reference leaves: only the modes on one another and the most of them -/
def gp_actL (M M' : gz_M) : Prop := M'.2 = M.2 ∧ (∀ c, c ≠ 0 → c ≠ 16 → M'.1 c = M.1 c) ∧ (∀ i, i ≠ 28 → i ≠ 29 → M'.1 0 i = M.1 0 i)
theorem gp_actR_111 (hw : gp_wT T) (ht : gp_tR M T) {j : Nat} (hj : j < T.1) (he : T.2.2 3 j = 2) {stk : List Nat} (hl : stk.length < 5) {mo : Nat} (hmo2 : mo ≤ 5) (hmo : M.1 0 29 = nI mo) (hs : gp_sR M stk) :
    ∃ M', f12_doAct_111 (nI j) M = some M' ∧ gp_actL M M' ∧ gp_sR M' ((T.2.1 j).toNatClampNeg :: stk) ∧ M'.1 0 29 = nI (max mo (stk.length + 1)) := by
  have hw1 := hw.1
  obtain ⟨d, hd, ed⟩ := (hw.2.1 j hj).2.2.2.2.2 (by omega)
  unfold f12_doAct_111
  rw [gp_ckb (by omega) (by omega), hs.1, gp_ckb (by omega) (by omega), gp_eL, nI_clamp (by omega), nI_clamp (by omega), (ht.2.1 j hj).2.2.2.1]
  refine ⟨_, rfl, ⟨rfl, fun c c1 c2 => ?_, fun i i1 i2 => ?_⟩, ⟨?_, fun x hx => ?_⟩, ?_⟩
  · rw [gp_wc _ c1, gp_wc _ c1, gp_wc _ c2]
  · rw [gp_gn (by omega), gp_gn (by omega), gp_gn (by omega)]
  · rw [gp_gn (by omega), gp_gs, gp_gn (by omega), hs.1, nI_1]
    rfl
  · rw [gp_gn (by omega), gp_gn (by omega), gp_getD_snoc x hx]
    simp only [List.length_cons] at hx
    by_cases hx1 : x < stk.length
    · rw [if_pos hx1, gp_gn (by omega)]
      exact hs.2 x hx1
    · have : x = stk.length := by omega
      subst this
      rw [if_neg hx1, gp_gs, ed, nI_clamp (by omega)]
  · rw [gp_gs, gp_gs, gp_gn (by omega), gp_gn (by omega), gp_gn (by omega), hs.1, nI_1, hmo, gp_max (by omega) (by omega)]
theorem gp_actR_76 (hw : gp_wT T) {j : Nat} (hj : j < T.1) (he : T.2.2 3 j = 2) {stk : List Nat} (hl : stk.length = 5) {mo : Nat} (hmo2 : mo ≤ 5) : ∀ (d n x : Nat) (M : gz_M), x + d = 5 → 0 < x → d < n → gp_tR M T → M.1 0 29 = nI mo → M.1 0 28 = nI 5 → (∀ y, y < x - 1 → M.1 16 y = nI (stk.getD (3 - y) 0)) → (∀ y, x ≤ y → y < 5 → M.1 16 y = nI (stk.getD (4 - y) 0)) →
    ∃ M', f12_doAct_76 n (nI j) (nI x) M = some M' ∧ gp_actL M M' ∧ gp_sR M' ((T.2.1 j).toNatClampNeg :: stk.take 4) ∧ M'.1 0 29 = nI (max mo 5) := by
  intro d
  induction d with
  | zero =>
    intro n x M hx h0 hn ht hmo h28 hlo hhi
    obtain ⟨n, rfl⟩ : ∃ q, n = q + 1 := ⟨n - 1, by omega⟩
    have hx5 : x = 5 := by omega
    subst hx5
    rw [f12_doAct_76, if_pos (by exact nI_le (Nat.le_refl 5) (by decide)), gp_eL, h28]
    have hl4 : (stk.take 4).length = 4 := by rw [List.length_take]; omega
    have ht1 : gp_tR (gz_w M 0 28 (nI 5 - 1)) T := ht.fr (fun c c1 c2 => gp_wc _ (by omega)) (gp_gn (by omega))
    obtain ⟨M', e1, e2, e3, e4⟩ := gp_actR_111 (M := gz_w M 0 28 (nI 5 - 1)) (stk := stk.take 4) hw ht1 hj he (by omega) hmo2 (by rw [gp_gn (by omega), hmo]) ⟨by rw [gp_gs, hl4]; rfl, fun y hy => by
      rw [gp_gn (by omega), hlo y (by omega), hl4]
      congr 1
      rw [List.getD_eq_getElem?_getD, List.getD_eq_getElem?_getD, List.getElem?_take_of_lt (by omega)]⟩
    refine ⟨M', e1, ⟨e2.1, fun c c1 c2 => (e2.2.1 c c1 c2).trans (gp_wc _ c1), fun i i1 i2 => (e2.2.2 i i1 i2).trans (gp_gn (by omega))⟩, e3, ?_⟩
    rw [e4, hl4]
  | succ d ih =>
    intro n x M hx h0 hn ht hmo h28 hlo hhi
    obtain ⟨n, rfl⟩ : ∃ q, n = q + 1 := ⟨n - 1, by omega⟩
    obtain ⟨x, rfl⟩ : ∃ q, x = q + 1 := ⟨x - 1, by omega⟩
    rw [f12_doAct_76, if_neg (by exact nI_ge (show x + 1 < 5 by omega) (by decide)), nI_pred, gp_ckb (by omega) (by omega), gp_ckb (by omega) (by omega), gp_eL, gp_eL, nI_clamp (by omega), nI_clamp (by omega), nI_1, hhi (x + 1) (by omega) (by omega)]
    obtain ⟨M', e1, e2, e3, e4⟩ := ih n (x + 1 + 1) (gz_w M 16 x (nI (stk.getD (4 - (x + 1)) 0))) (by omega) (by omega) (by omega) (ht.fr (fun c c1 c2 => gp_wc _ (by omega)) (gp_gn (by omega))) (by rw [gp_gn (by omega), hmo]) (by rw [gp_gn (by omega), h28]) (fun y hy => by
      by_cases hyx : y = x
      · subst hyx
        rw [gp_gs]
        congr 2
        omega
      · rw [gp_gn (by omega), hlo y (by omega)]) (fun y h1 h2 => by rw [gp_gn (by omega), hhi y (by omega) h2])
    exact ⟨M', e1, ⟨e2.1, fun c c1 c2 => (e2.2.1 c c1 c2).trans (gp_wc _ c2), fun i i1 i2 => (e2.2.2 i i1 i2).trans (gp_gn (by omega))⟩, e3, e4⟩
theorem gp_actR (hw : gp_wT T) (ht : gp_tR M T) {j : Nat} (hj : j < T.1) {stk : List Nat} (hsk : gp_sk stk) {mo : Nat} (hmo2 : mo ≤ 5) (hmo3 : stk.length ≤ mo) (hmo : M.1 0 29 = nI mo) (hs : gp_sR M stk) :
    ∃ M', f12_doAct (nI j) M = some M' ∧ gp_actL M M' ∧ gp_sR M' (gp_act T (some j) stk) ∧ M'.1 0 29 = nI (max mo (gp_act T (some j) stk).length) := by
  have hw1 := hw.1
  have hwj := hw.2.1 j hj
  have htj := ht.2.1 j hj
  have hl5 := hsk.2.1
  obtain ⟨d0, t, rfl⟩ : ∃ d t, stk = d :: t := by
    cases stk with
    | nil => exact absurd hsk.1 (by decide)
    | cons d t => exact ⟨d, t, rfl⟩
  have e3 : M.1 7 j = nI (T.2.2 3 j) := htj.2.2.1
  have hl5' : t.length + 1 ≤ 5 := hl5
  unfold f12_doAct
  rw [gp_ckb (by omega) (by omega), nI_clamp (by omega), e3, hs.1]
  have hc3 : T.2.2 3 j = 0 ∨ T.2.2 3 j = 1 ∨ T.2.2 3 j = 2 ∨ T.2.2 3 j = 3 := by omega
  -- the tail of the row, where the act isn't 2 or 3
  have tail : ∀ M1 : gz_M, M1.1 7 j = nI (T.2.2 3 j) → T.2.2 3 j ≤ 1 → f12_doAct_28 (nI j) M1 = some M1 := by
    intro M1 h1 h2
    unfold f12_doAct_28 f12_doAct_55
    have n3 : ¬ nI (T.2.2 3 j) = 3 := fun e => by have := (nI_eq (b := 3) (by omega) (by omega)).mp e; omega
    have n2 : ¬ nI (T.2.2 3 j) = 2 := fun e => by have := (nI_eq (b := 2) (by omega) (by omega)).mp e; omega
    rw [gp_ckb (by omega) (by omega), nI_clamp (by omega), h1, if_neg n3, gp_ckb (by omega) (by omega), if_neg n2]
  rcases hc3 with e | e | e | e
  · have ea : gp_act T (some j) (d0 :: t) = d0 :: t := by unfold gp_act; simp only [e]; rfl
    rw [e, if_neg (by decide), tail M e3 (by omega), ea]
    refine ⟨M, rfl, ⟨rfl, fun _ _ _ => rfl, fun _ _ _ => rfl⟩, hs, ?_⟩
    rw [hmo, Nat.max_eq_left hmo3]
  · rw [e, if_pos (show nI 1 = 1 from rfl)]
    by_cases hl : (d0 :: t).length ≤ 1
    · have ea : gp_act T (some j) (d0 :: t) = d0 :: t := by unfold gp_act; simp only [e, hl, if_true]
      rw [if_pos (by exact nI_le hl (by decide)), tail M e3 (by omega), ea]
      refine ⟨M, rfl, ⟨rfl, fun _ _ _ => rfl, fun _ _ _ => rfl⟩, hs, ?_⟩
      rw [hmo, Nat.max_eq_left hmo3]
    · have ea : gp_act T (some j) (d0 :: t) = t := by unfold gp_act; simp only [e, hl, if_false, if_true]; rfl
      rw [if_neg (show ¬ nI (d0 :: t).length ≤ (1 : Int32) from nI_ge (a := 1) (by omega) (by omega)), gp_eL, tail _ (by rw [gp_gn (by omega), e3]) (by omega), ea]
      refine ⟨_, rfl, ⟨rfl, fun c c1 c2 => gp_wc _ c1, fun i i1 i2 => gp_gn (by omega)⟩, ⟨?_, fun x hx => ?_⟩, ?_⟩
      · rw [gp_gs]
        exact nI_pred _
      · rw [gp_gn (by omega), hs.2 x (by simp; omega), gp_getD_snoc x (by simp; omega), if_pos hx]
      · rw [gp_gn (by omega), hmo, Nat.max_eq_left]
        simp at hmo3
        omega
  · have n3 : ¬ nI 2 = (3 : Int32) := by decide
    rw [e, if_neg (by decide)]
    unfold f12_doAct_28 f12_doAct_55
    rw [gp_ckb (by omega) (by omega), nI_clamp (by omega), e3, e, if_neg n3, gp_ckb (by omega) (by omega), if_pos (show nI 2 = 2 from rfl), hs.1]
    have ea : gp_act T (some j) (d0 :: t) = ((T.2.1 j).toNatClampNeg :: (d0 :: t)).take 5 := by unfold gp_act; simp only [e]; rfl
    by_cases h5 : (d0 :: t).length = 5
    · rw [h5, if_pos (show nI 5 = 5 from rfl), ea, List.take_succ_cons]
      obtain ⟨M', f1, f2, f3, f4⟩ := gp_actR_76 (stk := d0 :: t) hw hj e h5 hmo2 4 gz_FU 1 M (by omega) (by omega) (by unfold gz_FU; omega) ht hmo (by rw [hs.1, h5]) (fun y hy => absurd hy (by omega)) (fun y h1 h2 => by rw [hs.2 y (by omega), h5])
      refine ⟨M', f1, f2, f3, ?_⟩
      rw [f4, List.length_cons, List.length_take, h5]
      rfl
    · rw [if_neg (show ¬ nI (d0 :: t).length = (5 : Int32) from fun e => h5 ((nI_eq (b := 5) (by omega) (by omega)).mp e)), ea, List.take_of_length_le (by simp only [List.length_cons] at h5 ⊢; omega)]
      obtain ⟨M', f1, f2, f3, f4⟩ := gp_actR_111 hw ht hj e (stk := d0 :: t) (by omega) hmo2 hmo hs
      exact ⟨M', f1, f2, f3, f4⟩
  · rw [e, if_neg (by decide)]
    obtain ⟨d, hd, ed⟩ := hwj.2.2.2.2.2 (by omega)
    have ea : gp_act T (some j) (d0 :: t) = (T.2.1 j).toNatClampNeg :: t := by unfold gp_act; simp only [e]; rfl
    unfold f12_doAct_28 f12_doAct_55
    rw [gp_ckb (by omega) (by omega), nI_clamp (by omega), e3, e, if_pos (show nI 3 = 3 from rfl), gp_ckb (by omega) (by omega), hs.1]
    rw [show nI (d0 :: t).length - 1 = nI t.length from nI_pred _, gp_ckb (by omega) (by omega), gp_eL, nI_clamp (by omega), htj.2.2.2.1, gp_ckb (by omega) (by omega), gp_gn (by omega), e3, e, if_neg (by decide), ea]
    refine ⟨_, rfl, ⟨rfl, fun c c1 c2 => gp_wc _ c2, fun i i1 i2 => gp_gn (by omega)⟩, ⟨?_, fun x hx => ?_⟩, ?_⟩
    · rw [gp_gn (by omega), hs.1]
      rfl
    · rw [gp_getD_snoc x hx]
      simp only [List.length_cons] at hx
      by_cases hx1 : x < t.length
      · rw [if_pos hx1, gp_gn (by omega), hs.2 x (by simp; omega), gp_getD_snoc x (by simp; omega), if_pos hx1]
      · have : x = t.length := by omega
        subst this
        rw [if_neg hx1, gp_gs, ed, nI_clamp (by omega)]
    · rw [gp_gn (by omega), hmo, Nat.max_eq_left]
      simpa using hmo3
end
end
section
/-! the reference's cutting: a token whole -/
section
variable {k k0 k1 m S s x p q : Nat} {M M' : gz_M} {T : gp_T} {l : List Nat} {F : Nat → Nat → Bool}
theorem gp_cut404 (t : Nat) (ht : t + 12 ≤ 300) (stk : List Nat) (h5 : stk.length ≤ 5) : ∀ (d n x : Nat) (M : gz_M), x + d = 5 → d < n → gp_sR M stk →
    ∃ M', f12_cutOne_404 n (nI t) (nI x) M = some M' ∧ M'.2 = M.2 ∧ (∀ c, c ≠ 0 → c ≠ 17 → M'.1 c = M.1 c) ∧ (∀ i, i ≠ 31 → M'.1 0 i = M.1 0 i) ∧ M'.1 0 31 = M.1 0 31 + 1 ∧ (∀ y, y < t + 7 + x ∨ t + 12 ≤ y → M'.1 17 y = M.1 17 y) ∧ (∀ y, x ≤ y → y < 5 → M'.1 17 (t + 7 + y) = if y < stk.length then nI (stk.getD (stk.length - 1 - y) 0) else gp_no) := by
  intro d
  induction d with
  | zero =>
    intro n x M hx hn hs
    obtain ⟨n, rfl⟩ : ∃ q, n = q + 1 := ⟨n - 1, by omega⟩
    have hx5 : x = 5 := by omega
    subst hx5
    rw [f12_cutOne_404, if_pos (by exact nI_le (Nat.le_refl 5) (by decide)), gp_eL]
    exact ⟨_, rfl, rfl, fun c c1 c2 => gp_wc _ c1, fun i i1 => gp_gn (by omega), gp_gs _ _ _ _, fun y _ => gp_gn (by omega), fun y h1 h2 => absurd h1 (by omega)⟩
  | succ d ih =>
    intro n x M hx hn hs
    obtain ⟨n, rfl⟩ : ∃ q, n = q + 1 := ⟨n - 1, by omega⟩
    rw [f12_cutOne_404, if_neg (by exact nI_ge (show x < 5 by omega) (by decide)), hs.1]
    have go : ∀ v : Int32, v = (if x < stk.length then nI (stk.getD (stk.length - 1 - x) 0) else gp_no) → ∃ M', f12_cutOne_404 n (nI t) (nI (x + 1)) (gz_w M 17 (t + 7 + x) v) = some M' ∧ M'.2 = M.2 ∧ (∀ c, c ≠ 0 → c ≠ 17 → M'.1 c = M.1 c) ∧ (∀ i, i ≠ 31 → M'.1 0 i = M.1 0 i) ∧ M'.1 0 31 = M.1 0 31 + 1 ∧ (∀ y, y < t + 7 + x ∨ t + 12 ≤ y → M'.1 17 y = M.1 17 y) ∧ (∀ y, x ≤ y → y < 5 → M'.1 17 (t + 7 + y) = if y < stk.length then nI (stk.getD (stk.length - 1 - y) 0) else gp_no) := by
      intro v hv
      obtain ⟨M', e1, e2, e3, e4, e5, e6, e7⟩ := ih n (x + 1) (gz_w M 17 (t + 7 + x) v) (by omega) (by omega) ⟨by rw [gp_gn (by omega)]; exact hs.1, fun y hy => by rw [gp_gn (by omega)]; exact hs.2 y hy⟩
      refine ⟨M', e1, e2, fun c c1 c2 => (e3 c c1 c2).trans (gp_wc _ c2), fun i i1 => (e4 i i1).trans (gp_gn (by omega)), e5.trans (by rw [gp_gn (by omega)]), fun y hy => (e6 y (by omega)).trans (gp_gn (by omega)), fun y h1 h2 => ?_⟩
      by_cases hyx : y = x
      · subst hyx
        rw [e6 _ (by omega), gp_gs, hv]
      · exact e7 y (by omega) h2
    have e7 : (nI t + 7) + nI x = nI (t + 7 + x) := by rw [show (7 : Int32) = nI 7 from rfl, nI_add, nI_add]
    by_cases hxl : x < stk.length
    · rw [if_neg (nI_ge hxl (by omega)), gp_ckb (by omega) (by omega), e7, gp_ckb (by omega) (by omega), gp_eL, gp_eL, nI_clamp (by omega), nI_clamp (by omega), nI_1, hs.2 x hxl]
      exact go _ (by rw [if_pos hxl])
    · rw [if_pos (nI_le (by omega) (by omega)), e7, gp_ckb (by omega) (by omega), gp_eL, gp_eL, nI_clamp (by omega), nI_1]
      exact go _ (by rw [if_neg hxl]; rfl)
/-- what a cut token leaves as it was -/
def gp_cutL (M M' : gz_M) : Prop := M'.2 = M.2 ∧ (∀ c, c ≠ 0 → ¬ (16 ≤ c ∧ c ≤ 20) → M'.1 c = M.1 c) ∧ (∀ i, i ≠ 26 → i ≠ 28 → i ≠ 29 → i ≠ 31 → i ≠ 32 → M'.1 0 i = M.1 0 i)
theorem gp_cutL.trans {M1 M2 M3 : gz_M} (a : gp_cutL M1 M2) (b : gp_cutL M2 M3) : gp_cutL M1 M3 := ⟨b.1.trans a.1, fun c c1 c2 => (b.2.1 c c1 c2).trans (a.2.1 c c1 c2), fun i i1 i2 i3 i4 i5 => (b.2.2 i i1 i2 i3 i4 i5).trans (a.2.2 i i1 i2 i3 i4 i5)⟩
theorem gp_cut250 (hw : gp_wT T) (ht : gp_tR M T) {stk : List Nat} (hsk : gp_sk stk) (hs : gp_sR M stk) {mo j : Nat} (hmo2 : mo ≤ 5) (hmo3 : stk.length ≤ mo) (hmo : M.1 0 29 = nI mo) (hj : j < 25) (h31 : M.1 0 31 = nI j) (hp : p < 24) (h26 : M.1 0 26 = nI p) (R : Option Nat × Nat × Nat × Option Nat × List Nat) (hR1 : ∀ i, R.1 = some i → i < T.1) (hR2 : R.2.1 < 2 ^ 30) (hR3 : 0 < R.2.2.1 ∧ R.2.2.1 < 2 ^ 30) (hR4 : ∀ x, R.2.2.2.1 = some x → R.2.2.1 = x + 1) {S' : Nat} (hS' : S' < 2 ^ 10) (hS2 : R.2.2.2.1.isSome = true ↔ S' = 0) :
    ∃ M', f12_cutOne_250 (nI (stk.headD 0)) (nI S') (gp_o (if R.1.isSome = true then some R.2.1 else none)) (gp_o R.1) (nI R.2.2.1) M = some M' ∧ M'.2 = M.2 ∧ (∀ c, c ≠ 0 → c ≠ 16 → c ≠ 17 → M'.1 c = M.1 c) ∧ (∀ i, i ≠ 26 → i ≠ 28 → i ≠ 29 → i ≠ 31 → M'.1 0 i = M.1 0 i) ∧ gp_sR M' (gp_tokO T p stk R).2.2.2.2.2.2 ∧ M'.1 0 26 = nI (gp_tokO T p stk R).2.2.1 ∧ M'.1 0 29 = nI (max mo (gp_tokO T p stk R).2.2.2.2.2.2.length) ∧ M'.1 0 31 = nI (j + 1) ∧ gp_rK M' j (gp_tokO T p stk R) ∧ ∀ y, y < 12 * j → M'.1 17 y = M.1 17 y := by
  generalize htk : gp_tokO T p stk R = t
  have t1 : t.1 = R.1 := by rw [← htk]; rfl
  have t2 : t.2.1 = p := by rw [← htk]; rfl
  have t3 : t.2.2.1 = if R.1.isSome = true then R.2.1 else p + 1 := by rw [← htk]; rfl
  have t4 : t.2.2.2.1 = R.2.2.1 := by rw [← htk]; rfl
  have t5 : t.2.2.2.2.1 = R.2.2.2.1 := by rw [← htk]; rfl
  have t6 : t.2.2.2.2.2.1 = stk.headD 0 := by rw [← htk]; rfl
  have t7 : t.2.2.2.2.2.2 = gp_act T R.1 stk := by rw [← htk]; rfl
  have hw1 := hw.1
  have hsk2 : gp_sk t.2.2.2.2.2.2 := by rw [t7]; exact gp_act_sk hw hR1 hsk
  have hsk5 := hsk2.2.1
  -- from the first word on
  have n12 : (12 : Int32) * nI j = nI (12 * j) := by rw [show (12 : Int32) = nI 12 from rfl, pk_mul]
  have a0 : ∀ i : Nat, nI (12 * j) + nI i = nI (12 * j + i) := fun i => nI_add _ _
  -- the last words
  have last : ∀ M1 : gz_M, M1.2 = M.2 → (∀ c, c ≠ 0 → c ≠ 17 → M1.1 c = M.1 c) → (∀ i, i ≠ 26 → M1.1 0 i = M.1 0 i) → M1.1 0 26 = nI t.2.2.1 → (M1.1 17 (12 * j) = gp_o t.1 ∧ M1.1 17 (12 * j + 1) = nI t.2.1 ∧ M1.1 17 (12 * j + 2) = nI t.2.2.1 ∧ M1.1 17 (12 * j + 3) = nI (if t.2.2.2.2.1.isSome = true then t.2.2.2.1 else t.2.2.2.1 + 1) ∧ M1.1 17 (12 * j + 4) = nI t.2.2.2.2.2.1 ∧ M1.1 17 (12 * j + 6) = gp_o t.2.2.2.2.1) → (∀ y, y < 12 * j → M1.1 17 y = M.1 17 y) → ∃ M', (if gp_o R.1 = (-1) then (f12_cutOne_388 (nI (12 * j)) M1) else (gz_bd (f12_doAct (gp_o R.1) M1) fun M6 => f12_cutOne_388 (nI (12 * j)) M6)) = some M' ∧ M'.2 = M.2 ∧ (∀ c, c ≠ 0 → c ≠ 16 → c ≠ 17 → M'.1 c = M.1 c) ∧ (∀ i, i ≠ 26 → i ≠ 28 → i ≠ 29 → i ≠ 31 → M'.1 0 i = M.1 0 i) ∧ gp_sR M' t.2.2.2.2.2.2 ∧ M'.1 0 26 = nI t.2.2.1 ∧ M'.1 0 29 = nI (max mo t.2.2.2.2.2.2.length) ∧ M'.1 0 31 = nI (j + 1) ∧ gp_rK M' j t ∧ ∀ y, y < 12 * j → M'.1 17 y = M.1 17 y := by
    intro M1 b1 b2 b3 b4 b5 b6
    have c388 : ∀ M2 : gz_M, gp_actL M1 M2 → gp_sR M2 t.2.2.2.2.2.2 → M2.1 0 29 = nI (max mo t.2.2.2.2.2.2.length) → ∃ M', f12_cutOne_388 (nI (12 * j)) M2 = some M' ∧ M'.2 = M.2 ∧ (∀ c, c ≠ 0 → c ≠ 16 → c ≠ 17 → M'.1 c = M.1 c) ∧ (∀ i, i ≠ 26 → i ≠ 28 → i ≠ 29 → i ≠ 31 → M'.1 0 i = M.1 0 i) ∧ gp_sR M' t.2.2.2.2.2.2 ∧ M'.1 0 26 = nI t.2.2.1 ∧ M'.1 0 29 = nI (max mo t.2.2.2.2.2.2.length) ∧ M'.1 0 31 = nI (j + 1) ∧ gp_rK M' j t ∧ ∀ y, y < 12 * j → M'.1 17 y = M.1 17 y := by
      intro M2 d1 d2 d3
      unfold f12_cutOne_388
      rw [show (5 : Int32) = nI 5 from rfl, a0, gp_ckb (by omega) (by omega), gp_eL, nI_clamp (by omega), d2.1]
      obtain ⟨M', e1, e2, e3, e4, e5, e6, e7⟩ := gp_cut404 (12 * j) (by omega) t.2.2.2.2.2.2 hsk5 5 gz_FU 0 (gz_w M2 17 (12 * j + 5) (nI t.2.2.2.2.2.2.length)) (by omega) (by unfold gz_FU; omega) ⟨by rw [gp_gn (by omega)]; exact d2.1, fun x hx => by rw [gp_gn (by omega)]; exact d2.2 x hx⟩
      have h17 : M2.1 17 = M1.1 17 := d1.2.1 17 (by omega) (by omega)
      have hrow : ∀ y, y < 12 * j + 7 → y ≠ 12 * j + 5 → M'.1 17 y = M1.1 17 y := fun y y1 y2 => by rw [e6 y (by omega), gp_gn (by omega), h17]
      refine ⟨M', e1, ?_, fun c c1 c2 c3 => ?_, fun i i1 i2 i3 i4 => ?_, ⟨?_, fun x hx => ?_⟩, ?_, ?_, ?_, ⟨?_, ?_, ?_, ?_, ?_, ?_, ?_, fun x hx => ?_⟩, fun y hy => ?_⟩
      · rw [e2, gp_gl, d1.1, b1]
      · rw [e3 c c1 c3, gp_wc _ c3, d1.2.1 c c1 c2, b2 c c1 c3]
      · rw [e4 i i4, gp_gn (by omega), d1.2.2 i i2 i3, b3 i i1]
      · rw [e4 _ (by omega), gp_gn (by omega)]; exact d2.1
      · rw [e3 _ (by omega) (by omega), gp_gn (by omega)]; exact d2.2 x hx
      · rw [e4 _ (by omega), gp_gn (by omega), d1.2.2 _ (by omega) (by omega), b4]
      · rw [e4 _ (by omega), gp_gn (by omega), d3]
      · rw [e5, gp_gn (by omega), d1.2.2 _ (by omega) (by omega), b3 _ (by omega), h31, nI_1]
      · rw [hrow _ (by omega) (by omega)]; exact b5.1
      · rw [hrow _ (by omega) (by omega)]; exact b5.2.1
      · rw [hrow _ (by omega) (by omega)]; exact b5.2.2.1
      · rw [hrow _ (by omega) (by omega)]; exact b5.2.2.2.1
      · rw [hrow _ (by omega) (by omega)]; exact b5.2.2.2.2.1
      · rw [e6 _ (by omega), gp_gs]
      · rw [hrow _ (by omega) (by omega)]; exact b5.2.2.2.2.2
      · exact e7 x (by omega) hx
      · rw [hrow _ (by omega) (by omega), b6 y hy]
    have hs1 : gp_sR M1 stk := ⟨by rw [b3 _ (by omega)]; exact hs.1, fun x hx => by rw [b2 _ (by omega) (by omega)]; exact hs.2 x hx⟩
    cases hR : R.1 with
    | none =>
      rw [if_pos (by rfl)]
      have : t.2.2.2.2.2.2 = stk := by rw [t7, hR]; rfl
      exact c388 M1 ⟨rfl, fun _ _ _ => rfl, fun _ _ _ => rfl⟩ (by rw [this]; exact hs1) (by rw [this, b3 _ (by omega), hmo, Nat.max_eq_left hmo3])
    | some i =>
      have hi := hR1 i hR
      rw [if_neg (by rw [gp_m1, gp_oS, gp_ne1 (by omega)]; exact id), gp_oS]
      have ht1 : gp_tR M1 T := ht.fr (fun c c1 c2 => b2 c (by omega) (by omega)) (b3 _ (by omega))
      obtain ⟨M2, f1, f2, f3, f4⟩ := gp_actR hw ht1 hi hsk hmo2 hmo3 (by rw [b3 _ (by omega), hmo]) hs1
      rw [f1, gp_eB]
      have : t.2.2.2.2.2.2 = gp_act T (some i) stk := by rw [t7, hR]
      exact c388 M2 f2 (by rw [this]; exact f3) (by rw [this]; exact f4)
  -- the words in their order
  have w362 : ∀ (s0 : Int32) (M1 : gz_M), s0 = gp_o t.2.2.2.2.1 → M1.2 = M.2 → (∀ c, c ≠ 0 → c ≠ 17 → M1.1 c = M.1 c) → (∀ i, M1.1 0 i = M.1 0 i) → (M1.1 17 (12 * j) = gp_o t.1 ∧ M1.1 17 (12 * j + 1) = nI t.2.1 ∧ M1.1 17 (12 * j + 2) = nI t.2.2.1 ∧ M1.1 17 (12 * j + 3) = nI (if t.2.2.2.2.1.isSome = true then t.2.2.2.1 else t.2.2.2.1 + 1) ∧ M1.1 17 (12 * j + 4) = nI t.2.2.2.2.2.1) → (∀ y, y < 12 * j → M1.1 17 y = M.1 17 y) → ∃ M', f12_cutOne_362 (gp_o R.1) (nI (12 * j)) s0 (nI (12 * j) + 6) M1 = some M' ∧ M'.2 = M.2 ∧ (∀ c, c ≠ 0 → c ≠ 16 → c ≠ 17 → M'.1 c = M.1 c) ∧ (∀ i, i ≠ 26 → i ≠ 28 → i ≠ 29 → i ≠ 31 → M'.1 0 i = M.1 0 i) ∧ gp_sR M' t.2.2.2.2.2.2 ∧ M'.1 0 26 = nI t.2.2.1 ∧ M'.1 0 29 = nI (max mo t.2.2.2.2.2.2.length) ∧ M'.1 0 31 = nI (j + 1) ∧ gp_rK M' j t ∧ ∀ y, y < 12 * j → M'.1 17 y = M.1 17 y := by
    intro s0 M1 h0 b1 b2 b3 b5 b6
    unfold f12_cutOne_362
    rw [show (6 : Int32) = nI 6 from rfl, show (2 : Int32) = nI 2 from rfl, a0, a0, gp_ckb (by omega) (by omega), gp_eL, gp_ckb (by omega) (by omega), gp_eL, nI_clamp (by omega), nI_clamp (by omega), gp_gn (by omega), b5.2.2.1]
    refine last _ ?_ (fun c c1 c2 => ?_) (fun i i1 => ?_) ?_ ⟨?_, ?_, ?_, ?_, ?_, ?_⟩ (fun y hy => ?_)
    · exact b1
    · rw [gp_wc _ c1, gp_wc _ c2, b2 c c1 c2]
    · rw [gp_gn (by omega), gp_gn (by omega), b3]
    · rw [gp_gs]
    · rw [gp_gn (by omega), gp_gn (by omega)]; exact b5.1
    · rw [gp_gn (by omega), gp_gn (by omega)]; exact b5.2.1
    · rw [gp_gn (by omega), gp_gn (by omega)]; exact b5.2.2.1
    · rw [gp_gn (by omega), gp_gn (by omega)]; exact b5.2.2.2.1
    · rw [gp_gn (by omega), gp_gn (by omega)]; exact b5.2.2.2.2
    · rw [gp_gn (by omega), gp_gs]; exact h0
    · rw [gp_gn (by omega), gp_gn (by omega), b6 y hy]
  have w330 : ∀ (s0 : Int32) (M1 : gz_M), s0 = nI (if t.2.2.2.2.1.isSome = true then t.2.2.2.1 else t.2.2.2.1 + 1) → M1.2 = M.2 → (∀ c, c ≠ 0 → c ≠ 17 → M1.1 c = M.1 c) → (∀ i, M1.1 0 i = M.1 0 i) → (M1.1 17 (12 * j) = gp_o t.1 ∧ M1.1 17 (12 * j + 1) = nI t.2.1 ∧ M1.1 17 (12 * j + 2) = nI t.2.2.1) → (∀ y, y < 12 * j → M1.1 17 y = M.1 17 y) → ∃ M', f12_cutOne_330 (nI (stk.headD 0)) (nI S') (gp_o R.1) (nI R.2.2.1) (nI (12 * j)) s0 (nI (12 * j) + 3) M1 = some M' ∧ M'.2 = M.2 ∧ (∀ c, c ≠ 0 → c ≠ 16 → c ≠ 17 → M'.1 c = M.1 c) ∧ (∀ i, i ≠ 26 → i ≠ 28 → i ≠ 29 → i ≠ 31 → M'.1 0 i = M.1 0 i) ∧ gp_sR M' t.2.2.2.2.2.2 ∧ M'.1 0 26 = nI t.2.2.1 ∧ M'.1 0 29 = nI (max mo t.2.2.2.2.2.2.length) ∧ M'.1 0 31 = nI (j + 1) ∧ gp_rK M' j t ∧ ∀ y, y < 12 * j → M'.1 17 y = M.1 17 y := by
    intro s0 M1 h0 b1 b2 b3 b5 b6
    have goo : ∀ s1 : Int32, s1 = gp_o t.2.2.2.2.1 → ∃ M', f12_cutOne_362 (gp_o R.1) (nI (12 * j)) s1 (nI (12 * j) + 6) (gz_w (gz_w M1 17 (12 * j + 3) s0) 17 (12 * j + 4) (nI (stk.headD 0))) = some M' ∧ M'.2 = M.2 ∧ (∀ c, c ≠ 0 → c ≠ 16 → c ≠ 17 → M'.1 c = M.1 c) ∧ (∀ i, i ≠ 26 → i ≠ 28 → i ≠ 29 → i ≠ 31 → M'.1 0 i = M.1 0 i) ∧ gp_sR M' t.2.2.2.2.2.2 ∧ M'.1 0 26 = nI t.2.2.1 ∧ M'.1 0 29 = nI (max mo t.2.2.2.2.2.2.length) ∧ M'.1 0 31 = nI (j + 1) ∧ gp_rK M' j t ∧ ∀ y, y < 12 * j → M'.1 17 y = M.1 17 y := by
      intro s1 h1
      refine w362 s1 _ h1 ?_ (fun c c1 c2 => ?_) (fun i => ?_) ⟨?_, ?_, ?_, ?_, ?_⟩ (fun y hy => ?_)
      · exact b1
      · rw [gp_wc _ c2, gp_wc _ c2, b2 c c1 c2]
      · rw [gp_gn (by omega), gp_gn (by omega), b3]
      · rw [gp_gn (by omega), gp_gn (by omega)]; exact b5.1
      · rw [gp_gn (by omega), gp_gn (by omega)]; exact b5.2.1
      · rw [gp_gn (by omega), gp_gn (by omega)]; exact b5.2.2
      · rw [gp_gn (by omega), gp_gs]; exact h0
      · rw [gp_gs, t6]
      · rw [gp_gn (by omega), gp_gn (by omega), b6 y hy]
    unfold f12_cutOne_330
    rw [show (3 : Int32) = nI 3 from rfl, show (4 : Int32) = nI 4 from rfl, a0, a0, gp_ckb (by omega) (by omega), gp_eL, gp_ckb (by omega) (by omega), gp_eL, nI_clamp (by omega), nI_clamp (by omega)]
    cases hd : R.2.2.2.1 with
    | none =>
      have hne : S' ≠ 0 := fun e => by have := hS2.mpr e; rw [hd] at this; cases this
      rw [if_neg (show ¬ nI S' = (0 : Int32) from fun e => hne ((nI_eq (b := 0) (by omega) (by omega)).mp e))]
      exact goo _ (by rw [t5, hd]; rfl)
    | some x =>
      have he : S' = 0 := hS2.mp (by rw [hd]; rfl)
      subst he
      rw [if_pos nI_0]
      refine goo _ ?_
      rw [t5, hd, hR4 x hd]
      exact nI_pred x
  have w308 : ∀ (s0 : Int32) (M1 : gz_M), s0 = nI t.2.2.1 → M1.2 = M.2 → (∀ c, c ≠ 0 → c ≠ 17 → M1.1 c = M.1 c) → (∀ i, M1.1 0 i = M.1 0 i) → (M1.1 17 (12 * j) = gp_o t.1 ∧ M1.1 17 (12 * j + 1) = nI t.2.1) → (∀ y, y < 12 * j → M1.1 17 y = M.1 17 y) → ∃ M', f12_cutOne_308 (nI (stk.headD 0)) (nI S') (gp_o R.1) (nI R.2.2.1) (nI (12 * j)) s0 (nI (12 * j) + 2) M1 = some M' ∧ M'.2 = M.2 ∧ (∀ c, c ≠ 0 → c ≠ 16 → c ≠ 17 → M'.1 c = M.1 c) ∧ (∀ i, i ≠ 26 → i ≠ 28 → i ≠ 29 → i ≠ 31 → M'.1 0 i = M.1 0 i) ∧ gp_sR M' t.2.2.2.2.2.2 ∧ M'.1 0 26 = nI t.2.2.1 ∧ M'.1 0 29 = nI (max mo t.2.2.2.2.2.2.length) ∧ M'.1 0 31 = nI (j + 1) ∧ gp_rK M' j t ∧ ∀ y, y < 12 * j → M'.1 17 y = M.1 17 y := by
    intro s0 M1 h0 b1 b2 b3 b5 b6
    have goo : ∀ s1 : Int32, s1 = nI (if t.2.2.2.2.1.isSome = true then t.2.2.2.1 else t.2.2.2.1 + 1) → ∃ M', f12_cutOne_330 (nI (stk.headD 0)) (nI S') (gp_o R.1) (nI R.2.2.1) (nI (12 * j)) s1 (nI (12 * j) + 3) (gz_w M1 17 (12 * j + 2) s0) = some M' ∧ M'.2 = M.2 ∧ (∀ c, c ≠ 0 → c ≠ 16 → c ≠ 17 → M'.1 c = M.1 c) ∧ (∀ i, i ≠ 26 → i ≠ 28 → i ≠ 29 → i ≠ 31 → M'.1 0 i = M.1 0 i) ∧ gp_sR M' t.2.2.2.2.2.2 ∧ M'.1 0 26 = nI t.2.2.1 ∧ M'.1 0 29 = nI (max mo t.2.2.2.2.2.2.length) ∧ M'.1 0 31 = nI (j + 1) ∧ gp_rK M' j t ∧ ∀ y, y < 12 * j → M'.1 17 y = M.1 17 y := by
      intro s1 h1
      refine w330 s1 _ h1 ?_ (fun c c1 c2 => ?_) (fun i => ?_) ⟨?_, ?_, ?_⟩ (fun y hy => ?_)
      · exact b1
      · rw [gp_wc _ c2, b2 c c1 c2]
      · rw [gp_gn (by omega), b3]
      · rw [gp_gn (by omega)]; exact b5.1
      · rw [gp_gn (by omega)]; exact b5.2
      · rw [gp_gs]; exact h0
      · rw [gp_gn (by omega), b6 y hy]
    unfold f12_cutOne_308
    rw [show (2 : Int32) = nI 2 from rfl, a0, gp_ckb (by omega) (by omega), gp_eL, nI_clamp (by omega)]
    cases hd : R.2.2.2.1 with
    | none =>
      have hne : S' ≠ 0 := fun e => by have := hS2.mpr e; rw [hd] at this; cases this
      rw [if_neg (show ¬ nI S' = (0 : Int32) from fun e => hne ((nI_eq (b := 0) (by omega) (by omega)).mp e)), nI_1]
      exact goo _ (by rw [t5, hd, t4]; rfl)
    | some x =>
      have he : S' = 0 := hS2.mp (by rw [hd]; rfl)
      subst he
      rw [if_pos nI_0]
      exact goo _ (by rw [t5, hd, t4]; rfl)
  unfold f12_cutOne_250
  rw [h31, gp_eL, n12, show nI (12 * j) + 0 = nI (12 * j + 0) from a0 0, show nI (12 * j) + 1 = nI (12 * j + 1) from a0 1, gp_ckb (by omega) (by omega), gp_eL, gp_ckb (by omega) (by omega), gp_eL, nI_clamp (by omega), nI_clamp (by omega), show (gz_w M 17 (12 * j + 0) (gp_o R.1)).1 0 26 = nI p from (gp_gn (by omega)).trans h26]
  have goo : ∀ s1 : Int32, s1 = nI t.2.2.1 → ∃ M', f12_cutOne_308 (nI (stk.headD 0)) (nI S') (gp_o R.1) (nI R.2.2.1) (nI (12 * j)) s1 (nI (12 * j) + 2) (gz_w (gz_w M 17 (12 * j + 0) (gp_o R.1)) 17 (12 * j + 1) (nI p)) = some M' ∧ M'.2 = M.2 ∧ (∀ c, c ≠ 0 → c ≠ 16 → c ≠ 17 → M'.1 c = M.1 c) ∧ (∀ i, i ≠ 26 → i ≠ 28 → i ≠ 29 → i ≠ 31 → M'.1 0 i = M.1 0 i) ∧ gp_sR M' t.2.2.2.2.2.2 ∧ M'.1 0 26 = nI t.2.2.1 ∧ M'.1 0 29 = nI (max mo t.2.2.2.2.2.2.length) ∧ M'.1 0 31 = nI (j + 1) ∧ gp_rK M' j t ∧ ∀ y, y < 12 * j → M'.1 17 y = M.1 17 y := by
    intro s1 h1
    refine w308 s1 _ h1 ?_ (fun c c1 c2 => ?_) (fun i => ?_) ⟨?_, ?_⟩ (fun y hy => ?_)
    · rfl
    · rw [gp_wc _ c2, gp_wc _ c2]
    · rw [gp_gn (by omega), gp_gn (by omega)]
    · rw [gp_gn (by omega), Nat.add_zero, gp_gs, t1]
    · rw [gp_gs, t2]
    · rw [gp_gn (by omega), gp_gn (by omega)]
  cases hR : R.1 with
  | none =>
    rw [hR] at goo t3
    have e : (gp_o (if (none : Option Nat).isSome = true then some R.2.1 else none)) = -1 := rfl
    rw [e, if_pos rfl, gp_gn (by omega), gp_gn (by omega), h26, nI_1]
    exact goo _ (by rw [t3]; rfl)
  | some i =>
    rw [hR] at goo t3
    have e : (gp_o (if (some i : Option Nat).isSome = true then some R.2.1 else none)) = nI R.2.1 := rfl
    rw [e, if_neg (by rw [gp_m1, gp_ne1 (by omega)]; exact id)]
    exact goo _ (by rw [t3]; rfl)
end
end
section
/-! the reference: one token; the whole line -/
section
variable {k k0 k1 m S s x p q : Nat} {M M' : gz_M} {T : gp_T} {l : List Nat} {F : Nat → Nat → Bool}
theorem gp_cut197 (p : Nat) (hp : p < 24) (cs : List Nat) (hcs : cs.length ≤ 24) (hc : ∀ i, i < cs.length → cs.getD i 0 < 102400) (last : Option Nat) (hla : ∀ b, last = some b → b ≤ 24) (x2 x3 x5 x6 : Int32) : ∀ (d n x : Nat) (M : gz_M), x + d = cs.length → d < n → M.1 0 26 = nI p → (∀ i, i < cs.length → M.1 20 i = nI (cs.getD i 0)) →
    ∃ M', f12_cutOne_197 n x2 x3 (gp_o last) x5 x6 (nI cs.length) (nI x) M = f12_cutOne_250 x2 x3 (gp_o last) x5 x6 M' ∧ M'.2 = M.2 ∧ (∀ c, c ≠ 19 → M'.1 c = M.1 c) ∧ ∀ y, ((∃ i, x ≤ i ∧ i < cs.length ∧ last.getD p < p + 1 + i ∧ y = cs.getD i 0) → M'.1 19 y = 1) ∧ (¬ (∃ i, x ≤ i ∧ i < cs.length ∧ last.getD p < p + 1 + i ∧ y = cs.getD i 0) → M'.1 19 y = M.1 19 y) := by
  have hld : last.getD p ≤ 24 := by
    cases last with
    | none => show p ≤ 24; omega
    | some b => exact hla b rfl
  intro d
  induction d with
  | zero =>
    intro n x M hx hn h26 h20
    obtain ⟨n, rfl⟩ : ∃ q, n = q + 1 := ⟨n - 1, by omega⟩
    have hxe : x = cs.length := by omega
    subst hxe
    rw [f12_cutOne_197, if_pos (nI_le (Nat.le_refl _) (by omega))]
    exact ⟨M, rfl, rfl, fun _ _ => rfl, fun y => ⟨fun ⟨i, a, b, _⟩ => absurd a (by omega), fun _ => rfl⟩⟩
  | succ d ih =>
    intro n x M hx hn h26 h20
    obtain ⟨n, rfl⟩ : ∃ q, n = q + 1 := ⟨n - 1, by omega⟩
    rw [f12_cutOne_197, if_neg (nI_ge (by omega) (by omega)), h26]
    have e228 : f12_cutOne_228 (f12_cutOne_197 n) x2 x3 (gp_o last) x5 x6 (nI cs.length) (nI x) (nI (last.getD p)) ((nI p + 1) + nI x) M = f12_cutOne_197 n x2 x3 (gp_o last) x5 x6 (nI cs.length) (nI (x + 1)) (if last.getD p < p + 1 + x then gz_w M 19 (cs.getD x 0) 1 else M) := by
      unfold f12_cutOne_228
      rw [nI_1, nI_add]
      by_cases h : last.getD p < p + 1 + x
      · have hcx := hc x (by omega)
        rw [if_neg (nI_ge h (by omega)), if_pos h, gp_ckb (by omega) (by omega), nI_clamp (by omega), h20 x (by omega), gp_ckb hcx (by omega), gp_eL, gp_eL, nI_clamp (by omega), nI_1]
        rfl
      · rw [if_pos (nI_le (by omega) (by omega)), if_neg h, gp_eL, nI_1]
    have sel : (if gp_o last = -1 then (f12_cutOne_228 (f12_cutOne_197 n) x2 x3 (gp_o last) x5 x6 (nI cs.length) (nI x) (nI p) ((nI p + 1) + nI x) M) else (f12_cutOne_228 (f12_cutOne_197 n) x2 x3 (gp_o last) x5 x6 (nI cs.length) (nI x) (gp_o last) ((nI p + 1) + nI x) M)) = f12_cutOne_228 (f12_cutOne_197 n) x2 x3 (gp_o last) x5 x6 (nI cs.length) (nI x) (nI (last.getD p)) ((nI p + 1) + nI x) M := by
      cases last with
      | none => rw [if_pos (by rfl)]; rfl
      | some b =>
        have := hla b rfl
        rw [if_neg (by rw [gp_m1, gp_oS, gp_ne1 (by omega)]; exact id)]
        rfl
    rw [sel, e228]
    obtain ⟨M', e1, e2, e3, e4⟩ := ih n (x + 1) (if last.getD p < p + 1 + x then gz_w M 19 (cs.getD x 0) 1 else M) (by omega) (by omega) (by split <;> first | exact h26 | (rw [gp_gn (by omega)]; exact h26)) (fun i hi => by split <;> first | exact h20 i hi | (rw [gp_gn (by omega)]; exact h20 i hi))
    refine ⟨M', e1, ?_, fun c hc => ?_, fun y => ⟨?_, fun hn => ?_⟩⟩
    · rw [e2]; split <;> rfl
    · rw [e3 c hc]
      split
      · exact gp_wc _ hc
      · rfl
    · rintro ⟨i, a, b, c, e⟩
      by_cases hy : ∃ i, x + 1 ≤ i ∧ i < cs.length ∧ last.getD p < p + 1 + i ∧ y = cs.getD i 0
      · exact (e4 y).1 hy
      · rw [(e4 y).2 hy]
        have hix : i = x := Classical.byContradiction fun h => hy ⟨i, by omega, b, c, e⟩
        subst hix
        rw [if_pos c, e, gp_gs]
    · rw [(e4 y).2 (fun ⟨i, a, b⟩ => hn ⟨i, by omega, b⟩)]
      split
      · rename_i h
        rw [gp_gn (fun h1 => hn ⟨x, Nat.le_refl _, by omega, h, h1.2⟩)]
      · rfl
/-- the pairs that are remembered as failed behind a reading from p -/
def gp_marks (m p : Nat) (R : Option Nat × Nat × Nat × Option Nat × List Nat) : List Nat := (gp_codes m R.2.2.2.2 p).drop ((if R.1.isSome = true then R.2.1 else p) - p)
theorem gp_codes_lt (hm : m < 4) : ∀ (L : List Nat) (q : Nat), (∀ S, S ∈ L → S < 2 ^ 10) → q + L.length ≤ 24 → ∀ y, y ∈ gp_codes m L q → y < 102400
  | [], q, _, _, y, hy => by cases hy
  | S :: L, q, h1, h2, y, hy => by
    rw [List.length_cons] at h2
    rcases List.mem_cons.mp hy with rfl | h3
    · exact gp_code_lt hm (h1 S List.mem_cons_self) (by omega)
    · exact gp_codes_lt hm L (q + 1) (fun S hS => h1 S (List.mem_cons_of_mem _ hS)) (by omega) y h3
theorem gp_rm_mets (hw : gp_wT T) (hm : m < 4) : ∀ (L : List Nat) (q nx : Nat) (r : Option Nat) (b : Nat), (∀ s, s ∈ L → s < 8) → ∀ S, S ∈ (gp_rm T m F L q nx r b).2.2.2.2 → S < 2 ^ T.2.2 7 m
  | [], q, nx, r, b, _, S, hS => by simp [gp_rm] at hS
  | s :: L, q, nx, r, b, hL, S, hS => by
    have h0 : nx &&& T.2.2 (15 + m) s < 2 ^ T.2.2 7 m := Nat.lt_of_le_of_lt Nat.and_le_right ((hw.2.2 m hm).2.2.2 s (hL s List.mem_cons_self))
    rw [gp_rm] at hS
    split at hS
    · simp at hS
    · split at hS
      · simp at hS
        rw [hS]; exact h0
      · rcases List.mem_cons.mp hS with rfl | h3
        · exact h0
        · exact gp_rm_mets hw hm L (q + 1) _ _ _ (fun s hs => hL s (List.mem_cons_of_mem _ hs)) S h3
theorem gp_mem_drop {α : Type} {d : α} {L : List α} {k : Nat} {y : α} : y ∈ L.drop k ↔ ∃ i, k ≤ i ∧ i < L.length ∧ y = L.getD i d := by
  constructor
  · intro h
    obtain ⟨i, hi, e⟩ := List.mem_iff_getElem.mp h
    rw [List.length_drop] at hi
    refine ⟨k + i, by omega, by omega, ?_⟩
    rw [← e, List.getElem_drop]
    simp [List.getD, show k + i < L.length by omega]
  · rintro ⟨i, h1, h2, e⟩
    refine List.mem_iff_getElem.mpr ⟨i - k, by rw [List.length_drop]; omega, ?_⟩
    rw [List.getElem_drop, e]
    simp [List.getD, h2, show k + (i - k) = i by omega]
theorem gp_getD_mem {α : Type} {d : α} {L : List α} {i : Nat} (h : i < L.length) : L.getD i d ∈ L := by
  have : L.getD i d = L[i] := by simp [List.getD, h]
  rw [this]
  exact List.getElem_mem h
theorem gp_cutOne (hw : gp_wT T) (mem : Nat) (hmem : mem < 2) (ht : gp_tR M T) (hl : gp_lR M l) {stk : List Nat} (hsk : gp_sk stk) (hs : gp_sR M stk) {mo j : Nat} (hmo2 : mo ≤ 5) (hmo3 : stk.length ≤ mo) (hmo : M.1 0 29 = nI mo) (hj : j < 25) (h31 : M.1 0 31 = nI j) (hp : p < l.length) (h26 : M.1 0 26 = nI p) (hF : ∀ S p', S < 2 ^ 10 → p' ≤ 24 → (F S p' = true ↔ mem = 1 ∧ M.1 19 (gp_code (stk.headD 0) S p') ≠ 0)) (R : Option Nat × Nat × Nat × Option Nat × List Nat) (hR : R = gp_rm T (stk.headD 0) F (l.drop p) p (T.2.2 8 (stk.headD 0)) none p) :
    ∃ M', f12_cutOne (nI mem) M = some M' ∧ gp_cutL M M' ∧ gp_sR M' (gp_tokO T p stk R).2.2.2.2.2.2 ∧ M'.1 0 26 = nI (gp_tokO T p stk R).2.2.1 ∧ M'.1 0 29 = nI (max mo (gp_tokO T p stk R).2.2.2.2.2.2.length) ∧ M'.1 0 31 = nI (j + 1) ∧ M'.1 0 32 = M.1 0 32 + nI (R.2.2.1 - p) ∧ gp_rK M' j (gp_tokO T p stk R) ∧ (∀ y, y < 12 * j → M'.1 17 y = M.1 17 y) ∧ (∀ y, M'.1 18 y = M.1 18 y + nI ((gp_codes (stk.headD 0) R.2.2.2.2 p).count y)) ∧ (mem = 0 → M'.1 19 = M.1 19) ∧ (mem = 1 → ∀ y, (y ∈ gp_marks (stk.headD 0) p R → M'.1 19 y = 1) ∧ (y ∉ gp_marks (stk.headD 0) p R → M'.1 19 y = M.1 19 y)) := by
  have hl1 := hl.1
  have hsk5 := hsk.2.1
  have hm : stk.headD 0 < 4 := by
    cases stk with
    | nil => exact absurd hsk.1 (by decide)
    | cons d t => exact hsk.2.2 d List.mem_cons_self
  have htop : M.1 16 (stk.length - 1) = nI (stk.headD 0) := by
    have h0 := hsk.1
    rw [hs.2 (stk.length - 1) (by omega), show stk.length - 1 - (stk.length - 1) = 0 by omega]
    cases stk <;> rfl
  have h0 := hsk.1
  obtain ⟨a1, a2, a3, a4, a5, a6, a7, a8, a9⟩ := gp_rm_f (T := T) (m := stk.headD 0) (F := F) (l.drop p) p (T.2.2 8 (stk.headD 0)) none p (by simp) (by simp)
  have hlen : (l.drop p).length = l.length - p := List.length_drop
  have hmets : ∀ S, S ∈ (gp_rm T (stk.headD 0) F (l.drop p) p (T.2.2 8 (stk.headD 0)) none p).2.2.2.2 → S < 2 ^ 10 := fun S hS => gp_lt10 hw hm (gp_rm_mets hw hm (l.drop p) p _ _ _ (fun s hs' => by
    obtain ⟨i, hi, e⟩ := List.mem_iff_getElem.mp (List.mem_of_mem_drop hs')
    have := (hl.2.2 i hi).2
    simp [List.getD, hi] at this
    rw [← e]; exact this) S hS)
  unfold f12_cutOne
  rw [hs.1, show nI stk.length - 1 = nI (stk.length - 1) by
    obtain ⟨q, e⟩ : ∃ q, stk.length = q + 1 := ⟨stk.length - 1, by omega⟩
    rw [e]; exact nI_pred q, gp_ckb (by omega) (by omega), gp_eL, gp_eL, nI_clamp (by omega), htop, h26]
  obtain ⟨S', M1, e1, e2, e3, e4⟩ := gp_cutOne_32 (F := F) hw hm mem hmem p (l.length - p) gz_FU p 0 p 0 none M (by omega) (by unfold gz_FU; omega) ht hl h26 (Nat.two_pow_pos _) (fun h => absurd rfl h) (fun _ => by omega) (Nat.le_refl _) (by omega) hF
  simp only [if_true] at e1 e3 e4
  rw [← hR] at e1 e3 e4 a1 a2 a3 a4 a5 a6 a7 a8 hmets
  have e1' : f12_cutOne_32 gz_FU (nI mem) (nI (stk.headD 0)) 0 (-1) (-1) (nI p) 0 0 M = _ := e1
  rw [e1', Nat.zero_add]
  obtain ⟨j1, j2, j3, j4, j5, j6, j7⟩ := e4
  have hlc : (gp_codes (stk.headD 0) R.2.2.2.2 p).length = R.2.2.2.2.length := gp_codes_len _ _ _
  have hRl : R.2.2.2.2.length + p ≤ l.length := by omega
  have hRb : R.1.isSome = true → R.2.1 ≤ 24 := fun h => by have := a4 h; omega
  have hR2 : R.2.1 < 2 ^ 30 ∨ R.1.isSome = false := by
    cases h : R.1.isSome
    · exact Or.inr rfl
    · exact Or.inl (by have := hRb h; omega)
  have hgt : p < R.2.2.1 := a3 (by rw [gp_drop hp]; simp)
  -- behind the marks
  have fin : ∀ M2 : gz_M, M2.2 = M1.2 → (∀ c, c ≠ 19 → M2.1 c = M1.1 c) → (mem = 0 → M2.1 19 = M.1 19) → (mem = 1 → ∀ y, (y ∈ gp_marks (stk.headD 0) p R → M2.1 19 y = 1) ∧ (y ∉ gp_marks (stk.headD 0) p R → M2.1 19 y = M.1 19 y)) → ∃ M', f12_cutOne_250 (nI (stk.headD 0)) (nI S') (gp_o (if R.1.isSome = true then some R.2.1 else none)) (gp_o R.1) (nI R.2.2.1) M2 = some M' ∧ gp_cutL M M' ∧ gp_sR M' (gp_tokO T p stk R).2.2.2.2.2.2 ∧ M'.1 0 26 = nI (gp_tokO T p stk R).2.2.1 ∧ M'.1 0 29 = nI (max mo (gp_tokO T p stk R).2.2.2.2.2.2.length) ∧ M'.1 0 31 = nI (j + 1) ∧ M'.1 0 32 = M.1 0 32 + nI (R.2.2.1 - p) ∧ gp_rK M' j (gp_tokO T p stk R) ∧ (∀ y, y < 12 * j → M'.1 17 y = M.1 17 y) ∧ (∀ y, M'.1 18 y = M.1 18 y + nI ((gp_codes (stk.headD 0) R.2.2.2.2 p).count y)) ∧ (mem = 0 → M'.1 19 = M.1 19) ∧ (mem = 1 → ∀ y, (y ∈ gp_marks (stk.headD 0) p R → M'.1 19 y = 1) ∧ (y ∉ gp_marks (stk.headD 0) p R → M'.1 19 y = M.1 19 y)) := by
    intro M2 b1 b2 b3 b4
    have m2c : ∀ c, c ≠ 0 → c ≠ 18 → c ≠ 19 → c ≠ 20 → M2.1 c = M.1 c := fun c c1 c2 c3 c4 => by rw [b2 c c3, j2 c c1 c2 c4]
    have m20 : ∀ i, i ≠ 32 → M2.1 0 i = M.1 0 i := fun i hi => by rw [b2 0 (by omega), j3 i hi]
    have ht2 : gp_tR M2 T := ht.fr (fun c c1 c2 => m2c c (by omega) (by omega) (by omega) (by omega)) (m20 _ (by omega))
    have hs2 : gp_sR M2 stk := ⟨by rw [m20 _ (by omega)]; exact hs.1, fun x hx => by rw [m2c _ (by omega) (by omega) (by omega) (by omega)]; exact hs.2 x hx⟩
    have conv : ∃ R' : Option Nat × Nat × Nat × Option Nat × List Nat, R'.1 = R.1 ∧ R'.2.2 = R.2.2 ∧ R'.2.1 < 2 ^ 30 ∧ (R.1.isSome = true → R'.2.1 = R.2.1) := by
      rcases hR2 with h | h
      · exact ⟨R, rfl, rfl, h, fun _ => rfl⟩
      · exact ⟨(R.1, 0, R.2.2), rfl, rfl, show 0 < 2 ^ 30 by decide, fun h' => by rw [h] at h'; cases h'⟩
    obtain ⟨R', r1, r2, r3, r4⟩ := conv
    obtain ⟨M', f1, f2, f3, f4, f5, f6, f7, f8, f9, f10⟩ := gp_cut250 hw ht2 hsk hs2 hmo2 hmo3 (by rw [m20 _ (by omega), hmo]) hj (by rw [m20 _ (by omega), h31]) (show p < 24 by omega) (by rw [m20 _ (by omega), h26]) R' (by rw [r1]; exact a6) r3 (by rw [r2]; omega) (fun x hx => by rw [r2] at hx ⊢; exact (a7 x hx).1) e2 (by rw [r2]; exact e3)
    have eo : (if R'.1.isSome = true then some R'.2.1 else none) = (if R.1.isSome = true then some R.2.1 else none) := by
      rw [r1]
      split
      · rename_i h; rw [r4 h]
      · rfl
    have et : gp_tokO T p stk R' = gp_tokO T p stk R := by
      unfold gp_tokO
      rw [r1, r2]
      congr 3
      split
      · rename_i h; rw [r4 h]
      · rfl
    rw [eo, r1, r2] at f1
    rw [et] at f5 f6 f7 f9
    refine ⟨M', f1, ⟨by rw [f2, b1, j1], fun c c1 c2 => by rw [f3 c c1 (by omega) (by omega), m2c c c1 (by omega) (by omega) (by omega)], fun i i1 i2 i3 i4 i5 => by rw [f4 i i1 i2 i3 i4, m20 i i5]⟩, f5, f6, f7, f8, ?_, f9, fun y hy => by rw [f10 y hy, m2c _ (by omega) (by omega) (by omega) (by omega)], fun y => ?_, fun h => ?_, fun h y => ?_⟩
    · rw [f4 _ (by omega) (by omega) (by omega) (by omega), b2 _ (by omega), j4]
    · rw [f3 _ (by omega) (by omega) (by omega), b2 _ (by omega), j7]
    · rw [f3 _ (by omega) (by omega) (by omega), b3 h]
    · rw [f3 _ (by omega) (by omega) (by omega)]
      exact b4 h y
  unfold f12_cutOne_190
  have hm2 : mem = 0 ∨ mem = 1 := by omega
  rcases hm2 with h | h
  · subst h
    rw [if_pos nI_0]
    exact fin M1 rfl (fun _ _ => rfl) (fun _ => j2 _ (by omega) (by omega) (by omega)) (fun h => absurd h (by decide))
  · subst h
    rw [if_neg (by decide), ← hlc]
    have hcl : ∀ i, i < (gp_codes (stk.headD 0) R.2.2.2.2 p).length → (gp_codes (stk.headD 0) R.2.2.2.2 p).getD i 0 < 102400 := fun i hi => by
      exact gp_codes_lt hm R.2.2.2.2 p hmets (by omega) _ (gp_getD_mem hi)
    have hla : ∀ b, (if R.1.isSome = true then some R.2.1 else none) = some b → b ≤ 24 := by
      intro b hb
      split at hb
      · rename_i h
        cases hb
        exact hRb h
      · cases hb
    obtain ⟨M2, g1, g2, g3, g4⟩ := gp_cut197 p (by omega) (gp_codes (stk.headD 0) R.2.2.2.2 p) (by omega) hcl (if R.1.isSome = true then some R.2.1 else none) hla (nI (stk.headD 0)) (nI S') (gp_o R.1) (nI R.2.2.1) (gp_codes (stk.headD 0) R.2.2.2.2 p).length gz_FU 0 M1 (by omega) (by unfold gz_FU; omega) (by rw [j3 _ (by omega), h26]) (fun i hi => by have := j6 i hi; rwa [Nat.zero_add] at this)
    have g1' : f12_cutOne_197 gz_FU (nI (stk.headD 0)) (nI S') (gp_o (if R.1.isSome = true then some R.2.1 else none)) (gp_o R.1) (nI R.2.2.1) (nI (gp_codes (stk.headD 0) R.2.2.2.2 p).length) 0 M1 = _ := g1
    rw [g1']
    refine fin M2 g2 g3 (fun h => absurd h (by decide)) (fun _ y => ?_)
    have hk : (if R.1.isSome = true then some R.2.1 else none).getD p = (if R.1.isSome = true then R.2.1 else p) := by split <;> rfl
    have hmk : (∃ i, 0 ≤ i ∧ i < (gp_codes (stk.headD 0) R.2.2.2.2 p).length ∧ (if R.1.isSome = true then some R.2.1 else none).getD p < p + 1 + i ∧ y = (gp_codes (stk.headD 0) R.2.2.2.2 p).getD i 0) ↔ y ∈ gp_marks (stk.headD 0) p R := by
      unfold gp_marks
      rw [gp_mem_drop (d := 0), hk]
      constructor
      · rintro ⟨i, _, b, c, e⟩
        exact ⟨i, by omega, b, e⟩
      · rintro ⟨i, a, b, e⟩
        exact ⟨i, by omega, b, by omega, e⟩
    have := g4 y
    rw [hmk] at this
    rw [j2 _ (by omega) (by omega) (by omega)] at this
    exact this
end
end
section
/-! the reference: the whole line, without memory -/
/-- the pairs come to by tokens, without memory -/
def gp_coms (T : gp_T) (l : List Nat) : List gp_K → List Nat
  | [] => []
  | t :: ts => gp_codes t.2.2.2.2.2.1 (gp_rm T t.2.2.2.2.2.1 gp_F0 (l.drop t.2.1) t.2.1 (T.2.2 8 t.2.2.2.2.2.1) none t.2.1).2.2.2.2 t.2.1 ++ gp_coms T l ts
def gp_reads : List gp_K → Nat
  | [] => 0
  | t :: ts => (t.2.2.2.1 - t.2.1) + gp_reads ts
/-- the tokens of the reference -/
def gp_kR (M : gz_M) (ts : List gp_K) : Prop := M.1 0 31 = nI ts.length ∧ M.1 0 29 = nI (gp_most ts) ∧ ∀ i, i < ts.length → gp_rK M i (ts.getD i gp_k0)
section
variable {k k0 k1 m S s x p q : Nat} {M M' : gz_M} {T : gp_T} {l : List Nat}
theorem gp_rK.fr {j : Nat} {t : gp_K} (h : gp_rK M j t) (e : ∀ y, y < 12 * j + 12 → M'.1 17 y = M.1 17 y) : gp_rK M' j t := by
  obtain ⟨h1, h2, h3, h4, h5, h6, h7, h8⟩ := h
  refine ⟨?_, ?_, ?_, ?_, ?_, ?_, ?_, fun x hx => ?_⟩
  · rw [e _ (by omega)]; exact h1
  · rw [e _ (by omega)]; exact h2
  · rw [e _ (by omega)]; exact h3
  · rw [e _ (by omega)]; exact h4
  · rw [e _ (by omega)]; exact h5
  · rw [e _ (by omega)]; exact h6
  · rw [e _ (by omega)]; exact h7
  · rw [e _ (by omega)]; exact h8 x hx
theorem gp_getD_l {α : Type} {d t : α} {A : List α} {i : Nat} (h : i < A.length) : (A ++ [t]).getD i d = A.getD i d := by
  rw [List.getD_eq_getElem?_getD, List.getD_eq_getElem?_getD, List.getElem?_append_left h]
theorem gp_getD_r {α : Type} {d t : α} {A : List α} : (A ++ [t]).getD A.length d = t := by simp [List.getD_eq_getElem?_getD]
theorem gp_cutAll12 (hw : gp_wT T) : ∀ (d n p : Nat) (stk : List Nat) (done : List gp_K) (M : gz_M), l.length ≤ p + d → d < n → gp_tR M T → gp_lR M l → gp_sk stk → gp_sR M stk → gp_most done ≤ 5 → stk.length ≤ gp_most done → done.length ≤ p → p ≤ l.length → M.1 0 26 = nI p → gp_kR M done →
    ∃ M', f12_cutAll_12 n 0 M = some M' ∧ gp_cutL M M' ∧ M'.1 19 = M.1 19 ∧ gp_kR M' (done ++ gp_cutF T l d p stk) ∧ M'.1 0 32 = M.1 0 32 + nI (gp_reads (gp_cutF T l d p stk)) ∧ ∀ y, M'.1 18 y = M.1 18 y + nI ((gp_coms T l (gp_cutF T l d p stk)).count y) := by
  have hI0 : ∀ y : Int32, y + nI 0 = y := fun y => by rw [nI_0]; simp
  intro d
  induction d with
  | zero =>
    intro n p stk done M hd hn ht hl hsk hs hmo hmo2 hjp hp h26 hk
    have hl1 := hl.1
    obtain ⟨n, rfl⟩ : ∃ q, n = q + 1 := ⟨n - 1, by omega⟩
    rw [f12_cutAll_12, gp_c81, gp_k81, hl.2.1, h26, if_pos (nI_le (by omega) (by omega)), gp_cutF, List.append_nil]
    exact ⟨M, rfl, ⟨rfl, fun _ _ _ => rfl, fun _ _ _ _ _ _ => rfl⟩, rfl, hk, (hI0 _).symm, fun y => (hI0 _).symm⟩
  | succ d ih =>
    intro n p stk done M hd hn ht hl hsk hs hmo hmo2 hjp hp h26 hk
    have hl1 := hl.1
    obtain ⟨n, rfl⟩ : ∃ q, n = q + 1 := ⟨n - 1, by omega⟩
    rw [f12_cutAll_12, gp_c81, gp_k81, hl.2.1, h26, gp_cutF]
    by_cases hpl : p < l.length
    · rw [if_neg (nI_ge hpl (by omega)), if_pos hpl]
      obtain ⟨M1, e1, e2, e3, e4, e5, e6, e7, e8, e9, e10, e11, e12⟩ := gp_cutOne (F := gp_F0) hw 0 (by omega) ht hl hsk hs hmo hmo2 hk.2.1 (show done.length < 25 by omega) hk.1 hpl h26 (fun S p' _ _ => by simp [gp_F0]) _ rfl
      have htok : gp_tokO T p stk (gp_rm T (stk.headD 0) gp_F0 (l.drop p) p (T.2.2 8 (stk.headD 0)) none p) = gp_tok T l p stk := rfl
      rw [htok] at e3 e4 e5 e8
      have hok := gp_tok_ok (T := T) hw hpl hsk
      have ht1 : (gp_tok T l p stk).2.1 = p := rfl
      have ht2 : (gp_tok T l p stk).2.2.2.1 = (gp_rm T (stk.headD 0) gp_F0 (l.drop p) p (T.2.2 8 (stk.headD 0)) none p).2.2.1 := rfl
      have ht3 : (gp_tok T l p stk).2.2.2.2.2.1 = stk.headD 0 := rfl
      generalize hte : gp_tok T l p stk = t at *
      have e1' : f12_cutOne 0 M = some M1 := e1
      rw [e1', gp_eB]
      have h1 := hok.1
      have h2 := hok.2.1
      have h3 := hok.2.2.1
      have hsk2 := hok.2.2.2.2.2.2.2
      have hmost : gp_most (done ++ [t]) = max (gp_most done) t.2.2.2.2.2.2.length := gp_most_snoc _ _
      have hs5 := hsk2.2.1
      have hlen : (done ++ [t]).length = done.length + 1 := by simp
      obtain ⟨M', f1, f2, f3, f4, f5, f6⟩ := ih n t.2.2.1 t.2.2.2.2.2.2 (done ++ [t]) M1 (by omega) (by omega) (ht.fr (fun c c1 c2 => e2.2.1 c (by omega) (by omega)) (e2.2.2 _ (by omega) (by omega) (by omega) (by omega) (by omega))) (hl.fr (e2.2.1 1 (by omega) (by omega))) hsk2 e3 (by rw [hmost]; omega) (by rw [hmost]; omega) (by omega) (by omega) e4 ⟨by rw [e6, hlen], by rw [e5, hmost], fun i hi => by
        rw [hlen] at hi
        by_cases hi1 : i < done.length
        · rw [gp_getD_l hi1]
          exact (hk.2.2 i hi1).fr (fun y hy => e9 y (by omega))
        · have : i = done.length := by omega
          subst this
          rw [gp_getD_r]
          exact e8⟩
      refine ⟨M', f1, e2.trans f2, f3.trans (e11 rfl), ?_, ?_, fun y => ?_⟩
      · rw [List.append_assoc] at f4
        exact f4
      · rw [f5, e7, gp_reads, ht1, ht2, Int32.add_assoc, nI_add]
      · rw [f6, e10, gp_coms, ht1, ht3, Int32.add_assoc, nI_add, List.count_append]
    · rw [if_pos (nI_le (by omega) (by omega)), if_neg hpl, List.append_nil]
      exact ⟨M, rfl, ⟨rfl, fun _ _ _ => rfl, fun _ _ _ _ _ _ => rfl⟩, rfl, hk, (hI0 _).symm, fun y => (hI0 _).symm⟩
theorem gp_atFirstR (M : gz_M) : ∃ M', f12_atFirst M = some M' ∧ gp_cutL M M' ∧ (∀ c, c ≠ 0 → c ≠ 16 → M'.1 c = M.1 c) ∧ gp_sR M' [0] ∧ M'.1 0 26 = nI 0 ∧ gp_kR M' [] ∧ M'.1 0 32 = nI 0 := by
  unfold f12_atFirst
  simp only [gp_eL]
  rw [show gz_inb 0 5 = true from rfl, gp_eC]
  refine ⟨_, rfl, ⟨rfl, fun c c1 c2 => ?_, fun i i1 i2 i3 i4 i5 => ?_⟩, fun c c1 c2 => ?_, ⟨?_, fun x hx => ?_⟩, ?_, ⟨?_, ?_, fun i hi => absurd hi (by simp)⟩, ?_⟩
  · rw [gp_wc _ c1, gp_wc _ c1, gp_wc _ c1, gp_wc _ (by omega), gp_wc _ c1, gp_wc _ c1]
  · rw [gp_gn (by omega), gp_gn (by omega), gp_gn (by omega), gp_gn (by omega), gp_gn (by omega), gp_gn (by omega)]
  · rw [gp_wc _ c1, gp_wc _ c1, gp_wc _ c1, gp_wc _ c2, gp_wc _ c1, gp_wc _ c1]
  · rw [gp_gn (by omega), gp_gn (by omega), gp_gn (by omega), gp_gn (by omega), gp_gs]; rfl
  · have : x = 0 := by simp at hx; omega
    subst this
    rw [gp_gn (by omega), gp_gn (by omega), gp_gn (by omega)]
    exact gp_gs _ _ _ _
  · rw [gp_gn (by omega), gp_gn (by omega), gp_gn (by omega), gp_gn (by omega), gp_gn (by omega), gp_gs]; rfl
  · rw [gp_gn (by omega), gp_gs]; rfl
  · rw [gp_gn (by omega), gp_gn (by omega), gp_gs]; rfl
  · rw [gp_gs]; rfl
theorem gp_cutAll0 (hw : gp_wT T) (ht : gp_tR M T) (hl : gp_lR M l) : ∃ M', f12_cutAll 0 M = some M' ∧ gp_cutL M M' ∧ M'.1 19 = M.1 19 ∧ gp_kR M' (gp_cut T l) ∧ M'.1 0 32 = nI (gp_reads (gp_cut T l)) ∧ ∀ y, M'.1 18 y = M.1 18 y + nI ((gp_coms T l (gp_cut T l)).count y) := by
  obtain ⟨M1, e1, e2, e3, e4, e5, e6, e7⟩ := gp_atFirstR M
  have hl1 := hl.1
  unfold f12_cutAll
  rw [e1, gp_eB, if_pos rfl]
  obtain ⟨M', f1, f2, f3, f4, f5, f6⟩ := gp_cutAll12 (l := l) hw 24 gz_FU 0 [0] [] M1 (by omega) (by unfold gz_FU; omega) (ht.fr (fun c c1 c2 => e3 c (by omega) (by omega)) (e2.2.2 _ (by omega) (by omega) (by omega) (by omega) (by omega))) (hl.fr (e3 1 (by omega) (by omega))) gp_sk0 e4 (by decide) (by decide) (by simp) (by omega) e5 e6
  refine ⟨M', f1, e2.trans f2, f3.trans (e3 _ (by omega) (by omega)), f4, ?_, fun y => ?_⟩
  · rw [f5, e7, nI_add, Nat.zero_add]; rfl
  · rw [f6, e3 _ (by omega) (by omega)]; rfl
end
end
section
/-! the row that is told; loops; bounds -/
theorem gp_for {σ β : Type} (f : Nat → Nat → σ → Option β) (N : Nat) (I : Nat → σ → Prop) (Q : β → Prop) (hend : ∀ n s, I N s → ∃ b, f (n + 1) N s = some b ∧ Q b) (hstep : ∀ n x s, x < N → I x s → (∃ b, f (n + 1) x s = some b ∧ Q b) ∨ ∃ s', f (n + 1) x s = f n (x + 1) s' ∧ I (x + 1) s') : ∀ n x s, x ≤ N → N < x + n → I x s → ∃ b, f n x s = some b ∧ Q b := by
  have main : ∀ d n x s, x + d = N → d < n → I x s → ∃ b, f n x s = some b ∧ Q b := by
    intro d
    induction d with
    | zero =>
      intro n x s hx hn hI
      obtain ⟨n, rfl⟩ : ∃ q, n = q + 1 := ⟨n - 1, by omega⟩
      have : x = N := by omega
      subst this
      exact hend n s hI
    | succ d ih =>
      intro n x s hx hn hI
      obtain ⟨n, rfl⟩ : ∃ q, n = q + 1 := ⟨n - 1, by omega⟩
      rcases hstep n x s (by omega) hI with h | ⟨s', e, hI'⟩
      · exact h
      · rw [e]
        exact ih n (x + 1) s' (by omega) (by omega) hI'
  intro n x s hx hn hI
  exact main (N - x) n x s (by omega) (by omega) hI
theorem gp_forE {σ β : Type} (f : Nat → Nat → σ → Option β) (N : Nat) (I : Nat → σ → Prop) (b : β) (hend : ∀ n s, I N s → f (n + 1) N s = some b) (hstep : ∀ n x s, x < N → I x s → f (n + 1) x s = some b ∨ ∃ s', f (n + 1) x s = f n (x + 1) s' ∧ I (x + 1) s') (n x : Nat) (s : σ) (hx : x ≤ N) (hn : N < x + n) (hI : I x s) : f n x s = some b := by
  obtain ⟨c, e, rfl⟩ := gp_for f N I (fun c => c = b) (fun n s h => ⟨b, hend n s h, rfl⟩) (fun n x s h1 h2 => (hstep n x s h1 h2).imp (fun h => ⟨b, h, rfl⟩) id) n x s hx hn hI
  exact e
theorem gp_forU {β : Type} (f : Nat → Nat → Option β) (N : Nat) (b : β) (hend : ∀ n, f (n + 1) N = some b) (hstep : ∀ n x, x < N → f (n + 1) x = f n (x + 1)) (n : Nat) (hn : N < n) : f n 0 = some b :=
  gp_forE (fun n x (_ : Unit) => f n x) N (fun _ _ => True) b (fun n _ _ => hend n) (fun n x _ h _ => Or.inr ⟨(), hstep n x h, trivial⟩) n 0 () (by omega) (by omega) trivial
theorem gp_take {α : Type} {d : α} {L : List α} {x : Nat} (h : x < L.length) : L.take (x + 1) = L.take x ++ [L.getD x d] := by
  rw [List.take_succ_eq_append_getElem h]
  simp [List.getD, h]
theorem gp_add0 (a : Nat) : nI a + 0 = nI a := nI_add a 0
theorem gp_lNi {n : Nat} (h : n < 2 ^ 31) : (nI n).toInt64 = lN n := nI_l h
def gp_wC (M : gz_M) (r : List Int64) : Prop := M.1 0 15 = nI r.length ∧ ∀ i, i < r.length → M.2 i = r.getD i 0
def gp_wR (M : gz_M) (r : List Int64) : Prop := M.1 0 4 = nI r.length ∧ ∀ i, i < r.length → M.2 i = r.getD i 0
/-- all but the row -/
def gp_fC (M M' : gz_M) : Prop := (∀ c, c ≠ 0 → M'.1 c = M.1 c) ∧ ∀ i, i ≠ 15 → M'.1 0 i = M.1 0 i
def gp_fR (M M' : gz_M) : Prop := (∀ c, c ≠ 0 → M'.1 c = M.1 c) ∧ ∀ i, i ≠ 4 → M'.1 0 i = M.1 0 i
theorem gp_fC.refl (M : gz_M) : gp_fC M M := ⟨fun _ _ => rfl, fun _ _ => rfl⟩
theorem gp_fR.refl (M : gz_M) : gp_fR M M := ⟨fun _ _ => rfl, fun _ _ => rfl⟩
theorem gp_fC.trans {M1 M2 M3 : gz_M} (a : gp_fC M1 M2) (b : gp_fC M2 M3) : gp_fC M1 M3 := ⟨fun c hc => (b.1 c hc).trans (a.1 c hc), fun i hi => (b.2 i hi).trans (a.2 i hi)⟩
theorem gp_fR.trans {M1 M2 M3 : gz_M} (a : gp_fR M1 M2) (b : gp_fR M2 M3) : gp_fR M1 M3 := ⟨fun c hc => (b.1 c hc).trans (a.1 c hc), fun i hi => (b.2 i hi).trans (a.2 i hi)⟩
theorem gp_tellC {M : gz_M} {r : List Int64} (x : Int64) (h : gp_wC M r) (hr : r.length < 1024) : ∃ M', f11_tell x M = some M' ∧ gp_fC M M' ∧ gp_wC M' (r ++ [x]) := by
  unfold f11_tell
  rw [h.1, if_neg (nI_pos (by omega)), if_neg (by exact nI_ge hr (by decide)), gp_ckb hr (by omega), gp_eL, gp_eL, nI_clamp (by omega)]
  refine ⟨_, rfl, ⟨fun c hc => ?_, fun i hi => ?_⟩, ?_, fun i hi => ?_⟩
  · rw [gp_wc _ hc]; rfl
  · rw [gp_gn (by omega)]; rfl
  · rw [gp_gs, gp_l1, h.1, nI_1, List.length_append]; rfl
  · rw [List.length_append] at hi
    rw [gp_gl]
    by_cases hi1 : i < r.length
    · rw [gp_ln (by omega), gp_getD_l hi1]
      exact h.2 i hi1
    · have : i = r.length := by simp at hi; omega
      subst this
      rw [gp_ls, gp_getD_r]
theorem gp_tellR {M : gz_M} {r : List Int64} (x : Int64) (h : gp_wR M r) (hr : r.length < 64) : ∃ M', f12_tell x M = some M' ∧ gp_fR M M' ∧ gp_wR M' (r ++ [x]) := by
  unfold f12_tell
  rw [h.1, gp_ckb hr (by omega), gp_eL, gp_eL, nI_clamp (by omega)]
  refine ⟨_, rfl, ⟨fun c hc => ?_, fun i hi => ?_⟩, ?_, fun i hi => ?_⟩
  · rw [gp_wc _ hc]; rfl
  · rw [gp_gn (by omega)]; rfl
  · rw [gp_gs, gp_l1, h.1, nI_1, List.length_append]; rfl
  · rw [List.length_append] at hi
    rw [gp_gl]
    by_cases hi1 : i < r.length
    · rw [gp_ln (by omega), gp_getD_l hi1]
      exact h.2 i hi1
    · have : i = r.length := by simp at hi; omega
      subst this
      rw [gp_ls, gp_getD_r]
theorem gp_wC0 (M : gz_M) : gp_fC M (gz_w M 0 15 0) ∧ gp_wC (gz_w M 0 15 0) [] := ⟨⟨fun c hc => gp_wc _ hc, fun i hi => gp_gn (by omega)⟩, gp_gs _ _ _ _, fun i hi => absurd hi (by simp)⟩
theorem gp_wR0 (M : gz_M) : gp_fR M (gz_w M 0 4 0) ∧ gp_wR (gz_w M 0 4 0) [] := ⟨⟨fun c hc => gp_wc _ hc, fun i hi => gp_gn (by omega)⟩, gp_gs _ _ _ _, fun i hi => absurd hi (by simp)⟩
theorem gp_pI {n : Nat} (h : n < 2 ^ 31) : (nI n - 1).toInt = (n : Int) - 1 := by
  cases n with
  | zero => decide
  | succ n => rw [nI_pred, nI_toInt (by omega)]; omega
theorem gp_in0 {a : Int32} (b : Int32) (M : gz_M) (h : a < 0) : f12_in a 0 b M = some (0, M) := by unfold f12_in; rw [if_pos h]
theorem gp_in0b {a : Int32} {n : Nat} (M : gz_M) (hn : n < 2 ^ 31) (h0 : ¬ a < 0) (h : nI n ≤ a) : f12_in a 0 (nI n - 1) M = some (0, M) := by
  unfold f12_in
  rw [if_neg h0, if_pos]
  apply Int32.lt_iff_toInt_lt.mpr
  have := Int32.le_iff_toInt_le.mp h
  rw [nI_toInt hn] at this
  rw [gp_pI hn]
  omega
theorem gp_in1 {j n : Nat} (M : gz_M) (hn : n < 2 ^ 31) (h : j < n) : f12_in (nI j) 0 (nI n - 1) M = some (1, M) := by
  unfold f12_in
  rw [if_neg (nI_pos (by omega)), if_neg]
  intro h2
  have := Int32.lt_iff_toInt_lt.mp h2
  rw [gp_pI hn, nI_toInt (by omega)] at this
  omega
theorem gp_inm0 {a : Int32} (b : Int32) (M : gz_M) (h : a < -1) : f12_in a (-1) b M = some (0, M) := by unfold f12_in; rw [if_pos h]
theorem gp_inm0b {a : Int32} {n : Nat} (M : gz_M) (hn : n < 2 ^ 31) (h : nI n ≤ a) : f12_in a (-1) (nI n - 1) M = some (0, M) := by
  unfold f12_in
  split
  · rfl
  · rw [if_pos]
    apply Int32.lt_iff_toInt_lt.mpr
    have := Int32.le_iff_toInt_le.mp h
    rw [nI_toInt hn] at this
    rw [gp_pI hn]
    omega
theorem gp_inmn {n : Nat} (M : gz_M) (hn : n < 2 ^ 31) : f12_in (-1) (-1) (nI n - 1) M = some (1, M) := by
  unfold f12_in
  rw [if_neg (by decide), if_neg]
  intro h2
  have := Int32.lt_iff_toInt_lt.mp h2
  rw [gp_pI hn, show ((-1 : Int32)).toInt = -1 by decide] at this
  omega
theorem gp_inm1 {j n : Nat} (M : gz_M) (hn : n < 2 ^ 31) (h : j < n) : f12_in (nI j) (-1) (nI n - 1) M = some (1, M) := by
  unfold f12_in
  rw [if_neg (by rw [gp_m1, gp_nolt (by omega)]; exact id), if_neg]
  intro h2
  have := Int32.lt_iff_toInt_lt.mp h2
  rw [gp_pI hn, nI_toInt (by omega)] at this
  omega
/-- below -1, -1, a place, above -/
theorem gp_ixm (x : Int32) {n : Nat} (hn : n < 2 ^ 31) : x < -1 ∨ x = -1 ∨ nI n ≤ x ∨ ∃ j : Nat, j < n ∧ x = nI j := by
  rcases pk_ix x hn with h | h | h
  · by_cases h1 : x < -1
    · exact Or.inl h1
    · right; left
      have a := Int32.lt_iff_toInt_lt.mp h
      have b : ¬ x.toInt < (-1 : Int32).toInt := fun h => h1 (Int32.lt_iff_toInt_lt.mpr h)
      rw [show ((-1 : Int32)).toInt = -1 by decide] at b
      rw [show ((0 : Int32)).toInt = 0 by decide] at a
      apply Int32.toInt_inj.mp
      rw [show ((-1 : Int32)).toInt = -1 by decide]
      omega
  · exact Or.inr (Or.inr (Or.inl h))
  · exact Or.inr (Or.inr (Or.inr h))
theorem gp_isModeE (a : Int32) : (¬ a < 0 ∧ ¬ 4 ≤ a ∧ ∃ m, m < 4 ∧ a = nI m) ∨ ((a < 0 ∨ 4 ≤ a) ∧ ∀ M, f11_isMode a M = some (0, M) ∧ f12_isMode a M = some (0, M)) := by
  rcases pk_ix a (n := 4) (by decide) with h | h | ⟨j, h1, h2⟩
  · right
    refine ⟨Or.inl h, fun M => ⟨?_, ?_⟩⟩
    · unfold f11_isMode; rw [if_pos h]
    · unfold f12_isMode; rw [gp_in0 _ _ h]; rfl
  · right
    have h0 : ¬ a < 0 := by
      intro h1
      have a1 := Int32.le_iff_toInt_le.mp h
      have a2 := Int32.lt_iff_toInt_lt.mp h1
      rw [nI_toInt (by omega)] at a1
      rw [show ((0 : Int32)).toInt = 0 by decide] at a2
      omega
    refine ⟨Or.inr h, fun M => ⟨?_, ?_⟩⟩
    · unfold f11_isMode; rw [if_neg h0, if_pos (by exact h)]
    · unfold f12_isMode; rw [show (3 : Int32) = nI 4 - 1 by decide, gp_in0b _ (by omega) h0 h]; rfl
  · left
    subst h2
    exact ⟨nI_pos (by omega), nI_ge h1 (by decide), j, h1, rfl⟩
theorem gp_isModeR {m : Nat} (hm : m < 4) (M : gz_M) : f12_isMode (nI m) M = some (1, M) := by
  unfold f12_isMode
  rw [show (3 : Int32) = nI 4 - 1 by decide, gp_in1 _ (by omega) hm]
  rfl
end
section
/-! questions: what both worlds hold, and what a question leaves -/
def gp_qC (cu : Nat) (M M' : gz_M) : Prop := (∀ c, (1 ≤ c ∧ c < 3) ∨ (7 ≤ c ∧ c < 30) ∨ (cu ≤ c ∧ c < cu + 9) ∨ 131 ≤ c → M'.1 c = M.1 c) ∧ M'.1 0 5 = M.1 0 5 ∧ M'.1 0 8 = M.1 0 8
def gp_qR (M M' : gz_M) : Prop := (∀ c, c = 1 ∨ c = 2 ∨ (5 ≤ c ∧ c ≤ 14) ∨ c = 21 ∨ c = 22 ∨ c = 33 → M'.1 c = M.1 c) ∧ M'.1 0 2 = M.1 0 2 ∧ M'.1 0 10 = M.1 0 10 ∧ M'.1 0 51 = M.1 0 51
/-- the rows told: the same ones, where B holds -/
def gp_rw (B : Prop) (Mc Mr : gz_M) : Prop := ∃ r r' : List Int64, r.length ≤ 1024 ∧ r'.length ≤ 64 ∧ gp_wC Mc r ∧ gp_wR Mr r' ∧ (B → r = r')
def gp_ans (B : Prop) (cu : Nat) (Mc Mr : gz_M) (a b : Option (Int32 × gz_M)) : Prop := ∃ v Mc' Mr', a = some (v, Mc') ∧ b = some (v, Mr') ∧ gp_qC cu Mc Mc' ∧ gp_qR Mr Mr' ∧ gp_rw B Mc' Mr'
def gp_cW (cu : Nat) (M : gz_M) (ts : List gp_K) : Prop := (cu = 30 ∨ cu = 60) ∧ gz_cIx (M.1 0 5) = cu ∧ gp_cC cu M ts ∧ ts.length ≤ 24
def gp_Q (B : Prop) (cu : Nat) (Mc Mr : gz_M) (T : gp_T) (l : List Nat) : Prop := gp_wT T ∧ gp_tC 11 Mc T ∧ gp_tR Mr T ∧ gp_lC 9 Mc l ∧ gp_lR Mr l ∧ gp_cW cu Mc (gp_cut T l) ∧ gz_cIx (Mc.1 0 8) = 90 - cu ∧ gp_rw B Mc Mr
section
variable {B : Prop} {k k0 k1 m S s x p cu : Nat} {M M' Mc Mr Mc' Mr' : gz_M} {r : List Int64} {T : gp_T} {l : List Nat} {ts : List gp_K}
theorem gp_qC.refl : gp_qC cu M M := ⟨fun _ _ => rfl, rfl, rfl⟩
theorem gp_qR.refl : gp_qR M M := ⟨fun _ _ => rfl, rfl, rfl, rfl⟩
theorem gp_qC.trans {M1 M2 M3 : gz_M} (a : gp_qC cu M1 M2) (b : gp_qC cu M2 M3) : gp_qC cu M1 M3 := ⟨fun c hc => (b.1 c hc).trans (a.1 c hc), b.2.1.trans a.2.1, b.2.2.trans a.2.2⟩
theorem gp_qR.trans {M1 M2 M3 : gz_M} (a : gp_qR M1 M2) (b : gp_qR M2 M3) : gp_qR M1 M3 := ⟨fun c hc => (b.1 c hc).trans (a.1 c hc), b.2.1.trans a.2.1, b.2.2.1.trans a.2.2.1, b.2.2.2.trans a.2.2.2⟩
theorem gp_fC.qq (hcu : 0 < cu) (h : gp_fC M M') : gp_qC cu M M' := ⟨fun c hc => h.1 c (by omega), h.2 _ (by omega), h.2 _ (by omega)⟩
theorem gp_fR.qq (h : gp_fR M M') : gp_qR M M' := ⟨fun c hc => h.1 c (by omega), h.2 _ (by omega), h.2 _ (by omega), h.2 _ (by omega)⟩
theorem gp_cutL.qq (h : gp_cutL M M') : gp_qR M M' := ⟨fun c hc => h.2.1 c (by omega) (by omega), h.2.2 _ (by omega) (by omega) (by omega) (by omega) (by omega), h.2.2 _ (by omega) (by omega) (by omega) (by omega) (by omega), h.2.2 _ (by omega) (by omega) (by omega) (by omega) (by omega)⟩
/-- thrown is set -/
theorem gp_thr (v : Int32) : gp_qR M (gz_w M 0 5 v) ∧ gp_fR (gz_w M 0 5 v) (gz_w M 0 5 v) := ⟨⟨fun c hc => gp_wc _ (by omega), gp_gn (by omega), gp_gn (by omega), gp_gn (by omega)⟩, gp_fR.refl _⟩
theorem gp_wR.fr (h : gp_wR M r) (e : M'.2 = M.2) (e0 : M'.1 0 4 = M.1 0 4) : gp_wR M' r := ⟨by rw [e0]; exact h.1, fun i hi => by rw [e]; exact h.2 i hi⟩
theorem gp_wC.fr (h : gp_wC M r) (e : M'.2 = M.2) (e0 : M'.1 0 15 = M.1 0 15) : gp_wC M' r := ⟨by rw [e0]; exact h.1, fun i hi => by rw [e]; exact h.2 i hi⟩
theorem gp_cC.fr (h : gp_cC k M ts) (e : ∀ c, k ≤ c → c < k + 9 → M'.1 c = M.1 c) : gp_cC k M' ts := by
  refine ⟨?_, ?_, fun i hi => ?_⟩
  · rw [e _ (by omega) (by omega)]; exact h.1
  · rw [e _ (by omega) (by omega)]; exact h.2.1
  · rw [e _ (by omega) (by omega), e _ (by omega) (by omega), e _ (by omega) (by omega), e _ (by omega) (by omega), e _ (by omega) (by omega), e _ (by omega) (by omega), e _ (by omega) (by omega), e _ (by omega) (by omega)]
    exact h.2.2 i hi
theorem gp_cW.fr (h : gp_cW cu M ts) (e : gp_fC M M') : gp_cW cu M' ts := by
  obtain ⟨h1, h2, h3, h4⟩ := h
  exact ⟨h1, by rw [e.2 _ (by omega)]; exact h2, h3.fr (fun c c1 c2 => e.1 c (by omega)), h4⟩
theorem gp_kR.fr (h : gp_kR M ts) (e : gp_fR M M') : gp_kR M' ts := by
  obtain ⟨h1, h2, h3⟩ := h
  exact ⟨by rw [e.2 _ (by omega)]; exact h1, by rw [e.2 _ (by omega)]; exact h2, fun i hi => (h3 i hi).fr (fun y _ => by rw [e.1 _ (by omega)])⟩
theorem gp_Q.row (h : gp_Q B cu Mc Mr T l) (hr : gp_rw B Mc' Mr') (e : gp_qC cu Mc Mc') (e' : gp_qR Mr Mr') : gp_Q B cu Mc' Mr' T l := by
  obtain ⟨h1, h2, h3, h4, h5, ⟨h6, h7, h8, h9⟩, h10, h11⟩ := h
  exact ⟨h1, h2.fr (fun c c1 c2 => e.1 c (by omega)), h3.fr (fun c c1 c2 => e'.1 c (by omega)) e'.2.2.1, h4.fr (fun c c1 c2 => e.1 c (by omega)), h5.fr (e'.1 1 (by omega)), ⟨h6, by rw [e.2.1]; exact h7, h8.fr (fun c c1 c2 => e.1 c (by omega)), h9⟩, by rw [e.2.2]; exact h10, hr⟩
theorem gp_of (h : gp_kR M ts) {i j : Nat} (hts : ts.length ≤ 24) (hi : i < ts.length) (hj : j < 12) : f12_of (nI i) (nI j) M = some (M.1 17 (12 * i + j), M) := by
  unfold f12_of
  rw [show (12 : Int32) = nI 12 from rfl, pk_mul, nI_add, gp_ckb (by omega) (by omega), nI_clamp (by omega)]
/-- refused: nothing told, thrown 0 -/
theorem gp_ansN (h : gp_Q B cu Mc Mr T l) (v : Int32) {a b : Option (Int32 × gz_M)} (ha : a = some (v, Mc)) (hb : b = some (v, gz_w Mr 0 5 0)) : gp_ans B cu Mc Mr a b := by
  obtain ⟨r, r', h0, h1, h2, h3, h4⟩ := h.2.2.2.2.2.2.2
  exact ⟨v, Mc, _, ha, hb, gp_qC.refl, (gp_thr 0).1, r, r', h0, h1, h2, h3.fr rfl (gp_gn (by omega)), h4⟩
theorem gp_ansI {v : Int32} {a b : Option (Int32 × gz_M)} (ha : a = some (v, Mc')) (hb : b = some (v, Mr')) (q1 : gp_qC cu Mc Mc') (q2 : gp_qR Mr Mr') (c3 : gp_wC Mc' r) (r3 : gp_wR Mr' r) (hr : r.length ≤ 64) : gp_ans B cu Mc Mr a b := ⟨v, Mc', Mr', ha, hb, q1, q2, r, r, by omega, hr, c3, r3, fun _ => rfl⟩
theorem gp_ansK {v : Int32} {a b : Option (Int32 × gz_M)} (ha : a = some (v, Mc')) (hb : b = some (v, Mr')) (q1 : gp_qC cu Mc Mc') (q2 : gp_qR Mr Mr') (h8 : gp_rw B Mc Mr) (ec : Mc'.2 = Mc.2) (ec0 : Mc'.1 0 15 = Mc.1 0 15) (er : Mr'.2 = Mr.2) (er0 : Mr'.1 0 4 = Mr.1 0 4) : gp_ans B cu Mc Mr a b := by
  obtain ⟨r, r', h0, h1, h2, h3, h4⟩ := h8
  exact ⟨v, Mc', Mr', ha, hb, q1, q2, r, r', h0, h1, h2.fr ec ec0, h3.fr er er0, h4⟩
/-- the reference's cut behind thrown -/
theorem gp_cutT (h : gp_Q B cu Mc Mr T l) : ∃ M', f12_cutAll 0 (gz_w Mr 0 5 0) = some M' ∧ gp_qR Mr M' ∧ gp_kR M' (gp_cut T l) ∧ gp_tR M' T ∧ gp_lR M' l ∧ M'.1 0 5 = 0 ∧ M'.2 = Mr.2 ∧ M'.1 0 4 = Mr.1 0 4 ∧ M'.1 0 32 = nI (gp_reads (gp_cut T l)) := by
  obtain ⟨h1, h2, h3, h4, h5, _⟩ := h
  have ht : gp_tR (gz_w Mr 0 5 0) T := h3.fr (fun c c1 c2 => gp_wc _ (by omega)) (gp_gn (by omega))
  have hl : gp_lR (gz_w Mr 0 5 0) l := h5.fr (gp_wc _ (by omega))
  obtain ⟨M', e1, e2, e3, e4, e5, e6⟩ := gp_cutAll0 h1 ht hl
  exact ⟨M', e1, (gp_thr 0).1.trans e2.qq, e4, ht.fr (fun c c1 c2 => e2.2.1 c (by omega) (by omega)) (e2.2.2 _ (by omega) (by omega) (by omega) (by omega) (by omega)), hl.fr (e2.2.1 1 (by omega) (by omega)), (e2.2.2 _ (by omega) (by omega) (by omega) (by omega) (by omega)).trans (gp_gs _ _ _ _), e2.1, (e2.2.2 _ (by omega) (by omega) (by omega) (by omega) (by omega)).trans (gp_gn (by omega)), e5⟩
/-! promise 9: cut -/
theorem gp_a9 (h : gp_Q B cu Mc Mr T l) : gp_ans B cu Mc Mr (f11_cut Mc) (f12_cut Mr) := by
  have hq := h
  obtain ⟨h1, h2, h3, h4, h5, h6, h7, h8⟩ := h
  have hlen := h6.2.2.2
  have hcu := h6.1
  have hok := gp_cut_ok (l := l) h1
  have h42 : l.length ≤ 24 := h4.1
  obtain ⟨M1, e1, e2, e3, e4, e5, e6, e7, e8, _⟩ := gp_cutT hq
  generalize hts : gp_cut T l = ts at *
  -- the component
  have c : ∃ b, f11_cut_7 gz_FU (nI 0) (gz_w Mc 0 15 0) = some b ∧ ∃ M', b = (nI ts.length, M') ∧ gp_fC Mc M' ∧ gp_wC M' (ts.map fun t => (nI t.2.2.1).toInt64) := by
    refine gp_for (fun n x (M : gz_M) => f11_cut_7 n (nI x) M) ts.length (fun x M => gp_fC Mc M ∧ gp_wC M ((ts.take x).map fun t => (nI t.2.2.1).toInt64)) _ (fun n M hI => ?_) (fun n x M hx hI => Or.inr ?_) gz_FU 0 _ (by omega) (by unfold gz_FU; omega) ⟨(gp_wC0 Mc).1, (gp_wC0 Mc).2⟩
    · have hW := h6.fr hI.1
      refine ⟨_, ?_, M, rfl, hI.1, ?_⟩
      · show f11_cut_7 (n + 1) (nI ts.length) M = _
        rw [f11_cut_7, hW.2.1, hW.2.2.1.1, if_pos (nI_le (Nat.le_refl _) (by omega))]
      · have := hI.2
        rwa [List.take_length] at this
    · have hW := h6.fr hI.1
      obtain ⟨M', f1, f2, f3⟩ := gp_tellC (nI (ts.getD x gp_k0).2.2.1).toInt64 hI.2 (by simp; omega)
      refine ⟨M', ?_, hI.1.trans f2, ?_⟩
      · show f11_cut_7 (n + 1) (nI x) M = f11_cut_7 n (nI (x + 1)) M'
        rw [f11_cut_7, hW.2.1, hW.2.2.1.1, if_neg (nI_ge hx (by omega)), gp_ckb (by omega) (by omega), nI_clamp (by omega), (hW.2.2.1.2.2 x hx).2.2.1, f1, gp_eB, gp_eL, nI_1]
      · rw [gp_take (d := gp_k0) hx, List.map_append]
        exact f3
  have r : ∃ b, f12_cut_17 gz_FU (nI 0) (gz_w M1 0 4 0) = some b ∧ ∃ M', b = (nI ts.length, M') ∧ gp_fR M1 M' ∧ gp_wR M' (ts.map fun t => (nI t.2.2.1).toInt64) := by
    refine gp_for (fun n x (M : gz_M) => f12_cut_17 n (nI x) M) ts.length (fun x M => gp_fR M1 M ∧ gp_wR M ((ts.take x).map fun t => (nI t.2.2.1).toInt64)) _ (fun n M hI => ?_) (fun n x M hx hI => Or.inr ?_) gz_FU 0 _ (by omega) (by unfold gz_FU; omega) ⟨(gp_wR0 M1).1, (gp_wR0 M1).2⟩
    · have hW := e3.fr hI.1
      refine ⟨_, ?_, M, rfl, hI.1, ?_⟩
      · show f12_cut_17 (n + 1) (nI ts.length) M = _
        rw [f12_cut_17, hW.1, if_pos (nI_le (Nat.le_refl _) (by omega))]
      · have := hI.2
        rwa [List.take_length] at this
    · have hW := e3.fr hI.1
      obtain ⟨M', f1, f2, f3⟩ := gp_tellR (nI (ts.getD x gp_k0).2.2.1).toInt64 hI.2 (by simp; omega)
      refine ⟨M', ?_, hI.1.trans f2, ?_⟩
      · show f12_cut_17 (n + 1) (nI x) M = f12_cut_17 n (nI (x + 1)) M'
        rw [f12_cut_17, hW.1, if_neg (nI_ge hx (by omega)), show (2 : Int32) = nI 2 from rfl, gp_of hW hlen hx (by omega), gp_eB2, (hW.2.2 x hx).2.2.1, f1, gp_eB, gp_eL, nI_1]
      · rw [gp_take (d := gp_k0) hx, List.map_append]
        exact f3
  obtain ⟨_, c1, Mc', rfl, c2, c3⟩ := c
  obtain ⟨_, r1, Mr', rfl, r2, r3⟩ := r
  refine gp_ansI (v := nI ts.length) ?_ ?_ (c2.qq (by omega)) (e2.trans r2.qq) c3 r3 ?_
  · unfold f11_cut
    exact c1
  · unfold f12_cut
    rw [gp_eL, e1, gp_eB, gp_eL]
    exact r1
  · rw [List.length_map]
    omega
end
end
section
/-! questions about tokens: 12 holds, 13 stuck, 14 by, 27 touched -/
def gp_stk (ts : List gp_K) : Nat := (ts.filter fun t => t.1.isNone).length
section
variable {B : Prop} {k k0 k1 m S s x p cu : Nat} {M M' Mc Mr Mc' Mr' : gz_M} {T : gp_T} {l : List Nat} {ts : List gp_K} {r : List Int64}
theorem gp_oE {o : Option Nat} (h : ∀ j, o = some j → j < 2 ^ 31) : (gp_o o = -1) = (o.isNone = true) := by
  cases o with
  | none => exact propext ⟨fun _ => rfl, fun _ => rfl⟩
  | some j =>
    rw [gp_oS, gp_m1, gp_ne1 (h j rfl)]
    simp
theorem gp_itO {α : Type} {o : Option Nat} (h : ∀ j, o = some j → j < 2 ^ 31) (A B : α) : (if gp_o o = -1 then A else B) = if o.isNone = true then A else B := by
  simp only [gp_oE h]
theorem gp_stk_snoc (A : List gp_K) (t : gp_K) : gp_stk (A ++ [t]) = gp_stk A + if t.1.isNone = true then 1 else 0 := by
  unfold gp_stk
  rw [List.filter_append, List.length_append]
  congr 1
  by_cases h : t.1.isNone = true <;> simp [List.filter, h]
theorem gp_stk_le (A : List gp_K) : gp_stk A ≤ A.length := List.length_filter_le _ _
/-- rules of tokens are small -/
theorem gp_rS {n : Nat} (hw : gp_wT T) (hok : ∀ t, t ∈ ts → gp_tkOk T n t) (hx : x < ts.length) : ∀ j, (ts.getD x gp_k0).1 = some j → j < 2 ^ 31 := fun j hj => by
  have := (hok _ (gp_getD_mem hx)).2.2.2.1 j hj
  have := hw.1
  omega
theorem gp_stuckC {n : Nat} (hw : gp_wT T) (hok : ∀ t, t ∈ ts → gp_tkOk T n t) (h : gp_cC k M ts) (hlen : ts.length ≤ 24) : f2_stuckTokens k M = some (nI (gp_stk ts), M) := by
  have c : ∃ b, f2_stuckTokens_4 k gz_FU (nI 0) (nI 0) M = some b ∧ b = (nI (gp_stk ts), M) := by
    refine gp_for (fun n x (a : Int32) => f2_stuckTokens_4 k n a (nI x) M) ts.length (fun x a => a = nI (gp_stk (ts.take x))) _ (fun n a hI => ?_) (fun n x a hx hI => Or.inr ?_) gz_FU 0 _ (by omega) (by unfold gz_FU; omega) rfl
    · refine ⟨_, ?_, rfl⟩
      show f2_stuckTokens_4 k (n + 1) a (nI ts.length) M = _
      rw [f2_stuckTokens_4, h.1, if_pos (nI_le (Nat.le_refl _) (by omega)), hI, List.take_length]
    · refine ⟨_, ?_, rfl⟩
      show f2_stuckTokens_4 k (n + 1) a (nI x) M = f2_stuckTokens_4 k n _ (nI (x + 1)) M
      rw [f2_stuckTokens_4, h.1, if_neg (nI_ge hx (by omega)), gp_ckb (by omega) (by omega), nI_clamp (by omega), (h.2.2 x hx).1, gp_itO (gp_rS hw hok hx), hI, gp_take (d := gp_k0) hx, gp_stk_snoc]
      split
      · rw [gp_eL, gp_eL, nI_1, nI_1]
      · rw [gp_eL, gp_eL, nI_1]
        congr 1
        exact nI_add _ 0
  obtain ⟨_, c1, rfl⟩ := c
  exact c1
theorem gp_ofK (h : gp_kR M ts) (hlen : ts.length ≤ 24) {i : Nat} (hi : i < ts.length) : f12_of (nI i) 0 M = some (gp_o (ts.getD i gp_k0).1, M) ∧ f12_of (nI i) 1 M = some (nI (ts.getD i gp_k0).2.1, M) ∧ f12_of (nI i) 2 M = some (nI (ts.getD i gp_k0).2.2.1, M) ∧ f12_of (nI i) 3 M = some (nI (if (ts.getD i gp_k0).2.2.2.2.1.isSome = true then (ts.getD i gp_k0).2.2.2.1 else (ts.getD i gp_k0).2.2.2.1 + 1), M) ∧ f12_of (nI i) 4 M = some (nI (ts.getD i gp_k0).2.2.2.2.2.1, M) ∧ f12_of (nI i) 5 M = some (nI (ts.getD i gp_k0).2.2.2.2.2.2.length, M) ∧ f12_of (nI i) 6 M = some (gp_o (ts.getD i gp_k0).2.2.2.2.1, M) := by
  obtain ⟨h1, h2, h3, h4, h5, h6, h7, h8⟩ := h.2.2 i hi
  refine ⟨?_, ?_, ?_, ?_, ?_, ?_, ?_⟩
  · rw [show (0 : Int32) = nI 0 from rfl, gp_of h hlen hi (by omega), Nat.add_zero, h1]
  · rw [show (1 : Int32) = nI 1 from rfl, gp_of h hlen hi (by omega), h2]
  · rw [show (2 : Int32) = nI 2 from rfl, gp_of h hlen hi (by omega), h3]
  · rw [show (3 : Int32) = nI 3 from rfl, gp_of h hlen hi (by omega), h4]
  · rw [show (4 : Int32) = nI 4 from rfl, gp_of h hlen hi (by omega), h5]
  · rw [show (5 : Int32) = nI 5 from rfl, gp_of h hlen hi (by omega), h6]
  · rw [show (6 : Int32) = nI 6 from rfl, gp_of h hlen hi (by omega), h7]
theorem gp_stuckR {n : Nat} (hw : gp_wT T) (hok : ∀ t, t ∈ ts → gp_tkOk T n t) (h : gp_kR M ts) (hlen : ts.length ≤ 24) : f12_stuckMany M = some (nI (gp_stk ts), M) := by
  have c : ∃ b, f12_stuckMany_4 gz_FU (nI 0) (nI 0) M = some b ∧ b = (nI (gp_stk ts), M) := by
    refine gp_for (fun n x (a : Int32) => f12_stuckMany_4 n a (nI x) M) ts.length (fun x a => a = nI (gp_stk (ts.take x))) _ (fun n a hI => ?_) (fun n x a hx hI => Or.inr ?_) gz_FU 0 _ (by omega) (by unfold gz_FU; omega) rfl
    · refine ⟨_, ?_, rfl⟩
      show f12_stuckMany_4 (n + 1) a (nI ts.length) M = _
      rw [f12_stuckMany_4, h.1, if_pos (nI_le (Nat.le_refl _) (by omega)), hI, List.take_length]
    · refine ⟨_, ?_, rfl⟩
      show f12_stuckMany_4 (n + 1) a (nI x) M = f12_stuckMany_4 n _ (nI (x + 1)) M
      rw [f12_stuckMany_4, h.1, if_neg (nI_ge hx (by omega)), (gp_ofK h hlen hx).1, gp_eB2, gp_itO (gp_rS hw hok hx), hI, gp_take (d := gp_k0) hx, gp_stk_snoc]
      split
      · rw [gp_eL, gp_eL, nI_1, nI_1]
      · rw [gp_eL, gp_eL, nI_1]
        congr 1
        exact nI_add _ 0
  obtain ⟨_, c1, rfl⟩ := c
  exact c1
/-! promise 13: stuck -/
def gp_stT (t : gp_K) : List Int64 := if t.1.isNone = true then [(nI t.2.1).toInt64, (gp_o t.2.2.2.2.1).toInt64] else []
theorem gp_stT_len (A : List gp_K) : (A.flatMap gp_stT).length ≤ 2 * A.length := by
  induction A with
  | nil => simp
  | cons t A ih =>
    rw [List.flatMap_cons, List.length_append, List.length_cons]
    have : (gp_stT t).length ≤ 2 := by unfold gp_stT; split <;> simp
    omega
theorem gp_a13 (h : gp_Q B cu Mc Mr T l) : gp_ans B cu Mc Mr (f11_stuck Mc) (f12_stuck Mr) := by
  have hq := h
  obtain ⟨h1, h2, h3, h4, h5, h6, h7, h8⟩ := h
  have hlen := h6.2.2.2
  have hcu := h6.1
  have hok := gp_cut_ok (l := l) h1
  have h42 : l.length ≤ 24 := h4.1
  obtain ⟨M1, e1, e2, e3, e4, e5, e6, e7, e8, _⟩ := gp_cutT hq
  generalize hts : gp_cut T l = ts at *
  have c : ∃ b, f11_stuck_7 gz_FU (nI 0) (gz_w Mc 0 15 0) = some b ∧ ∃ M', b = (nI (gp_stk ts), M') ∧ gp_fC Mc M' ∧ gp_wC M' (ts.flatMap gp_stT) := by
    refine gp_for (fun n x (M : gz_M) => f11_stuck_7 n (nI x) M) ts.length (fun x M => gp_fC Mc M ∧ gp_wC M ((ts.take x).flatMap gp_stT)) _ (fun n M hI => ?_) (fun n x M hx hI => Or.inr ?_) gz_FU 0 _ (by omega) (by unfold gz_FU; omega) ⟨(gp_wC0 Mc).1, (gp_wC0 Mc).2⟩
    · have hW := h6.fr hI.1
      refine ⟨_, ?_, M, rfl, hI.1, ?_⟩
      · show f11_stuck_7 (n + 1) (nI ts.length) M = _
        rw [f11_stuck_7, hW.2.1, hW.2.2.1.1, if_pos (nI_le (Nat.le_refl _) (by omega)), gp_stuckC h1 hok hW.2.2.1 hlen, gp_eB2]
      · have := hI.2
        rwa [List.take_length] at this
    · have hW := h6.fr hI.1
      have hv := hW.2.2.1.2.2 x hx
      have hl := gp_stT_len (ts.take x)
      rw [List.length_take, Nat.min_eq_left (by omega)] at hl
      by_cases hn : (ts.getD x gp_k0).1.isNone = true
      · obtain ⟨M2, f1, f2, f3⟩ := gp_tellC (nI (ts.getD x gp_k0).2.1).toInt64 hI.2 (by omega)
        have hW2 := hW.fr f2
        obtain ⟨M3, g1, g2, g3⟩ := gp_tellC (gp_o (ts.getD x gp_k0).2.2.2.2.1).toInt64 f3 (by rw [List.length_append, List.length_singleton]; omega)
        refine ⟨M3, ?_, (hI.1.trans f2).trans g2, ?_⟩
        · show f11_stuck_7 (n + 1) (nI x) M = f11_stuck_7 n (nI (x + 1)) M3
          rw [f11_stuck_7, hW.2.1, hW.2.2.1.1, if_neg (nI_ge hx (by omega)), gp_ckb (by omega) (by omega), nI_clamp (by omega), hv.1, gp_itO (gp_rS h1 hok hx), if_pos hn, gp_ckb (by omega) (by omega), hv.2.1, f1, gp_eB, gp_ckb (by omega) (by omega), hW2.2.1, (hW2.2.2.1.2.2 x hx).2.2.2.2.1, g1, gp_eB, gp_eL, nI_1]
        · rw [gp_take (d := gp_k0) hx, List.flatMap_append]
          have : [ts.getD x gp_k0].flatMap gp_stT = [(nI (ts.getD x gp_k0).2.1).toInt64] ++ [(gp_o (ts.getD x gp_k0).2.2.2.2.1).toInt64] := by
            unfold gp_stT
            simp only [List.flatMap_cons, List.flatMap_nil, List.append_nil]
            rw [if_pos hn]; rfl
          rw [this, ← List.append_assoc]
          exact g3
      · refine ⟨M, ?_, hI.1, ?_⟩
        · show f11_stuck_7 (n + 1) (nI x) M = f11_stuck_7 n (nI (x + 1)) M
          rw [f11_stuck_7, hW.2.1, hW.2.2.1.1, if_neg (nI_ge hx (by omega)), gp_ckb (by omega) (by omega), nI_clamp (by omega), hv.1, gp_itO (gp_rS h1 hok hx), if_neg hn, gp_eL, nI_1]
        · rw [gp_take (d := gp_k0) hx, List.flatMap_append]
          have : [ts.getD x gp_k0].flatMap gp_stT = [] := by
            unfold gp_stT
            simp only [List.flatMap_cons, List.flatMap_nil, List.append_nil]
            rw [if_neg hn]
          rw [this, List.append_nil]
          exact hI.2
  have r : ∃ b, f12_stuck_17 gz_FU (nI 0) (gz_w M1 0 4 0) = some b ∧ ∃ M', b = (nI (gp_stk ts), M') ∧ gp_fR M1 M' ∧ gp_wR M' (ts.flatMap gp_stT) := by
    refine gp_for (fun n x (M : gz_M) => f12_stuck_17 n (nI x) M) ts.length (fun x M => gp_fR M1 M ∧ gp_wR M ((ts.take x).flatMap gp_stT)) _ (fun n M hI => ?_) (fun n x M hx hI => Or.inr ?_) gz_FU 0 _ (by omega) (by unfold gz_FU; omega) ⟨(gp_wR0 M1).1, (gp_wR0 M1).2⟩
    · have hW := e3.fr hI.1
      refine ⟨_, ?_, M, rfl, hI.1, ?_⟩
      · show f12_stuck_17 (n + 1) (nI ts.length) M = _
        rw [f12_stuck_17, hW.1, if_pos (nI_le (Nat.le_refl _) (by omega)), gp_stuckR h1 hok hW hlen, gp_eB2]
      · have := hI.2
        rwa [List.take_length] at this
    · have hW := e3.fr hI.1
      have hl := gp_stT_len (ts.take x)
      rw [List.length_take, Nat.min_eq_left (by omega)] at hl
      by_cases hn : (ts.getD x gp_k0).1.isNone = true
      · obtain ⟨M2, f1, f2, f3⟩ := gp_tellR (nI (ts.getD x gp_k0).2.1).toInt64 hI.2 (by omega)
        have hW2 := hW.fr f2
        obtain ⟨M3, g1, g2, g3⟩ := gp_tellR (gp_o (ts.getD x gp_k0).2.2.2.2.1).toInt64 f3 (by rw [List.length_append, List.length_singleton]; omega)
        refine ⟨M3, ?_, (hI.1.trans f2).trans g2, ?_⟩
        · show f12_stuck_17 (n + 1) (nI x) M = f12_stuck_17 n (nI (x + 1)) M3
          rw [f12_stuck_17, hW.1, if_neg (nI_ge hx (by omega)), (gp_ofK hW hlen hx).1, gp_eB2, gp_itO (gp_rS h1 hok hx), if_pos hn, (gp_ofK hW hlen hx).2.1, gp_eB2, f1, gp_eB, (gp_ofK hW2 hlen hx).2.2.2.2.2.2, gp_eB2, g1, gp_eB, gp_eL, nI_1]
        · rw [gp_take (d := gp_k0) hx, List.flatMap_append]
          have : [ts.getD x gp_k0].flatMap gp_stT = [(nI (ts.getD x gp_k0).2.1).toInt64] ++ [(gp_o (ts.getD x gp_k0).2.2.2.2.1).toInt64] := by
            unfold gp_stT
            simp only [List.flatMap_cons, List.flatMap_nil, List.append_nil]
            rw [if_pos hn]; rfl
          rw [this, ← List.append_assoc]
          exact g3
      · refine ⟨M, ?_, hI.1, ?_⟩
        · show f12_stuck_17 (n + 1) (nI x) M = f12_stuck_17 n (nI (x + 1)) M
          rw [f12_stuck_17, hW.1, if_neg (nI_ge hx (by omega)), (gp_ofK hW hlen hx).1, gp_eB2, gp_itO (gp_rS h1 hok hx), if_neg hn, gp_eL, nI_1]
        · rw [gp_take (d := gp_k0) hx, List.flatMap_append]
          have : [ts.getD x gp_k0].flatMap gp_stT = [] := by
            unfold gp_stT
            simp only [List.flatMap_cons, List.flatMap_nil, List.append_nil]
            rw [if_neg hn]
          rw [this, List.append_nil]
          exact hI.2
  obtain ⟨_, c1, Mc', rfl, c2, c3⟩ := c
  obtain ⟨_, r1, Mr', rfl, r2, r3⟩ := r
  refine gp_ansI (v := nI (gp_stk ts)) c1 ?_ (c2.qq (by omega)) (e2.trans r2.qq) c3 r3 ?_
  · unfold f12_stuck
    rw [gp_eL, e1, gp_eB, gp_eL]
    exact r1
  · have := gp_stT_len ts
    omega
end
end
