/-! the pure side: what the f's answer. Total correctness of an f, and its rows -/
def gp_wp {α : Type} (a : Option α) (Q : α → Prop) : Prop := ∃ r, a = some r ∧ Q r
theorem gp_wpS {α : Type} {r : α} {Q : α → Prop} : gp_wp (some r) Q ↔ Q r := by
  constructor
  · rintro ⟨r', h, q⟩; cases h; exact q
  · exact fun q => ⟨r, rfl, q⟩
theorem gp_wpN {α : Type} {Q : α → Prop} : gp_wp none Q ↔ False := by
  constructor
  · rintro ⟨r', h, q⟩; cases h
  · exact False.elim
theorem gp_wpL {α β : Type} {a : α} {f : α → Option β} {Q : β → Prop} : gp_wp (gz_lt a f) Q ↔ gp_wp (f a) Q := Iff.rfl
theorem gp_wpC {β : Type} {b : Bool} {a : Option β} {Q : β → Prop} : gp_wp (gz_ck b a) Q ↔ (b = true ∧ gp_wp a Q) := by
  cases b
  · constructor
    · rintro ⟨r', h, q⟩; cases h
    · rintro ⟨h, _⟩; cases h
  · exact ⟨fun h => ⟨rfl, h⟩, fun h => h.2⟩
theorem gp_wpB {α β : Type} {a : Option α} {f : α → Option β} {Q : β → Prop} : gp_wp (gz_bd a f) Q ↔ gp_wp a (fun r => gp_wp (f r) Q) := by
  cases a with
  | none => constructor <;> rintro ⟨r', h, q⟩ <;> cases h
  | some v => exact ⟨fun h => ⟨v, rfl, h⟩, fun h => by obtain ⟨r, e, q⟩ := h; cases e; exact q⟩
theorem gp_wpB2 {α β γ : Type} {a : Option (α × β)} {f : α → β → Option γ} {Q : γ → Prop} : gp_wp (gz_bd2 a f) Q ↔ gp_wp a (fun r => gp_wp (f r.1 r.2) Q) := by
  cases a with
  | none => constructor <;> rintro ⟨r', h, q⟩ <;> cases h
  | some v => exact ⟨fun h => ⟨v, rfl, h⟩, fun h => by obtain ⟨r, e, q⟩ := h; cases e; exact q⟩
theorem gp_wpB3 {α β γ δ : Type} {a : Option (α × β × γ)} {f : α → β → γ → Option δ} {Q : δ → Prop} : gp_wp (gz_bd3 a f) Q ↔ gp_wp a (fun r => gp_wp (f r.1 r.2.1 r.2.2) Q) := by
  cases a with
  | none => constructor <;> rintro ⟨r', h, q⟩ <;> cases h
  | some v => exact ⟨fun h => ⟨v, rfl, h⟩, fun h => by obtain ⟨r, e, q⟩ := h; cases e; exact q⟩
theorem gp_wpI {α : Type} {c : Prop} [Decidable c] {a b : Option α} {Q : α → Prop} : gp_wp (if c then a else b) Q ↔ (c → gp_wp a Q) ∧ (¬ c → gp_wp b Q) := by
  by_cases h : c
  · rw [if_pos h]; exact ⟨fun q => ⟨fun _ => q, fun n => absurd h n⟩, fun q => q.1 h⟩
  · rw [if_neg h]; exact ⟨fun q => ⟨fun n => absurd n h, fun _ => q⟩, fun q => q.2 h⟩
theorem gp_wpM {α : Type} {a : Option α} {Q Q' : α → Prop} (h : gp_wp a Q) (k : ∀ r, Q r → Q' r) : gp_wp a Q' := by
  obtain ⟨r, e, q⟩ := h
  exact ⟨r, e, k r q⟩
theorem gp_wpE {α : Type} {a : Option α} {Q : α → Prop} {r : α} (e : a = some r) (q : Q r) : gp_wp a Q := ⟨r, e, q⟩
/-! equations of the words -/
theorem gp_eL {α β : Type} (a : α) (f : α → β) : gz_lt a f = f a := rfl
theorem gp_eB {α β : Type} (v : α) (f : α → Option β) : gz_bd (some v) f = f v := rfl
theorem gp_eB2 {α β γ : Type} (v : α) (w : β) (f : α → β → Option γ) : gz_bd2 (some (v, w)) f = f v w := rfl
theorem gp_eB3 {α β γ δ : Type} (v : α) (w : β) (z : γ) (f : α → β → γ → Option δ) : gz_bd3 (some (v, w, z)) f = f v w z := rfl
theorem gp_eC {β : Type} (a : Option β) : gz_ck true a = a := rfl
theorem gp_eCn {β : Type} (a : Option β) : gz_ck false a = none := rfl
theorem gp_inb {i n : Nat} (h : i < n) (hn : i < 2 ^ 31) : gz_inb (nI i) n = true := by
  unfold gz_inb
  rw [decide_eq_true_iff]
  rintro (h1 | h1)
  · exact nI_pos hn h1
  · rw [nI_clamp hn] at h1; omega
theorem gp_ckb {β : Type} {i n : Nat} (h : i < n) (hn : i < 2 ^ 31) (a : Option β) : gz_ck (gz_inb (nI i) n) a = a := by rw [gp_inb h hn, gp_eC]
/-! memory -/
theorem gp_gs (M : gz_M) (k i : Nat) (v : Int32) : (gz_w M k i v).1 k i = v := by
  simp [gz_w, upd]
theorem gp_gn {M : gz_M} {k i a b : Nat} {v : Int32} (h : ¬ (a = k ∧ b = i)) : (gz_w M k i v).1 a b = M.1 a b := by
  by_cases h1 : a = k
  · subst h1
    have h2 : ¬ b = i := fun e => h ⟨rfl, e⟩
    simp [gz_w, upd, h2]
  · simp [gz_w, h1]
theorem gp_gl (M : gz_M) (k i : Nat) (v : Int32) : (gz_w M k i v).2 = M.2 := rfl
theorem gp_l1 (M : gz_M) (i : Nat) (v : Int64) : (gz_wl M i v).1 = M.1 := rfl
theorem gp_ls (M : gz_M) (i : Nat) (v : Int64) : (gz_wl M i v).2 i = v := by simp [gz_wl, vp_updL]
theorem gp_ln {M : gz_M} {i b : Nat} {v : Int64} (h : ¬ b = i) : (gz_wl M i v).2 b = M.2 b := by simp [gz_wl, vp_updL, h]
/-! numbers as nI -/
theorem gp_lt0 (n : Nat) : (OfNat.ofNat n : Int32) = nI n := rfl
theorem gp_n0 : (0 : Int32) = nI 0 := rfl
theorem gp_n1 : (1 : Int32) = nI 1 := rfl
theorem gp_n2 : (2 : Int32) = nI 2 := rfl
theorem gp_n3 : (3 : Int32) = nI 3 := rfl
theorem gp_n4 : (4 : Int32) = nI 4 := rfl
theorem gp_n5 : (5 : Int32) = nI 5 := rfl
theorem gp_n6 : (6 : Int32) = nI 6 := rfl
theorem gp_n7 : (7 : Int32) = nI 7 := rfl
theorem gp_n8 : (8 : Int32) = nI 8 := rfl
theorem gp_n10 : (10 : Int32) = nI 10 := rfl
theorem gp_n12 : (12 : Int32) = nI 12 := rfl
theorem gp_n24 : (24 : Int32) = nI 24 := rfl
theorem gp_n25 : (25 : Int32) = nI 25 := rfl
theorem gp_n1024 : (1024 : Int32) = nI 1024 := rfl
theorem gp_or (a b : Nat) : nI a ||| nI b = nI (a ||| b) := by
  apply Int32.toBitVec_inj.mp
  simp [nI, BitVec.ofNat_or]
theorem gp_and (a b : Nat) : nI a &&& nI b = nI (a &&& b) := by
  apply Int32.toBitVec_inj.mp
  simp [nI, BitVec.ofNat_and]
theorem gp_lt0f {i : Nat} (h : i < 2 ^ 31) : (nI i < nI 0) = False := eq_false (by rw [nI_0]; exact nI_pos h)
theorem gp_lte {a b : Nat} (ha : a < 2 ^ 31) (hb : b < 2 ^ 31) : (nI a < nI b) = (a < b) := propext (nI_ltI ha hb)
theorem gp_lee {a b : Nat} (ha : a < 2 ^ 31) (hb : b < 2 ^ 31) : (nI a ≤ nI b) = (a ≤ b) := propext (nI_leI ha hb)
theorem gp_eqe {a b : Nat} (ha : a < 2 ^ 31) (hb : b < 2 ^ 31) : (nI a = nI b) = (a = b) := propext (nI_eq ha hb)
def gp_no : Int32 := -1
theorem gp_m1 : (-1 : Int32) = gp_no := rfl
theorem gp_ne1 {a : Nat} (ha : a < 2 ^ 31) : (nI a = gp_no) = False := eq_false (fun h => by
  rw [← gp_m1] at h
  have h1 := congrArg Int32.toInt h
  rw [nI_toInt ha] at h1
  have h2 : ((-1 : Int32)).toInt = -1 := by decide
  rw [h2] at h1
  omega)
theorem gp_ne2 {a : Nat} (ha : a < 2 ^ 31) : (gp_no = nI a) = False := eq_false (fun h => by
  have h1 := gp_ne1 ha
  rw [h] at h1
  simp at h1)
theorem gp_nolt {a : Nat} (ha : a < 2 ^ 31) : (nI a < gp_no) = False := eq_false (fun h => by
  have h1 := Int32.lt_iff_toInt_lt.mp h
  rw [nI_toInt ha] at h1
  have h2 : (gp_no).toInt = -1 := by decide
  rw [h2] at h1
  omega)
theorem gp_nolt2 {a : Nat} (ha : a < 2 ^ 31) : (gp_no < nI a) = True := eq_true (by
  apply Int32.lt_iff_toInt_lt.mpr
  rw [nI_toInt ha]
  have h2 : (gp_no).toInt = -1 := by decide
  rw [h2]
  omega)
theorem gp_nolt3 : (gp_no < gp_no) = False := by decide
theorem gp_nole {a : Nat} (ha : a < 2 ^ 31) : (nI a ≤ gp_no) = False := eq_false (fun h => by
  have h1 := Int32.le_iff_toInt_le.mp h
  rw [nI_toInt ha] at h1
  have h2 : (gp_no).toInt = -1 := by decide
  rw [h2] at h1
  omega)
theorem gp_nole2 {a : Nat} (ha : a < 2 ^ 31) : (gp_no ≤ nI a) = True := eq_true (by
  apply Int32.le_iff_toInt_le.mpr
  rw [nI_toInt ha]
  have h2 : (gp_no).toInt = -1 := by decide
  rw [h2]
  omega)
theorem gp_sl : ∀ n, n < 32 → ((nI n &&& 31).toBitVec.smod 32).toNat = n := by decide +kernel
theorem gp_shr {a i : Nat} (ha : a < 2 ^ 31) (hi : i < 32) : gz_shr (nI a) (nI i) = nI (a >>> i) := by
  unfold gz_shr
  rw [pk_shrN ha _ i (gp_sl i hi), Nat.shiftRight_eq_div_pow]
theorem gp_shl1 {i : Nat} (hi : i < 32) : gz_shl (nI 1) (nI i) = nI (1 <<< i) := by
  have h : ∀ i : Nat, i < 32 → gz_shl (nI 1) (nI i) = nI (1 <<< i) := by decide +kernel
  exact h i hi
theorem gp_bit {a i : Nat} (ha : a < 2 ^ 31) (hi : i < 32) : ((gz_shr (nI a) (nI i) &&& nI 1) = nI 0) = (a.testBit i = false) := by
  rw [gp_shr ha hi, gp_and]
  have h1 : (a >>> i) &&& 1 < 2 := by have := @Nat.and_le_right (a >>> i) 1; omega
  rw [gp_eqe (by omega) (by omega), Nat.testBit]
  have e : (1 &&& a >>> i) = (a >>> i &&& 1) := Nat.and_comm _ _
  rw [e]
  have h2 : (a >>> i) &&& 1 = 0 ∨ (a >>> i) &&& 1 = 1 := by omega
  rcases h2 with h2 | h2 <;> rw [h2] <;> simp
theorem gp_bit1 {a i : Nat} (ha : a < 2 ^ 31) (hi : i < 32) : ((gz_shr (nI a) (nI i) &&& nI 1) = nI 1) = (a.testBit i = true) := by
  rw [gp_shr ha hi, gp_and]
  have h1 : (a >>> i) &&& 1 < 2 := by have := @Nat.and_le_right (a >>> i) 1; omega
  rw [gp_eqe (by omega) (by omega), Nat.testBit]
  have e : (1 &&& a >>> i) = (a >>> i &&& 1) := Nat.and_comm _ _
  rw [e]
  have h2 : (a >>> i) &&& 1 = 0 ∨ (a >>> i) &&& 1 = 1 := by omega
  rcases h2 with h2 | h2 <;> rw [h2] <;> simp
/-- bits of many -/
def gp_orN (f : Nat → Nat) : Nat → Nat
  | 0 => 0
  | n + 1 => gp_orN f n ||| f n
theorem gp_orN_lt {f : Nat → Nat} {b : Nat} : ∀ {n : Nat}, (∀ i, i < n → f i < 2 ^ b) → gp_orN f n < 2 ^ b
  | 0, _ => Nat.two_pow_pos b
  | n + 1, h => Nat.or_lt_two_pow (gp_orN_lt (fun i hi => h i (by omega))) (h n (by omega))
theorem gp_orN_bit {f : Nat → Nat} {x : Nat} : ∀ {n : Nat}, (gp_orN f n).testBit x = true ↔ ∃ i, i < n ∧ (f i).testBit x = true
  | 0 => by simp [gp_orN]
  | n + 1 => by
    rw [gp_orN, Nat.testBit_or, Bool.or_eq_true, gp_orN_bit]
    constructor
    · rintro (⟨i, h1, h2⟩ | h)
      · exact ⟨i, by omega, h2⟩
      · exact ⟨n, by omega, h⟩
    · rintro ⟨i, h1, h2⟩
      by_cases h : i = n
      · subst h; exact Or.inr h2
      · exact Or.inl ⟨i, by omega, h2⟩
theorem gp_orN_ext {f g : Nat → Nat} : ∀ {n : Nat}, (∀ i, i < n → f i = g i) → gp_orN f n = gp_orN g n
  | 0, _ => rfl
  | n + 1, h => by rw [gp_orN, gp_orN, gp_orN_ext (fun i hi => h i (by omega)), h n (by omega)]
def gp_o : Option Nat → Int32
  | none => gp_no
  | some k => nI k
theorem gp_oN : gp_o none = gp_no := rfl
theorem gp_oS (k : Nat) : gp_o (some k) = nI k := rfl
/-- the first one from i on, n of them looked at -/
def gp_fst (p : Nat → Bool) : Nat → Nat → Option Nat
  | 0, _ => none
  | n + 1, i => if p i = true then some i else gp_fst p n (i + 1)
