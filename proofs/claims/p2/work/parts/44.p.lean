/-! tokens: rule, first place, place behind, behind the last sign read, the dead sign, mode, modes behind it (the topmost first) -/
abbrev gp_K : Type := Option Nat × Nat × Nat × Nat × Option Nat × Nat × List Nat
def gp_k0 : gp_K := (none, 0, 0, 0, none, 0, [])
def gp_act (T : gp_T) (r : Option Nat) (stk : List Nat) : List Nat :=
  match r with
  | none => stk
  | some k => if T.2.2 3 k = 1 then (if stk.length ≤ 1 then stk else stk.tail) else if T.2.2 3 k = 2 then ((T.2.1 k).toNatClampNeg :: stk).take 5 else if T.2.2 3 k = 3 then (T.2.1 k).toNatClampNeg :: stk.tail else stk
def gp_tokO (T : gp_T) (p : Nat) (stk : List Nat) (R : Option Nat × Nat × Nat × Option Nat × List Nat) : gp_K := (R.1, p, (if R.1.isSome = true then R.2.1 else p + 1), R.2.2.1, R.2.2.2.1, stk.headD 0, gp_act T R.1 stk)
def gp_tok (T : gp_T) (l : List Nat) (p : Nat) (stk : List Nat) : gp_K := gp_tokO T p stk (gp_rm T (stk.headD 0) gp_F0 (l.drop p) p (T.2.2 8 (stk.headD 0)) none p)
def gp_cutF (T : gp_T) (l : List Nat) : Nat → Nat → List Nat → List gp_K
  | 0, _, _ => []
  | n + 1, p, stk => if p < l.length then gp_tok T l p stk :: gp_cutF T l n (gp_tok T l p stk).2.2.1 (gp_tok T l p stk).2.2.2.2.2.2 else []
def gp_cut (T : gp_T) (l : List Nat) : List gp_K := gp_cutF T l 24 0 [0]
def gp_most (ts : List gp_K) : Nat := ts.foldl (fun a t => max a t.2.2.2.2.2.2.length) 1
def gp_enc : List Nat → Nat
  | [] => 0
  | d :: t => d + 4 * gp_enc t
/-- modes on one another -/
def gp_sk (stk : List Nat) : Prop := 0 < stk.length ∧ stk.length ≤ 5 ∧ ∀ d, d ∈ stk → d < 4
def gp_cA (k : Nat) (M : gz_M) (ts : List gp_K) : Prop := ∀ i, i < ts.length → M.1 (k + 1) i = gp_o (ts.getD i gp_k0).1 ∧ M.1 (k + 2) i = nI (ts.getD i gp_k0).2.1 ∧ M.1 (k + 3) i = nI (ts.getD i gp_k0).2.2.1 ∧ M.1 (k + 4) i = nI (ts.getD i gp_k0).2.2.2.1 ∧ M.1 (k + 5) i = gp_o (ts.getD i gp_k0).2.2.2.2.1 ∧ M.1 (k + 6) i = nI (ts.getD i gp_k0).2.2.2.2.2.1 ∧ M.1 (k + 7) i = nI (ts.getD i gp_k0).2.2.2.2.2.2.length ∧ M.1 (k + 8) i = nI (gp_enc (ts.getD i gp_k0).2.2.2.2.2.2)
def gp_cC (k : Nat) (M : gz_M) (ts : List gp_K) : Prop := M.1 k 0 = nI ts.length ∧ M.1 k 1 = nI (gp_most ts) ∧ gp_cA k M ts
theorem gp_max {a b : Nat} (ha : a < 2 ^ 31) (hb : b < 2 ^ 31) : gz_max (nI a) (nI b) = nI (max a b) := by
  unfold gz_max
  by_cases h : a < b
  · rw [if_pos (nI_lt h hb), Nat.max_eq_right (by omega)]
  · rw [if_neg (nI_nlt (by omega) ha), Nat.max_eq_left (by omega)]
theorem gp_min {a b : Nat} (ha : a < 2 ^ 31) (hb : b < 2 ^ 31) : gz_min (nI a) (nI b) = nI (min a b) := by
  unfold gz_min
  by_cases h : b < a
  · rw [if_pos (nI_lt h ha), Nat.min_eq_right (by omega)]
  · rw [if_neg (nI_nlt (by omega) hb), Nat.min_eq_left (by omega)]
theorem gp_enc_lt : ∀ {stk : List Nat}, (∀ d, d ∈ stk → d < 4) → gp_enc stk < 4 ^ stk.length
  | [], _ => by decide
  | d :: t, h => by
    have h1 := gp_enc_lt (stk := t) (fun d hd => h d (List.mem_cons_of_mem _ hd))
    have h2 := h d List.mem_cons_self
    rw [gp_enc, List.length_cons, Nat.pow_succ]
    omega
theorem gp_sk.lt {stk : List Nat} (h : gp_sk stk) : gp_enc stk < 1024 := by
  have h1 := gp_enc_lt h.2.2
  have h2 : 4 ^ stk.length ≤ 4 ^ 5 := Nat.pow_le_pow_right (by decide) h.2.1
  omega
theorem gp_enc_take : ∀ (n : Nat) {stk : List Nat}, (∀ d, d ∈ stk → d < 4) → gp_enc (stk.take n) = gp_enc stk % 4 ^ n
  | 0, _, _ => by simp [gp_enc, Nat.mod_one]
  | n + 1, [], _ => by simp [gp_enc]
  | n + 1, d :: t, h => by
    have h1 := gp_enc_take n (stk := t) (fun d hd => h d (List.mem_cons_of_mem _ hd))
    have h2 := h d List.mem_cons_self
    rw [List.take_succ_cons, gp_enc, gp_enc, h1, Nat.pow_succ, Nat.mul_comm (4 ^ n) 4]
    have h3 : (d + 4 * gp_enc t) % (4 * 4 ^ n) = d + 4 * (gp_enc t % 4 ^ n) := by
      rw [Nat.mod_mul]
      have : (d + 4 * gp_enc t) % 4 = d := by omega
      have h4 : (d + 4 * gp_enc t) / 4 = gp_enc t := by omega
      rw [this, h4]
    rw [h3]
theorem gp_shl2 {a : Nat} : gz_shl (nI a) 2 = nI (a * 4) := by
  unfold gz_shl
  have := pk_shlN (n := a % 2 ^ 30) (2 &&& 31) 2 (by decide) (by omega)
  apply Int32.toBitVec_inj.mp
  have e : (nI a <<< ((2 : Int32) &&& 31)).toBitVec = (nI a).toBitVec <<< (2 : Nat) := by
    rw [Int32.toBitVec_shiftLeft]
    rfl
  rw [e]
  apply BitVec.eq_of_toNat_eq
  simp [nI, Nat.shiftLeft_eq]
theorem gp_shr2 {a : Nat} (ha : a < 2 ^ 31) : gz_shr (nI a) 2 = nI (a / 4) := by
  have := gp_shr ha (show 2 < 32 by decide)
  rw [Nat.shiftRight_eq_div_pow] at this
  exact this
theorem gp_push {e d : Nat} (he : e < 1024) (hd : d < 4) : ((gz_shl (nI e) 2) ||| nI d) &&& 1023 = nI ((d + 4 * e) % 1024) := by
  have h1 : (1023 : Int32) = nI 1023 := rfl
  rw [gp_shl2, gp_or, h1, gp_and]
  have h2 : e * 4 ||| d = e * 4 + d := by
    have := Nat.shiftLeft_add_eq_or_of_lt (i := 2) (b := d) (by omega) e
    rw [Nat.shiftLeft_eq] at this
    exact this.symm
  rw [h2]
  have h3 : (e * 4 + d) &&& 1023 = (e * 4 + d) % 2 ^ 10 := Nat.and_two_pow_sub_one_eq_mod _ 10
  rw [h3]
  congr 1
  omega
theorem gp_inpl {e d : Nat} (he : e < 1024) (hd : d < 4) : (nI e &&& (-4)) ||| nI d = nI (d + 4 * (e / 4)) := by
  have h : ∀ e : Fin 1024, ∀ d : Fin 4, (nI e.val &&& (-4)) ||| nI d.val = nI (d.val + 4 * (e.val / 4)) := by decide +kernel
  exact h ⟨e, he⟩ ⟨d, hd⟩
theorem gp_and3 (e : Nat) : nI e &&& 3 = nI (e % 4) := by
  have h1 : (3 : Int32) = nI 3 := rfl
  rw [h1, gp_and]
  have h3 : e &&& 3 = e % 2 ^ 2 := Nat.and_two_pow_sub_one_eq_mod _ 2
  rw [h3]
theorem gp_act_sk {T : gp_T} {r : Option Nat} {stk : List Nat} (hw : gp_wT T) (hr : ∀ k, r = some k → k < T.1) (h : gp_sk stk) : gp_sk (gp_act T r stk) := by
  cases r with
  | none => exact h
  | some k =>
    have h1 := hw.2.1 k (hr k rfl)
    obtain ⟨d, t, rfl⟩ : ∃ d t, stk = d :: t := by
      cases stk with
      | nil => exact absurd h.1 (by decide)
      | cons d t => exact ⟨d, t, rfl⟩
    have hl : t.length + 1 ≤ 5 := h.2.1
    have ht : ∀ x, x ∈ t → x < 4 := fun x hx => h.2.2 x (List.mem_cons_of_mem _ hx)
    unfold gp_act
    dsimp only
    split
    · split
      · exact h
      · rename_i h3
        simp only [List.length_cons] at h3
        exact ⟨by show 0 < t.length; omega, by show t.length ≤ 5; omega, fun x hx => ht x hx⟩
    · split
      · obtain ⟨d', hd', e⟩ := h1.2.2.2.2.2 (by omega)
        rw [e, nI_clamp (by omega)]
        refine ⟨by simp, by simp; omega, fun x hx => ?_⟩
        have := List.mem_of_mem_take hx
        rcases List.mem_cons.mp this with rfl | h5
        · exact hd'
        · exact h.2.2 x h5
      · split
        · obtain ⟨d', hd', e⟩ := h1.2.2.2.2.2 (by omega)
          rw [e, nI_clamp (by omega)]
          refine ⟨by simp, by simp; omega, fun x hx => ?_⟩
          rcases List.mem_cons.mp hx with rfl | h5
          · exact hd'
          · exact ht x h5
        · exact h
section
variable {k k0 k1 m S s x p q : Nat} {M M' : gz_M} {T : gp_T} {l : List Nat}
theorem gp_doAct (hw : gp_wT T) (hk : k + 9 ≤ k0 ∨ k0 + 19 ≤ k) (r : Option Nat) (hr : ∀ j, r = some j → j < T.1) (stk : List Nat) (hs : gp_sk stk) (mo : Nat) (hmo : stk.length ≤ mo) (hmo2 : mo ≤ 5) (M : gz_M) (ht : gp_tC k0 M T) (h1 : M.1 k 1 = nI mo) (h10 : M.1 k 10 = nI stk.length) (h11 : M.1 k 11 = nI (gp_enc stk)) :
    ∃ M', f2_doAct k k0 (gp_o r) M = some M' ∧ M'.2 = M.2 ∧ (∀ c, c ≠ k → M'.1 c = M.1 c) ∧ (∀ i, i ≠ 1 → i ≠ 10 → i ≠ 11 → M'.1 k i = M.1 k i) ∧ M'.1 k 10 = nI (gp_act T r stk).length ∧ M'.1 k 11 = nI (gp_enc (gp_act T r stk)) ∧ M'.1 k 1 = nI (max mo (gp_act T r stk).length) := by
  have hlt := hs.lt
  cases r with
  | none =>
    refine ⟨M, ?_, rfl, fun _ _ => rfl, fun _ _ _ _ => rfl, h10, h11, ?_⟩
    · unfold f2_doAct
      rw [if_pos (by decide)]
    · rw [gp_act, h1, Nat.max_eq_left hmo]
  | some j =>
    have hj := hr j rfl
    have hw1 := hw.1
    have hwj := hw.2.1 j hj
    have htj := ht.2.1 j hj
    have hsk := gp_act_sk hw hr hs
    have hl5 := hsk.2.1
    have hs5 := hs.2.1
    have fin : ∀ M1 : gz_M, M1.2 = M.2 → (∀ c, c ≠ k → M1.1 c = M.1 c) → (∀ i, i ≠ 1 → i ≠ 10 → i ≠ 11 → M1.1 k i = M.1 k i) → M1.1 k 10 = nI (gp_act T (some j) stk).length → M1.1 k 11 = nI (gp_enc (gp_act T (some j) stk)) → M1.1 k 1 = nI mo → ∃ M', f2_doAct_136 k k0 M1 = some M' ∧ M'.2 = M.2 ∧ (∀ c, c ≠ k → M'.1 c = M.1 c) ∧ (∀ i, i ≠ 1 → i ≠ 10 → i ≠ 11 → M'.1 k i = M.1 k i) ∧ M'.1 k 10 = nI (gp_act T (some j) stk).length ∧ M'.1 k 11 = nI (gp_enc (gp_act T (some j) stk)) ∧ M'.1 k 1 = nI (max mo (gp_act T (some j) stk).length) := by
      intro M1 e1 e2 e3 e4 e5 e6
      refine ⟨_, rfl, e1, fun c hc => ?_, fun i i1 i2 i3 => ?_, ?_, ?_, ?_⟩
      · rw [gp_wc _ hc, e2 c hc]
      · rw [gp_gn (by omega), e3 i i1 i2 i3]
      · rw [gp_gn (by omega), e4]
      · rw [gp_gn (by omega), e5]
      · rw [gp_gs, e6, e4, gp_max (by omega) (by omega)]
    unfold f2_doAct
    rw [gp_oS, if_neg (nI_pos (by omega)), ht.1, if_pos (nI_lt hj (by omega)), gp_ckb (by omega) (by omega), gp_eL, gp_ckb (by omega) (by omega), gp_eL, nI_clamp (by omega), htj.2.2.1, nI_toInt (by omega)]
    obtain ⟨d0, t, rfl⟩ : ∃ d t, stk = d :: t := by
      cases stk with
      | nil => exact absurd hs.1 (by decide)
      | cons d t => exact ⟨d, t, rfl⟩
    have hd0 : d0 < 4 := hs.2.2 d0 List.mem_cons_self
    have hc3 : T.2.2 3 j = 0 ∨ T.2.2 3 j = 1 ∨ T.2.2 3 j = 2 ∨ T.2.2 3 j = 3 := by omega
    rcases hc3 with e | e | e | e
    · rw [e, if_pos (by omega)]
      refine fin M rfl (fun _ _ => rfl) (fun _ _ _ _ => rfl) ?_ ?_ h1 <;> unfold gp_act <;> simp only [e] <;> simpa using by assumption
    · rw [e, if_neg (by omega), if_pos (show nI 1 = 1 from rfl), h10]
      by_cases hl : (d0 :: t).length ≤ 1
      · rw [if_pos (by exact nI_le hl (by decide))]
        refine fin M rfl (fun _ _ => rfl) (fun _ _ _ _ => rfl) ?_ ?_ h1 <;> unfold gp_act <;> simp only [e, hl, if_true] <;> assumption
      · rw [if_neg (show ¬ nI (d0 :: t).length ≤ (1 : Int32) from nI_ge (a := 1) (by omega) (by omega))]
        have ea : gp_act T (some j) (d0 :: t) = t := by unfold gp_act; simp only [e, hl, if_false, if_true]; rfl
        rw [ea] at fin ⊢
        refine fin _ rfl (fun c hc => ?_) (fun i i1 i2 i3 => ?_) ?_ ?_ ?_
        · rw [gp_wc _ hc, gp_wc _ hc]
        · rw [gp_gn (by omega), gp_gn (by omega)]
        · rw [gp_gn (by omega), gp_gs]
          exact nI_pred _
        · rw [gp_gs, gp_gn (by omega), h11, gp_shr2 (by omega)]
          congr 1
          rw [gp_enc]
          omega
        · rw [gp_gn (by omega), gp_gn (by omega), h1]
    · obtain ⟨d, hd, ed⟩ := hwj.2.2.2.2.2 (by omega)
      rw [e, if_neg (by omega), if_neg (by decide), if_pos (show nI 2 = 2 from rfl), htj.2.2.2.1, ed, gp_and3, h10]
      have ea : gp_act T (some j) (d0 :: t) = (d :: d0 :: t).take 5 := by unfold gp_act; simp only [e, ed]; rw [nI_clamp (by omega)]; rfl
      have hdm : d % 4 = d := by omega
      rw [ea] at fin ⊢
      refine fin _ rfl (fun c hc => ?_) (fun i i1 i2 i3 => ?_) ?_ ?_ ?_
      · rw [gp_wc _ hc, gp_wc _ hc]
      · rw [gp_gn (by omega), gp_gn (by omega)]
      · rw [gp_gn (by omega), gp_gs, nI_1]
        have : (5 : Int32) = nI 5 := rfl
        rw [this, gp_min (by omega) (by omega), List.length_take]
        simp [Nat.min_comm]
      · rw [gp_gs, gp_gn (by omega), h11, hdm, gp_push hlt hd, gp_enc_take 5 (by
          intro x hx
          rcases List.mem_cons.mp hx with rfl | h5
          · exact hd
          · exact hs.2.2 x h5)]
        rfl
      · rw [gp_gn (by omega), gp_gn (by omega), h1]
    · obtain ⟨d, hd, ed⟩ := hwj.2.2.2.2.2 (by omega)
      rw [e, if_neg (by omega), if_neg (by decide), if_neg (by decide), if_pos (show nI 3 = 3 from rfl), htj.2.2.2.1, ed, gp_and3, h11]
      have ea : gp_act T (some j) (d0 :: t) = d :: t := by unfold gp_act; simp only [e, ed]; rw [nI_clamp (by omega)]; rfl
      have hdm : d % 4 = d := by omega
      rw [ea] at fin ⊢
      refine fin _ rfl (fun c hc => ?_) (fun i i1 i2 i3 => ?_) ?_ ?_ ?_
      · rw [gp_wc _ hc]
      · rw [gp_gn (by omega)]
      · rw [gp_gn (by omega), h10]
        rfl
      · rw [gp_gs, hdm, gp_inpl hlt hd, gp_enc, gp_enc]
        congr 1
        omega
      · rw [gp_gn (by omega), h1]
end
