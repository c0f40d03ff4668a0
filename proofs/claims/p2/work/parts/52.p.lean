/-! the row that is told; loops; bounds -/
theorem gp_for {σ β : Type} (f : Nat → Nat → σ → Option β) (N : Nat) (I : Nat → σ → Prop) (Q : β → Prop) (hend : ∀ n s, I N s → ∃ b, f (n + 1) N s = some b ∧ Q b) (hstep : ∀ n x s, x < N → I x s → (∃ b, f (n + 1) x s = some b ∧ Q b) ∨ ∃ s', f (n + 1) x s = f n (x + 1) s' ∧ I (x + 1) s') : ∀ n x s, x ≤ N → N < x + n → I x s → ∃ b, f n x s = some b ∧ Q b := by
  have main : ∀ d n x s, x + d = N → d < n → I x s → ∃ b, f n x s = some b ∧ Q b := by
    intro d
    induction d with
    | zero =>
      intro n x s hx hn hI
      obtain ⟨n, rfl⟩ : ∃ q, n = q + 1 := ⟨n - 1, by omega⟩
      have : x = N := by omega
      subst this
      exact hend n s hI
    | succ d ih =>
      intro n x s hx hn hI
      obtain ⟨n, rfl⟩ : ∃ q, n = q + 1 := ⟨n - 1, by omega⟩
      rcases hstep n x s (by omega) hI with h | ⟨s', e, hI'⟩
      · exact h
      · rw [e]
        exact ih n (x + 1) s' (by omega) (by omega) hI'
  intro n x s hx hn hI
  exact main (N - x) n x s (by omega) (by omega) hI
theorem gp_forE {σ β : Type} (f : Nat → Nat → σ → Option β) (N : Nat) (I : Nat → σ → Prop) (b : β) (hend : ∀ n s, I N s → f (n + 1) N s = some b) (hstep : ∀ n x s, x < N → I x s → f (n + 1) x s = some b ∨ ∃ s', f (n + 1) x s = f n (x + 1) s' ∧ I (x + 1) s') (n x : Nat) (s : σ) (hx : x ≤ N) (hn : N < x + n) (hI : I x s) : f n x s = some b := by
  obtain ⟨c, e, rfl⟩ := gp_for f N I (fun c => c = b) (fun n s h => ⟨b, hend n s h, rfl⟩) (fun n x s h1 h2 => (hstep n x s h1 h2).imp (fun h => ⟨b, h, rfl⟩) id) n x s hx hn hI
  exact e
theorem gp_forU {β : Type} (f : Nat → Nat → Option β) (N : Nat) (b : β) (hend : ∀ n, f (n + 1) N = some b) (hstep : ∀ n x, x < N → f (n + 1) x = f n (x + 1)) (n : Nat) (hn : N < n) : f n 0 = some b :=
  gp_forE (fun n x (_ : Unit) => f n x) N (fun _ _ => True) b (fun n _ _ => hend n) (fun n x _ h _ => Or.inr ⟨(), hstep n x h, trivial⟩) n 0 () (by omega) (by omega) trivial
theorem gp_take {α : Type} {d : α} {L : List α} {x : Nat} (h : x < L.length) : L.take (x + 1) = L.take x ++ [L.getD x d] := by
  rw [List.take_succ_eq_append_getElem h]
  simp [List.getD, h]
theorem gp_add0 (a : Nat) : nI a + 0 = nI a := nI_add a 0
theorem gp_lNi {n : Nat} (h : n < 2 ^ 31) : (nI n).toInt64 = lN n := nI_l h
def gp_wC (M : gz_M) (r : List Int64) : Prop := M.1 0 15 = nI r.length ∧ ∀ i, i < r.length → M.2 i = r.getD i 0
def gp_wR (M : gz_M) (r : List Int64) : Prop := M.1 0 4 = nI r.length ∧ ∀ i, i < r.length → M.2 i = r.getD i 0
/-- all but the row -/
def gp_fC (M M' : gz_M) : Prop := (∀ c, c ≠ 0 → M'.1 c = M.1 c) ∧ ∀ i, i ≠ 15 → M'.1 0 i = M.1 0 i
def gp_fR (M M' : gz_M) : Prop := (∀ c, c ≠ 0 → M'.1 c = M.1 c) ∧ ∀ i, i ≠ 4 → M'.1 0 i = M.1 0 i
theorem gp_fC.refl (M : gz_M) : gp_fC M M := ⟨fun _ _ => rfl, fun _ _ => rfl⟩
theorem gp_fR.refl (M : gz_M) : gp_fR M M := ⟨fun _ _ => rfl, fun _ _ => rfl⟩
theorem gp_fC.trans {M1 M2 M3 : gz_M} (a : gp_fC M1 M2) (b : gp_fC M2 M3) : gp_fC M1 M3 := ⟨fun c hc => (b.1 c hc).trans (a.1 c hc), fun i hi => (b.2 i hi).trans (a.2 i hi)⟩
theorem gp_fR.trans {M1 M2 M3 : gz_M} (a : gp_fR M1 M2) (b : gp_fR M2 M3) : gp_fR M1 M3 := ⟨fun c hc => (b.1 c hc).trans (a.1 c hc), fun i hi => (b.2 i hi).trans (a.2 i hi)⟩
theorem gp_tellC {M : gz_M} {r : List Int64} (x : Int64) (h : gp_wC M r) (hr : r.length < 1024) : ∃ M', f11_tell x M = some M' ∧ gp_fC M M' ∧ gp_wC M' (r ++ [x]) := by
  unfold f11_tell
  rw [h.1, if_neg (nI_pos (by omega)), if_neg (by exact nI_ge hr (by decide)), gp_ckb hr (by omega), gp_eL, gp_eL, nI_clamp (by omega)]
  refine ⟨_, rfl, ⟨fun c hc => ?_, fun i hi => ?_⟩, ?_, fun i hi => ?_⟩
  · rw [gp_wc _ hc]; rfl
  · rw [gp_gn (by omega)]; rfl
  · rw [gp_gs, gp_l1, h.1, nI_1, List.length_append]; rfl
  · rw [List.length_append] at hi
    rw [gp_gl]
    by_cases hi1 : i < r.length
    · rw [gp_ln (by omega), gp_getD_l hi1]
      exact h.2 i hi1
    · have : i = r.length := by simp at hi; omega
      subst this
      rw [gp_ls, gp_getD_r]
theorem gp_tellR {M : gz_M} {r : List Int64} (x : Int64) (h : gp_wR M r) (hr : r.length < 64) : ∃ M', f12_tell x M = some M' ∧ gp_fR M M' ∧ gp_wR M' (r ++ [x]) := by
  unfold f12_tell
  rw [h.1, gp_ckb hr (by omega), gp_eL, gp_eL, nI_clamp (by omega)]
  refine ⟨_, rfl, ⟨fun c hc => ?_, fun i hi => ?_⟩, ?_, fun i hi => ?_⟩
  · rw [gp_wc _ hc]; rfl
  · rw [gp_gn (by omega)]; rfl
  · rw [gp_gs, gp_l1, h.1, nI_1, List.length_append]; rfl
  · rw [List.length_append] at hi
    rw [gp_gl]
    by_cases hi1 : i < r.length
    · rw [gp_ln (by omega), gp_getD_l hi1]
      exact h.2 i hi1
    · have : i = r.length := by simp at hi; omega
      subst this
      rw [gp_ls, gp_getD_r]
theorem gp_wC0 (M : gz_M) : gp_fC M (gz_w M 0 15 0) ∧ gp_wC (gz_w M 0 15 0) [] := ⟨⟨fun c hc => gp_wc _ hc, fun i hi => gp_gn (by omega)⟩, gp_gs _ _ _ _, fun i hi => absurd hi (by simp)⟩
theorem gp_wR0 (M : gz_M) : gp_fR M (gz_w M 0 4 0) ∧ gp_wR (gz_w M 0 4 0) [] := ⟨⟨fun c hc => gp_wc _ hc, fun i hi => gp_gn (by omega)⟩, gp_gs _ _ _ _, fun i hi => absurd hi (by simp)⟩
theorem gp_pI {n : Nat} (h : n < 2 ^ 31) : (nI n - 1).toInt = (n : Int) - 1 := by
  cases n with
  | zero => decide
  | succ n => rw [nI_pred, nI_toInt (by omega)]; omega
theorem gp_in0 {a : Int32} (b : Int32) (M : gz_M) (h : a < 0) : f12_in a 0 b M = some (0, M) := by unfold f12_in; rw [if_pos h]
theorem gp_in0b {a : Int32} {n : Nat} (M : gz_M) (hn : n < 2 ^ 31) (h0 : ¬ a < 0) (h : nI n ≤ a) : f12_in a 0 (nI n - 1) M = some (0, M) := by
  unfold f12_in
  rw [if_neg h0, if_pos]
  apply Int32.lt_iff_toInt_lt.mpr
  have := Int32.le_iff_toInt_le.mp h
  rw [nI_toInt hn] at this
  rw [gp_pI hn]
  omega
theorem gp_in1 {j n : Nat} (M : gz_M) (hn : n < 2 ^ 31) (h : j < n) : f12_in (nI j) 0 (nI n - 1) M = some (1, M) := by
  unfold f12_in
  rw [if_neg (nI_pos (by omega)), if_neg]
  intro h2
  have := Int32.lt_iff_toInt_lt.mp h2
  rw [gp_pI hn, nI_toInt (by omega)] at this
  omega
theorem gp_inm0 {a : Int32} (b : Int32) (M : gz_M) (h : a < -1) : f12_in a (-1) b M = some (0, M) := by unfold f12_in; rw [if_pos h]
theorem gp_inm0b {a : Int32} {n : Nat} (M : gz_M) (hn : n < 2 ^ 31) (h : nI n ≤ a) : f12_in a (-1) (nI n - 1) M = some (0, M) := by
  unfold f12_in
  split
  · rfl
  · rw [if_pos]
    apply Int32.lt_iff_toInt_lt.mpr
    have := Int32.le_iff_toInt_le.mp h
    rw [nI_toInt hn] at this
    rw [gp_pI hn]
    omega
theorem gp_inmn {n : Nat} (M : gz_M) (hn : n < 2 ^ 31) : f12_in (-1) (-1) (nI n - 1) M = some (1, M) := by
  unfold f12_in
  rw [if_neg (by decide), if_neg]
  intro h2
  have := Int32.lt_iff_toInt_lt.mp h2
  rw [gp_pI hn, show ((-1 : Int32)).toInt = -1 by decide] at this
  omega
theorem gp_inm1 {j n : Nat} (M : gz_M) (hn : n < 2 ^ 31) (h : j < n) : f12_in (nI j) (-1) (nI n - 1) M = some (1, M) := by
  unfold f12_in
  rw [if_neg (by rw [gp_m1, gp_nolt (by omega)]; exact id), if_neg]
  intro h2
  have := Int32.lt_iff_toInt_lt.mp h2
  rw [gp_pI hn, nI_toInt (by omega)] at this
  omega
/-- below -1, -1, a place, above -/
theorem gp_ixm (x : Int32) {n : Nat} (hn : n < 2 ^ 31) : x < -1 ∨ x = -1 ∨ nI n ≤ x ∨ ∃ j : Nat, j < n ∧ x = nI j := by
  rcases pk_ix x hn with h | h | h
  · by_cases h1 : x < -1
    · exact Or.inl h1
    · right; left
      have a := Int32.lt_iff_toInt_lt.mp h
      have b : ¬ x.toInt < (-1 : Int32).toInt := fun h => h1 (Int32.lt_iff_toInt_lt.mpr h)
      rw [show ((-1 : Int32)).toInt = -1 by decide] at b
      rw [show ((0 : Int32)).toInt = 0 by decide] at a
      apply Int32.toInt_inj.mp
      rw [show ((-1 : Int32)).toInt = -1 by decide]
      omega
  · exact Or.inr (Or.inr (Or.inl h))
  · exact Or.inr (Or.inr (Or.inr h))
theorem gp_isModeE (a : Int32) : (¬ a < 0 ∧ ¬ 4 ≤ a ∧ ∃ m, m < 4 ∧ a = nI m) ∨ ((a < 0 ∨ 4 ≤ a) ∧ ∀ M, f11_isMode a M = some (0, M) ∧ f12_isMode a M = some (0, M)) := by
  rcases pk_ix a (n := 4) (by decide) with h | h | ⟨j, h1, h2⟩
  · right
    refine ⟨Or.inl h, fun M => ⟨?_, ?_⟩⟩
    · unfold f11_isMode; rw [if_pos h]
    · unfold f12_isMode; rw [gp_in0 _ _ h]; rfl
  · right
    have h0 : ¬ a < 0 := by
      intro h1
      have a1 := Int32.le_iff_toInt_le.mp h
      have a2 := Int32.lt_iff_toInt_lt.mp h1
      rw [nI_toInt (by omega)] at a1
      rw [show ((0 : Int32)).toInt = 0 by decide] at a2
      omega
    refine ⟨Or.inr h, fun M => ⟨?_, ?_⟩⟩
    · unfold f11_isMode; rw [if_neg h0, if_pos (by exact h)]
    · unfold f12_isMode; rw [show (3 : Int32) = nI 4 - 1 by decide, gp_in0b _ (by omega) h0 h]; rfl
  · left
    subst h2
    exact ⟨nI_pos (by omega), nI_ge h1 (by decide), j, h1, rfl⟩
theorem gp_isModeR {m : Nat} (hm : m < 4) (M : gz_M) : f12_isMode (nI m) M = some (1, M) := by
  unfold f12_isMode
  rw [show (3 : Int32) = nI 4 - 1 by decide, gp_in1 _ (by omega) hm]
  rfl
