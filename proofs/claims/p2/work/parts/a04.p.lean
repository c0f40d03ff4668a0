/-! loops that fill a row -/
def gp_fl (M : gz_M) (c o N : Nat) (v : Nat → Int32) : gz_M := (fun a i => if a = c ∧ o ≤ i ∧ i < o + N then v (i - o) else M.1 a i, M.2)
section
variable {M : gz_M} {c o N : Nat} {v : Nat → Int32}
theorem gp_fl_0 : gp_fl M c o 0 v = M := by
  unfold gp_fl
  refine Prod.ext (funext fun a => funext fun i => ?_) rfl
  dsimp only
  rw [if_neg (by omega)]
theorem gp_fl_s : gz_w (gp_fl M c o N v) c (o + N) (v N) = gp_fl M c o (N + 1) v := by
  refine Prod.ext (funext fun a => funext fun i => ?_) rfl
  by_cases h : a = c ∧ i = o + N
  · rw [h.1, h.2, gp_gs]
    unfold gp_fl
    dsimp only
    rw [if_pos ⟨rfl, by omega, by omega⟩, Nat.add_sub_cancel_left]
  · rw [gp_gn h]
    unfold gp_fl
    dsimp only
    by_cases h1 : a = c ∧ o ≤ i ∧ i < o + N
    · rw [if_pos h1, if_pos (by omega)]
    · rw [if_neg h1, if_neg (by omega)]
theorem gp_fl_c {a : Nat} (h : a ≠ c) : (gp_fl M c o N v).1 a = M.1 a := by
  funext i
  unfold gp_fl
  dsimp only
  rw [if_neg (fun h' => h h'.1)]
theorem gp_fl_i {i : Nat} (h : i < N) : (gp_fl M c o N v).1 c (o + i) = v i := by
  unfold gp_fl
  dsimp only
  rw [if_pos ⟨rfl, by omega, by omega⟩, Nat.add_sub_cancel_left]
theorem gp_fl_n {i : Nat} (h : i < o ∨ o + N ≤ i) : (gp_fl M c o N v).1 c i = M.1 c i := by
  unfold gp_fl
  dsimp only
  rw [if_neg (by omega)]
theorem gp_fl_2 : (gp_fl M c o N v).2 = M.2 := rfl
theorem gp_fl_l {β : Type} (f : Nat → Int32 → gz_M → Option β) (K : gz_M → Option β) (hend : ∀ n, f (n + 1) (nI N) (gp_fl M c o N v) = K (gp_fl M c o N v)) (hstep : ∀ n x, x < N → f (n + 1) (nI x) (gp_fl M c o x v) = f n (nI (x + 1)) (gz_w (gp_fl M c o x v) c (o + x) (v x))) (n : Nat) (hn : N < n) : f n (nI 0) M = K (gp_fl M c o N v) := by
  have main : ∀ d x n, x + d = N → d < n → f n (nI x) (gp_fl M c o x v) = K (gp_fl M c o N v) := by
    intro d
    induction d with
    | zero =>
      intro x n hx hn
      obtain ⟨n, rfl⟩ : ∃ q, n = q + 1 := ⟨n - 1, by omega⟩
      have : x = N := by omega
      subst this
      exact hend n
    | succ d ih =>
      intro x n hx hn
      obtain ⟨n, rfl⟩ : ∃ q, n = q + 1 := ⟨n - 1, by omega⟩
      rw [hstep n x (by omega), gp_fl_s]
      exact ih (x + 1) n (by omega) (by omega)
  have := main N 0 n (by omega) hn
  rw [gp_fl_0] at this
  exact this
end
theorem gp_getD0 {α : Type} {d : α} {L : List α} {x : Nat} (h : L.length ≤ x) : L.getD x d = d := by
  simp [List.getD, h]
/-! books: rules told as a text, and a line -/
abbrev gp_Bk : Type := List Nat × List Nat
def gp_okB (b : gp_Bk) : Prop := gp_ok b.1 ∧ (∀ i, i < b.1.length → b.1.getD i 0 < 256) ∧ b.2.length ≤ 24 ∧ ∀ i, i < b.2.length → b.2.getD i 0 < 8
/-- a book of the reference: in cell c, from o on -/
def gp_rB (c o : Nat) (M : gz_M) (b : gp_Bk) : Prop := M.1 c o = nI b.1.length ∧ (∀ i, i < b.1.length → M.1 c (o + 1 + i) = nI (b.1.getD i 0)) ∧ M.1 c (o + 81) = nI b.2.length ∧ ∀ i, i < b.2.length → M.1 c (o + 82 + i) = nI (b.2.getD i 0)
/-- what laying rules may change -/
def gp_lyL (M M' : gz_M) : Prop := M'.2 = M.2 ∧ (∀ c, c ≠ 0 → c < 4 ∨ 14 < c → M'.1 c = M.1 c) ∧ ∀ i, i < 7 ∨ (10 < i ∧ i < 21) ∨ 24 < i → M'.1 0 i = M.1 0 i
theorem gp_lyL.refl (M : gz_M) : gp_lyL M M := ⟨rfl, fun _ _ _ => rfl, fun _ _ => rfl⟩
theorem gp_lyL.trans {M M1 M2 : gz_M} (h : gp_lyL M M1) (h' : gp_lyL M1 M2) : gp_lyL M M2 := ⟨h'.1.trans h.1, fun c a b => (h'.2.1 c a b).trans (h.2.1 c a b), fun i a => (h'.2.2 i a).trans (h.2.2 i a)⟩
theorem gp_lyL.w0 {i : Nat} (v : Int32) {M : gz_M} (h : (7 ≤ i ∧ i ≤ 10) ∨ (21 ≤ i ∧ i ≤ 24)) : gp_lyL M (gz_w M 0 i v) := ⟨rfl, fun c h1 h2 => gp_wc _ (by omega), fun a h1 => gp_gn (by omega)⟩
theorem gp_rL.ly {M M' : gz_M} (h : gp_rL M M') : gp_lyL M M' := ⟨h.1, fun c a b => h.2.1 c a (by omega), fun i a => h.2.2 i (by omega)⟩
section
variable {M M' : gz_M} {t : List Nat}
theorem gp_ok_flt (h : gp_ok t) : gp_flt t = none := by
  obtain ⟨_, s, h1, h2, _⟩ := h
  exact gp_flt_no h1 h2
theorem gp_ok_u (h : gp_ok t) : ∀ m, m < 4 → (gp_tab t).2.2 7 m ≤ 10 := by
  obtain ⟨_, s, h1, h2, h3⟩ := h
  intro m hm
  have : (gp_tab t).2.2 7 m = s.2.1.2.2 7 m := by
    unfold gp_tab
    rw [h1]
    dsimp only
    split
    · rfl
    · unfold gp_eR
      have e : (gp_eCh s).2.1.2.2 7 m = s.2.1.2.2 7 m := by
        have eP : (gp_eP s).2.1.2.2 7 m = s.2.1.2.2 7 m := by
          unfold gp_eP
          split
          · rfl
          · dsimp only
            unfold gp_lnO
            split
            · unfold gp_lnk
              dsimp only
              rw [if_neg (by omega)]
            · rfl
        unfold gp_eCh
        split
        · exact eP
        · exact eP
      split
      · dsimp only [gp_set]
        rw [if_neg (by omega), if_neg (by omega), if_neg (by omega)]
        exact e
      · exact e
  rw [this]
  exact h3 m hm
/-- rules of a state, that were right -/
theorem gp_lay {k0 : Nat} (hk : k0 ≠ 0 ∧ (k0 < 4 ∨ 14 < k0)) (ht : gp_ok t) (hb : ∀ i, i < t.length → t.getD i 0 < 256) (h0 : M.1 k0 0 = nI t.length) (h1 : ∀ i, i < t.length → M.1 k0 (1 + i) = nI (t.getD i 0)) : ∃ M', f12_layRules k0 M = some M' ∧ gp_lyL M M' ∧ gp_tR M' (gp_tab t) := by
  have h80 := ht.1
  obtain ⟨N, hN⟩ : ∃ N, N = gz_w M 0 7 (nI t.length) := ⟨_, rfl⟩
  have e0 : f12_layRules k0 M = f12_layRules_9 k0 gz_FU (nI 0) N := by
    unfold f12_layRules
    rw [show gz_inb 0 106 = true from gp_inb (i := 0) (by omega) (by omega), gp_eC, show (0 : Int32).toNatClampNeg = 0 from rfl, h0, gp_eL, ← hN]
    rfl
  have Nk : N.1 k0 = M.1 k0 := by rw [hN, gp_wc _ hk.1]
  have N7 : N.1 0 7 = nI t.length := by rw [hN, gp_gs]
  have lp := gp_fl_l (M := N) (c := 4) (o := 0) (N := t.length) (v := fun i => nI (t.getD i 0)) (fun n x M => f12_layRules_9 k0 n x M) (fun M1 => gz_lt (gz_w M1 0 8 0) fun M2 => gz_lt (gz_w M2 0 9 (-1)) fun M3 => gz_bd2 (f12_readRules M3) fun v4 M5 => if v4 = 0 then (gz_lt (gz_w M5 0 10 0) fun M8 => some M8) else (some M5)) (fun n => by
    show f12_layRules_9 k0 (n + 1) _ _ = _
    rw [f12_layRules_9, gp_fl_c (by omega), N7, if_pos (nI_le (Nat.le_refl _) (by omega))]) (fun n x hx => by
    show f12_layRules_9 k0 (n + 1) _ _ = f12_layRules_9 k0 n _ _
    have hx106 : (1 : Int32) + nI x = nI (1 + x) := by rw [show (1 : Int32) = nI 1 from rfl, nI_add]
    rw [f12_layRules_9, gp_fl_c (by omega), N7, if_neg (nI_ge hx (by omega)), hx106, gp_ckb (show 1 + x < 106 by omega) (by omega), gp_ckb (show x < 80 by omega) (by omega), nI_clamp (by omega), nI_clamp (by omega), gp_fl_c (show k0 ≠ 4 by omega), Nk, h1 x hx, gp_eL, gp_eL, nI_1, Nat.zero_add]) gz_FU (by unfold gz_FU; omega)
  obtain ⟨K, hK⟩ : ∃ K, K = gz_w (gz_w (gp_fl N 4 0 t.length (fun i => nI (t.getD i 0))) 0 8 0) 0 9 (-1) := ⟨_, rfl⟩
  have lK : gp_lyL M K := by
    rw [hK]
    refine ((gp_lyL.w0 (i := 7) (nI t.length) (by omega)).trans ?_).trans ((gp_lyL.w0 _ (by omega)).trans (gp_lyL.w0 _ (by omega)))
    rw [hN]
    exact ⟨rfl, fun c h1 h2 => gp_fl_c (by omega), fun i _ => by rw [gp_fl_c (by omega)]⟩
  have aK : gp_at K t 0 := by
    refine ⟨h80, Nat.zero_le _, ?_, ?_, ?_, fun i hi => ⟨?_, hb i hi⟩⟩
    · rw [hK, gp_gn (by omega), gp_gn (by omega), gp_fl_c (by omega), N7]
    · rw [hK, gp_gn (by omega), gp_gs]; rfl
    · rw [hK, gp_gs]; rfl
    · have := gp_fl_i (M := N) (c := 4) (o := 0) (N := t.length) (v := fun i => nI (t.getD i 0)) hi
      rw [Nat.zero_add] at this
      rw [hK, gp_gn (by omega), gp_gn (by omega), this]
  obtain ⟨v, M', r1, r2, r3⟩ := gp_rdRules aK
  rw [e0, show f12_layRules_9 k0 gz_FU (nI 0) N = _ from lp, gp_eL, gp_eL, ← hK, r1, gp_eB2]
  rcases r3 with ⟨r3, r4⟩ | ⟨r3, r4, r5, r6, s, r7, r8, r9, r10⟩
  · exfalso
    obtain ⟨q, _, q2, _⟩ := gp_bad_flt r4
    rw [gp_ok_flt ht] at q2
    cases q2
  · rw [r3, if_neg (by decide)]
    exact ⟨M', rfl, lK.trans r2.ly, r6.tR r5 (gp_ok_u ht)⟩
/-- the reference's text is read: what waits is read, none waits any more -/
def gp_txR (M : gz_M) (x : List Nat) : Prop := x.length ≤ 80 ∧ M.1 0 2 = nI x.length ∧ ∀ i, i < x.length → M.1 2 i &&& 255 = nI (x.getD i 0) ∧ x.getD i 0 < 256
def gp_bgL (M M' : gz_M) : Prop := M'.2 = M.2 ∧ (∀ c, c ≠ 0 → c ≠ 4 → M'.1 c = M.1 c) ∧ (∀ i, i ≠ 2 → i ≠ 7 → i ≠ 8 → i ≠ 9 → M'.1 0 i = M.1 0 i) ∧ M'.1 0 2 = 0
theorem gp_begin {x : List Nat} (h : gp_txR M x) : ∃ M', f12_begin M = some M' ∧ gp_bgL M M' ∧ gp_at M' x 0 := by
  obtain ⟨h80, h2, h3⟩ := h
  obtain ⟨N, hN⟩ : ∃ N, N = gz_w M 0 7 (nI x.length) := ⟨_, rfl⟩
  have e0 : f12_begin M = f12_begin_10 gz_FU (nI 0) N := by
    unfold f12_begin
    rw [h2, gp_eL, ← hN]
    rfl
  have N2 : N.1 2 = M.1 2 := by rw [hN, gp_wc _ (by omega)]
  have N7 : N.1 0 7 = nI x.length := by rw [hN, gp_gs]
  have lp := gp_fl_l (M := N) (c := 4) (o := 0) (N := x.length) (v := fun i => nI (x.getD i 0)) (fun n a M => f12_begin_10 n a M) (fun M1 => some (gz_w (gz_w (gz_w M1 0 8 0) 0 9 (-1)) 0 2 0)) (fun n => by
    show f12_begin_10 (n + 1) _ _ = _
    rw [f12_begin_10, gp_fl_c (by omega), N7, if_pos (nI_le (Nat.le_refl _) (by omega)), gp_eL, gp_eL, gp_eL]) (fun n i hi => by
    show f12_begin_10 (n + 1) _ _ = f12_begin_10 n _ _
    rw [f12_begin_10, gp_fl_c (by omega), N7, if_neg (nI_ge hi (by omega)), gp_ckb (show i < 80 by omega) (by omega), gp_ckb (show i < 80 by omega) (by omega), nI_clamp (by omega), gp_fl_c (show 2 ≠ 4 by omega), N2, (h3 i hi).1, gp_eL, gp_eL, nI_1, Nat.zero_add]) gz_FU (by unfold gz_FU; omega)
  refine ⟨_, by rw [e0]; exact lp, ⟨by rw [gp_gl, gp_gl, gp_gl, gp_fl_2, hN]; rfl, fun c h1 h2 => by rw [gp_wc _ h1, gp_wc _ h1, gp_wc _ h1, gp_fl_c h2, hN, gp_wc _ h1], fun i a1 a2 a3 a4 => by rw [gp_gn (by omega), gp_gn (by omega), gp_gn (by omega), gp_fl_c (by omega), hN, gp_gn (by omega)], by rw [gp_gs]⟩, ⟨h80, Nat.zero_le _, ?_, ?_, ?_, fun i hi => ⟨?_, (h3 i hi).2⟩⟩⟩
  · rw [gp_gn (by omega), gp_gn (by omega), gp_gn (by omega), gp_fl_c (by omega), N7]
  · rw [gp_gn (by omega), gp_gn (by omega), gp_gs]; rfl
  · rw [gp_gn (by omega), gp_gs]; rfl
  · have := gp_fl_i (M := N) (c := 4) (o := 0) (N := x.length) (v := fun i => nI (x.getD i 0)) hi
    rw [Nat.zero_add] at this
    rw [gp_gn (by omega), gp_gn (by omega), gp_gn (by omega), this]
end
