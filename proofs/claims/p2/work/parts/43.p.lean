/-! lines; reading a token -/
def gp_lC (k : Nat) (M : gz_M) (l : List Nat) : Prop := l.length ≤ 24 ∧ M.1 k 1 = nI l.length ∧ ∀ i, i < l.length → M.1 (k + 1) i = nI (l.getD i 0) ∧ l.getD i 0 < 8
/-- reading in mode m on from place q, nx may come: the winner's rule, the place behind it, the place behind the last sign read, the dead one, the standings come to (F: remembered ones) -/
def gp_rm (T : gp_T) (m : Nat) (F : Nat → Nat → Bool) : List Nat → Nat → Nat → Option Nat → Nat → Option Nat × Nat × Nat × Option Nat × List Nat
  | [], q, _, r, b => (r, b, q, none, [])
  | s :: l, q, nx, r, b =>
    if nx &&& T.2.2 (15 + m) s = 0 then (r, b, q + 1, some q, [])
    else if F (nx &&& T.2.2 (15 + m) s) (q + 1) = true then ((gp_win T m (nx &&& T.2.2 (15 + m) s)).or r, (if (gp_win T m (nx &&& T.2.2 (15 + m) s)).isSome = true then q + 1 else b), q + 1, none, [nx &&& T.2.2 (15 + m) s])
    else
      ((gp_rm T m F l (q + 1) (gp_aft T m (nx &&& T.2.2 (15 + m) s)) ((gp_win T m (nx &&& T.2.2 (15 + m) s)).or r) (if (gp_win T m (nx &&& T.2.2 (15 + m) s)).isSome = true then q + 1 else b)).1,
       (gp_rm T m F l (q + 1) (gp_aft T m (nx &&& T.2.2 (15 + m) s)) ((gp_win T m (nx &&& T.2.2 (15 + m) s)).or r) (if (gp_win T m (nx &&& T.2.2 (15 + m) s)).isSome = true then q + 1 else b)).2.1,
       (gp_rm T m F l (q + 1) (gp_aft T m (nx &&& T.2.2 (15 + m) s)) ((gp_win T m (nx &&& T.2.2 (15 + m) s)).or r) (if (gp_win T m (nx &&& T.2.2 (15 + m) s)).isSome = true then q + 1 else b)).2.2.1,
       (gp_rm T m F l (q + 1) (gp_aft T m (nx &&& T.2.2 (15 + m) s)) ((gp_win T m (nx &&& T.2.2 (15 + m) s)).or r) (if (gp_win T m (nx &&& T.2.2 (15 + m) s)).isSome = true then q + 1 else b)).2.2.2.1,
       (nx &&& T.2.2 (15 + m) s) :: (gp_rm T m F l (q + 1) (gp_aft T m (nx &&& T.2.2 (15 + m) s)) ((gp_win T m (nx &&& T.2.2 (15 + m) s)).or r) (if (gp_win T m (nx &&& T.2.2 (15 + m) s)).isSome = true then q + 1 else b)).2.2.2.2)
def gp_F0 : Nat → Nat → Bool := fun _ _ => false
section
variable {k k0 k1 m S s x p q : Nat} {M M' : gz_M} {T : gp_T} {l : List Nat}
theorem gp_tC.fr (h : gp_tC k0 M T) (e : ∀ c, k0 ≤ c → c < k0 + 19 → M'.1 c = M.1 c) : gp_tC k0 M' T := by
  refine ⟨?_, fun j hj => ?_, fun m hm => ?_⟩
  · rw [e _ (by omega) (by omega)]; exact h.1
  · rw [e _ (by omega) (by omega), e _ (by omega) (by omega), e _ (by omega) (by omega), e _ (by omega) (by omega), e _ (by omega) (by omega), e _ (by omega) (by omega)]
    exact h.2.1 j hj
  · have h1 := h.2.2 m hm
    refine ⟨?_, ?_, fun x hx => ?_, fun s hs => ?_⟩
    · rw [e _ (by omega) (by omega)]; exact h1.1
    · rw [e _ (by omega) (by omega)]; exact h1.2.1
    · rw [e _ (by omega) (by omega)]; exact h1.2.2.1 x hx
    · rw [e _ (by omega) (by omega)]; exact h1.2.2.2 s hs
theorem gp_lC.fr (h : gp_lC k1 M l) (e : ∀ c, k1 ≤ c → c < k1 + 2 → M'.1 c = M.1 c) : gp_lC k1 M' l := by
  refine ⟨h.1, ?_, fun i hi => ?_⟩
  · rw [e _ (by omega) (by omega)]; exact h.2.1
  · rw [e _ (by omega) (by omega)]; exact h.2.2 i hi
theorem gp_lget (h : gp_lC k1 M l) (hp : p < l.length) : f5_get k1 (nI p) M = some (nI (l.getD p 0), M) := by
  have h1 := h.1
  unfold f5_get
  rw [h.2.1, if_neg (nI_pos (by omega)), if_neg (nI_ge hp (by omega)), if_neg (by exact nI_ge (show p < 24 by omega) (by decide)), gp_ckb (by omega) (by omega), nI_clamp (by omega), (h.2.2 p hp).1]
theorem gp_drop (hp : p < l.length) : l.drop p = l.getD p 0 :: l.drop (p + 1) := by
  rw [List.drop_eq_getElem_cons hp]
  simp [List.getD, hp]
theorem gp_wc (M : gz_M) {k c i : Nat} {v : Int32} (h : c ≠ k) : (gz_w M k i v).1 c = M.1 c := by
  simp [gz_w, h]
theorem gp_win_some {T : gp_T} {m S k : Nat} (h : gp_win T m S = some k) : k < T.1 ∧ T.2.2 1 k = m ∧ T.2.2 5 k &&& S ≠ 0 := by
  have g : ∀ (p : Nat → Bool) (n i : Nat), gp_fst p n i = some k → p k = true ∧ i ≤ k ∧ k < i + n := by
    intro p n
    induction n with
    | zero => intro i h; cases h
    | succ n ih =>
      intro i h
      rw [gp_fst] at h
      split at h
      · rename_i h1
        cases h
        exact ⟨h1, by omega, by omega⟩
      · obtain ⟨a, b, c⟩ := ih (i + 1) h
        exact ⟨a, by omega, by omega⟩
  obtain ⟨a, b, c⟩ := g _ _ _ h
  simp at a
  exact ⟨by omega, a.1, a.2⟩
theorem gp_readFrom_33 (hw : gp_wT T) (hm : m < 4) (hk : k + 9 ≤ k0 ∨ k0 + 19 ≤ k) (hk1 : k + 9 ≤ k1 ∨ k1 + 2 ≤ k) : ∀ (d n q nx b : Nat) (r : Option Nat) (M : gz_M), q + d = l.length → d < n → gp_tC k0 M T → gp_lC k1 M l → M.1 k 12 = gp_o r → M.1 k 13 = nI b → M.1 k 14 = nI q → M.1 k 15 = gp_no → nx < 2 ^ 10 →
    ∃ M', f2_readFrom_33 k k0 k1 n (nI m) (nI nx) (nI q) M = some M' ∧ M'.2 = M.2 ∧ (∀ c, c ≠ k → M'.1 c = M.1 c) ∧ (∀ i, i < 12 → M'.1 k i = M.1 k i) ∧ M'.1 k 12 = gp_o (gp_rm T m gp_F0 (l.drop q) q nx r b).1 ∧ M'.1 k 13 = nI (gp_rm T m gp_F0 (l.drop q) q nx r b).2.1 ∧ M'.1 k 14 = nI (gp_rm T m gp_F0 (l.drop q) q nx r b).2.2.1 ∧ M'.1 k 15 = gp_o (gp_rm T m gp_F0 (l.drop q) q nx r b).2.2.2.1 := by
  intro d
  induction d with
  | zero =>
    intro n q nx b r M hq hn ht hl h12 h13 h14 h15 hnx
    have hl1 := hl.1
    obtain ⟨n, rfl⟩ : ∃ q, n = q + 1 := ⟨n - 1, by omega⟩
    have hq : q = l.length := by omega
    subst hq
    rw [f2_readFrom_33, hl.2.1, if_pos (nI_le (Nat.le_refl _) (by omega)), List.drop_length]
    exact ⟨M, rfl, rfl, fun _ _ => rfl, fun _ _ => rfl, h12, h13, h14, h15⟩
  | succ d ih =>
    intro n q nx b r M hq hn ht hl h12 h13 h14 h15 hnx
    have hl1 := hl.1
    obtain ⟨n, rfl⟩ : ∃ q, n = q + 1 := ⟨n - 1, by omega⟩
    have hs := (hl.2.2 q (by omega)).2
    have hS : nx &&& T.2.2 (15 + m) (l.getD q 0) < 2 ^ 10 := Nat.lt_of_le_of_lt Nat.and_le_left hnx
    rw [gp_drop (by omega), gp_rm]
    generalize hSe : nx &&& T.2.2 (15 + m) (l.getD q 0) = S at hS
    have hA : gp_aft T m S < 2 ^ 10 := gp_lt10 hw hm (gp_aft_lt hw hm S)
    have hle : ¬ l.length ≤ q := by omega
    rw [f2_readFrom_33, hl.2.1, h15]
    simp (disch := omega) only [gp_n0, gp_n1, gp_lee, hle, if_false, ↓gp_m1, if_true, gp_lget hl, gp_eB2, gp_takersOf ht hm hs, gp_and, hSe, gp_eL, nI_add, gp_eqe]
    have ht1 : gp_tC k0 (gz_w M k 14 (nI (q + 1))) T := ht.fr (fun c h1 h2 => gp_wc _ (by omega))
    have hl2 : gp_lC k1 (gz_w M k 14 (nI (q + 1))) l := hl.fr (fun c h1 h2 => gp_wc _ (by omega))
    by_cases h0 : S = 0
    · simp only [h0, if_true]
      have ht2 : gp_tC k0 (gz_w (gz_w M k 14 (nI (q + 1))) k 15 (nI q)) T := ht1.fr (fun c h1 h2 => gp_wc _ (by omega))
      have hl3 : gp_lC k1 (gz_w (gz_w M k 14 (nI (q + 1))) k 15 (nI q)) l := hl2.fr (fun c h1 h2 => gp_wc _ (by omega))
      have hwin : gp_win T m 0 = none := by
        cases e : gp_win T m 0 with
        | none => rfl
        | some j => exact absurd (Nat.and_zero _) (gp_win_some e).2.2
      unfold f2_readFrom_85 f2_readFrom_114
      rw [gp_winner hw ht2 hm (by decide), hwin, gp_eB2, gp_oN]
      simp (disch := omega) only [↓gp_m1, if_true, gp_after ht2 hm (show 0 < 2 ^ 10 by decide), gp_eB2, gp_eL, gp_n1, nI_add]
      obtain ⟨n, rfl⟩ : ∃ q, n = q + 1 := ⟨n - 1, by omega⟩
      rw [f2_readFrom_33]
      simp (disch := omega) only [gp_gs, ↓gp_m1, gp_ne1, if_false, ite_self]
      refine ⟨_, rfl, rfl, fun c hc => ?_, fun i hi => ?_, ?_, ?_, ?_, ?_⟩
      · rw [gp_wc _ hc, gp_wc _ hc]
      · rw [gp_gn (by omega), gp_gn (by omega)]
      · rw [gp_gn (by omega), gp_gn (by omega), h12]
      · rw [gp_gn (by omega), gp_gn (by omega), h13]
      · rw [gp_gn (by omega), gp_gs]
      · rw [gp_gs, gp_oS]
    · simp only [h0, if_false, gp_F0, Bool.false_eq_true]
      unfold f2_readFrom_85 f2_readFrom_114
      rw [gp_winner hw ht1 hm hS, gp_eB2]
      cases hwin : gp_win T m S with
      | none =>
        simp (disch := omega) only [gp_oN, gp_oS, ↓gp_m1, if_true, gp_after ht1 hm hS, gp_eB2, gp_eL, gp_n1, nI_add]
        obtain ⟨M', e1, e2, e3, e4, e5⟩ := ih n (q + 1) (gp_aft T m S) b r (gz_w M k 14 (nI (q + 1))) (by omega) (by omega) ht1 hl2 (by rw [gp_gn (by omega), h12]) (by rw [gp_gn (by omega), h13]) (by rw [gp_gs]) (by rw [gp_gn (by omega), h15]) hA
        refine ⟨M', e1, e2, fun c hc => (e3 c hc).trans (gp_wc _ hc), fun i hi => (e4 i hi).trans (gp_gn (by omega)), ?_⟩
        simpa using e5
      | some j =>
        have hj := (gp_win_some hwin).1
        have hw1 := hw.1
        simp (disch := omega) only [gp_oN, gp_oS, ↓gp_m1, gp_ne1, if_false, gp_eL, gp_n1, nI_add]
        have ht2 : gp_tC k0 (gz_w (gz_w (gz_w M k 14 (nI (q + 1))) k 12 (nI j)) k 13 (nI (q + 1))) T := ht1.fr (fun c h1 h2 => (gp_wc _ (by omega)).trans (gp_wc _ (by omega)))
        have hl3 : gp_lC k1 (gz_w (gz_w (gz_w M k 14 (nI (q + 1))) k 12 (nI j)) k 13 (nI (q + 1))) l := hl2.fr (fun c h1 h2 => (gp_wc _ (by omega)).trans (gp_wc _ (by omega)))
        simp (disch := omega) only [gp_after ht2 hm hS, gp_eB2]
        obtain ⟨M', e1, e2, e3, e4, e5⟩ := ih n (q + 1) (gp_aft T m S) (q + 1) (some j) _ (by omega) (by omega) ht2 hl3 (by rw [gp_gn (by omega), gp_gs]; rfl) (by rw [gp_gs]) (by rw [gp_gn (by omega), gp_gn (by omega), gp_gs]) (by rw [gp_gn (by omega), gp_gn (by omega), gp_gn (by omega), h15]) hA
        refine ⟨M', e1, e2, fun c hc => (e3 c hc).trans (by rw [gp_wc _ hc, gp_wc _ hc, gp_wc _ hc]), fun i hi => (e4 i hi).trans (by rw [gp_gn (by omega), gp_gn (by omega), gp_gn (by omega)]), ?_⟩
        simpa using e5
end
