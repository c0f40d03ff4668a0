/-! the component's cutting -/
section
variable {k k0 k1 m S s x p q : Nat} {M M' : gz_M} {T : gp_T} {l : List Nat}
theorem gp_readFrom (hw : gp_wT T) (hm : m < 4) (hk : k + 9 ≤ k0 ∨ k0 + 19 ≤ k) (hk1 : k + 9 ≤ k1 ∨ k1 + 2 ≤ k) (ht : gp_tC k0 M T) (hl : gp_lC k1 M l) (hp : p ≤ l.length) :
    ∃ M', f2_readFrom k k0 k1 (nI m) (nI p) M = some M' ∧ M'.2 = M.2 ∧ (∀ c, c ≠ k → M'.1 c = M.1 c) ∧ (∀ i, i < 12 → M'.1 k i = M.1 k i) ∧ M'.1 k 12 = gp_o (gp_rm T m gp_F0 (l.drop p) p (T.2.2 8 m) none p).1 ∧ M'.1 k 13 = nI (gp_rm T m gp_F0 (l.drop p) p (T.2.2 8 m) none p).2.1 ∧ M'.1 k 14 = nI (gp_rm T m gp_F0 (l.drop p) p (T.2.2 8 m) none p).2.2.1 ∧ M'.1 k 15 = gp_o (gp_rm T m gp_F0 (l.drop p) p (T.2.2 8 m) none p).2.2.2.1 := by
  have hl1 := hl.1
  unfold f2_readFrom
  simp only [gp_eL]
  have e : ∀ c, c ≠ k → (gz_w (gz_w (gz_w (gz_w M k 12 (-1)) k 13 (nI p)) k 14 (nI p)) k 15 (-1)).1 c = M.1 c := fun c hc => by rw [gp_wc _ hc, gp_wc _ hc, gp_wc _ hc, gp_wc _ hc]
  have ht1 := ht.fr (M' := gz_w (gz_w (gz_w (gz_w M k 12 (-1)) k 13 (nI p)) k 14 (nI p)) k 15 (-1)) (fun c h1 h2 => e c (by omega))
  have hl2 := hl.fr (M' := gz_w (gz_w (gz_w (gz_w M k 12 (-1)) k 13 (nI p)) k 14 (nI p)) k 15 (-1)) (fun c h1 h2 => e c (by omega))
  rw [gp_atFirst ht1 hm, gp_eB2]
  obtain ⟨M', e1, e2, e3, e4, e5⟩ := gp_readFrom_33 hw hm hk hk1 (l.length - p) gz_FU p (T.2.2 8 m) p none _ (by omega) (by unfold gz_FU; omega) ht1 hl2 (by rw [gp_gn (by omega), gp_gn (by omega), gp_gn (by omega), gp_gs]; rfl) (by rw [gp_gn (by omega), gp_gn (by omega), gp_gs]) (by rw [gp_gn (by omega), gp_gs]) (by rw [gp_gs]; rfl) (gp_lt10 hw hm (hw.2.2 m hm).2.1)
  exact ⟨M', e1, e2, fun c hc => (e3 c hc).trans (e c hc), fun i hi => (e4 i hi).trans (by rw [gp_gn (by omega), gp_gn (by omega), gp_gn (by omega), gp_gn (by omega)]), e5⟩
theorem gp_cA_snoc {done : List gp_K} {t : gp_K} (h : gp_cA k M done) (e : ∀ j, 1 ≤ j → j ≤ 8 → ∀ i, i < done.length → M'.1 (k + j) i = M.1 (k + j) i) (v : M'.1 (k + 1) done.length = gp_o t.1 ∧ M'.1 (k + 2) done.length = nI t.2.1 ∧ M'.1 (k + 3) done.length = nI t.2.2.1 ∧ M'.1 (k + 4) done.length = nI t.2.2.2.1 ∧ M'.1 (k + 5) done.length = gp_o t.2.2.2.2.1 ∧ M'.1 (k + 6) done.length = nI t.2.2.2.2.2.1 ∧ M'.1 (k + 7) done.length = nI t.2.2.2.2.2.2.length ∧ M'.1 (k + 8) done.length = nI (gp_enc t.2.2.2.2.2.2)) : gp_cA k M' (done ++ [t]) := by
  intro i hi
  rw [List.length_append, List.length_singleton] at hi
  by_cases h1 : i < done.length
  · have e0 : (done ++ [t]).getD i gp_k0 = done.getD i gp_k0 := by
      rw [List.getD_eq_getElem?_getD, List.getD_eq_getElem?_getD, List.getElem?_append_left h1]
    rw [e0]
    have h2 := h i h1
    rw [e 1 (by omega) (by omega) i h1, e 2 (by omega) (by omega) i h1, e 3 (by omega) (by omega) i h1, e 4 (by omega) (by omega) i h1, e 5 (by omega) (by omega) i h1, e 6 (by omega) (by omega) i h1, e 7 (by omega) (by omega) i h1, e 8 (by omega) (by omega) i h1]
    exact h2
  · have h2 : i = done.length := by omega
    subst h2
    have e0 : (done ++ [t]).getD done.length gp_k0 = t := by simp [List.getD_eq_getElem?_getD]
    rw [e0]
    exact v
theorem gp_most_snoc (done : List gp_K) (t : gp_K) : gp_most (done ++ [t]) = max (gp_most done) t.2.2.2.2.2.2.length := by
  unfold gp_most
  rw [List.foldl_append]
  rfl
theorem gp_make_25 (hw : gp_wT T) (hk : k + 9 ≤ k0 ∨ k0 + 19 ≤ k) (hk1 : k + 9 ≤ k1 ∨ k1 + 2 ≤ k) : ∀ (d n p : Nat) (stk : List Nat) (done : List gp_K) (M : gz_M), done.length + d = 24 → d < n → gp_tC k0 M T → gp_lC k1 M l → gp_cA k M done → M.1 k 0 = nI done.length → M.1 k 1 = nI (gp_most done) → M.1 k 10 = nI stk.length → M.1 k 11 = nI (gp_enc stk) → gp_sk stk → stk.length ≤ gp_most done → gp_most done ≤ 5 → p ≤ l.length →
    ∃ M', f2_make_25 k k0 k1 n (nI p) (nI done.length) M = some M' ∧ M'.2 = M.2 ∧ (∀ c, c < k ∨ k + 9 ≤ c → M'.1 c = M.1 c) ∧ gp_cC k M' (done ++ gp_cutF T l d p stk) := by
  intro d
  induction d with
  | zero =>
    intro n p stk done M hd hn ht hl hA h0 h1 h10 h11 hs hmo hmo2 hp
    obtain ⟨n, rfl⟩ : ∃ q, n = q + 1 := ⟨n - 1, by omega⟩
    have hd : done.length = 24 := by omega
    rw [f2_make_25, hd, if_pos (by exact nI_le (Nat.le_refl 24) (by decide))]
    refine ⟨M, rfl, rfl, fun _ _ => rfl, ?_⟩
    rw [gp_cutF, List.append_nil]
    exact ⟨h0, h1, hA⟩
  | succ d ih =>
    intro n p stk done M hd hn ht hl hA h0 h1 h10 h11 hs hmo hmo2 hp
    have hl1 := hl.1
    obtain ⟨n, rfl⟩ : ∃ q, n = q + 1 := ⟨n - 1, by omega⟩
    rw [f2_make_25, if_neg (by exact nI_ge (show done.length < 24 by omega) (by decide)), hl.2.1]
    by_cases hpl : p < l.length
    · rw [if_neg (nI_ge hpl (by omega)), gp_eL, h11, gp_and3]
      obtain ⟨d0, t0, rfl⟩ : ∃ d t, stk = d :: t := by
        cases stk with
        | nil => exact absurd hs.1 (by decide)
        | cons d t => exact ⟨d, t, rfl⟩
      have hd0 : d0 < 4 := hs.2.2 d0 List.mem_cons_self
      have hd4 : gp_enc (d0 :: t0) % 4 = d0 := by rw [gp_enc]; omega
      rw [hd4]
      obtain ⟨M1, e1, e2, e3, e4, e5, e6, e7, e8⟩ := gp_readFrom (p := p) hw hd0 hk hk1 ht hl hp
      rw [e1, gp_eB, gp_ckb (by omega) (by omega), gp_eL, gp_ckb (by omega) (by omega), gp_eL, nI_clamp (by omega)]
      have hok := gp_tok_ok (T := T) hw hpl hs
      have hR : (gp_tok T l p (d0 :: t0)) = gp_tokO T p (d0 :: t0) (gp_rm T d0 gp_F0 (l.drop p) p (T.2.2 8 d0) none p) := rfl
      generalize hRe : gp_rm T d0 gp_F0 (l.drop p) p (T.2.2 8 d0) none p = R at hR e5 e6 e7 e8
      have hr : ∀ j, R.1 = some j → j < T.1 := by rw [hR] at hok; exact hok.2.2.2.1
      rw [gp_cutF, if_pos hpl]
      generalize htk : gp_tok T l p (d0 :: t0) = t at hR hok
      have hb := hok.1
      have hb2 := hok.2.1
      have hb3 := hok.2.2.1
      generalize hM2 : gz_w (gz_w M1 (k + 2) done.length (nI p)) (k + 1) done.length ((gz_w M1 (k + 2) done.length (nI p)).1 k 12) = M2
      have M2a : ∀ c, c ≠ k + 1 → c ≠ k + 2 → M2.1 c = M1.1 c := by
        intro c c1 c2
        rw [← hM2, gp_wc _ c1, gp_wc _ c2]
      have M2k : M2.1 k = M1.1 k := M2a k (by omega) (by omega)
      have M212 : M2.1 k 12 = gp_o R.1 := by rw [M2k, e5]
      have hgo : ∃ M', f2_make_100 k k0 k1 (f2_make_25 k k0 k1 n) (nI done.length) (nI d0) (nI t.2.2.1) (nI done.length) M2 = some M' ∧ M'.2 = M.2 ∧ (∀ c, c < k ∨ k + 9 ≤ c → M'.1 c = M.1 c) ∧ gp_cC k M' (done ++ t :: gp_cutF T l d t.2.2.1 t.2.2.2.2.2.2) := by
        unfold f2_make_100
        simp (disch := omega) only [gp_ckb, gp_eL, nI_clamp]
        generalize hM3 : gz_w (gz_w (gz_w (gz_w M2 (k + 3) done.length (nI t.2.2.1)) (k + 4) done.length ((gz_w M2 (k + 3) done.length (nI t.2.2.1)).1 k 14)) (k + 5) done.length ((gz_w (gz_w M2 (k + 3) done.length (nI t.2.2.1)) (k + 4) done.length ((gz_w M2 (k + 3) done.length (nI t.2.2.1)).1 k 14)).1 k 15)) (k + 6) done.length (nI d0) = M3
        have M3a : ∀ c, c ≠ k + 3 → c ≠ k + 4 → c ≠ k + 5 → c ≠ k + 6 → M3.1 c = M2.1 c := by
          intro c c1 c2 c3 c4
          rw [← hM3, gp_wc _ c4, gp_wc _ c3, gp_wc _ c2, gp_wc _ c1]
        have M3k : M3.1 k = M1.1 k := (M3a k (by omega) (by omega) (by omega) (by omega)).trans M2k
        have M3o : ∀ c, c < k ∨ k + 7 ≤ c → M3.1 c = M.1 c := fun c hc => by
          rw [M3a c (by omega) (by omega) (by omega) (by omega), M2a c (by omega) (by omega), e3 c (by omega)]
        rw [show M3.1 k 12 = gp_o R.1 by rw [M3k, e5]]
        obtain ⟨M4, g1, g2, g3, g4, g5, g6, g7⟩ := gp_doAct hw hk R.1 hr (d0 :: t0) hs (gp_most done) hmo hmo2 M3 (ht.fr (fun c h1 h2 => M3o c (by omega))) (by rw [M3k, e4 _ (by omega), h1]) (by rw [M3k, e4 _ (by omega), h10]) (by rw [M3k, e4 _ (by omega), h11])
        rw [g1, gp_eB]
        simp (disch := omega) only [gp_ckb, gp_eL, nI_clamp, nI_1]
        generalize hM5 : gz_w (gz_w M4 (k + 7) done.length (M4.1 k 10)) (k + 8) done.length ((gz_w M4 (k + 7) done.length (M4.1 k 10)).1 k 11) = M5
        have M5a : ∀ c, c ≠ k + 7 → c ≠ k + 8 → M5.1 c = M4.1 c := by
          intro c c1 c2
          rw [← hM5, gp_wc _ c2, gp_wc _ c1]
        generalize hM6 : gz_w M5 k 0 (nI (done.length + 1)) = M6
        have M6a : ∀ c, c ≠ k → M6.1 c = M5.1 c := by
          intro c c1
          rw [← hM6, gp_wc _ c1]
        have hv : M5.1 (k + 3) done.length = nI t.2.2.1 := by
          rw [M5a _ (by omega) (by omega), g3 _ (by omega), ← hM3, gp_gn (by omega), gp_gn (by omega), gp_gn (by omega), gp_gs]
        rw [hv]
        have hact : t.2.2.2.2.2.2 = gp_act T R.1 (d0 :: t0) := by rw [hR]; rfl
        have hmost : gp_most (done ++ [t]) = max (gp_most done) (gp_act T R.1 (d0 :: t0)).length := by rw [gp_most_snoc, hact]
        have hsk := hok.2.2.2.2.2.2.2
        have hsk5 := hsk.2.1
        have M6o : ∀ c, c < k ∨ k + 9 ≤ c → M6.1 c = M.1 c := fun c hc => by
          rw [M6a c (by omega), M5a c (by omega) (by omega), g3 c (by omega), M3o c (by omega)]
        have hA6 : gp_cA k M6 (done ++ [t]) := by
          refine gp_cA_snoc hA (fun j j1 j2 i hi => ?_) ?_
          · rw [M6a _ (by omega), ← hM5, gp_gn (by omega), gp_gn (by omega), g3 _ (by omega), ← hM3, gp_gn (by omega), gp_gn (by omega), gp_gn (by omega), gp_gn (by omega), ← hM2, gp_gn (by omega), gp_gn (by omega), e3 _ (by omega)]
          · refine ⟨?_, ?_, ?_, ?_, ?_, ?_, ?_, ?_⟩
            · rw [M6a _ (by omega), M5a _ (by omega) (by omega), g3 _ (by omega), M3a _ (by omega) (by omega) (by omega) (by omega), ← hM2, gp_gs, gp_gn (by omega), e5, hR]; rfl
            · rw [M6a _ (by omega), M5a _ (by omega) (by omega), g3 _ (by omega), M3a _ (by omega) (by omega) (by omega) (by omega), ← hM2, gp_gn (by omega), gp_gs, hR]; rfl
            · rw [M6a _ (by omega), hv]
            · rw [M6a _ (by omega), M5a _ (by omega) (by omega), g3 _ (by omega), ← hM3, gp_gn (by omega), gp_gn (by omega), gp_gs, gp_gn (by omega), M2k, e7, hR]; rfl
            · rw [M6a _ (by omega), M5a _ (by omega) (by omega), g3 _ (by omega), ← hM3, gp_gn (by omega), gp_gs, gp_gn (by omega), gp_gn (by omega), M2k, e8, hR]; rfl
            · rw [M6a _ (by omega), M5a _ (by omega) (by omega), g3 _ (by omega), ← hM3, gp_gs, hR]; rfl
            · rw [M6a _ (by omega), ← hM5, gp_gn (by omega), gp_gs, g5, hact]
            · rw [M6a _ (by omega), ← hM5, gp_gs, gp_gn (by omega), g6, hact]
        have hlen : (done ++ [t]).length = done.length + 1 := by simp
        obtain ⟨M', i1, i2, i3, i4⟩ := ih n t.2.2.1 t.2.2.2.2.2.2 (done ++ [t]) M6 (by omega) (by omega) (ht.fr (fun c h1 h2 => M6o c (by omega))) (hl.fr (fun c h1 h2 => M6o c (by omega))) hA6 (by rw [← hM6, gp_gs, hlen]) (by rw [← hM6, gp_gn (by omega), M5a _ (by omega) (by omega), g7, hmost]) (by rw [← hM6, gp_gn (by omega), M5a _ (by omega) (by omega), g5, hact]) (by rw [← hM6, gp_gn (by omega), M5a _ (by omega) (by omega), g6, hact]) hsk (by rw [hmost, hact]; omega) (by rw [hmost, ← hact]; omega) (by omega)
        rw [hlen] at i1
        refine ⟨M', i1, ?_, fun c hc => (i3 c hc).trans (M6o c hc), ?_⟩
        · rw [i2, ← hM6, ← hM5, gp_gl, gp_gl, gp_gl, g2, ← hM3, gp_gl, gp_gl, gp_gl, gp_gl, ← hM2, gp_gl, gp_gl, e2]
        · rw [List.append_assoc] at i4
          exact i4
      rw [M212]
      cases hRc : R.1 with
      | none =>
        have ht3 : t.2.2.1 = p + 1 := by rw [hR]; unfold gp_tokO; rw [hRc]; rfl
        rw [ht3] at hgo ⊢
        simp only [gp_oN, gp_oS, ↓gp_m1, if_true, nI_1]
        exact hgo
      | some j =>
        have hj := hr j hRc
        have hw1 := hw.1
        have ht3 : t.2.2.1 = R.2.1 := by rw [hR]; unfold gp_tokO; rw [hRc]; rfl
        have e6' : M2.1 k 13 = nI R.2.1 := by rw [M2k, e6]
        rw [ht3] at hgo ⊢
        simp (disch := omega) only [gp_oN, gp_oS, ↓gp_m1, gp_ne1, if_false, e6']
        exact hgo
    · rw [if_pos (nI_le (by omega) (by omega))]
      refine ⟨M, rfl, rfl, fun _ _ => rfl, ?_⟩
      rw [gp_cutF, if_neg hpl, List.append_nil]
      exact ⟨h0, h1, hA⟩
theorem gp_make (hw : gp_wT T) (hk : k + 9 ≤ k0 ∨ k0 + 19 ≤ k) (hk1 : k + 9 ≤ k1 ∨ k1 + 2 ≤ k) (ht : gp_tC k0 M T) (hl : gp_lC k1 M l) : ∃ M', f2_make k k0 k1 M = some M' ∧ M'.2 = M.2 ∧ (∀ c, c < k ∨ k + 9 ≤ c → M'.1 c = M.1 c) ∧ gp_cC k M' (gp_cut T l) := by
  unfold f2_make
  simp only [gp_eL]
  have e : ∀ c, c ≠ k → (gz_w (gz_w (gz_w (gz_w M k 0 0) k 1 1) k 10 1) k 11 0).1 c = M.1 c := fun c hc => by rw [gp_wc _ hc, gp_wc _ hc, gp_wc _ hc, gp_wc _ hc]
  obtain ⟨M', e1, e2, e3, e4⟩ := gp_make_25 (l := l) hw hk hk1 24 gz_FU 0 [0] [] (gz_w (gz_w (gz_w (gz_w M k 0 0) k 1 1) k 10 1) k 11 0) rfl (by unfold gz_FU; omega) (ht.fr (fun c h1 h2 => e c (by omega))) (hl.fr (fun c h1 h2 => e c (by omega))) (fun i hi => absurd hi (by simp)) (by rw [gp_gn (by omega), gp_gn (by omega), gp_gn (by omega), gp_gs]; rfl) (by rw [gp_gn (by omega), gp_gn (by omega), gp_gs]; rfl) (by rw [gp_gn (by omega), gp_gs]; rfl) (by rw [gp_gs]; rfl) gp_sk0 (by decide) (by decide) (by omega)
  exact ⟨M', e1, e2, fun c hc => (e3 c hc).trans (e c (by omega)), e4⟩
end
