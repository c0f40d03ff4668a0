/-! promise 34: mends -/
def gq_mn (S : Nat → Nat) : Nat → Nat × Nat
  | 0 => (0, 25)
  | s + 1 => if S s < (gq_mn S s).2 then (s, S s) else gq_mn S s
theorem gq_mn_b (S : Nat → Nat) : ∀ n, (gq_mn S n).1 ≤ n ∧ (gq_mn S n).2 ≤ 25
  | 0 => ⟨Nat.le_refl _, Nat.le_refl _⟩
  | n + 1 => by
    obtain ⟨a, b⟩ := gq_mn_b S n
    rw [gq_mn]
    split
    · rename_i h
      dsimp only
      omega
    · omega
section
variable {B : Prop} {M M' Mc Mr Mc' Mr' : gz_M} {cu q : Nat} {l : List Nat} {T : gp_T}
/-- one number told -/
theorem gp_tell1C (M : gz_M) (p : Int64) : ∃ M1, f11_tell p (gz_w M 0 15 0) = some M1 ∧ gp_fC M M1 ∧ gp_wC M1 [p] := by
  obtain ⟨a1, a2⟩ := gp_wC0 M
  obtain ⟨M1, b1, b2, b3⟩ := gp_tellC p a2 (by simp)
  exact ⟨M1, b1, a1.trans b2, b3⟩
theorem gp_tell1R (M : gz_M) (p : Int64) : ∃ M1, f12_tell p (gz_w M 0 4 0) = some M1 ∧ gp_fR M M1 ∧ gp_wR M1 [p] := by
  obtain ⟨a1, a2⟩ := gp_wR0 M
  obtain ⟨M1, b1, b2, b3⟩ := gp_tellR p a2 (by simp)
  exact ⟨M1, b1, a1.trans b2, b3⟩
theorem gp_mdC (hw : gp_wT T) (ht : gp_tC 11 Mc T) (hcu : cu = 30 ∨ cu = 60) (h8 : gz_cIx (Mc.1 0 8) = 90 - cu) (hq : q < l.length) (hl24 : l.length ≤ 24) : ∀ (d s n : Nat) (M : gz_M) (l2 : List Nat), s + d = 8 → d < n → M.2 = Mc.2 → (∀ c, c ≠ 58 → c ≠ 59 → c < 90 - cu ∨ 90 - cu + 9 ≤ c → M.1 c = Mc.1 c) → gp_lC 58 M l2 → l2.length = l.length → (∀ z, l2.set q z = l.set q z) → ∃ M', f11_mends_38 n (nI q) (nI (gq_mn (fun z => gp_stk (gp_cut T (l.set q z))) s).1) (nI (gq_mn (fun z => gp_stk (gp_cut T (l.set q z))) s).2) (nI s) M = (gz_bd (f11_tell (nI (gq_mn (fun z => gp_stk (gp_cut T (l.set q z))) 8).2).toInt64 (gz_w M' 0 15 0)) fun M3 => some (nI (gq_mn (fun z => gp_stk (gp_cut T (l.set q z))) 8).1, M3)) ∧ M'.2 = Mc.2 ∧ ∀ c, c ≠ 58 → c ≠ 59 → c < 90 - cu ∨ 90 - cu + 9 ≤ c → M'.1 c = Mc.1 c := by
  intro d
  induction d with
  | zero =>
    intro s n M l2 hs hn h2 hc hC hl hz
    obtain ⟨n, rfl⟩ : ∃ q, n = q + 1 := ⟨n - 1, by omega⟩
    have : s = 8 := by omega
    subst this
    refine ⟨M, ?_, h2, hc⟩
    rw [f11_mends_38, if_pos (show (8 : Int32) ≤ nI 8 by decide), gp_eL]
  | succ d ih =>
    intro s n M l2 hs hn h2 hc hC hl hz
    obtain ⟨n, rfl⟩ : ∃ q, n = q + 1 := ⟨n - 1, by omega⟩
    obtain ⟨M1, e1, e2, e3⟩ := gp_putC (q := q) (s := s) hC (by omega) (by omega)
    rw [hz s] at e3
    have m1c : ∀ c, c ≠ 58 → c ≠ 59 → c < 90 - cu ∨ 90 - cu + 9 ≤ c → M1.1 c = Mc.1 c := fun c c1 c2 c3 => by rw [e2.2 c c1 c2, hc c c1 c2 c3]
    obtain ⟨M2, f1, f2, f3, f4⟩ := gp_make (M := M1) (k := 90 - cu) (k0 := 11) (k1 := 58) hw (by omega) (by omega) (ht.fr (fun c c1 c2 => m1c c (by omega) (by omega) (by omega))) e3
    have m2c : ∀ c, c ≠ 58 → c ≠ 59 → c < 90 - cu ∨ 90 - cu + 9 ≤ c → M2.1 c = Mc.1 c := fun c c1 c2 c3 => by rw [f3 c c3, m1c c c1 c2 c3]
    have hst := gp_stuckC hw (gp_cut_ok (l := l.set q s) hw) f4 gp_cut_len
    have hS : gp_stk (gp_cut T (l.set q s)) ≤ 24 := Nat.le_trans (gp_stk_le _) gp_cut_len
    obtain ⟨b1, b2⟩ := gq_mn_b (fun z => gp_stk (gp_cut T (l.set q z))) s
    rw [f11_mends_38, if_neg (show ¬ (8 : Int32) ≤ nI s from nI_ge (b := 8) (by omega) (by omega)), e1, gp_eB, m1c 0 (by omega) (by omega) (by omega), h8, f1, gp_eB, m2c 0 (by omega) (by omega) (by omega), h8, hst, gp_eB2]
    have hmn : gq_mn (fun z => gp_stk (gp_cut T (l.set q z))) (s + 1) = if gp_stk (gp_cut T (l.set q s)) < (gq_mn (fun z => gp_stk (gp_cut T (l.set q z))) s).2 then (s, gp_stk (gp_cut T (l.set q s))) else gq_mn (fun z => gp_stk (gp_cut T (l.set q z))) s := rfl
    have hl58 : gp_lC 58 M2 (l.set q s) := e3.fr (fun c c1 c2 => f3 c (by omega))
    have nx := ih (s + 1) n M2 (l.set q s) (by omega) (by omega) (by rw [f2, e2.1, h2]) m2c hl58 (by simp) (fun z => by rw [List.set_set])
    rw [hmn] at nx
    by_cases hlt : gp_stk (gp_cut T (l.set q s)) < (gq_mn (fun z => gp_stk (gp_cut T (l.set q z))) s).2
    · rw [if_pos hlt] at nx
      rw [if_neg (nI_ge hlt (by omega)), gp_eL, nI_1]
      exact nx
    · rw [if_neg hlt] at nx
      rw [if_pos (nI_le (by omega) (by omega)), gp_eL, nI_1]
      exact nx
theorem gp_mdR (hw : gp_wT T) (ht : gp_tR Mr T) (hlr : gp_lR Mr l) (hq : q < l.length) : ∀ (d s n : Nat) (M : gz_M), s + d = 8 → d < n → M.2 = Mr.2 → (∀ c, c ≠ 0 → c ≠ 1 → ¬ (16 ≤ c ∧ c ≤ 20) → M.1 c = Mr.1 c) → (∀ i, i ≠ 82 + q → M.1 1 i = Mr.1 1 i) → (∀ i, i ≠ 26 → i ≠ 28 → i ≠ 29 → i ≠ 31 → i ≠ 32 → M.1 0 i = Mr.1 0 i) → ∃ M', f12_mends_42 n (nI q) (Mr.1 1 (82 + q)) (if s = 0 then -1 else nI (gq_mn (fun z => gp_stk (gp_cut T (l.set q z))) s).1) (if s = 0 then 0 else nI (gq_mn (fun z => gp_stk (gp_cut T (l.set q z))) s).2) (nI s) M = (gz_bd (f12_tell (nI (gq_mn (fun z => gp_stk (gp_cut T (l.set q z))) 8).2).toInt64 (gz_w M' 0 4 0)) fun M5 => some (nI (gq_mn (fun z => gp_stk (gp_cut T (l.set q z))) 8).1, M5)) ∧ M'.2 = Mr.2 ∧ (∀ c, c ≠ 0 → ¬ (16 ≤ c ∧ c ≤ 20) → M'.1 c = Mr.1 c) ∧ (∀ i, i ≠ 26 → i ≠ 28 → i ≠ 29 → i ≠ 31 → i ≠ 32 → M'.1 0 i = Mr.1 0 i) := by
  have hl24 := hlr.1
  have e82 : (82 : Int32) + nI q = nI (82 + q) := by rw [show (82 : Int32) = nI 82 from rfl, nI_add]
  intro d
  induction d with
  | zero =>
    intro s n M hs hn h2 hc h1 h0
    obtain ⟨n, rfl⟩ : ∃ q, n = q + 1 := ⟨n - 1, by omega⟩
    have : s = 8 := by omega
    subst this
    refine ⟨gz_w M 1 (82 + q) (Mr.1 1 (82 + q)), ?_, by rw [gp_gl]; exact h2, fun c c1 c2 => ?_, fun i a1 a2 a3 a4 a5 => by rw [gp_gn (by omega)]; exact h0 i a1 a2 a3 a4 a5⟩
    · rw [f12_mends_42, if_pos (show (8 : Int32) ≤ nI 8 by decide), e82, gp_ckb (show 82 + q < 106 by omega) (by omega), nI_clamp (by omega), gp_eL, gp_eL, if_neg (show ¬ (8 = 0) by omega), if_neg (show ¬ (8 = 0) by omega)]
    · by_cases e : c = 1
      · subst e
        funext i
        by_cases ei : i = 82 + q
        · rw [ei, gp_gs]
        · rw [gp_gn (by omega)]
          exact h1 i ei
      · rw [gp_wc _ e]
        exact hc c c1 e c2
  | succ d ih =>
    intro s n M hs hn h2 hc h1 h0
    obtain ⟨n, rfl⟩ : ∃ q, n = q + 1 := ⟨n - 1, by omega⟩
    obtain ⟨N, hN⟩ : ∃ N, N = gz_w M 1 (82 + q) (nI s) := ⟨_, rfl⟩
    have Nc : ∀ c, c ≠ 1 → N.1 c = M.1 c := fun c h => by rw [hN, gp_wc _ h]
    have tN : gp_tR N T := ht.fr (fun c c1 c2 => by rw [Nc c (by omega), hc c (by omega) (by omega) (by omega)]) (by rw [Nc 0 (by omega), h0 10 (by omega) (by omega) (by omega) (by omega) (by omega)])
    have lN : gp_lR N (l.set q s) := by
      refine ⟨by simpa using hl24, ?_, fun i hi => ?_⟩
      · rw [hN, gp_gn (by omega), h1 81 (by omega)]
        simpa using hlr.2.1
      · have hi : i < l.length := by simpa using hi
        rw [gp_set_D hq]
        by_cases ei : i = q
        · rw [ei, hN, gp_gs, if_pos rfl]
          exact ⟨rfl, by omega⟩
        · rw [hN, gp_gn (by omega), h1 (82 + i) (by omega), if_neg ei]
          exact hlr.2.2 i hi
    obtain ⟨M2, f1, f2, f3, f4, f5, f6⟩ := gp_cutAll0 hw tN lN
    have hst := gp_stuckR hw (gp_cut_ok (l := l.set q s) hw) f4 gp_cut_len
    have hS : gp_stk (gp_cut T (l.set q s)) ≤ 24 := Nat.le_trans (gp_stk_le _) gp_cut_len
    obtain ⟨b1, b2⟩ := gq_mn_b (fun z => gp_stk (gp_cut T (l.set q z))) s
    have hmn : gq_mn (fun z => gp_stk (gp_cut T (l.set q z))) (s + 1) = if gp_stk (gp_cut T (l.set q s)) < (gq_mn (fun z => gp_stk (gp_cut T (l.set q z))) s).2 then (s, gp_stk (gp_cut T (l.set q s))) else gq_mn (fun z => gp_stk (gp_cut T (l.set q z))) s := rfl
    have nx := ih (s + 1) n M2 (by omega) (by omega) (by rw [f2.1, hN, gp_gl]; exact h2) (fun c c1 c2 c3 => by rw [f2.2.1 c c1 c3, Nc c c2, hc c c1 c2 c3]) (fun i hi => by rw [f2.2.1 1 (by omega) (by omega), hN, gp_gn (by omega)]; exact h1 i hi) (fun i a1 a2 a3 a4 a5 => by rw [f2.2.2 i a1 a2 a3 a4 a5, Nc 0 (by omega), h0 i a1 a2 a3 a4 a5])
    rw [if_neg (show ¬ s + 1 = 0 by omega), if_neg (show ¬ s + 1 = 0 by omega), hmn] at nx
    rw [f12_mends_42, if_neg (show ¬ (8 : Int32) ≤ nI s from nI_ge (b := 8) (by omega) (by omega)), e82, gp_ckb (show 82 + q < 106 by omega) (by omega), nI_clamp (by omega), gp_eL, ← hN, f1, gp_eB]
    by_cases hs0 : s = 0
    · subst hs0
      have hlt : gp_stk (gp_cut T (l.set q 0)) < (gq_mn (fun z => gp_stk (gp_cut T (l.set q z))) 0).2 := by
        show _ < 25
        omega
      rw [if_pos hlt] at nx
      rw [if_pos rfl, if_pos rfl]
      unfold f12_mends_82
      rw [hst, gp_eB2, gp_eL, nI_1]
      exact nx
    · rw [if_neg hs0, if_neg hs0, if_neg (show ¬ nI (gq_mn (fun z => gp_stk (gp_cut T (l.set q z))) s).1 = -1 from by rw [gp_m1, gp_ne1 (by omega)]; exact id), hst, gp_eB2]
      by_cases hlt : gp_stk (gp_cut T (l.set q s)) < (gq_mn (fun z => gp_stk (gp_cut T (l.set q z))) s).2
      · rw [if_pos hlt] at nx
        rw [if_pos (nI_lt hlt (by omega))]
        unfold f12_mends_82
        rw [hst, gp_eB2, gp_eL, nI_1]
        exact nx
      · rw [if_neg hlt] at nx
        rw [if_neg (nI_nlt (by omega) (by omega)), gp_eL, nI_1]
        exact nx
theorem gp_a34 (h : gp_Q B cu Mc Mr T l) (a : Int32) : gp_ans B cu Mc Mr (f11_mends a Mc) (f12_mends a Mr) := by
  have hq := h
  obtain ⟨h1, h2, h3, h4, h5, h6, h7, h8⟩ := h
  have h42 := h4.1
  have hcu := h6.1
  have n0 : (gz_w Mr 0 5 0).1 1 (81 : Int32).toNatClampNeg = nI l.length := by rw [gp_wc _ (by omega)]; exact h5.2.1
  rcases gp_has h4 a with ⟨h0, e⟩ | ⟨h0, ha, e⟩ | ⟨j, hj, rfl, e⟩
  · refine gp_ansN hq (-1) ?_ ?_
    · unfold f11_mends; rw [show (7 + 2 : Nat) = 9 from rfl, e, gp_eB2, if_pos rfl]
    · unfold f12_mends; rw [gp_eL, gp_c81, n0, gp_in0 _ _ h0, gp_eB2, if_pos rfl]
  · refine gp_ansN hq (-1) ?_ ?_
    · unfold f11_mends; rw [show (7 + 2 : Nat) = 9 from rfl, e, gp_eB2, if_pos rfl]
    · unfold f12_mends; rw [gp_eL, gp_c81, n0, gp_in0b _ (by omega) h0 ha, gp_eB2, if_pos rfl]
  · obtain ⟨C1, c1, c2, c3, c4⟩ := gp_lcp (l := l) (k := 58) (k0 := 9) (by omega) Mc
    have k8 : gz_cIx (Mc.1 0 8) = 90 - cu := h7
    obtain ⟨C2, d1, d2, d3⟩ := gp_mdC (cu := cu) (q := j) (l := l) h1 h2 hcu k8 hj h42 8 0 gz_FU C1 l (by omega) (by unfold gz_FU; omega) c2 (fun c e1 e2 e3 => c3 c e1 e2) (c4 h4) rfl (fun z => rfl)
    obtain ⟨C3, t1, t2, t3⟩ := gp_tell1C C2 (nI (gq_mn (fun z => gp_stk (gp_cut T (l.set j z))) 8).2).toInt64
    rw [t1, gp_eB] at d1
    have e82 : (82 : Int32) + nI j = nI (82 + j) := by rw [show (82 : Int32) = nI 82 from rfl, nI_add]
    obtain ⟨R2, r1, r2, r3, r4⟩ := gp_mdR (q := j) (l := l) (Mr := gz_w Mr 0 5 0) h1 (h3.fr (fun c e1 e2 => gp_wc _ (by omega)) (gp_gn (by omega))) (h5.fr (gp_wc _ (by omega))) hj 8 0 gz_FU (gz_w Mr 0 5 0) (by omega) (by unfold gz_FU; omega) rfl (fun _ _ _ _ => rfl) (fun _ _ => rfl) (fun _ _ _ _ _ _ => rfl)
    obtain ⟨R3, s1, s2, s3⟩ := gp_tell1R R2 (nI (gq_mn (fun z => gp_stk (gp_cut T (l.set j z))) 8).2).toInt64
    rw [s1, gp_eB] at r1
    refine gp_ansI (v := nI (gq_mn (fun z => gp_stk (gp_cut T (l.set j z))) 8).1) (Mc' := C3) (Mr' := R3) ?_ ?_ ?_ ?_ t3 s3 (by simp)
    · unfold f11_mends
      rw [show (7 + 2 : Nat) = 9 from rfl, e, gp_eB2, if_neg (by decide), c1, gp_eB]
      exact d1
    · unfold f12_mends
      rw [gp_eL, gp_c81, n0, gp_in1 _ (by omega) hj, gp_eB2, if_neg (by decide), e82, gp_ckb (show 82 + j < 106 by omega) (by omega), nI_clamp (by omega), gp_eL]
      exact r1
    · refine ⟨fun c hc => by rw [t2.1 c (by omega), d3 c (by omega) (by omega) (by omega)], ?_, ?_⟩
      · rw [t2.2 5 (by omega), d3 0 (by omega) (by omega) (by omega)]
      · rw [t2.2 8 (by omega), d3 0 (by omega) (by omega) (by omega)]
    · refine ⟨fun c hc => by rw [s2.1 c (by omega), r3 c (by omega) (by omega), gp_wc _ (by omega)], ?_, ?_, ?_⟩
      · rw [s2.2 2 (by omega), r4 2 (by omega) (by omega) (by omega) (by omega) (by omega), gp_gn (by omega)]
      · rw [s2.2 10 (by omega), r4 10 (by omega) (by omega) (by omega) (by omega) (by omega), gp_gn (by omega)]
      · rw [s2.2 51 (by omega), r4 51 (by omega) (by omega) (by omega) (by omega) (by omega), gp_gn (by omega)]
end
