/-! promise 15: like -/
def gp_alk (ts us : List gp_K) : Nat → Nat → Nat
  | 0, p => p
  | n + 1, p => if p < ts.length ∧ p < us.length ∧ (ts.getD p gp_k0).1 = (us.getD p gp_k0).1 ∧ (ts.getD p gp_k0).2.2.1 = (us.getD p gp_k0).2.2.1 then gp_alk ts us n (p + 1) else p
theorem gp_oInj {a b : Option Nat} (ha : ∀ j, a = some j → j < 2 ^ 31) (hb : ∀ j, b = some j → j < 2 ^ 31) : (gp_o a = gp_o b) ↔ a = b := by
  cases a with
  | none =>
    cases b with
    | none => exact ⟨fun _ => rfl, fun _ => rfl⟩
    | some j => exact ⟨fun h => (by have h : gp_no = nI j := h; rw [gp_ne2 (hb j rfl)] at h; exact h.elim), fun h => nomatch h⟩
  | some i =>
    cases b with
    | none => exact ⟨fun h => (by have h : nI i = gp_no := h; rw [gp_ne1 (ha i rfl)] at h; exact h.elim), fun h => nomatch h⟩
    | some j => exact (nI_eq (ha i rfl) (hb j rfl)).trans ⟨fun h => by rw [h], fun h => Option.some.inj h⟩
/-- tokens laid aside by the reference -/
def gp_old (M : gz_M) (ts : List gp_K) : Prop := M.1 0 39 = nI ts.length ∧ ∃ N : gz_M, gp_kR N ts ∧ ∀ y, y < 300 → M.1 23 y = N.1 17 y
section
variable {B : Prop} {pf pf' : Nat → Bool} {M M' Mc Mr Mc' Mr' C R : gz_M} {cu cu' o o' k k0 n n' : Nat} {x x' t l l' : List Nat} {b u : gp_Bk} {us us' : List gp_Bk} {ks ks' : Nat → Option gp_Bk} {ts ss : List gp_K} {T T' : gp_T}
/-- a question that lays rules again -/
theorem gp_RI.ans2 (h : gp_RI B pf cu Mc Mr x b us ks o) (e1 : gp_qC cu Mc Mc') (rc : ∀ c, c = 1 ∨ c = 2 ∨ c = 21 ∨ c = 22 ∨ c = 33 → Mr'.1 c = Mr.1 c) (r2 : Mr'.1 0 2 = Mr.1 0 2) (r51 : Mr'.1 0 51 = Mr.1 0 51) (ht : gp_tR Mr' (gp_tab b.1)) (hr : gp_rw B Mc' Mr') : gp_RI B pf cu Mc' Mr' x b us ks o := by
  obtain ⟨⟨q1, q2, q3, q4, q5, q6, q7, q8⟩, h2, h3, h4, h5, h6, h7, h8, h9, h10, h11⟩ := h
  have hcu := q6.1
  refine ⟨⟨q1, q2.fr (fun c c1 c2 => e1.1 c (by omega)), ht, q4.fr (fun c c1 c2 => e1.1 c (by omega)), q5.fr (rc 1 (by omega)), ⟨hcu, by rw [e1.2.1]; exact q6.2.1, q6.2.2.1.fr (fun c c1 c2 => e1.1 c (by omega)), q6.2.2.2⟩, by rw [e1.2.2]; exact q7, hr⟩, h2, h3.fr (e1.1 1 (by omega)) (e1.1 2 (by omega)), h4.fr (rc 2 (by omega)) r2, ?_, h6.fr (rc 1 (by omega)), h7, h8.fr (fun c hc => e1.1 c (by omega)), h9, h10.fr (rc 33 (by omega)) r51, h11.fr (fun _ _ _ => rfl) (fun c hc => e1.1 c (by omega)) (fun c hc => rc c (by omega))⟩
  obtain ⟨a1, a2, a3⟩ := h5
  exact ⟨a1, by rw [e1.1 7 (by omega)]; exact a2, fun i hi => by rw [e1.1 8 (by omega)]; exact a3 i hi⟩
theorem gp_layOldE (hk : gp_kR M ts) : ∃ M', f12_layOld M = some M' ∧ M'.2 = M.2 ∧ (∀ c, c ≠ 0 → c ≠ 23 → M'.1 c = M.1 c) ∧ (∀ i, i ≠ 39 → M'.1 0 i = M.1 0 i) ∧ gp_old M' ts := by
  have e := gp_fl_l (M := M) (c := 23) (o := 0) (N := 300) (v := fun i => M.1 17 i) (fun n a M => f12_layOld_2 n a M) (fun M1 => some (gz_w M1 0 39 (nI ts.length))) (fun n => by
    show f12_layOld_2 (n + 1) _ _ = _
    rw [f12_layOld_2, if_pos (show (300 : Int32) ≤ nI 300 by decide), gp_fl_c (by omega), hk.1, gp_eL]) (fun n i hi => by
    show f12_layOld_2 (n + 1) _ _ = f12_layOld_2 n _ _
    rw [f12_layOld_2, if_neg (show ¬ (300 : Int32) ≤ nI i from nI_ge (b := 300) hi (by omega)), gp_ckb (show i < 300 by omega) (by omega), gp_ckb (show i < 300 by omega) (by omega), nI_clamp (by omega), gp_fl_c (by omega), gp_eL, gp_eL, nI_1, Nat.zero_add]) gz_FU (by unfold gz_FU; omega)
  unfold f12_layOld
  refine ⟨_, e, rfl, fun c c1 c2 => by rw [gp_wc _ c1, gp_fl_c c2], fun i hi => by rw [gp_gn (by omega), gp_fl_c (by omega)], gp_gs _ _ _ _, M, hk, fun y hy => ?_⟩
  have := gp_fl_i (M := M) (c := 23) (o := 0) (N := 300) (v := fun i => M.1 17 i) hy
  rw [Nat.zero_add] at this
  rw [gp_gn (by omega), this]
theorem gp_old.fr (h : gp_old M ts) (e : M'.1 23 = M.1 23) (e0 : M'.1 0 39 = M.1 0 39) : gp_old M' ts := by
  obtain ⟨h1, N, h2, h3⟩ := h
  exact ⟨by rw [e0]; exact h1, N, h2, fun y hy => by rw [e]; exact h3 y hy⟩
theorem gp_alikeC (h : gp_cC k M ts) (h' : gp_cC k0 M ss) (hl : ts.length ≤ 24) (hl' : ss.length ≤ 24) (hw : gp_wT T) (hok : ∀ t, t ∈ ts → gp_tkOk T n t) (hw' : gp_wT T') (hok' : ∀ t, t ∈ ss → gp_tkOk T' n t) (hn : n ≤ 24) : f2_alike k k0 M = some (nI (gp_alk ts ss 25 0), M) := by
  have main : ∀ d p m, p + d = 25 → p ≤ ts.length → p ≤ ss.length → d + 1 < m → f2_alike_4 k k0 m (nI p) (nI p) M = some (nI (gp_alk ts ss d p), M) := by
    intro d
    induction d with
    | zero => intro p m hp h1 h2 hm; omega
    | succ d ih =>
      intro p m hp h1 h2 hm
      obtain ⟨m, rfl⟩ : ∃ q, m = q + 2 := ⟨m - 2, by omega⟩
      rw [f2_alike_4, h.1, gp_alk]
      by_cases c1 : ts.length ≤ p
      · rw [if_pos (nI_le c1 (by omega)), if_neg (fun g => by omega)]
      · rw [if_neg (nI_ge (by omega) (by omega)), h'.1]
        by_cases c2 : ss.length ≤ p
        · rw [if_pos (nI_le c2 (by omega)), if_neg (fun g => by omega)]
        · have stop : f2_alike_4 k k0 (m + 1) (nI p + 0) (nI p + 1) M = some (nI p, M) := by
            rw [gp_add0, nI_1, f2_alike_4]
            split
            · rfl
            · split
              · rfl
              · rw [if_neg (show ¬ nI (p + 1) = nI p from fun g => by have := (nI_eq (by omega) (by omega)).mp g; omega)]
          have v := h.2.2 p (by omega)
          have v' := h'.2.2 p (by omega)
          have o1 := hok _ (gp_getD_mem (d := gp_k0) (show p < ts.length by omega))
          have o2 := hok' _ (gp_getD_mem (d := gp_k0) (show p < ss.length by omega))
          have oI := gp_oInj (gp_rS hw hok (show p < ts.length by omega)) (gp_rS hw' hok' (show p < ss.length by omega))
          have b1 := o1.2.1
          have b2 := o1.2.2.1
          have b3 := o2.2.1
          have b4 := o2.2.2.1
          rw [if_neg (nI_ge (by omega) (by omega)), if_pos rfl, gp_ckb (show p < 24 by omega) (by omega), gp_ckb (show p < 24 by omega) (by omega), nI_clamp (by omega), v.1, v'.1]
          by_cases c3 : (ts.getD p gp_k0).1 = (ss.getD p gp_k0).1
          · rw [if_pos (oI.mpr c3), gp_ckb (show p < 24 by omega) (by omega), gp_ckb (show p < 24 by omega) (by omega), v.2.2.1, v'.2.2.1]
            by_cases c4 : (ts.getD p gp_k0).2.2.1 = (ss.getD p gp_k0).2.2.1
            · rw [if_pos (by rw [c4]), if_pos ⟨by omega, by omega, c3, c4⟩, gp_eL, gp_eL, nI_1]
              exact ih (p + 1) (m + 1) (by omega) (by omega) (by omega) (by omega)
            · rw [if_neg (fun g => c4 ((nI_eq (by omega) (by omega)).mp g)), if_neg (fun g => c4 g.2.2.2), gp_eL, gp_eL]
              exact stop
          · rw [if_neg (fun g => c3 (oI.mp g)), if_neg (fun g => c3 g.2.2.1), gp_eL, gp_eL]
            exact stop
  unfold f2_alike
  exact main 25 0 gz_FU (by omega) (by omega) (by omega) (by unfold gz_FU; omega)
theorem gp_alikeR (h : gp_old M ts) (h' : gp_kR M ss) (hl : ts.length ≤ 24) (hl' : ss.length ≤ 24) (hw : gp_wT T) (hok : ∀ t, t ∈ ts → gp_tkOk T n t) (hw' : gp_wT T') (hok' : ∀ t, t ∈ ss → gp_tkOk T' n t) (hn : n ≤ 24) : f12_like_83 gz_FU 0 M = f12_like_145 (nI (gp_alk ts ss 25 0)) M := by
  obtain ⟨h39, N, hN, h23⟩ := h
  have main : ∀ d p m, p + d = 25 → p ≤ ts.length → p ≤ ss.length → d < m → f12_like_83 m (nI p) M = f12_like_145 (nI (gp_alk ts ss d p)) M := by
    intro d
    induction d with
    | zero => intro p m hp h1 h2 hm; omega
    | succ d ih =>
      intro p m hp h1 h2 hm
      obtain ⟨m, rfl⟩ : ∃ q, m = q + 1 := ⟨m - 1, by omega⟩
      rw [f12_like_83, h39, gp_alk]
      by_cases c1 : ts.length ≤ p
      · rw [if_pos (nI_le c1 (by omega)), if_neg (fun g => by omega)]
      · rw [if_neg (nI_ge (by omega) (by omega)), h'.1]
        by_cases c2 : ss.length ≤ p
        · rw [if_pos (nI_le c2 (by omega)), if_neg (fun g => by omega)]
        · have v := hN.2.2 p (by omega)
          have v' := gp_ofK h' hl' (show p < ss.length by omega)
          have o1 := hok _ (gp_getD_mem (d := gp_k0) (show p < ts.length by omega))
          have o2 := hok' _ (gp_getD_mem (d := gp_k0) (show p < ss.length by omega))
          have oI := gp_oInj (gp_rS hw hok (show p < ts.length by omega)) (gp_rS hw' hok' (show p < ss.length by omega))
          have b1 := o1.2.1
          have b2 := o1.2.2.1
          have b3 := o2.2.1
          have b4 := o2.2.2.1
          have m0 : (12 : Int32) * nI p + 0 = nI (12 * p) := by rw [show (12 : Int32) = nI 12 from rfl, pk_mul, gp_add0]
          have m2 : (12 : Int32) * nI p + 2 = nI (12 * p + 2) := by rw [show (12 : Int32) = nI 12 from rfl, pk_mul, show (2 : Int32) = nI 2 from rfl, nI_add]
          rw [if_neg (nI_ge (by omega) (by omega)), m0, m2, gp_ckb (show 12 * p < 300 by omega) (by omega), nI_clamp (by omega), nI_clamp (by omega), v'.1, gp_eB2, h23 _ (by omega), v.1]
          by_cases c3 : (ts.getD p gp_k0).1 = (ss.getD p gp_k0).1
          · rw [if_pos (oI.mpr c3), gp_ckb (show 12 * p + 2 < 300 by omega) (by omega), v'.2.2.1, gp_eB2, h23 _ (by omega), v.2.2.1]
            by_cases c4 : (ts.getD p gp_k0).2.2.1 = (ss.getD p gp_k0).2.2.1
            · rw [if_pos (by rw [c4]), if_pos ⟨by omega, by omega, c3, c4⟩, gp_eL, nI_1]
              exact ih (p + 1) m (by omega) (by omega) (by omega) (by omega)
            · rw [if_neg (fun g => c4 ((nI_eq (by omega) (by omega)).mp g)), if_neg (fun g => c4 g.2.2.2)]
          · rw [if_neg (fun g => c3 (oI.mp g)), if_neg (fun g => c3 g.2.2.1)]
  exact main 25 0 gz_FU (by omega) (by omega) (by omega) (by unfold gz_FU; omega)
/-- two numbers told -/
theorem gp_tell2C (M : gz_M) (p q : Int64) : ∃ M1 M2, f11_tell p (gz_w M 0 15 0) = some M1 ∧ gp_fC M M1 ∧ f11_tell q M1 = some M2 ∧ gp_fC M M2 ∧ gp_wC M2 [p, q] := by
  obtain ⟨a1, a2⟩ := gp_wC0 M
  obtain ⟨M1, b1, b2, b3⟩ := gp_tellC p a2 (by simp)
  obtain ⟨M2, c1, c2, c3⟩ := gp_tellC q b3 (by simp)
  exact ⟨M1, M2, b1, a1.trans b2, c1, (a1.trans b2).trans c2, c3⟩
theorem gp_tell2R (M : gz_M) (p q : Int64) : ∃ M1 M2, f12_tell p (gz_w M 0 4 0) = some M1 ∧ gp_fR M M1 ∧ f12_tell q M1 = some M2 ∧ gp_fR M M2 ∧ gp_wR M2 [p, q] := by
  obtain ⟨a1, a2⟩ := gp_wR0 M
  obtain ⟨M1, b1, b2, b3⟩ := gp_tellR p a2 (by simp)
  obtain ⟨M2, c1, c2, c3⟩ := gp_tellR q b3 (by simp)
  exact ⟨M1, M2, b1, a1.trans b2, c1, (a1.trans b2).trans c2, c3⟩
theorem gp_a15 (h : gp_RI B pf cu Mc Mr x b us ks o) (a : Int32) : ∃ v Mc' Mr', f11_like pf a Mc = some (v, Mc') ∧ f12_like a Mr = some (v, Mr') ∧ gp_R B pf Mc' Mr' := by
  have hR := h
  obtain ⟨⟨q1, q2, q3, q4, q5, q6, q7, q8⟩, h2, h3, h4, h5, h6, h7, h8, h9, h10, h11⟩ := h
  have hQ := hR.1
  have hcu := q6.1
  have no : ∀ v, f11_like pf a Mc = some (v, Mc) → f12_like a Mr = some (v, gz_w Mr 0 5 0) → ∃ v Mc' Mr', f11_like pf a Mc = some (v, Mc') ∧ f12_like a Mr = some (v, Mr') ∧ gp_R B pf Mc' Mr' := fun v e1 e2 => ⟨v, Mc, gz_w Mr 0 5 0, e1, e2, cu, x, b, us, ks, o, hR.ans gp_qC.refl (gp_thr 0).1 (q8.fr rfl rfl rfl (gp_gn (by omega)))⟩
  rcases gp_in2 a (gz_w Mr 0 5 0) with ⟨e1, e2⟩ | ⟨e0, e1, e2⟩ | ⟨j, hj, rfl, e2⟩
  · refine no (-1) ?_ ?_
    · unfold f11_like; rw [if_pos e1]
    · unfold f12_like; rw [gp_eL, e2, gp_eB2, if_pos rfl]
  · refine no (-1) ?_ ?_
    · unfold f11_like; rw [if_neg e0, if_neg e1]
    · unfold f12_like; rw [gp_eL, e2, gp_eB2, if_pos rfl]
  · have hk := h11 j hj
    have e0 : ¬ nI j < 0 := nI_pos (by omega)
    have e1 : nI j < (2 : Int32) := nI_lt (b := 2) hj (by omega)
    cases hks : ks j with
    | none =>
      rw [hks] at hk
      refine no (-2) ?_ ?_
      · unfold f11_like
        rw [if_neg e0, if_pos e1, gp_ckb hj (by omega), nI_clamp (by omega), if_neg (by rw [h7 (10 + j) (by omega), hk.1]; decide)]
      · unfold f12_like
        rw [gp_eL, e2, gp_eB2, if_neg (by decide), gp_ckb hj (by omega), nI_clamp (by omega), gp_wc _ (by omega), hk.2, if_pos rfl]
    | some u =>
      rw [hks] at hk
      obtain ⟨k1, k2, k3, k4, k5⟩ := hk
      have hwu := gp_tab_w k1.2.1 k1.1
      have hok1 := gp_cut_ok (l := b.2) q1
      have hok2 := gp_cut_ok (l := b.2) hwu
      have hl24 : b.2.length ≤ 24 := h2.2.2.1
      have hc1 : (gp_cut (gp_tab b.1) b.2).length ≤ 24 := gp_cut_len
      have hc2 : (gp_cut (gp_tab u.1) b.2).length ≤ 24 := gp_cut_len
      -- the component
      obtain ⟨C1, b1, b2, b3⟩ := gp_bldC (M := Mc) (k := 39) (k1 := 135 + 4 * (10 + j)) ⟨by omega, fun c hc => by omega⟩ k1.1 k3.1
      have c1c : ∀ c, c ≠ 4 → c ≠ 5 → c ≠ 6 → c < 39 ∨ 57 < c → C1.1 c = Mc.1 c := b2.2
      obtain ⟨C2, m1, m2, m3, m4⟩ := gp_make (M := C1) (k := 90 - cu) (k0 := 39) (k1 := 9) (l := b.2) hwu (by omega) (by omega) b3 (q4.fr (fun c e1 e2 => c1c c (by omega) (by omega) (by omega) (by omega)))
      have c2c : ∀ c, c ≠ 4 → c ≠ 5 → c ≠ 6 → c < 39 ∨ 57 < c → c < 90 - cu ∨ 90 - cu + 9 ≤ c → C2.1 c = Mc.1 c := fun c e1 e2 e3 e4 e5 => by rw [m3 c e5, c1c c e1 e2 e3 e4]
      obtain ⟨C3, C4, t1, t2, t3, t4, t5⟩ := gp_tell2C C2 (nI (gp_cut (gp_tab u.1) b.2).length).toInt64 (nI (gp_stk (gp_cut (gp_tab u.1) b.2))).toInt64
      have s8 : ∀ N, gp_fC C2 N → gz_cIx (N.1 0 8) = 90 - cu := fun N hN => by rw [hN.2 8 (by omega), c2c 0 (by omega) (by omega) (by omega) (by omega) (by omega)]; exact q7
      have s5 : ∀ N, gp_fC C2 N → gz_cIx (N.1 0 5) = cu := fun N hN => by rw [hN.2 5 (by omega), c2c 0 (by omega) (by omega) (by omega) (by omega) (by omega)]; exact q6.2.1
      have cut2 : ∀ N, gp_fC C2 N → gp_cC (90 - cu) N (gp_cut (gp_tab u.1) b.2) := fun N hN => m4.fr (fun c e1 e2 => hN.1 c (by omega))
      have cut1 : ∀ N, gp_fC C2 N → gp_cC cu N (gp_cut (gp_tab b.1) b.2) := fun N hN => q6.2.2.1.fr (fun c e1 e2 => by rw [hN.1 c (by omega), c2c c (by omega) (by omega) (by omega) (by omega) (by omega)])
      have f0 : gp_fC C2 (gz_w C2 0 15 0) := (gp_wC0 C2).1
      have eC : f11_like pf (nI j) Mc = some (nI (gp_alk (gp_cut (gp_tab b.1) b.2) (gp_cut (gp_tab u.1) b.2) 25 0), C4) := by
        unfold f11_like
        rw [if_neg e0, if_pos e1, gp_ckb hj (by omega), nI_clamp (by omega), if_pos (by rw [h7 (10 + j) (by omega), k2]), k2, gp_eC, b1, gp_eB, c1c 0 (by omega) (by omega) (by omega) (by omega), q7, show (7 + 2 : Nat) = 9 from rfl, m1, gp_eB, gp_eL, s8 _ f0, (cut2 _ f0).1, t1, gp_eB, s8 _ t2, gp_stuckC hwu hok2 (cut2 _ t2) hc2, gp_eB2, t3, gp_eB, s8 _ t4, s5 _ t4, gp_alikeC (cut1 _ t4) (cut2 _ t4) hc1 hc2 q1 hok1 hwu hok2 hl24, gp_eB2]
      -- the reference
      obtain ⟨M1, r1, r2, r3, r4, r5, r6, r7, r8, r9⟩ := gp_cutT hQ
      obtain ⟨M2, o1, o2, o3, o4, o5⟩ := gp_layOldE r3
      have m2c : ∀ c, c = 1 ∨ c = 2 ∨ c = 21 ∨ c = 22 ∨ c = 33 → M2.1 c = Mr.1 c := fun c hc => by rw [o3 c (by omega) (by omega), r2.1 c (by omega)]
      have lp := gp_fl_l (M := M2) (c := 34) (o := 0) (N := 106) (v := fun i => M2.1 21 (106 * j + i)) (fun n a M => f12_like_39 n (nI j) a M) (fun M1 => gz_bd (f12_layRules 34 M1) fun M2 => gz_bd (f12_cutAll 0 M2) fun M4 => f12_like_83 gz_FU 0 M4) (fun n => by
        show f12_like_39 (n + 1) _ _ _ = _
        rw [f12_like_39, if_pos (show (106 : Int32) ≤ nI 106 by decide)]) (fun n i hi => by
        show f12_like_39 (n + 1) _ _ _ = f12_like_39 n _ _ _
        rw [f12_like_39, if_neg (show ¬ (106 : Int32) ≤ nI i from nI_ge (b := 106) hi (by omega)), show (106 : Int32) = nI 106 from rfl, pk_mul, nI_add, gp_ckb (show 106 * j + i < 212 by omega) (by omega), gp_ckb (show i < 106 by omega) (by omega), nI_clamp (by omega), nI_clamp (by omega), gp_fl_c (show (21 : Nat) ≠ 34 by omega), gp_eL, gp_eL, nI_1, Nat.zero_add]) gz_FU (by unfold gz_FU; omega)
      obtain ⟨M3, hM3⟩ : ∃ M3, M3 = gp_fl M2 34 0 106 (fun i => M2.1 21 (106 * j + i)) := ⟨_, rfl⟩
      rw [← hM3] at lp
      have m3c : ∀ c, c ≠ 34 → M3.1 c = M2.1 c := fun c hc => by rw [hM3, gp_fl_c hc]
      have rb3 : gp_rB 34 0 M3 u := by
        have k5' : gp_rB 21 (106 * j) M2 u := k5.fr (m2c 21 (by omega))
        refine k5'.cp k1.1.1 k1.2.2.1 (fun i hi => ?_)
        rw [hM3, gp_fl_i hi]
      obtain ⟨M4, l1, l2, l3⟩ := gp_lay (M := M3) (k0 := 34) ⟨by omega, by omega⟩ k1.1 k1.2.1 rb3.1 (fun i hi => by have := rb3.2.1 i hi; rw [Nat.zero_add] at this; exact this)
      have m4c : ∀ c, c = 1 ∨ c = 2 ∨ c = 21 ∨ c = 22 ∨ c = 33 → M4.1 c = Mr.1 c := fun c hc => by rw [l2.2.1 c (by omega) (by omega), m3c c (by omega), m2c c hc]
      obtain ⟨M5, d1, d2, d3, d4, d5, d6⟩ := gp_cutAll0 (M := M4) (l := b.2) hwu l3 (q5.fr (m4c 1 (by omega)))
      have ho5 : gp_old M5 (gp_cut (gp_tab b.1) b.2) := o5.fr (by rw [d2.2.1 23 (by omega) (by omega), l2.2.1 23 (by omega) (by omega), m3c 23 (by omega)]) (by rw [d2.2.2 39 (by omega) (by omega) (by omega) (by omega) (by omega), l2.2.2 39 (by omega), m3c 0 (by omega)])
      have eA := gp_alikeR ho5 d4 hc1 hc2 q1 hok1 hwu hok2 hl24
      obtain ⟨M6, M7, g1, g2, g3, g4, g5⟩ := gp_tell2R M5 (nI (gp_cut (gp_tab u.1) b.2).length).toInt64 (nI (gp_stk (gp_cut (gp_tab u.1) b.2))).toInt64
      have m7c : ∀ c, c = 1 ∨ c = 2 ∨ c = 21 ∨ c = 22 ∨ c = 33 → M7.1 c = Mr.1 c := fun c hc => by rw [g4.1 c (by omega), d2.2.1 c (by omega) (by omega), m4c c hc]
      have rb7 : gp_rB 1 0 M7 b := h6.fr (m7c 1 (by omega))
      obtain ⟨M8, n1, n2, n3⟩ := gp_lay (M := M7) (k0 := 1) ⟨by omega, by omega⟩ h2.1 h2.2.1 rb7.1 (fun i hi => by have := rb7.2.1 i hi; rw [Nat.zero_add] at this; exact this)
      have g31 : (gz_w M5 0 4 0).1 0 31 = nI (gp_cut (gp_tab u.1) b.2).length := by rw [gp_gn (by omega)]; exact d4.1
      have eR : f12_like (nI j) Mr = some (nI (gp_alk (gp_cut (gp_tab b.1) b.2) (gp_cut (gp_tab u.1) b.2) 25 0), M8) := by
        unfold f12_like
        rw [gp_eL, e2, gp_eB2, if_neg (by decide), gp_ckb hj (by omega), nI_clamp (by omega), gp_wc _ (by omega), k4, if_neg (by decide), r1, gp_eB, o1, gp_eB, show f12_like_39 gz_FU (nI j) 0 M2 = _ from lp, l1, gp_eB, d1, gp_eB, eA]
        unfold f12_like_145
        rw [gp_eL, g31, g1, gp_eB, gp_stuckR hwu hok2 (d4.fr g2) hc2, gp_eB2, g3, gp_eB, n1, gp_eB]
      have m80 : ∀ i, i = 2 ∨ i = 51 → M8.1 0 i = Mr.1 0 i := fun i hi => by
        rw [n2.2.2 i (by omega), g4.2 i (by omega), d2.2.2 i (by omega) (by omega) (by omega) (by omega) (by omega), l2.2.2 i (by omega), m3c 0 (by omega), o4 i (by omega)]
        rcases hi with rfl | rfl
        · exact r2.2.1
        · exact r2.2.2.2
      refine ⟨_, C4, M8, eC, eR, cu, x, b, us, ks, o, hR.ans2 ⟨fun c hc => by rw [t4.1 c (by omega), c2c c (by omega) (by omega) (by omega) (by omega) (by omega)], by rw [t4.2 5 (by omega), c2c 0 (by omega) (by omega) (by omega) (by omega) (by omega)], by rw [t4.2 8 (by omega), c2c 0 (by omega) (by omega) (by omega) (by omega) (by omega)]⟩ (fun c hc => by rw [n2.2.1 c (by omega) (by omega), m7c c hc]) (m80 2 (by omega)) (m80 51 (by omega)) n3 ⟨_, _, by simp, by simp, t5, g5.fr n2.1 (n2.2.2 4 (by omega)), fun _ => rfl⟩⟩
end
