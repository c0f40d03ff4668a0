/-! promise 35: day: what is done -/
section
variable {B : Prop} {pf pf' : Nat → Bool} {M M' Mc Mr Mc' Mr' C R Q : gz_M} {cu cu' o o' kd : Nat} {x x' t l l' : List Nat} {b u : gp_Bk} {us us' : List gp_Bk} {ks ks' : Nat → Option gp_Bk}
def gq_ps (us : List gp_Bk) (b : gp_Bk) : List gp_Bk := (if us.length = 10 then us.drop 1 else us) ++ [b]
/-- the component within a day -/
def gq_iC (pf : Nat → Bool) (Mc : gz_M) (us : List gp_Bk) (b : gp_Bk) (d : Nat) (C : gz_M) (pf' : Nat → Bool) (l : List Nat) : Prop := C.2 = Mc.2 ∧ (∀ c, c ≠ 9 → c ≠ 10 → c ≠ 131 → c < 135 ∨ 175 ≤ c → C.1 c = Mc.1 c) ∧ gp_lC 9 C l ∧ gp_pf pf' ∧ (∀ j, 10 ≤ j → j < 12 → pf' j = pf j) ∧ (∃ o', gp_H pf' C o' (if d = 0 then us else gq_ps us b)) ∧ (d = 0 → l = b.2)
def gq_iR (Q R : gz_M) (l : List Nat) : Prop := R.2 = Q.2 ∧ (∀ c, c ≠ 1 → R.1 c = Q.1 c) ∧ (∀ i, i < 81 → R.1 1 i = Q.1 1 i) ∧ gp_lR R l
theorem gq_c9s {m : Nat} {v x3 x4 : Int32} {C : gz_M} {pf' : Nat → Bool} {u : Nat} (x1 : Int32) (hv : ¬ v = 0) : g11_changeByText_9 (m + 1) x1 v x3 x4 C pf' u = g11_changeByText_184 x1 v C pf' u := by
  rw [g11_changeByText_9]
  split
  · rfl
  · split
    · rfl
    · first | rw [if_neg hv] | rfl
theorem gq_ref0 {k : Nat} {q s : Int32} (hc : gp_lC k C l) (hr : gp_lR R l) (hk : kd < 3) (hs : kd = 2 → s = 0) (h : f12_refuses (nI kd) q s R = some (0, R)) : f5_refusal k (nI kd) q s C = some (0, C) := by
  rcases gq_ref hc hr hk q s hs with ⟨v, v1, v2, _, g2⟩ | ⟨j', z', g0, g1, _, g3, _⟩
  · rw [h] at g2
    exact absurd (congrArg Prod.fst (Option.some.inj g2)).symm v2
  · exact g3
/-- one change of a day, behind its signs -/
theorem gq_113 (hx5 : gp_xK 7 Mc b.1) {d v z : Nat} (m : Nat) (hd : 3 * d ≤ 80) (hk : kd < 3) (s0 s1 : Int32) (hC : gq_iC pf Mc us b d C pf' l) (hR : gq_iR Q R l) (hz : kd = 2 → z = 0) (hv : v < 1000) (hz8 : z < 1000) : (∃ w, g11_changeByText_113 (g11_changeByText_9 (m + 1)) (nI d) (nI d) (nI kd) (nI v) (nI z) s0 s1 C pf' (if d = 0 then 0 else 1) = g11_changeByText_184 (nI d) 1 C pf' (if d = 0 then 0 else 1) ∧ f12_refuses (nI kd) (nI v) (nI z) R = some (w, R) ∧ ¬ w = 0) ∨ (∃ C' pf2 R', g11_changeByText_113 (g11_changeByText_9 (m + 1)) (nI d) (nI d) (nI kd) (nI v) (nI z) s0 s1 C pf' (if d = 0 then 0 else 1) = g11_changeByText_9 (m + 1) (nI (d + 1)) 0 (s1 + s0) (nI (d + 1)) C' pf2 (if d + 1 = 0 then 0 else 1) ∧ f12_refuses (nI kd) (nI v) (nI z) R = some (0, R) ∧ f12_doChange (nI kd) (nI v) (nI z) R = some R' ∧ gq_iC pf Mc us b (d + 1) C' pf2 (gq_chg kd l v z) ∧ gq_iR Q R' (gq_chg kd l v z)) := by
  obtain ⟨a1, a2, a3, a4, a5, ⟨o1, a6⟩, a7⟩ := hC
  obtain ⟨r1, r2, r3, r4⟩ := hR
  have hs : kd = 2 → nI z = 0 := fun g => by rw [hz g]; rfl
  have d0 : (nI d = (0 : Int32)) ↔ d = 0 := nI_eq (b := 0) (by omega) (by omega)
  unfold g11_changeByText_113
  rw [gp_eL, show (7 + 2 : Nat) = 9 from rfl]
  rcases gq_ref a3 r4 hk (nI v) (nI z) hs with ⟨w, w1, w2, e1, e2⟩ | ⟨j, zz, g1, g2, hcan, e1, e2⟩
  · left
    refine ⟨w, ?_, e2, w2⟩
    rw [e1, gp_eB2, if_neg w1]
    unfold g11_changeByText_139
    rw [if_neg (by decide), gp_eL]
    exact gq_c9s _ (by decide)
  · right
    have h24 := a3.1
    have hcan : gq_can kd l v z := by
      have b1 : j ≤ 24 := by
        obtain ⟨c1, c2, c3, c4⟩ := hcan
        obtain e | e | e : kd = 0 ∨ kd = 1 ∨ kd = 2 := by omega
        · have := (c2 e).1; omega
        · have := (c3 e).1; omega
        · have := c4 e; omega
      have b2 := hcan.1
      have b3 : v = j := (nI_eq (by omega) (by omega)).mp g1
      have b4 : z = zz := (nI_eq (by omega) (by omega)).mp g2
      rw [b3, b4]
      exact hcan
    obtain ⟨R', w1, w2, w3, w4, w5⟩ := gq_doR hk r4 hcan
    have iR : gq_iR Q R' (gq_chg kd l v z) := ⟨by rw [w2, r1], fun c hc => by rw [w3 c hc, r2 c hc], fun i hi => by rw [w4 i hi, r3 i hi], w5⟩
    rw [e1, gp_eB2, if_pos (by decide)]
    unfold g11_changeByText_139
    rw [if_pos rfl]
    by_cases hd0 : d = 0
    · subst hd0
      have hlb := a7 rfl
      subst hlb
      obtain ⟨C1, pf2, o', p1, p2, p3, p4, p5, p6⟩ := gp_pushG (M := C) (b := b) (us := us) a4 a6 ⟨⟨hx5.1, by rw [a2 7 (by omega) (by omega) (by omega) (by omega)]; exact hx5.2.1, fun i hi => by rw [a2 8 (by omega) (by omega) (by omega) (by omega)]; exact hx5.2.2 i hi⟩, a3⟩
      have l1 : gp_lC 9 C1 b.2 := a3.fr (fun c c1 c2 => p3 c (by omega) (by omega))
      obtain ⟨C2, f1, f2, f3⟩ := gq_doC hk l1 hcan (gq_ref0 l1 r4 hk hs e2)
      refine ⟨C2, pf2, R', ?_, e2, w1, ⟨by rw [f2.1, p2, a1], fun c c1 c2 c3 c4 => by rw [f2.2 c c1 c2, p3 c c3 c4, a2 c c1 c2 c3 c4], f3, p4, fun j j1 j2 => by rw [p5 j j1 j2, a5 j j1 j2], ⟨o', ?_⟩, fun g => by omega⟩, iR⟩
      · rw [if_pos (d0.mpr rfl), show decide ((if (0 : Nat) = 0 then 0 else 1) + 1 ≤ 1) = true from by decide, gp_eC, p1, gp_eB2]
        unfold g11_changeByText_159
        rw [show (7 + 2 : Nat) = 9 from rfl, f1, gp_eB, nI_1, gp_eL, gp_eL]
        rfl
      · rw [if_neg (by omega)]
        exact gp_H.fr p6 (fun c hc => f2.2 c (by omega) (by omega))
    · obtain ⟨C2, f1, f2, f3⟩ := gq_doC hk a3 hcan e1
      refine ⟨C2, pf', R', ?_, e2, w1, ⟨by rw [f2.1, a1], fun c c1 c2 c3 c4 => by rw [f2.2 c c1 c2, a2 c c1 c2 c3 c4], f3, a4, a5, ⟨o1, ?_⟩, fun g => by omega⟩, iR⟩
      · rw [if_neg (fun g => hd0 (d0.mp g))]
        unfold g11_changeByText_159
        rw [show (7 + 2 : Nat) = 9 from rfl, f1, gp_eB, nI_1, gp_eL, gp_eL, if_neg hd0, if_neg (by omega)]
      · rw [if_neg hd0] at a6
        rw [if_neg (by omega)]
        exact a6.fr (fun c hc => f2.2 c (by omega) (by omega))
theorem gq_dayJ (hx5 : gp_xK 7 Mc b.1) (hxC : gp_xC Mc x) : ∀ (n p d m m2 : Nat) (C R : gz_M) (pf' : Nat → Bool) (l : List Nat), x.length ≤ p + n → p ≤ x.length → n + 1 < m → n + 1 < m2 → (gq_dy x n p).1 = none → gq_iC pf Mc us b d C pf' l → gq_iR Q R l → (∀ j, j < (gq_dy x n p).2.length → gq_act3 Q (d + j) ((gq_dy x n p).2.getD j (0, 0, 0))) → 3 * (d + (gq_dy x n p).2.length) ≤ 80 → ∃ C' R' pf2 l' d' bar, g11_changeByText_9 m (nI d) 0 (nI p) (nI d) C pf' (if d = 0 then 0 else 1) = g11_changeByText_184 (nI d') bar C' pf2 (if d' = 0 then 0 else 1) ∧ f12_day_84 m2 (nI (d + (gq_dy x n p).2.length)) (nI d) R = f12_day_162 (nI (d + (gq_dy x n p).2.length)) (nI d') R' ∧ gq_iC pf Mc us b d' C' pf2 l' ∧ gq_iR Q R' l' ∧ ((bar = 0 ∧ d' = d + (gq_dy x n p).2.length) ∨ (bar = 1 ∧ d' < d + (gq_dy x n p).2.length)) := by
  have h80 := hxC.1
  intro n
  induction n with
  | zero =>
    intro p d m m2 C R pf' l hp hpl hm hm2 hf hC hR hA h3
    obtain ⟨m, rfl⟩ : ∃ q, m = q + 1 := ⟨m - 1, by omega⟩
    obtain ⟨m2, rfl⟩ : ∃ q, m2 = q + 1 := ⟨m2 - 1, by omega⟩
    have hx : gp_xC C x := hxC.fr (hC.2.1 1 (by omega) (by omega) (by omega) (by omega)) (hC.2.1 2 (by omega) (by omega) (by omega) (by omega))
    have hd : 3 * d ≤ 80 := by omega
    refine ⟨C, R, pf', l, d, 0, ?_, ?_, hC, hR, Or.inl ⟨rfl, rfl⟩⟩
    · rw [g11_changeByText_9, if_neg (show ¬ (80 : Int32) ≤ nI d from nI_ge (b := 80) (by omega) (by omega)), hx.2.1, if_pos (nI_le (by omega) (by omega))]
    · show f12_day_84 (m2 + 1) (nI d) (nI d) R = f12_day_162 (nI d) (nI d) R
      rw [f12_day_84, if_pos (nI_le (Nat.le_refl _) (by omega))]
  | succ n ih =>
    intro p d m m2 C R pf' l hp hpl hm hm2 hf hC hR hA h3
    obtain ⟨m, rfl⟩ : ∃ q, m = q + 2 := ⟨m - 2, by omega⟩
    obtain ⟨m2, rfl⟩ : ∃ q, m2 = q + 1 := ⟨m2 - 1, by omega⟩
    have hx : gp_xC C x := hxC.fr (hC.2.1 1 (by omega) (by omega) (by omega) (by omega)) (hC.2.1 2 (by omega) (by omega) (by omega) (by omega))
    have hd : 3 * d ≤ 80 := by omega
    by_cases c0 : x.length ≤ p
    · have e0 : gq_dy x (n + 1) p = (none, []) := by rw [gq_dy, if_pos c0]
      rw [e0]
      refine ⟨C, R, pf', l, d, 0, ?_, ?_, hC, hR, Or.inl ⟨rfl, rfl⟩⟩
      · rw [g11_changeByText_9, if_neg (show ¬ (80 : Int32) ≤ nI d from nI_ge (b := 80) (by omega) (by omega)), hx.2.1, if_pos (nI_le (by omega) (by omega))]
      · show f12_day_84 (m2 + 1) (nI d) (nI d) R = f12_day_162 (nI d) (nI d) R
        rw [f12_day_84, if_pos (nI_le (Nat.le_refl _) (by omega))]
    · -- an act
      obtain ⟨kd, vq, z, p', s0, s1, hk3, hkz, hvq, hz8, hdy, hp'1, hp'2, hst⟩ : ∃ (kd vq z p' : Nat) (s0 s1 : Int32), kd < 3 ∧ (kd = 2 → z = 0) ∧ vq < 1000 ∧ z < 1000 ∧ gq_dy x (n + 1) p = ((gq_dy x n p').1, (kd, vq, z) :: (gq_dy x n p').2) ∧ p < p' ∧ p' ≤ x.length ∧ (g11_changeByText_9 (m + 1 + 1) (nI d) 0 (nI p) (nI d) C pf' (if d = 0 then 0 else 1) = g11_changeByText_113 (g11_changeByText_9 (m + 1)) (nI d) (nI d) (nI kd) (nI vq) (nI z) s0 s1 C pf' (if d = 0 then 0 else 1) ∧ s1 + s0 = nI p') := by
        have hf' := hf
        rw [gq_dy, if_neg c0] at hf'
        have st0 : ∀ kd, gq_dk (x.getD p 0) = some kd → p + 1 < x.length → p + 2 < x.length → 48 ≤ x.getD (p + 1) 0 → 48 ≤ x.getD (p + 2) 0 → g11_changeByText_9 (m + 1 + 1) (nI d) 0 (nI p) (nI d) C pf' (if d = 0 then 0 else 1) = if nI kd = 2 then g11_changeByText_99 (g11_changeByText_9 (m + 1)) (nI d) (nI p) (nI d) (nI kd) (nI (gq_pq x p)) 0 C pf' (if d = 0 then 0 else 1) else (gz_bd2 (f10_get (nI p + 3) C) fun v18 M19 => g11_changeByText_99 (g11_changeByText_9 (m + 1)) (nI d) (nI p) (nI d) (nI kd) (nI (gq_pq x p)) (v18 - 97) M19 pf' (if d = 0 then 0 else 1)) := fun kd hk g1 g2 g3 g4 => by
          have e1 : nI p + 1 = nI (p + 1) := nI_1 _
          have e2 : nI p + 2 = nI (p + 2) := nI_add _ 2
          have e4 : (nI (x.getD (p + 1) 0) - 48) * 10 + (nI (x.getD (p + 2) 0) - 48) = nI (gq_pq x p) := by
            rw [show (48 : Int32) = nI 48 from rfl, gp_subI g3, gp_subI g4, show (10 : Int32) = nI 10 from rfl, pk_mul, nI_add]
            unfold gq_pq
            rw [Nat.mul_comm]
          rw [g11_changeByText_9, if_neg (show ¬ (80 : Int32) ≤ nI d from nI_ge (b := 80) (by omega) (by omega)), hx.2.1, if_neg (nI_ge (by omega) (by omega)), if_pos rfl, gp_xget hx (by omega), gp_eB2, gq_kind (hx.2.2 p (by omega)).2, gp_eB2, e1, gp_xget hx g1, gp_eB2, e2, gp_xget hx g2, gp_eB2, e4, gp_eL, hk, gp_oS]
        cases hk : gq_dk (x.getD p 0) with
        | none => rw [hk] at hf'; cases hf'
        | some kd =>
          rw [hk] at hf'
          dsimp only at hf'
          have hk3 := gq_dk_lt hk
          have k2 : (nI kd = (2 : Int32)) ↔ kd = 2 := nI_eq (b := 2) (by omega) (by omega)
          by_cases c1 : gq_isd x (p + 1) = false
          · rw [if_pos c1] at hf'; cases hf'
          rw [if_neg c1] at hf'
          by_cases c2 : gq_isd x (p + 2) = false
          · rw [if_pos c2] at hf'; cases hf'
          rw [if_neg c2] at hf'
          have c1t : gq_isd x (p + 1) = true := by simpa using c1
          have c2t : gq_isd x (p + 2) = true := by simpa using c2
          have l1 : p + 1 < x.length := Classical.byContradiction fun g => by rw [gq_isdN (by omega)] at c1t; cases c1t
          have l2 : p + 2 < x.length := Classical.byContradiction fun g => by rw [gq_isdN (by omega)] at c2t; cases c2t
          have d1 := (gq_isdE l1).mp c1t
          have d2 := (gq_isdE l2).mp c2t
          have hvq : gq_pq x p < 1000 := by unfold gq_pq; omega
          have hst := st0 kd hk l1 l2 d1.1 d2.1
          by_cases c3 : kd = 2
          · rw [if_pos (k2.mpr c3)] at hst
            refine ⟨2, gq_pq x p, 0, p + 3, 3, nI p, by omega, fun _ => rfl, hvq, by omega, ?_, by omega, by omega, ?_, ?_⟩
            · rw [gq_dy, if_neg c0, hk]
              dsimp only
              rw [if_neg c1, if_neg c2, if_pos c3]
            · rw [hst]
              unfold g11_changeByText_99
              rw [if_pos (k2.mpr c3), c3]
              rfl
            · exact nI_add _ 3
          · rw [if_neg c3] at hf'
            by_cases c4 : gq_iss x (p + 3) = false
            · rw [if_pos c4] at hf'; cases hf'
            have c4t : gq_iss x (p + 3) = true := by simpa using c4
            have l3 : p + 3 < x.length := Classical.byContradiction fun g => by rw [gq_issN (by omega)] at c4t; cases c4t
            have d3 := (gq_issE l3).mp c4t
            have e3 : nI p + 3 = nI (p + 3) := nI_add _ 3
            rw [if_neg (fun g => c3 (k2.mp g)), e3, gp_xget hx l3, gp_eB2, show (97 : Int32) = nI 97 from rfl, gp_subI d3.1] at hst
            refine ⟨kd, gq_pq x p, x.getD (p + 3) 0 - 97, p + 4, 4, nI p, hk3, fun g => absurd g c3, hvq, by omega, ?_, by omega, by omega, ?_, ?_⟩
            · rw [gq_dy, if_neg c0, hk]
              dsimp only
              rw [if_neg c1, if_neg c2, if_neg c3, if_neg c4]
            · rw [hst]
              unfold g11_changeByText_99
              rw [if_neg (fun g => c3 (k2.mp g))]
            · exact nI_add _ 4
      rw [hdy] at hf hA h3 ⊢
      rw [List.length_cons] at h3
      have hl : ((kd, vq, z) :: (gq_dy x n p').2).length = (gq_dy x n p').2.length + 1 := List.length_cons
      have hA0 := hA 0 (by rw [hl]; omega)
      have A0 : ((kd, vq, z) :: (gq_dy x n p').2).getD 0 (0, 0, 0) = (kd, vq, z) := rfl
      rw [A0, Nat.add_zero] at hA0
      obtain ⟨A1, A2, A3⟩ := hA0
      dsimp only at A1 A2 A3
      have m3 : (3 : Int32) * nI d = nI (3 * d) := by rw [show (3 : Int32) = nI 3 from rfl, pk_mul]
      have m31 : nI (3 * d) + 1 = nI (3 * d + 1) := nI_1 _
      have m32 : nI (3 * d) + 2 = nI (3 * d + 2) := nI_add _ 2
      have hRQ := hR.2.1 35 (by omega)
      have s84 : f12_day_84 (m2 + 1) (nI (d + ((gq_dy x n p').2.length + 1))) (nI d) R = (gz_bd2 (f12_refuses (nI kd) (nI vq) (nI z) R) fun v5 M6 => if v5 = 0 then (gz_ck (gz_inb (nI (3 * d)) 240) <| gz_ck (gz_inb (nI (3 * d + 1)) 240) <| gz_ck (gz_inb (nI (3 * d + 2)) 240) <| gz_bd (f12_doChange (M6.1 35 (nI (3 * d)).toNatClampNeg) (M6.1 35 (nI (3 * d + 1)).toNatClampNeg) (M6.1 35 (nI (3 * d + 2)).toNatClampNeg) M6) fun M12 => gz_lt (nI d + 1) fun v14 => f12_day_84 m2 (nI (d + ((gq_dy x n p').2.length + 1))) v14 M12) else (f12_day_162 (nI (d + ((gq_dy x n p').2.length + 1))) (nI d) M6)) := by
        rw [f12_day_84, if_neg (nI_ge (by omega) (by omega)), m3, m31, m32, gp_ckb (show 3 * d < 240 by omega) (by omega), gp_ckb (show 3 * d + 1 < 240 by omega) (by omega), gp_ckb (show 3 * d + 2 < 240 by omega) (by omega), nI_clamp (by omega), nI_clamp (by omega), nI_clamp (by omega), hRQ, A1, A2, A3]
      rcases gq_113 (C := C) (R := R) (Q := Q) hx5 m hd hk3 s0 s1 hC hR hkz hvq hz8 with ⟨w, g1, g2, g3⟩ | ⟨C', pf2, R', g1, g2, g3, g4, g5⟩
      · refine ⟨C, R, pf', l, d, 1, by rw [hst.1, g1], ?_, hC, hR, Or.inr ⟨rfl, by rw [hl]; omega⟩⟩
        rw [hl, s84, g2, gp_eB2, if_neg g3]
      · obtain ⟨C2, R2, pf3, l2, d2, bar, f1, f2, f3, f4, f5⟩ := ih p' (d + 1) (m + 1) m2 C' R' pf2 (gq_chg kd l vq z) (by omega) (by omega) (by omega) (by omega) hf g4 g5 (fun j hj => by
          have := hA (j + 1) (by rw [hl]; omega)
          have e : ((kd, vq, z) :: (gq_dy x n p').2).getD (j + 1) (0, 0, 0) = (gq_dy x n p').2.getD j (0, 0, 0) := by simp [List.getD]
          rw [e, show d + (j + 1) = d + 1 + j by omega] at this
          exact this) (by omega)
        have hsum : d + 1 + (gq_dy x n p').2.length = d + ((gq_dy x n p').2.length + 1) := by omega
        rw [hsum] at f2 f5
        refine ⟨C2, R2, pf3, l2, d2, bar, by rw [hst.1, g1, hst.2, f1], ?_, f3, f4, by rw [hl]; exact f5⟩
        rw [hl, s84, g2, gp_eB2, if_pos rfl, gp_ckb (show 3 * d < 240 by omega) (by omega), gp_ckb (show 3 * d + 1 < 240 by omega) (by omega), gp_ckb (show 3 * d + 2 < 240 by omega) (by omega), nI_clamp (by omega), nI_clamp (by omega), nI_clamp (by omega), hRQ, A1, A2, A3, g3, gp_eB, gp_eL, nI_1]
        exact f2
end
