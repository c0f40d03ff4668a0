/-! promise 8: sheet -/
theorem gp_remE (a b : Int32) : gz_rem a b = a % b := irem_eq_mod a b
theorem gp_mod8 (z : Int32) (M : gz_M) : fJ_floorMod z 8 M = some (nI (z.toBitVec.toNat % 8), M) := by
  have hr : (gz_rem z 8).toInt = z.toInt.tmod 8 := by
    rw [gp_remE, Int32.toInt_mod]
    rfl
  have hx : 0 ≤ (z ^^^ 8) ↔ 0 ≤ z.toInt := by
    rw [Int32.le_iff_toInt_le, show ((0 : Int32)).toInt = 0 by decide]
    have h1 : (z ^^^ 8).toBitVec.msb = z.toBitVec.msb := by
      rw [Int32.toBitVec_xor, BitVec.msb_xor, show (8 : Int32).toBitVec.msb = false by decide, Bool.xor_false]
    rw [BitVec.msb_eq_toInt, BitVec.msb_eq_toInt] at h1
    have h2 : ((z ^^^ 8).toBitVec.toInt < 0) ↔ (z.toBitVec.toInt < 0) := decide_eq_decide.mp h1
    have h3 : (z ^^^ 8).toInt = (z ^^^ 8).toBitVec.toInt := rfl
    have h4 : z.toInt = z.toBitVec.toInt := rfl
    omega
  have ht : z.toInt = if 2 * z.toBitVec.toNat < 4294967296 then (z.toBitVec.toNat : Int) else (z.toBitVec.toNat : Int) - 4294967296 := BitVec.toInt_eq_toNat_cond z.toBitVec
  have hu := z.toBitVec.isLt
  generalize z.toBitVec.toNat = u at ht hu
  have hm : u % 8 < 8 := Nat.mod_lt _ (by omega)
  unfold fJ_floorMod
  rw [show (!decide ((8 : Int32) = 0)) = true from by decide, gp_eC, gp_eL]
  by_cases h0 : 0 ≤ z.toInt
  · rw [if_pos (hx.mpr h0)]
    rw [Int.tmod_eq_emod_of_nonneg h0] at hr
    congr 2
    apply Int32.toInt_inj.mp
    rw [hr, nI_toInt (by omega)]
    split at ht <;> omega
  · rw [if_neg (fun h => h0 (hx.mp h))]
    have hneg : z.toInt.tmod 8 = -((-z.toInt) % 8) := by
      have := Int.neg_tmod (-z.toInt) 8
      rw [Int.neg_neg] at this
      rw [this, Int.tmod_eq_emod_of_nonneg (by omega)]
    rw [hneg] at hr
    by_cases hz : gz_rem z 8 = 0
    · rw [if_pos hz, hz]
      have h8 : (gz_rem z 8).toInt = 0 := by rw [hz]; decide
      rw [hr] at h8
      have : u % 8 = 0 := by split at ht <;> omega
      rw [this]
      rfl
    · rw [if_neg hz]
      have hz' : (gz_rem z 8).toInt ≠ 0 := fun h => hz (Int32.toInt_inj.mp (by rw [h]; decide))
      rw [hr] at hz'
      congr 2
      apply Int32.toInt_inj.mp
      rw [Int32.toInt_add, hr, nI_toInt (by omega), show ((8 : Int32)).toInt = 8 by decide, Int.bmod_eq_of_le (by omega) (by omega)]
      split at ht <;> omega
theorem gp_and7 (z : Int32) : z &&& 7 = nI (z.toBitVec.toNat % 8) := by
  apply Int32.toBitVec_inj.mp
  apply BitVec.eq_of_toNat_eq
  have h1 : (z &&& 7).toBitVec.toNat = z.toBitVec.toNat &&& 7 := by
    rw [Int32.toBitVec_and, BitVec.toNat_and]
    rfl
  have h2 : (nI (z.toBitVec.toNat % 8)).toBitVec.toNat = z.toBitVec.toNat % 8 := by
    have := Nat.mod_lt z.toBitVec.toNat (show 8 > 0 by omega)
    show (BitVec.ofNat 32 _).toNat = _
    rw [BitVec.toNat_ofNat]
    omega
  rw [h1, h2]
  exact Nat.and_two_pow_sub_one_eq_mod _ 3
def gp_sv (f st : Int32) : Nat → Int32
  | 0 => f
  | p + 1 => gp_sv f st p + st
def gp_nv (k : Nat) (v : Int32) : Int32 := if k = 0 then v.toInt8.toInt32 else if k = 1 then v.toInt16.toInt32 else v
def gp_sS (k : Nat) (f st : Int32) (p : Nat) : Nat := (gp_nv k (gp_sv f st p)).toBitVec.toNat % 8
def gp_sh (k : Nat) (f st : Int32) (N : Nat) : List Nat := (List.range N).map (gp_sS k f st)
theorem gp_sh_len (k : Nat) (f st : Int32) (N : Nat) : (gp_sh k f st N).length = N := by unfold gp_sh; simp
theorem gp_sh_D {k : Nat} {f st : Int32} {N i : Nat} (h : i < N) : (gp_sh k f st N).getD i 0 = gp_sS k f st i := by
  unfold gp_sh
  simp [List.getD, h]
theorem gp_sS_lt (k : Nat) (f st : Int32) (p : Nat) : gp_sS k f st p < 8 := Nat.mod_lt _ (by omega)
section
variable {B : Prop} {pf pf' : Nat → Bool} {M M' Mc Mr Mc' Mr' C R : gz_M} {cu cu' o o' : Nat} {x x' t l l' : List Nat} {b u : gp_Bk} {us us' : List gp_Bk} {ks ks' : Nat → Option gp_Bk} {k N : Nat} {f st : Int32}
theorem gp_narC (hk : k < 3) (v : Int32) (M : gz_M) : f11_narrowed (nI k) v M = some (gp_nv k v, M) := by
  unfold f11_narrowed gp_nv
  obtain h | h | h : k = 0 ∨ k = 1 ∨ k = 2 := by omega
  all_goals subst h; rfl
theorem gp_sh64 (hk : k < 3) (hN : N ≤ 24) (M : gz_M) : ∀ (d p n : Nat) (M1 : gz_M), p + d = N → d < n → gp_lL 9 M M1 → gp_lC 9 M1 (gp_sh k f st p) → ∃ M', gp_lL 9 M M' ∧ gp_lC 9 M' (gp_sh k f st N) ∧ f11_sheet_64 n (nI k) (nI N) st (gp_sv f st p) (nI p) M1 = gz_bd (f11_recut M') fun M2 => some (nI N, M2) := by
  intro d
  induction d with
  | zero =>
    intro p n M1 hp hn hL hC
    obtain ⟨n, rfl⟩ : ∃ q, n = q + 1 := ⟨n - 1, by omega⟩
    have : p = N := by omega
    subst this
    refine ⟨M1, hL, hC, ?_⟩
    rw [f11_sheet_64, if_pos (nI_le (Nat.le_refl _) (by omega))]
  | succ d ih =>
    intro p n M1 hp hn hL hC
    obtain ⟨n, rfl⟩ : ∃ q, n = q + 1 := ⟨n - 1, by omega⟩
    have hl := gp_sh_len k f st p
    obtain ⟨M2, e1, e2, e3⟩ := gp_insC (q := p) (s := gp_sS k f st p) hC (by omega) (gp_sS_lt _ _ _ _) (by omega)
    have ei : gp_ins (gp_sh k f st p) p (gp_sS k f st p) = gp_sh k f st (p + 1) := by
      have := gp_ins_end (gp_sh k f st p) (gp_sS k f st p)
      rw [hl] at this
      rw [this]
      unfold gp_sh
      rw [List.range_succ, List.map_append]
      rfl
    rw [ei] at e3
    rw [f11_sheet_64, if_neg (nI_ge (by omega) (by omega)), gp_narC hk, gp_eB2, gp_mod8, gp_eB2, show (7 + 2 : Nat) = 9 from rfl, show nI ((gp_nv k (gp_sv f st p)).toBitVec.toNat % 8) = nI (gp_sS k f st p) from rfl, e1, gp_eB, gp_eL, gp_eL, nI_1]
    exact ih (p + 1) n M2 (by omega) (by omega) ⟨e2.1.trans hL.1, fun c c1 c2 => (e2.2 c c1 c2).trans (hL.2 c c1 c2)⟩ e3
theorem gp_sh40 (hk : k < 4) (a1 : Int32) (M : gz_M) : ∀ (d p n : Nat) (M1 : gz_M), p + d = 24 → d < n → M1.2 = M.2 → (∀ c, c ≠ 15 → M1.1 c = M.1 c) → (∀ i, i < p → M1.1 15 i = nI (gp_sS k f st i)) → ∃ M', M'.2 = M.2 ∧ (∀ c, c ≠ 15 → M'.1 c = M.1 c) ∧ (∀ i, i < 24 → M'.1 15 i = nI (gp_sS k f st i)) ∧ f12_sheet_40 n (nI k) a1 st (gp_sv f st p) (nI p) M1 = if k = 3 then f12_sheet_108 (nI k) a1 0 M' else f12_sheet_108 (nI k) a1 a1 M' := by
  have hk3 : (nI k = (3 : Int32)) ↔ k = 3 := nI_eq (b := 3) (by omega) (by omega)
  intro d
  induction d with
  | zero =>
    intro p n M1 hp hn h2 hc hi
    obtain ⟨n, rfl⟩ : ∃ q, n = q + 1 := ⟨n - 1, by omega⟩
    have : p = 24 := by omega
    subst this
    refine ⟨M1, h2, hc, hi, ?_⟩
    rw [f12_sheet_40, if_pos (show (24 : Int32) ≤ nI 24 by decide)]
    by_cases h : k = 3
    · rw [if_pos (hk3.mpr h), if_pos h]
    · rw [if_neg (fun g => h (hk3.mp g)), if_neg h]
  | succ d ih =>
    intro p n M1 hp hn h2 hc hi
    obtain ⟨n, rfl⟩ : ∃ q, n = q + 1 := ⟨n - 1, by omega⟩
    have e70 : ∀ e, e = gp_nv k (gp_sv f st p) → f12_sheet_70 (f12_sheet_40 n) (nI k) a1 st (gp_sv f st p) (nI p) e M1 = f12_sheet_40 n (nI k) a1 st (gp_sv f st (p + 1)) (nI (p + 1)) (gz_w M1 15 p (nI (gp_sS k f st p))) := fun e he => by
      unfold f12_sheet_70
      rw [gp_ckb (show p < 24 by omega) (by omega), nI_clamp (by omega), he, gp_and7, gp_eL, gp_eL, gp_eL, nI_1]
      rfl
    have ehd : f12_sheet_40 (n + 1) (nI k) a1 st (gp_sv f st p) (nI p) M1 = f12_sheet_40 n (nI k) a1 st (gp_sv f st (p + 1)) (nI (p + 1)) (gz_w M1 15 p (nI (gp_sS k f st p))) := by
      rw [f12_sheet_40, if_neg (show ¬ (24 : Int32) ≤ nI p from nI_ge (b := 24) (by omega) (by omega))]
      obtain h | h | h | h : k = 0 ∨ k = 1 ∨ k = 2 ∨ k = 3 := by omega
      all_goals subst h
      · rw [if_pos (show nI 0 = (0 : Int32) from rfl)]
        exact e70 _ rfl
      · rw [if_neg (by decide), if_pos (by decide)]
        exact e70 _ rfl
      · rw [if_neg (by decide), if_neg (by decide)]
        exact e70 _ rfl
      · rw [if_neg (by decide), if_neg (by decide)]
        exact e70 _ rfl
    rw [ehd]
    refine ih (p + 1) n _ (by omega) (by omega) (by rw [gp_gl]; exact h2) (fun c hc' => by rw [gp_wc _ hc', hc c hc']) (fun i hi' => ?_)
    by_cases e : i = p
    · rw [e, gp_gs]
    · rw [gp_gn (by omega)]
      exact hi i (by omega)
/-- a line comes that is not noted -/
theorem gp_RI.sh (h : gp_RI B pf cu Mc Mr x b us ks o) (hC : gp_lL 9 Mc C) (hl : gp_lC 9 C l') {n : Nat} (hn : l'.length = n) (hR2 : R.2 = Mr.2) (hRc : ∀ c, c ≠ 0 → c ≠ 15 → R.1 c = Mr.1 c) (hR0 : ∀ i, i ≠ 5 → R.1 0 i = Mr.1 0 i) (hd : ∀ i, i < n → R.1 15 i = nI (l'.getD i 0)) : ∃ C' R', f11_recut C = some C' ∧ f12_setLine (nI n) R = some R' ∧ gp_R B pf C' R' := by
  have hR := h
  obtain ⟨⟨q1, q2, q3, q4, q5, q6, q7, q8⟩, h2, h3, h4, h5, h6, h7, h8, h9, h10, h11⟩ := h
  have hcu := q6.1
  have hn24 : n ≤ 24 := by rw [← hn]; exact hl.1
  obtain ⟨C', f1, f2, f3, f4⟩ := gp_recut (M := C) (t := b.1) (l := l') q1 (q2.fr (fun c c1 c2 => hC.2 c (by omega) (by omega))) hl hcu (by rw [hC.2 0 (by omega) (by omega)]; exact q6.2.1)
  obtain ⟨R', s1, s2, s3, s4, s5, s6⟩ := gp_setL hn24 R
  have cc : ∀ c, c ≠ 9 → c ≠ 10 → c < cu ∨ cu + 9 ≤ c → C'.1 c = Mc.1 c := fun c a1 a2 a3 => by rw [f3 c a3, hC.2 c a1 a2]
  have rc : ∀ c, c ≠ 0 → c ≠ 1 → c ≠ 15 → R'.1 c = Mr.1 c := fun c a1 a2 a3 => by rw [s3 c a2, hRc c a1 a3]
  have r0 : ∀ i, i ≠ 5 → R'.1 0 i = Mr.1 0 i := fun i hi => by rw [s3 0 (by omega), hR0 i hi]
  refine ⟨C', R', f1, s1, cu, x, (b.1, l'), us, ks, o, hR.nl hcu (by rw [cc 0 (by omega) (by omega) (by omega)]; exact q6.2.1) (by rw [cc 0 (by omega) (by omega) (by omega)]; exact q7) (fun c hc => cc c (by omega) (by omega) (by omega)) (hl.fr (fun c a1 a2 => f3 c (by omega))) f4 (h3.fr (cc 1 (by omega) (by omega) (by omega)) (cc 2 (by omega) (by omega) (by omega))) h7 (fun _ _ _ => rfl) (h8.fr (fun c hc => cc c (by omega) (by omega) (by omega))) (fun c hc => rc c (by omega) (by omega) (by omega)) (r0 10 (by omega)) ?_ (h4.fr (rc 2 (by omega) (by omega) (by omega)) (r0 2 (by omega))) (h10.fr (rc 33 (by omega) (by omega) (by omega)) (r0 51 (by omega))) h9 (q8.fr (by rw [f2, hC.1]) (by rw [cc 0 (by omega) (by omega) (by omega)]) (by rw [s2, hR2]) (r0 4 (by omega)))⟩
  refine ⟨?_, fun i hi => ?_, ?_, fun i hi => ?_⟩
  · rw [s4 0 (by omega), hRc 1 (by omega) (by omega)]
    exact h6.1
  · have hi : i < b.1.length := hi
    have := h2.1.1
    rw [s4 _ (by omega), hRc 1 (by omega) (by omega)]
    exact h6.2.1 i hi
  · rw [Nat.zero_add, s5]
    show _ = nI l'.length
    rw [hn]
  · have hi : i < l'.length := hi
    rw [Nat.zero_add, s6 i (by omega)]
    exact hd i (by omega)
theorem gp_a8 (h : gp_RI B pf cu Mc Mr x b us ks o) (a a1 f st : Int32) : ∃ v Mc' Mr', f11_sheet a a1 f st Mc = some (v, Mc') ∧ f12_sheet a a1 f st Mr = some (v, Mr') ∧ gp_R B pf Mc' Mr' := by
  have hR := h
  obtain ⟨⟨q1, q2, q3, q4, q5, q6, q7, q8⟩, h2, h3, h4, h5, h6, h7, h8, h9, h10, h11⟩ := h
  have no : ∀ v, f11_sheet a a1 f st Mc = some (v, Mc) → f12_sheet a a1 f st Mr = some (v, gz_w Mr 0 5 0) → ∃ v Mc' Mr', f11_sheet a a1 f st Mc = some (v, Mc') ∧ f12_sheet a a1 f st Mr = some (v, Mr') ∧ gp_R B pf Mc' Mr' := fun v e1 e2 => ⟨v, Mc, gz_w Mr 0 5 0, e1, e2, cu, x, b, us, ks, o, hR.ans gp_qC.refl (gp_thr 0).1 (q8.fr rfl rfl rfl (gp_gn (by omega)))⟩
  have e3 : (3 : Int32) = nI 4 - 1 := by decide
  rcases pk_ix a (n := 4) (by omega) with ha | ha | ⟨k, hk, rfl⟩
  · refine no (-1) ?_ ?_
    · unfold f11_sheet; rw [if_pos ha]
    · unfold f12_sheet; rw [gp_eL, gp_in0 _ _ ha, gp_eB2, if_pos rfl]
  · have h0 := gp_neg_of (by omega) ha
    refine no (-1) ?_ ?_
    · unfold f11_sheet
      rw [if_neg h0, if_pos]
      apply Int32.lt_iff_toInt_lt.mpr
      have := gp_tge (by omega) ha
      rw [show ((3 : Int32)).toInt = 3 by decide]
      omega
    · unfold f12_sheet; rw [gp_eL, e3, gp_in0b _ (by omega) h0 ha, gp_eB2, if_pos rfl]
  · have k0 : ¬ nI k < 0 := nI_pos (by omega)
    have k3 : ¬ (3 : Int32) < nI k := nI_nlt (a := 3) (by omega) (by omega)
    have hin : f12_in (nI k) 0 3 (gz_w Mr 0 5 0) = some (1, gz_w Mr 0 5 0) := by rw [e3]; exact gp_in1 _ (by omega) hk
    have hk3 : (nI k = (3 : Int32)) ↔ k = 3 := nI_eq (b := 3) (by omega) (by omega)
    by_cases h24 : a1 ≤ 24
    · have lp := gp_sh40 (k := k) (f := f) (st := st) hk a1 (gz_w Mr 0 5 0) 24 0 gz_FU (gz_w Mr 0 5 0) (by omega) (by unfold gz_FU; omega) rfl (fun _ _ => rfl) (fun i hi => absurd hi (by omega))
      obtain ⟨R, r1, r2, r3, r4⟩ := lp
      have Rc : ∀ c, c ≠ 0 → c ≠ 15 → R.1 c = Mr.1 c := fun c c1 c2 => by rw [r2 c c2, gp_wc _ c1]
      have R0 : ∀ i, i ≠ 5 → R.1 0 i = Mr.1 0 i := fun i hi => by rw [r2 0 (by omega), gp_gn (by omega)]
      by_cases hk33 : k = 3
      · subst hk33
        obtain ⟨C', R', f1, f2, f3⟩ := hR.sh (C := gz_w Mc 9 1 0) (l' := []) (R := R) (n := 0) ⟨rfl, fun c c1 c2 => gp_wc _ c1⟩ ⟨by simp, gp_gs _ _ _ _, fun i hi => absurd hi (by simp)⟩ rfl (by rw [r1]; rfl) Rc R0 (fun i hi => absurd hi (by omega))
        refine ⟨-3, C', R', ?_, ?_, f3⟩
        · unfold f11_sheet
          rw [if_neg k0, if_neg k3, if_pos h24, if_pos (show nI 3 = (3 : Int32) by decide), show (7 + 2 : Nat) = 9 from rfl, gp_eL, f1, gp_eB]
        · unfold f12_sheet
          rw [gp_eL, hin, gp_eB2, if_neg (by decide), if_pos h24, if_pos (show (3 : Int32) ≤ nI 3 by decide), show f12_sheet_40 gz_FU (nI 3) a1 st f 0 (gz_w Mr 0 5 0) = _ from r4, if_pos rfl]
          unfold f12_sheet_108
          rw [show f12_setLine 0 R = some R' from f2, gp_eB, if_pos (show nI 3 = (3 : Int32) by decide)]
      · have hkn : ¬ nI k = (3 : Int32) := fun g => hk33 (hk3.mp g)
        have hkl : ¬ (3 : Int32) ≤ nI k := nI_ge (b := 3) (by omega) (by omega)
        by_cases hpos : 0 ≤ a1
        · obtain ⟨N, hN, rfl⟩ : ∃ N : Nat, N ≤ 24 ∧ a1 = nI N := by
            rcases pk_ix a1 (n := 25) (by omega) with g | g | ⟨j, g1, g2⟩
            · exfalso
              have g1 := gp_tneg g
              have g2 := Int32.le_iff_toInt_le.mp hpos
              rw [show ((0 : Int32)).toInt = 0 by decide] at g2
              omega
            · exfalso
              have g1 := gp_tge (by omega) g
              have g2 := Int32.le_iff_toInt_le.mp h24
              rw [show ((24 : Int32)).toInt = 24 by decide] at g2
              omega
            · exact ⟨j, by omega, g2⟩
          obtain ⟨C, c1, c2, c3⟩ := gp_sh64 (k := k) (N := N) (f := f) (st := st) (by omega) hN (gz_w Mc 9 1 0) N 0 gz_FU (gz_w Mc 9 1 0) (by omega) (by unfold gz_FU; omega) ⟨rfl, fun _ _ _ => rfl⟩ ⟨by simp [gp_sh], gp_gs _ _ _ _, fun i hi => absurd hi (by simp [gp_sh])⟩
          obtain ⟨C', R', f1, f2, f3⟩ := hR.sh (C := C) (l' := gp_sh k f st N) (R := R) (n := N) ⟨by rw [c1.1]; rfl, fun c e1 e2 => by rw [c1.2 c e1 e2, gp_wc _ e1]⟩ c2 (gp_sh_len _ _ _ _) (by rw [r1]; rfl) Rc R0 (fun i hi => by rw [r3 i (by omega), gp_sh_D hi])
          refine ⟨nI N, C', R', ?_, ?_, f3⟩
          · unfold f11_sheet
            rw [if_neg k0, if_neg k3, if_pos h24, if_neg hkn, if_pos hpos, show (7 + 2 : Nat) = 9 from rfl, gp_eL, show f11_sheet_64 gz_FU (nI k) (nI N) st f 0 (gz_w Mc 9 1 0) = _ from c3, f1, gp_eB]
          · unfold f12_sheet
            rw [gp_eL, hin, gp_eB2, if_neg (by decide), if_pos h24, if_neg hkl, if_pos hpos, show f12_sheet_40 gz_FU (nI k) (nI N) st f 0 (gz_w Mr 0 5 0) = _ from r4, if_neg hk33]
            unfold f12_sheet_108
            rw [f2, gp_eB, if_neg hkn]
        · refine no (-2) ?_ ?_
          · unfold f11_sheet; rw [if_neg k0, if_neg k3, if_pos h24, if_neg hkn, if_neg hpos]
          · unfold f12_sheet; rw [gp_eL, hin, gp_eB2, if_neg (by decide), if_pos h24, if_neg hkl, if_neg hpos]
    · refine no (-1) ?_ ?_
      · unfold f11_sheet; rw [if_neg k0, if_neg k3, if_neg h24]
      · unfold f12_sheet; rw [gp_eL, hin, gp_eB2, if_neg (by decide), if_neg h24]
end
