/-! changes: the reference tells them -/
section
variable {M M' N : gz_M} {T T' : gp_T} {l l' : List Nat} {ts ss : List gp_K} {k k0 kd q n n' : Nat}
theorem gq_eqD {a b : List Nat} (hl : a.length = b.length) (h : ∀ y, y < a.length → a.getD (a.length - 1 - y) 0 = b.getD (b.length - 1 - y) 0) : a = b := by
  apply List.ext_getElem hl
  intro i h1 h2
  have := h (a.length - 1 - i) (by omega)
  rw [← hl, show a.length - 1 - (a.length - 1 - i) = i by omega] at this
  simpa [List.getD, h1, h2] using this
theorem gq_old51 {stk a : List Nat} (hk : k < 24) (h5 : stk.length ≤ 5) (hla : a.length = stk.length) (ha : ∀ d, d ∈ a → d < 4) (hst : ∀ d, d ∈ stk → d < 4) (hs : gp_sR M stk) (ho : ∀ x, x < stk.length → M.1 23 (12 * k + 7 + x) = nI (a.getD (a.length - 1 - x) 0)) : f12_oldAt_51 gz_FU (nI k) 1 0 M = some ((if a = stk then nI k else -1), M) := by
  have e12 : ∀ x : Nat, (12 : Int32) * nI k + 7 + nI x = nI (12 * k + 7 + x) := fun x => by rw [show (12 : Int32) = nI 12 from rfl, pk_mul, show (7 : Int32) = nI 7 from rfl, nI_add, nI_add]
  have main : ∀ d x m (f : Nat), f < 2 → x + d = stk.length → d < m → (f = 1 ↔ ∀ y, y < x → a.getD (a.length - 1 - y) 0 = stk.getD (stk.length - 1 - y) 0) → f12_oldAt_51 m (nI k) (nI f) (nI x) M = some ((if a = stk then nI k else -1), M) := by
    intro d
    induction d with
    | zero =>
      intro x m f hf hx hm hfx
      obtain ⟨m, rfl⟩ : ∃ q, m = q + 1 := ⟨m - 1, by omega⟩
      rw [f12_oldAt_51, hs.1, if_pos (nI_le (by omega) (by omega))]
      by_cases h1 : f = 1
      · have : a = stk := gq_eqD hla (fun y hy => hfx.mp h1 y (by omega))
        rw [if_pos this, h1, if_neg (by decide)]
      · have : ¬ a = stk := fun e => h1 (hfx.mpr (fun y _ => by rw [e]))
        rw [if_neg this, show f = 0 by omega, if_pos (by decide)]
    | succ d ih =>
      intro x m f hf hx hm hfx
      obtain ⟨m, rfl⟩ : ∃ q, m = q + 1 := ⟨m - 1, by omega⟩
      rw [f12_oldAt_51, hs.1, if_neg (nI_ge (by omega) (by omega))]
      have hxa : x < stk.length := by omega
      by_cases h1 : f = 1
      · have va := ha _ (gp_getD_mem (d := 0) (show a.length - 1 - x < a.length by omega))
        have vs := hst _ (gp_getD_mem (d := 0) (show stk.length - 1 - x < stk.length by omega))
        rw [h1, if_neg (by decide), e12, gp_ckb (show 12 * k + 7 + x < 300 by omega) (by omega), gp_ckb (show x < 5 by omega) (by omega), nI_clamp (by omega), nI_clamp (by omega), ho x hxa, hs.2 x hxa]
        by_cases h2 : a.getD (a.length - 1 - x) 0 = stk.getD (stk.length - 1 - x) 0
        · rw [if_pos (by rw [h2]), gp_eL, nI_1]
          refine ih (x + 1) m 1 (by omega) (by omega) (by omega) ⟨fun _ y hy => ?_, fun _ => rfl⟩
          by_cases e : y = x
          · rw [e]; exact h2
          · exact hfx.mp h1 y (by omega)
        · rw [if_neg (fun g => h2 ((nI_eq (by omega) (by omega)).mp g)), gp_eL, nI_1]
          exact ih (x + 1) m 0 (by omega) (by omega) (by omega) ⟨fun g => absurd g (by omega), fun g => absurd (g x (by omega)) h2⟩
      · rw [show f = 0 by omega, if_pos (show nI 0 = (0 : Int32) from rfl), gp_eL, nI_1]
        exact ih (x + 1) m 0 (by omega) (by omega) (by omega) ⟨fun g => absurd g (by omega), fun g => absurd (hfx.mpr (fun y hy => g y (by omega))) h1⟩
  exact main stk.length 0 gz_FU 1 (by omega) (by omega) (by unfold gz_FU; omega) ⟨fun _ y hy => absurd hy (by omega), fun _ => rfl⟩
theorem gq_oldAt {stk : List Nat} (h : gp_old M ts) (hl : ts.length ≤ 24) (hok : ∀ t, t ∈ ts → gp_tkOk T n t) (hn : n ≤ 24) (hs : gp_sR M stk) (hsk : gp_sk stk) {w : Nat} (hw : w < 2 ^ 30) : f12_oldAt (nI w) M = some (gp_o (gq_oR ts w stk ts.length 0), M) := by
  obtain ⟨h39, N, hN, h23⟩ := h
  have h5 := hsk.2.1
  have main : ∀ d k m, k + d = ts.length → d < m → f12_oldAt_2 m (nI w) (nI k) M = some (gp_o (gq_oR ts w stk d k), M) := by
    intro d
    induction d with
    | zero =>
      intro k m hk hm
      obtain ⟨m, rfl⟩ : ∃ q, m = q + 1 := ⟨m - 1, by omega⟩
      rw [f12_oldAt_2, h39, if_pos (nI_le (by omega) (by omega))]
      rfl
    | succ d ih =>
      intro k m hk hm
      obtain ⟨m, rfl⟩ : ∃ q, m = q + 1 := ⟨m - 1, by omega⟩
      have v := hN.2.2 k (by omega)
      have o1 := hok _ (gp_getD_mem (d := gp_k0) (show k < ts.length by omega))
      have b1 := o1.2.1
      have b2 := o1.2.2.1
      have b4 := o1.2.2.2.2.2.2.2
      have b5 := b4.2.1
      have e2 : (12 : Int32) * nI k + 2 = nI (12 * k + 2) := by rw [show (12 : Int32) = nI 12 from rfl, pk_mul, show (2 : Int32) = nI 2 from rfl, nI_add]
      have e5 : (12 : Int32) * nI k + 5 = nI (12 * k + 5) := by rw [show (12 : Int32) = nI 12 from rfl, pk_mul, show (5 : Int32) = nI 5 from rfl, nI_add]
      have nx := ih (k + 1) m (by omega) (by omega)
      rw [f12_oldAt_2, h39, if_neg (nI_ge (by omega) (by omega)), e2, e5, gp_ckb (show 12 * k + 2 < 300 by omega) (by omega), gp_ckb (show 12 * k + 5 < 300 by omega) (by omega), nI_clamp (by omega), nI_clamp (by omega), h23 _ (by omega), h23 _ (by omega), v.2.2.1, v.2.2.2.2.2.1, hs.1, gq_oR]
      by_cases c1 : (ts.getD k gp_k0).2.2.1 = w
      · rw [if_pos (by rw [c1])]
        by_cases c2 : (ts.getD k gp_k0).2.2.2.2.2.2.length = stk.length
        · rw [if_pos (by rw [c2]), if_pos ⟨c1, c2⟩, gq_old51 (by omega) h5 c2 b4.2.2 hsk.2.2 hs (fun x hx => by
            rw [h23 _ (by omega), v.2.2.2.2.2.2.2 x (by omega), if_pos (by omega)])]
          split <;> rfl
        · rw [if_neg (fun g => c2 ((nI_eq (by omega) (by omega)).mp g)), if_neg (fun g => c2 g.2), gp_eL, nI_1]
          exact nx
      · rw [if_neg (fun g => c1 ((nI_eq (by omega) (by omega)).mp g)), if_neg (fun g => c1 g.1), gp_eL, nI_1]
        exact nx
  unfold f12_oldAt
  exact main ts.length 0 gz_FU (by omega) (by unfold gz_FU; omega)
theorem gq_pl_ge (hw : gp_wT T) : ∀ x, x ≤ (gp_cut T l).length → x ≤ gq_pl 0 (gp_cut T l) x
  | 0, _ => Nat.zero_le _
  | 1, h => by
    have hm := gp_cut_ok (l := l) hw _ (gp_getD_mem (d := gp_k0) (show 0 < (gp_cut T l).length by omega))
    have := hm.1
    show 1 ≤ ((gp_cut T l).getD 0 gp_k0).2.2.1
    omega
  | x + 2, h => by
    have h1 := gq_pl_ge hw (x + 1) (by omega)
    have h2 := gq_sort (l := l) hw (i := x) (k := x + 1) (by omega) (by omega)
    unfold gq_pl at h1 ⊢
    rw [if_neg (by omega)] at h1 ⊢
    simp only [Nat.add_sub_cancel] at h1
    rw [show x + 2 - 1 = x + 1 by omega]
    omega
theorem gq_st_sk (hw : gp_wT T) {x : Nat} (h : x ≤ (gp_cut T l).length) : gp_sk (gq_st [0] (gp_cut T l) x) := by
  unfold gq_st
  split
  · exact gp_sk0
  · exact (gp_cut_ok (l := l) hw _ (gp_getD_mem (d := gp_k0) (show x - 1 < (gp_cut T l).length by omega))).2.2.2.2.2.2.2
theorem gq_164 (hk : kd < 3) (hw : gp_wT T) (hl24 : l.length ≤ 24) (hw' : gp_wT T') (hts : ts = gp_cut T' l') (hl' : ts.length ≤ 24) (hok' : ∀ t, t ∈ ts → gp_tkOk T' n' t) (hn' : n' ≤ 24) (hq : q ≤ 24) (kp : Int32) : ∀ (d x m a mo : Nat) (M : gz_M), x + d = (gp_cut T l).length → d + 1 < m → a ≤ x → gp_tR M T → gp_lR M l → gp_old M ts → gp_sR M (gq_st [0] (gp_cut T l) x) → M.1 0 26 = nI (gq_pl 0 (gp_cut T l) x) → M.1 0 31 = nI a → mo ≤ 5 → M.1 0 29 = nI mo → ∃ M', f12_changed_164 m (nI kd) (nI q) kp (nI a) (-1) M = f12_changed_257 kp (nI (gq_met kd q ts ((gp_cut T l).drop x) a).1) (gp_o (gq_met kd q ts ((gp_cut T l).drop x) a).2) M' ∧ gp_cutL M M' := by
  intro d
  induction d with
  | zero =>
    intro x m a mo M hx hm ha hT hL hO hS h26 h31 hmo h29
    obtain ⟨m, rfl⟩ : ∃ q, m = q + 1 := ⟨m - 1, by omega⟩
    have hend : l.length ≤ gq_pl 0 (gp_cut T l) x := by
      have hd := gq_dropF (T := T) (l := l) 24 0 [0] x (by show x ≤ (gp_cut T l).length; omega)
      rw [show gp_cutF T l 24 0 [0] = gp_cut T l from rfl, List.drop_eq_nil_of_le (show (gp_cut T l).length ≤ x by omega)] at hd
      by_cases h24 : x = 24
      · have := gq_pl_ge (l := l) hw x (by omega)
        omega
      · have hlen := gp_cut_len (T := T) (l := l)
        obtain ⟨y, hy⟩ : ∃ y, 24 - x = y + 1 := ⟨24 - x - 1, by omega⟩
        rw [hy, gp_cutF] at hd
        by_cases hp : gq_pl 0 (gp_cut T l) x < l.length
        · rw [if_pos hp] at hd
          cases hd
        · omega
    have hpl : gq_pl 0 (gp_cut T l) x ≤ 24 := by
      unfold gq_pl
      split
      · omega
      · have o := gp_cut_ok (l := l) hw _ (gp_getD_mem (d := gp_k0) (show x - 1 < (gp_cut T l).length by omega))
        have o1 := o.2.1
        have o2 := o.2.2.1
        omega
    refine ⟨M, ?_, ⟨rfl, fun _ _ _ => rfl, fun _ _ _ _ _ _ => rfl⟩⟩
    rw [f12_changed_164, if_pos rfl, gp_c81, gp_k81, hL.2.1, h26, if_pos (nI_le hend (by omega)), List.drop_eq_nil_of_le (by omega)]
    rfl
  | succ d ih =>
    intro x m a mo M hx hm ha hT hL hO hS h26 h31 hmo h29
    obtain ⟨m, rfl⟩ : ∃ q, m = q + 2 := ⟨m - 2, by omega⟩
    have hlen := gp_cut_len (T := T) (l := l)
    have hsk := gq_st_sk (l := l) hw (x := x) (by omega)
    have hd := gq_dropF (T := T) (l := l) 24 0 [0] x (by show x ≤ (gp_cut T l).length; omega)
    rw [show gp_cutF T l 24 0 [0] = gp_cut T l from rfl] at hd
    obtain ⟨y, hy⟩ : ∃ y, 24 - x = y + 1 := ⟨24 - x - 1, by omega⟩
    have hdrop : (gp_cut T l).drop x = (gp_cut T l).getD x gp_k0 :: (gp_cut T l).drop (x + 1) := by
      rw [List.drop_eq_getElem_cons (show x < (gp_cut T l).length by omega)]
      simp [List.getD, show x < (gp_cut T l).length by omega]
    rw [hy, gp_cutF, hdrop] at hd
    have hp : gq_pl 0 (gp_cut T l) x < l.length := Classical.byContradiction fun hp => by
      rw [if_neg hp] at hd
      cases hd
    rw [if_pos hp] at hd
    have ht : (gp_cut T l).getD x gp_k0 = gp_tok T l (gq_pl 0 (gp_cut T l) x) (gq_st [0] (gp_cut T l) x) := by
      injection hd
    obtain ⟨M1, e1, e2, e3, e4, ⟨mo2, e5, e5'⟩, e6, e7, e8, e9, e10, e11, e12⟩ := gq_cutOne (F := gp_F0) hw 0 (by omega) hT hL hsk hS hmo h29 (show a < 25 by omega) h31 hp h26 (fun S p' _ _ => by simp [gp_F0]) _ rfl
    have htok : gp_tokO T (gq_pl 0 (gp_cut T l) x) (gq_st [0] (gp_cut T l) x) (gp_rm T ((gq_st [0] (gp_cut T l) x).headD 0) gp_F0 (l.drop (gq_pl 0 (gp_cut T l) x)) (gq_pl 0 (gp_cut T l) x) (T.2.2 8 ((gq_st [0] (gp_cut T l) x).headD 0)) none (gq_pl 0 (gp_cut T l) x)) = (gp_cut T l).getD x gp_k0 := ht.symm
    rw [htok] at e3 e4
    have o1 := gp_cut_ok (l := l) hw _ (gp_getD_mem (d := gp_k0) (show x < (gp_cut T l).length by omega))
    have b1 := o1.1
    have b2 := o1.2.1
    have b3 := o1.2.2.1
    have b4 := o1.2.2.2.2.2.2.2
    have hO1 : gp_old M1 ts := hO.fr (e2.2.1 23 (by omega) (by omega)) (e2.2.2 39 (by omega) (by omega) (by omega) (by omega) (by omega))
    have hT1 : gp_tR M1 T := hT.fr (fun c c1 c2 => e2.2.1 c (by omega) (by omega)) (e2.2.2 10 (by omega) (by omega) (by omega) (by omega) (by omega))
    have hL1 : gp_lR M1 l := hL.fr (e2.2.1 1 (by omega) (by omega))
    have npl : gq_pl 0 (gp_cut T l) (x + 1) = ((gp_cut T l).getD x gp_k0).2.2.1 := by
      unfold gq_pl
      rw [if_neg (by omega), Nat.add_sub_cancel]
    have nst : gq_st [0] (gp_cut T l) (x + 1) = ((gp_cut T l).getD x gp_k0).2.2.2.2.2.2 := by
      unfold gq_st
      rw [if_neg (by omega), Nat.add_sub_cancel]
    obtain ⟨M2, f1, f2⟩ := ih (x + 1) (m + 1) (a + 1) mo2 M1 (by omega) (by omega) (by omega) hT1 hL1 hO1 (by rw [nst]; exact e3) (by rw [npl]; exact e4) e6 e5 e5'
    generalize hte : (gp_cut T l).getD x gp_k0 = t at *
    have hq1 : (nI q < nI t.2.2.1) ↔ q < t.2.2.1 := nI_ltI (by omega) (by omega)
    have hq2 : (nI q = nI t.2.2.1) ↔ q = t.2.2.1 := nI_eq (by omega) (by omega)
    have hk2 : (nI kd = (2 : Int32)) ↔ kd = 2 := nI_eq (b := 2) (by omega) (by omega)
    have hmv : gq_mv kd t.2.2.1 < 2 ^ 30 := by
      unfold gq_mv
      split
      · omega
      · split <;> omega
    have hoA := gq_oldAt hO1 hl' hok' hn' e3 b4 hmv
    have hoE : gq_oR ts (gq_mv kd t.2.2.1) t.2.2.2.2.2.2 ts.length 0 = gq_oC ts (gq_mv kd t.2.2.1) t.2.2.2.2.2.2 := by rw [hts]; exact gq_oE hw' _ _
    rw [hoE] at hoA
    have start : f12_changed_164 (m + 2) (nI kd) (nI q) kp (nI a) (-1) M = f12_changed_223 (f12_changed_164 (m + 1)) (nI kd) (nI q) kp (nI (a + 1)) (-1) (nI (gq_mv kd t.2.2.1)) M1 := by
      rw [f12_changed_164, if_pos rfl, gp_c81, gp_k81, hL.2.1, h26, if_neg (nI_ge hp (by omega)), show f12_cutOne 0 M = some M1 from e1, gp_eB, gp_eL, nI_1, e4]
      unfold gq_mv
      obtain e | e | e : kd = 0 ∨ kd = 1 ∨ kd = 2 := by omega
      · subst e
        rw [if_pos (show nI 0 = (0 : Int32) from rfl), if_pos rfl]
      · subst e
        obtain ⟨v, hv⟩ : ∃ v, t.2.2.1 = v + 1 := ⟨t.2.2.1 - 1, by omega⟩
        rw [if_neg (by decide), if_pos (show nI 1 = (1 : Int32) from rfl), if_neg (by omega), if_pos rfl, hv, nI_pred]
        rfl
      · subst e
        rw [if_neg (by decide), if_neg (by decide), if_neg (by omega), if_neg (by omega), nI_1]
    rw [start, hdrop, gq_met]
    have c246 : f12_changed_246 (f12_changed_164 (m + 1)) (nI kd) (nI q) kp (nI (a + 1)) (nI (gq_mv kd t.2.2.1)) M1 = f12_changed_164 (m + 1) (nI kd) (nI q) kp (nI (a + 1)) (gp_o (gq_oC ts (gq_mv kd t.2.2.1) t.2.2.2.2.2.2)) M1 := by
      unfold f12_changed_246
      rw [hoA, gp_eB2]
    have stop : ∀ j, f12_changed_164 (m + 1) (nI kd) (nI q) kp (nI (a + 1)) (gp_o (some j)) M1 = f12_changed_257 kp (nI (a + 1)) (gp_o (some j)) M1 ∨ ¬ j < 2 ^ 31 := fun j => by
      by_cases hj : j < 2 ^ 31
      · left
        rw [f12_changed_164, if_neg (by rw [gp_oS, gp_m1, gp_ne1 hj]; exact id)]
      · exact Or.inr hj
    have yes : (q < t.2.2.1 ∨ (kd = 2 ∧ q = t.2.2.1)) → f12_changed_223 (f12_changed_164 (m + 1)) (nI kd) (nI q) kp (nI (a + 1)) (-1) (nI (gq_mv kd t.2.2.1)) M1 = f12_changed_164 (m + 1) (nI kd) (nI q) kp (nI (a + 1)) (gp_o (gq_oC ts (gq_mv kd t.2.2.1) t.2.2.2.2.2.2)) M1 := fun h => by
      unfold f12_changed_223
      rw [e4]
      by_cases g : q < t.2.2.1
      · rw [if_pos (hq1.mpr g), c246]
      · rw [if_neg (fun z => g (hq1.mp z))]
        have h := h.resolve_left g
        rw [if_pos (hk2.mpr h.1), if_pos (hq2.mpr h.2), c246]
    have nope : ¬ (q < t.2.2.1 ∨ (kd = 2 ∧ q = t.2.2.1)) → f12_changed_223 (f12_changed_164 (m + 1)) (nI kd) (nI q) kp (nI (a + 1)) (-1) (nI (gq_mv kd t.2.2.1)) M1 = f12_changed_164 (m + 1) (nI kd) (nI q) kp (nI (a + 1)) (-1) M1 := fun h => by
      unfold f12_changed_223
      rw [e4, if_neg (fun z => h (Or.inl (hq1.mp z)))]
      by_cases g : kd = 2
      · rw [if_pos (hk2.mpr g), if_neg (fun z => h (Or.inr ⟨g, hq2.mp z⟩))]
      · rw [if_neg (fun z => g (hk2.mp z))]
    by_cases hP : q < t.2.2.1 ∨ (kd = 2 ∧ q = t.2.2.1)
    · rw [yes hP]
      cases ho : gq_oC ts (gq_mv kd t.2.2.1) t.2.2.2.2.2.2 with
      | none =>
        rw [if_neg (fun g => by cases g.2)]
        exact ⟨M2, f1, e2.trans f2⟩
      | some j =>
        have hj := gq_oC_lt ho
        rw [if_pos ⟨hP, rfl⟩]
        rcases stop j with g | g
        · exact ⟨M1, g, e2⟩
        · omega
    · rw [nope hP, if_neg (fun g => hP g.1)]
      exact ⟨M2, f1, e2.trans f2⟩
end
