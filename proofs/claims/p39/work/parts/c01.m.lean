section
/-! changes: the component tells them -/
def gq_mo (kd : Nat) : Int32 := if kd = 1 then 1 else if kd = 2 then -1 else 0
def gq_mN (ts : List gp_K) : Option Nat → Nat
  | some j => ts.length - 1 - j
  | none => 0
section
variable {M M' : gz_M} {T T' : gp_T} {ts ss : List gp_K} {k k0 kd q n n' : Nat}
theorem gq_endC (h : gp_cC k M ts) (hl : ts.length ≤ 24) (hok : ∀ t, t ∈ ts → gp_tkOk T n t) (hn : n ≤ 24) {w : Nat} (hw : w < 2 ^ 30) : f2_endingAt k (nI w) M = some (gp_o (gp_fst (fun j => decide ((ts.getD j gp_k0).2.2.1 = w)) ts.length 0), M) := by
  have main : ∀ d x m, x + d = ts.length → d < m → f2_endingAt_2 k m (nI w) (nI x) M = some (gp_o (gp_fst (fun j => decide ((ts.getD j gp_k0).2.2.1 = w)) d x), M) := by
    intro d
    induction d with
    | zero =>
      intro x m hx hm
      obtain ⟨m, rfl⟩ : ∃ q, m = q + 1 := ⟨m - 1, by omega⟩
      rw [f2_endingAt_2, h.1, if_pos (nI_le (by omega) (by omega))]
      rfl
    | succ d ih =>
      intro x m hx hm
      obtain ⟨m, rfl⟩ : ∃ q, m = q + 1 := ⟨m - 1, by omega⟩
      have o1 := hok _ (gp_getD_mem (d := gp_k0) (show x < ts.length by omega))
      have b1 := o1.2.1
      have b2 := o1.2.2.1
      rw [f2_endingAt_2, h.1, if_neg (nI_ge (by omega) (by omega)), gp_ckb (show x < 24 by omega) (by omega), nI_clamp (by omega), (h.2.2 x (by omega)).2.2.1, gp_fst]
      by_cases e : (ts.getD x gp_k0).2.2.1 = w
      · rw [if_pos (by rw [e]), if_pos (show decide ((ts.getD x gp_k0).2.2.1 = w) = true from decide_eq_true e)]
        rfl
      · rw [if_neg (fun g => e ((nI_eq (by omega) (by omega)).mp g)), if_neg (show ¬ decide ((ts.getD x gp_k0).2.2.1 = w) = true from fun g => e (of_decide_eq_true g)), gp_eL, nI_1]
        exact ih (x + 1) m (by omega) (by omega)
  unfold f2_endingAt
  exact main ts.length 0 gz_FU (by omega) (by unfold gz_FU; omega)
theorem gq_hasC (h : gp_cC k M ss) (h' : gp_cC k0 M ts) (hl : ss.length ≤ 24) (hl' : ts.length ≤ 24) (hok : ∀ t, t ∈ ss → gp_tkOk T n t) (hok' : ∀ t, t ∈ ts → gp_tkOk T' n' t) {i j : Nat} (hi : i < ss.length) (hj : j < ts.length) : f2_hasModesOf k k0 (nI i) (nI j) M = some ((if (ts.getD j gp_k0).2.2.2.2.2.2 = (ss.getD i gp_k0).2.2.2.2.2.2 then 1 else 0), M) := by
  have o1 := (hok _ (gp_getD_mem (d := gp_k0) hi)).2.2.2.2.2.2.2
  have o2 := (hok' _ (gp_getD_mem (d := gp_k0) hj)).2.2.2.2.2.2.2
  have v1 := h.2.2 i hi
  have v2 := h'.2.2 j hj
  have l1 := o1.2.1
  have l2 := o2.2.1
  have e1 := o1.lt
  have e2 := o2.lt
  unfold f2_hasModesOf
  rw [if_neg (nI_pos (by omega)), h.1, if_neg (nI_ge hi (by omega)), if_neg (nI_pos (by omega)), h'.1, if_pos (nI_lt hj (by omega)), gp_ckb (show i < 24 by omega) (by omega), gp_ckb (show j < 24 by omega) (by omega), gp_ckb (show i < 24 by omega) (by omega), gp_ckb (show j < 24 by omega) (by omega), nI_clamp (by omega), nI_clamp (by omega), v1.2.2.2.2.2.2.1, v1.2.2.2.2.2.2.2, v2.2.2.2.2.2.2.1, v2.2.2.2.2.2.2.2]
  by_cases e : (ts.getD j gp_k0).2.2.2.2.2.2 = (ss.getD i gp_k0).2.2.2.2.2.2
  · rw [if_pos (by rw [e]), if_pos (by rw [e]), if_pos e]
  · rw [if_neg e]
    by_cases e3 : (ss.getD i gp_k0).2.2.2.2.2.2.length = (ts.getD j gp_k0).2.2.2.2.2.2.length
    · rw [if_pos (by rw [e3]), if_neg]
      intro g
      have g := (nI_eq (by omega) (by omega)).mp g
      exact e (gq_enc_inj o1.2.2 o2.2.2 e3 g).symm
    · rw [if_neg (fun g => e3 ((nI_eq (by omega) (by omega)).mp g))]
theorem gq_mvI {w : Nat} (hk : kd < 3) (h : 0 < w) : nI w - gq_mo kd = nI (gq_mv kd w) := by
  unfold gq_mo gq_mv
  obtain e | e | e : kd = 0 ∨ kd = 1 ∨ kd = 2 := by omega
  · subst e
    rw [if_neg (by omega), if_neg (by omega), if_pos rfl]
    exact Int32.sub_zero _
  · subst e
    obtain ⟨v, rfl⟩ : ∃ v, w = v + 1 := ⟨w - 1, by omega⟩
    rw [if_pos rfl, if_neg (by omega), if_pos rfl, nI_pred]
    rfl
  · subst e
    rw [if_neg (by omega), if_pos rfl, if_neg (by omega), if_neg (by omega), Int32.sub_neg, nI_1]
theorem gq_tell46 (hk : kd < 3) {cu : Nat} (hcu : gz_cIx (M.1 0 5) = cu) (h : gp_cC cu M ss) (h' : gp_cC k0 M ts) (hl : ss.length ≤ 24) (hl' : ts.length ≤ 24) (hok : ∀ t, t ∈ ss → gp_tkOk T n t) (hok' : ∀ t, t ∈ ts → gp_tkOk T' n' t) (hn : n ≤ 24) (hn' : n' ≤ 24) (hq : q ≤ 24) (kp : Int32) : ∀ (d x m a : Nat), x + d = ss.length → d + 1 < m → a ≤ x → f11_tellChange_46 m (nI kd) (nI q) k0 (gq_mo kd) kp (nI a) 0 0 (nI x) M = f11_tellChange_159 kp (nI (gq_met kd q ts (ss.drop x) a).1) (nI (gq_mN ts (gq_met kd q ts (ss.drop x) a).2)) M := by
  intro d
  induction d with
  | zero =>
    intro x m a hx hm ha
    obtain ⟨m, rfl⟩ : ∃ q, m = q + 1 := ⟨m - 1, by omega⟩
    rw [f11_tellChange_46, hcu, h.1, if_pos (nI_le (by omega) (by omega)), show ss.drop x = [] from List.drop_eq_nil_of_le (by omega)]
    rfl
  | succ d ih =>
    intro x m a hx hm ha
    obtain ⟨m, rfl⟩ : ∃ q, m = q + 2 := ⟨m - 2, by omega⟩
    have o1 := hok _ (gp_getD_mem (d := gp_k0) (show x < ss.length by omega))
    have b1 := o1.1
    have b2 := o1.2.1
    have b3 := o1.2.2.1
    have hdrop : ss.drop x = ss.getD x gp_k0 :: ss.drop (x + 1) := by
      rw [List.drop_eq_getElem_cons (show x < ss.length by omega)]
      simp [List.getD, show x < ss.length by omega]
    have nx := ih (x + 1) (m + 1) (a + 1) (by omega) (by omega) (by omega)
    rw [f11_tellChange_46, hcu, h.1, if_neg (nI_ge (by omega) (by omega)), if_pos rfl, nI_1, gp_eL, gp_ckb (show x < 24 by omega) (by omega), nI_clamp (by omega), (h.2.2 x (by omega)).2.2.1, gp_eL]
    generalize hte : ss.getD x gp_k0 = t at *
    have hmv : gq_mv kd t.2.2.1 < 2 ^ 30 := by
      unfold gq_mv
      split
      · omega
      · split <;> omega
    rw [gq_mvI hk (by omega), gq_endC h' hl' hok' hn' hmv, gp_eB2, hdrop, gq_met]
    have hq1 : (nI q < nI t.2.2.1) ↔ q < t.2.2.1 := nI_ltI (by omega) (by omega)
    have hq2 : (nI q = nI t.2.2.1) ↔ q = t.2.2.1 := nI_eq (by omega) (by omega)
    have hk2 : (nI kd = (2 : Int32)) ↔ kd = 2 := nI_eq (b := 2) (by omega) (by omega)
    -- the rest of a step
    have c111 : ∀ s0 : Int32, ∀ (P : Prop) [Decidable P], (s0 = 0 ↔ ¬ P) → f11_tellChange_111 (f11_tellChange_46 (m + 1)) (nI kd) (nI q) k0 (gq_mo kd) kp (nI (a + 1)) 0 0 (nI x) (gp_o (gp_fst (fun j => decide ((ts.getD j gp_k0).2.2.1 = gq_mv kd t.2.2.1)) ts.length 0)) s0 M = f11_tellChange_159 kp (nI (if P ∧ (gq_oC ts (gq_mv kd t.2.2.1) t.2.2.2.2.2.2).isSome = true then (a + 1, gq_oC ts (gq_mv kd t.2.2.1) t.2.2.2.2.2.2) else gq_met kd q ts (ss.drop (x + 1)) (a + 1)).1) (nI (gq_mN ts (if P ∧ (gq_oC ts (gq_mv kd t.2.2.1) t.2.2.2.2.2.2).isSome = true then (a + 1, gq_oC ts (gq_mv kd t.2.2.1) t.2.2.2.2.2.2) else gq_met kd q ts (ss.drop (x + 1)) (a + 1)).2)) M := by
      intro s0 P _ hP
      unfold f11_tellChange_111
      have hlt : ∀ j, gp_fst (fun j => decide ((ts.getD j gp_k0).2.2.1 = gq_mv kd t.2.2.1)) ts.length 0 = some j → j < ts.length := fun j hj => by
        have g : ∀ (p : Nat → Bool) (n i : Nat), gp_fst p n i = some j → j < i + n := by
          intro p n
          induction n with
          | zero => intro i h; cases h
          | succ n ih =>
            intro i h
            rw [gp_fst] at h
            split at h
            · cases h; omega
            · have := ih (i + 1) h; omega
        have := g _ _ _ hj
        omega
      have hoC : gq_oC ts (gq_mv kd t.2.2.1) t.2.2.2.2.2.2 = match gp_fst (fun j => decide ((ts.getD j gp_k0).2.2.1 = gq_mv kd t.2.2.1)) ts.length 0 with
          | some j => if (ts.getD j gp_k0).2.2.2.2.2.2 = t.2.2.2.2.2.2 then some j else none
          | none => none := rfl
      cases hf : gp_fst (fun j => decide ((ts.getD j gp_k0).2.2.1 = gq_mv kd t.2.2.1)) ts.length 0 with
      | none =>
        rw [hf] at hoC
        dsimp only at hoC
        rw [hoC, if_pos (show gp_o none = -1 from rfl), gp_eL, nI_1, if_neg (fun g => by cases g.2)]
        exact nx
      | some j =>
        have hj := hlt j hf
        rw [hf] at hoC
        dsimp only at hoC
        rw [if_neg (show ¬ gp_o (some j) = -1 from by rw [gp_oS, gp_m1, gp_ne1 (by omega)]; exact id), gp_oS]
        by_cases hp : P
        · rw [if_neg (fun g => hP.mp g hp), hcu]
          have hh := gq_hasC h h' hl hl' hok hok' (show x < ss.length by omega) hj
          rw [hte] at hh
          rw [hh, gp_eB2]
          by_cases he : (ts.getD j gp_k0).2.2.2.2.2.2 = t.2.2.2.2.2.2
          · rw [if_pos he] at hoC
            have hne : ¬ (if (ts.getD j gp_k0).2.2.2.2.2.2 = t.2.2.2.2.2.2 then (1 : Int32) else 0) = 0 := by rw [if_pos he]; decide
            have hv : nI ts.length - nI j - 1 = nI (ts.length - 1 - j) := by
              rw [gp_subI (by omega)]
              obtain ⟨v, hv⟩ : ∃ v, ts.length - j = v + 1 := ⟨ts.length - j - 1, by omega⟩
              rw [hv, nI_pred]
              congr 1
              omega
            rw [if_neg hne, hoC, if_pos ⟨hp, rfl⟩, h'.1, hv, gp_eL, nI_1, gp_eL, f11_tellChange_46, hcu, h.1]
            have fin : (if nI ss.length ≤ nI (x + 1) then f11_tellChange_159 kp (nI (a + 1)) (nI (ts.length - 1 - j)) M else f11_tellChange_159 kp (nI (a + 1)) (nI (ts.length - 1 - j)) M) = f11_tellChange_159 kp (nI (a + 1)) (nI (ts.length - 1 - j)) M := by split <;> rfl
            rw [if_neg (show ¬ (1 : Int32) = 0 by decide)]
            exact fin
          · rw [if_neg he] at hoC
            have hz : (if (ts.getD j gp_k0).2.2.2.2.2.2 = t.2.2.2.2.2.2 then (1 : Int32) else 0) = 0 := if_neg he
            rw [if_pos hz, hoC, gp_eL, nI_1, if_neg (fun g => by cases g.2)]
            exact nx
        · rw [if_pos (hP.mpr hp), gp_eL, nI_1, if_neg (fun g => hp g.1)]
          exact nx
    by_cases h1 : q < t.2.2.1
    · rw [if_pos (hq1.mpr h1)]
      exact c111 1 _ ⟨fun g => absurd g (by decide), fun g => absurd (Or.inl h1) g⟩
    · rw [if_neg (fun g => h1 (hq1.mp g))]
      by_cases h2 : kd = 2
      · rw [if_pos (hk2.mpr h2)]
        by_cases h3 : q = t.2.2.1
        · rw [if_pos (hq2.mpr h3)]
          exact c111 1 _ ⟨fun g => absurd g (by decide), fun g => absurd (Or.inr ⟨h2, h3⟩) g⟩
        · rw [if_neg (fun g => h3 (hq2.mp g))]
          exact c111 0 _ ⟨fun _ g => g.elim h1 (fun g => h3 g.2), fun _ => rfl⟩
      · rw [if_neg (fun g => h2 (hk2.mp g))]
        exact c111 0 _ ⟨fun _ g => g.elim h1 (fun g => h2 g.1), fun _ => rfl⟩
theorem gp_tell3C (M : gz_M) (p q r : Int64) : ∃ M1 M2 M3, f11_tell p (gz_w M 0 15 0) = some M1 ∧ f11_tell q M1 = some M2 ∧ f11_tell r M2 = some M3 ∧ gp_fC M M3 ∧ gp_wC M3 [p, q, r] ∧ gp_fC M M1 ∧ gp_fC M M2 := by
  obtain ⟨a1, a2⟩ := gp_wC0 M
  obtain ⟨M1, b1, b2, b3⟩ := gp_tellC p a2 (by simp)
  obtain ⟨M2, c1, c2, c3⟩ := gp_tellC q b3 (by simp)
  obtain ⟨M3, d1, d2, d3⟩ := gp_tellC r c3 (by simp)
  exact ⟨M1, M2, M3, b1, c1, d1, ((a1.trans b2).trans c2).trans d2, d3, a1.trans b2, (a1.trans b2).trans c2⟩
theorem gp_tell3R (M : gz_M) (p q r : Int64) : ∃ M1 M2 M3, f12_tell p (gz_w M 0 4 0) = some M1 ∧ f12_tell q M1 = some M2 ∧ f12_tell r M2 = some M3 ∧ gp_fR M M3 ∧ gp_wR M3 [p, q, r] := by
  obtain ⟨a1, a2⟩ := gp_wR0 M
  obtain ⟨M1, b1, b2, b3⟩ := gp_tellR p a2 (by simp)
  obtain ⟨M2, c1, c2, c3⟩ := gp_tellR q b3 (by simp)
  obtain ⟨M3, d1, d2, d3⟩ := gp_tellR r c3 (by simp)
  exact ⟨M1, M2, M3, b1, c1, d1, ((a1.trans b2).trans c2).trans d2, d3⟩
/-- kept, cut anew, met -/
theorem gq_tellC (hk : kd < 3) {cu : Nat} (hcu : gz_cIx (M.1 0 5) = cu) (hcu8 : gz_cIx (M.1 0 8) = k0) (h : gp_cC cu M ss) (h' : gp_cC k0 M ts) (hl : ss.length ≤ 24) (hl' : ts.length ≤ 24) (hok : ∀ t, t ∈ ss → gp_tkOk T n t) (hok' : ∀ t, t ∈ ts → gp_tkOk T' n' t) (hn : n ≤ 24) (hn' : n' ≤ 24) (hq : q ≤ 24) (hkp : gp_ahd q ts ≤ ss.length) : ∃ M', f11_tellChange (nI kd) (nI q) M = some M' ∧ gp_fC M M' ∧ gp_wC M' [(nI (gp_ahd q ts)).toInt64, (nI (gq_met kd q ts (ss.drop (gp_ahd q ts)) 0).1).toInt64, (nI (gq_mN ts (gq_met kd q ts (ss.drop (gp_ahd q ts)) 0).2)).toInt64] := by
  obtain ⟨M1, M2, M3, t1, t2, t3, t4, t5, _⟩ := gp_tell3C M (nI (gp_ahd q ts)).toInt64 (nI (gq_met kd q ts (ss.drop (gp_ahd q ts)) 0).1).toInt64 (nI (gq_mN ts (gq_met kd q ts (ss.drop (gp_ahd q ts)) 0).2)).toInt64
  have e24 : f11_tellChange (nI kd) (nI q) M = f11_tellChange_24 (nI kd) (nI q) k0 (gq_mo kd) M := by
    unfold f11_tellChange gq_mo
    rw [hcu8]
    obtain e | e | e : kd = 0 ∨ kd = 1 ∨ kd = 2 := by omega
    all_goals subst e; rfl
  refine ⟨M3, ?_, t4, t5⟩
  rw [e24]
  unfold f11_tellChange_24
  rw [gp_aheadC h' hl' hok' hn' (show q < 2 ^ 30 by omega), gp_eB2, show (0 : Int32) = nI 0 from rfl]
  rw [show f11_tellChange_46 gz_FU (nI kd) (nI q) k0 (gq_mo kd) (nI (gp_ahd q ts)) (nI 0) (nI 0) (nI 0) (nI (gp_ahd q ts)) M = _ from gq_tell46 hk hcu h h' hl hl' hok hok' hn hn' hq (nI (gp_ahd q ts)) (ss.length - gp_ahd q ts) (gp_ahd q ts) gz_FU 0 (by omega) (by unfold gz_FU; omega) (by omega)]
  unfold f11_tellChange_159
  rw [gp_eL, t1, gp_eB, t2, gp_eB, t3, gp_eB]
end
end
section
/-! changes: the reference tells them -/
section
variable {M M' N : gz_M} {T T' : gp_T} {l l' : List Nat} {ts ss : List gp_K} {k k0 kd q n n' : Nat}
theorem gq_eqD {a b : List Nat} (hl : a.length = b.length) (h : ∀ y, y < a.length → a.getD (a.length - 1 - y) 0 = b.getD (b.length - 1 - y) 0) : a = b := by
  apply List.ext_getElem hl
  intro i h1 h2
  have := h (a.length - 1 - i) (by omega)
  rw [← hl, show a.length - 1 - (a.length - 1 - i) = i by omega] at this
  simpa [List.getD, h1, h2] using this
theorem gq_old51 {stk a : List Nat} (hk : k < 24) (h5 : stk.length ≤ 5) (hla : a.length = stk.length) (ha : ∀ d, d ∈ a → d < 4) (hst : ∀ d, d ∈ stk → d < 4) (hs : gp_sR M stk) (ho : ∀ x, x < stk.length → M.1 23 (12 * k + 7 + x) = nI (a.getD (a.length - 1 - x) 0)) : f12_oldAt_51 gz_FU (nI k) 1 0 M = some ((if a = stk then nI k else -1), M) := by
  have e12 : ∀ x : Nat, (12 : Int32) * nI k + 7 + nI x = nI (12 * k + 7 + x) := fun x => by rw [show (12 : Int32) = nI 12 from rfl, pk_mul, show (7 : Int32) = nI 7 from rfl, nI_add, nI_add]
  have main : ∀ d x m (f : Nat), f < 2 → x + d = stk.length → d < m → (f = 1 ↔ ∀ y, y < x → a.getD (a.length - 1 - y) 0 = stk.getD (stk.length - 1 - y) 0) → f12_oldAt_51 m (nI k) (nI f) (nI x) M = some ((if a = stk then nI k else -1), M) := by
    intro d
    induction d with
    | zero =>
      intro x m f hf hx hm hfx
      obtain ⟨m, rfl⟩ : ∃ q, m = q + 1 := ⟨m - 1, by omega⟩
      rw [f12_oldAt_51, hs.1, if_pos (nI_le (by omega) (by omega))]
      by_cases h1 : f = 1
      · have : a = stk := gq_eqD hla (fun y hy => hfx.mp h1 y (by omega))
        rw [if_pos this, h1, if_neg (by decide)]
      · have : ¬ a = stk := fun e => h1 (hfx.mpr (fun y _ => by rw [e]))
        rw [if_neg this, show f = 0 by omega, if_pos (by decide)]
    | succ d ih =>
      intro x m f hf hx hm hfx
      obtain ⟨m, rfl⟩ : ∃ q, m = q + 1 := ⟨m - 1, by omega⟩
      rw [f12_oldAt_51, hs.1, if_neg (nI_ge (by omega) (by omega))]
      have hxa : x < stk.length := by omega
      by_cases h1 : f = 1
      · have va := ha _ (gp_getD_mem (d := 0) (show a.length - 1 - x < a.length by omega))
        have vs := hst _ (gp_getD_mem (d := 0) (show stk.length - 1 - x < stk.length by omega))
        rw [h1, if_neg (by decide), e12, gp_ckb (show 12 * k + 7 + x < 300 by omega) (by omega), gp_ckb (show x < 5 by omega) (by omega), nI_clamp (by omega), nI_clamp (by omega), ho x hxa, hs.2 x hxa]
        by_cases h2 : a.getD (a.length - 1 - x) 0 = stk.getD (stk.length - 1 - x) 0
        · rw [if_pos (by rw [h2]), gp_eL, nI_1]
          refine ih (x + 1) m 1 (by omega) (by omega) (by omega) ⟨fun _ y hy => ?_, fun _ => rfl⟩
          by_cases e : y = x
          · rw [e]; exact h2
          · exact hfx.mp h1 y (by omega)
        · rw [if_neg (fun g => h2 ((nI_eq (by omega) (by omega)).mp g)), gp_eL, nI_1]
          exact ih (x + 1) m 0 (by omega) (by omega) (by omega) ⟨fun g => absurd g (by omega), fun g => absurd (g x (by omega)) h2⟩
      · rw [show f = 0 by omega, if_pos (show nI 0 = (0 : Int32) from rfl), gp_eL, nI_1]
        exact ih (x + 1) m 0 (by omega) (by omega) (by omega) ⟨fun g => absurd g (by omega), fun g => absurd (hfx.mpr (fun y hy => g y (by omega))) h1⟩
  exact main stk.length 0 gz_FU 1 (by omega) (by omega) (by unfold gz_FU; omega) ⟨fun _ y hy => absurd hy (by omega), fun _ => rfl⟩
theorem gq_oldAt {stk : List Nat} (h : gp_old M ts) (hl : ts.length ≤ 24) (hok : ∀ t, t ∈ ts → gp_tkOk T n t) (hn : n ≤ 24) (hs : gp_sR M stk) (hsk : gp_sk stk) {w : Nat} (hw : w < 2 ^ 30) : f12_oldAt (nI w) M = some (gp_o (gq_oR ts w stk ts.length 0), M) := by
  obtain ⟨h39, N, hN, h23⟩ := h
  have h5 := hsk.2.1
  have main : ∀ d k m, k + d = ts.length → d < m → f12_oldAt_2 m (nI w) (nI k) M = some (gp_o (gq_oR ts w stk d k), M) := by
    intro d
    induction d with
    | zero =>
      intro k m hk hm
      obtain ⟨m, rfl⟩ : ∃ q, m = q + 1 := ⟨m - 1, by omega⟩
      rw [f12_oldAt_2, h39, if_pos (nI_le (by omega) (by omega))]
      rfl
    | succ d ih =>
      intro k m hk hm
      obtain ⟨m, rfl⟩ : ∃ q, m = q + 1 := ⟨m - 1, by omega⟩
      have v := hN.2.2 k (by omega)
      have o1 := hok _ (gp_getD_mem (d := gp_k0) (show k < ts.length by omega))
      have b1 := o1.2.1
      have b2 := o1.2.2.1
      have b4 := o1.2.2.2.2.2.2.2
      have b5 := b4.2.1
      have e2 : (12 : Int32) * nI k + 2 = nI (12 * k + 2) := by rw [show (12 : Int32) = nI 12 from rfl, pk_mul, show (2 : Int32) = nI 2 from rfl, nI_add]
      have e5 : (12 : Int32) * nI k + 5 = nI (12 * k + 5) := by rw [show (12 : Int32) = nI 12 from rfl, pk_mul, show (5 : Int32) = nI 5 from rfl, nI_add]
      have nx := ih (k + 1) m (by omega) (by omega)
      rw [f12_oldAt_2, h39, if_neg (nI_ge (by omega) (by omega)), e2, e5, gp_ckb (show 12 * k + 2 < 300 by omega) (by omega), gp_ckb (show 12 * k + 5 < 300 by omega) (by omega), nI_clamp (by omega), nI_clamp (by omega), h23 _ (by omega), h23 _ (by omega), v.2.2.1, v.2.2.2.2.2.1, hs.1, gq_oR]
      by_cases c1 : (ts.getD k gp_k0).2.2.1 = w
      · rw [if_pos (by rw [c1])]
        by_cases c2 : (ts.getD k gp_k0).2.2.2.2.2.2.length = stk.length
        · rw [if_pos (by rw [c2]), if_pos ⟨c1, c2⟩, gq_old51 (by omega) h5 c2 b4.2.2 hsk.2.2 hs (fun x hx => by
            rw [h23 _ (by omega), v.2.2.2.2.2.2.2 x (by omega), if_pos (by omega)])]
          split <;> rfl
        · rw [if_neg (fun g => c2 ((nI_eq (by omega) (by omega)).mp g)), if_neg (fun g => c2 g.2), gp_eL, nI_1]
          exact nx
      · rw [if_neg (fun g => c1 ((nI_eq (by omega) (by omega)).mp g)), if_neg (fun g => c1 g.1), gp_eL, nI_1]
        exact nx
  unfold f12_oldAt
  exact main ts.length 0 gz_FU (by omega) (by unfold gz_FU; omega)
theorem gq_pl_ge (hw : gp_wT T) : ∀ x, x ≤ (gp_cut T l).length → x ≤ gq_pl 0 (gp_cut T l) x
  | 0, _ => Nat.zero_le _
  | 1, h => by
    have hm := gp_cut_ok (l := l) hw _ (gp_getD_mem (d := gp_k0) (show 0 < (gp_cut T l).length by omega))
    have := hm.1
    show 1 ≤ ((gp_cut T l).getD 0 gp_k0).2.2.1
    omega
  | x + 2, h => by
    have h1 := gq_pl_ge hw (x + 1) (by omega)
    have h2 := gq_sort (l := l) hw (i := x) (k := x + 1) (by omega) (by omega)
    unfold gq_pl at h1 ⊢
    rw [if_neg (by omega)] at h1 ⊢
    simp only [Nat.add_sub_cancel] at h1
    rw [show x + 2 - 1 = x + 1 by omega]
    omega
theorem gq_st_sk (hw : gp_wT T) {x : Nat} (h : x ≤ (gp_cut T l).length) : gp_sk (gq_st [0] (gp_cut T l) x) := by
  unfold gq_st
  split
  · exact gp_sk0
  · exact (gp_cut_ok (l := l) hw _ (gp_getD_mem (d := gp_k0) (show x - 1 < (gp_cut T l).length by omega))).2.2.2.2.2.2.2
theorem gq_164 (hk : kd < 3) (hw : gp_wT T) (hl24 : l.length ≤ 24) (hw' : gp_wT T') (hts : ts = gp_cut T' l') (hl' : ts.length ≤ 24) (hok' : ∀ t, t ∈ ts → gp_tkOk T' n' t) (hn' : n' ≤ 24) (hq : q ≤ 24) (kp : Int32) : ∀ (d x m a mo : Nat) (M : gz_M), x + d = (gp_cut T l).length → d + 1 < m → a ≤ x → gp_tR M T → gp_lR M l → gp_old M ts → gp_sR M (gq_st [0] (gp_cut T l) x) → M.1 0 26 = nI (gq_pl 0 (gp_cut T l) x) → M.1 0 31 = nI a → mo ≤ 5 → M.1 0 29 = nI mo → ∃ M', f12_changed_164 m (nI kd) (nI q) kp (nI a) (-1) M = f12_changed_257 kp (nI (gq_met kd q ts ((gp_cut T l).drop x) a).1) (gp_o (gq_met kd q ts ((gp_cut T l).drop x) a).2) M' ∧ gp_cutL M M' := by
  intro d
  induction d with
  | zero =>
    intro x m a mo M hx hm ha hT hL hO hS h26 h31 hmo h29
    obtain ⟨m, rfl⟩ : ∃ q, m = q + 1 := ⟨m - 1, by omega⟩
    have hend : l.length ≤ gq_pl 0 (gp_cut T l) x := by
      have hd := gq_dropF (T := T) (l := l) 24 0 [0] x (by show x ≤ (gp_cut T l).length; omega)
      rw [show gp_cutF T l 24 0 [0] = gp_cut T l from rfl, List.drop_eq_nil_of_le (show (gp_cut T l).length ≤ x by omega)] at hd
      by_cases h24 : x = 24
      · have := gq_pl_ge (l := l) hw x (by omega)
        omega
      · have hlen := gp_cut_len (T := T) (l := l)
        obtain ⟨y, hy⟩ : ∃ y, 24 - x = y + 1 := ⟨24 - x - 1, by omega⟩
        rw [hy, gp_cutF] at hd
        by_cases hp : gq_pl 0 (gp_cut T l) x < l.length
        · rw [if_pos hp] at hd
          cases hd
        · omega
    have hpl : gq_pl 0 (gp_cut T l) x ≤ 24 := by
      unfold gq_pl
      split
      · omega
      · have o := gp_cut_ok (l := l) hw _ (gp_getD_mem (d := gp_k0) (show x - 1 < (gp_cut T l).length by omega))
        have o1 := o.2.1
        have o2 := o.2.2.1
        omega
    refine ⟨M, ?_, ⟨rfl, fun _ _ _ => rfl, fun _ _ _ _ _ _ => rfl⟩⟩
    rw [f12_changed_164, if_pos rfl, gp_c81, gp_k81, hL.2.1, h26, if_pos (nI_le hend (by omega)), List.drop_eq_nil_of_le (by omega)]
    rfl
  | succ d ih =>
    intro x m a mo M hx hm ha hT hL hO hS h26 h31 hmo h29
    obtain ⟨m, rfl⟩ : ∃ q, m = q + 2 := ⟨m - 2, by omega⟩
    have hlen := gp_cut_len (T := T) (l := l)
    have hsk := gq_st_sk (l := l) hw (x := x) (by omega)
    have hd := gq_dropF (T := T) (l := l) 24 0 [0] x (by show x ≤ (gp_cut T l).length; omega)
    rw [show gp_cutF T l 24 0 [0] = gp_cut T l from rfl] at hd
    obtain ⟨y, hy⟩ : ∃ y, 24 - x = y + 1 := ⟨24 - x - 1, by omega⟩
    have hdrop : (gp_cut T l).drop x = (gp_cut T l).getD x gp_k0 :: (gp_cut T l).drop (x + 1) := by
      rw [List.drop_eq_getElem_cons (show x < (gp_cut T l).length by omega)]
      simp [List.getD, show x < (gp_cut T l).length by omega]
    rw [hy, gp_cutF, hdrop] at hd
    have hp : gq_pl 0 (gp_cut T l) x < l.length := Classical.byContradiction fun hp => by
      rw [if_neg hp] at hd
      cases hd
    rw [if_pos hp] at hd
    have ht : (gp_cut T l).getD x gp_k0 = gp_tok T l (gq_pl 0 (gp_cut T l) x) (gq_st [0] (gp_cut T l) x) := by
      injection hd
    obtain ⟨M1, e1, e2, e3, e4, ⟨mo2, e5, e5'⟩, e6, e7, e8, e9, e10, e11, e12⟩ := gq_cutOne (F := gp_F0) hw 0 (by omega) hT hL hsk hS hmo h29 (show a < 25 by omega) h31 hp h26 (fun S p' _ _ => by simp [gp_F0]) _ rfl
    have htok : gp_tokO T (gq_pl 0 (gp_cut T l) x) (gq_st [0] (gp_cut T l) x) (gp_rm T ((gq_st [0] (gp_cut T l) x).headD 0) gp_F0 (l.drop (gq_pl 0 (gp_cut T l) x)) (gq_pl 0 (gp_cut T l) x) (T.2.2 8 ((gq_st [0] (gp_cut T l) x).headD 0)) none (gq_pl 0 (gp_cut T l) x)) = (gp_cut T l).getD x gp_k0 := ht.symm
    rw [htok] at e3 e4
    have o1 := gp_cut_ok (l := l) hw _ (gp_getD_mem (d := gp_k0) (show x < (gp_cut T l).length by omega))
    have b1 := o1.1
    have b2 := o1.2.1
    have b3 := o1.2.2.1
    have b4 := o1.2.2.2.2.2.2.2
    have hO1 : gp_old M1 ts := hO.fr (e2.2.1 23 (by omega) (by omega)) (e2.2.2 39 (by omega) (by omega) (by omega) (by omega) (by omega))
    have hT1 : gp_tR M1 T := hT.fr (fun c c1 c2 => e2.2.1 c (by omega) (by omega)) (e2.2.2 10 (by omega) (by omega) (by omega) (by omega) (by omega))
    have hL1 : gp_lR M1 l := hL.fr (e2.2.1 1 (by omega) (by omega))
    have npl : gq_pl 0 (gp_cut T l) (x + 1) = ((gp_cut T l).getD x gp_k0).2.2.1 := by
      unfold gq_pl
      rw [if_neg (by omega), Nat.add_sub_cancel]
    have nst : gq_st [0] (gp_cut T l) (x + 1) = ((gp_cut T l).getD x gp_k0).2.2.2.2.2.2 := by
      unfold gq_st
      rw [if_neg (by omega), Nat.add_sub_cancel]
    obtain ⟨M2, f1, f2⟩ := ih (x + 1) (m + 1) (a + 1) mo2 M1 (by omega) (by omega) (by omega) hT1 hL1 hO1 (by rw [nst]; exact e3) (by rw [npl]; exact e4) e6 e5 e5'
    generalize hte : (gp_cut T l).getD x gp_k0 = t at *
    have hq1 : (nI q < nI t.2.2.1) ↔ q < t.2.2.1 := nI_ltI (by omega) (by omega)
    have hq2 : (nI q = nI t.2.2.1) ↔ q = t.2.2.1 := nI_eq (by omega) (by omega)
    have hk2 : (nI kd = (2 : Int32)) ↔ kd = 2 := nI_eq (b := 2) (by omega) (by omega)
    have hmv : gq_mv kd t.2.2.1 < 2 ^ 30 := by
      unfold gq_mv
      split
      · omega
      · split <;> omega
    have hoA := gq_oldAt hO1 hl' hok' hn' e3 b4 hmv
    have hoE : gq_oR ts (gq_mv kd t.2.2.1) t.2.2.2.2.2.2 ts.length 0 = gq_oC ts (gq_mv kd t.2.2.1) t.2.2.2.2.2.2 := by rw [hts]; exact gq_oE hw' _ _
    rw [hoE] at hoA
    have start : f12_changed_164 (m + 2) (nI kd) (nI q) kp (nI a) (-1) M = f12_changed_223 (f12_changed_164 (m + 1)) (nI kd) (nI q) kp (nI (a + 1)) (-1) (nI (gq_mv kd t.2.2.1)) M1 := by
      rw [f12_changed_164, if_pos rfl, gp_c81, gp_k81, hL.2.1, h26, if_neg (nI_ge hp (by omega)), show f12_cutOne 0 M = some M1 from e1, gp_eB, gp_eL, nI_1, e4]
      unfold gq_mv
      obtain e | e | e : kd = 0 ∨ kd = 1 ∨ kd = 2 := by omega
      · subst e
        rw [if_pos (show nI 0 = (0 : Int32) from rfl), if_pos rfl]
      · subst e
        obtain ⟨v, hv⟩ : ∃ v, t.2.2.1 = v + 1 := ⟨t.2.2.1 - 1, by omega⟩
        rw [if_neg (by decide), if_pos (show nI 1 = (1 : Int32) from rfl), if_neg (by omega), if_pos rfl, hv, nI_pred]
        rfl
      · subst e
        rw [if_neg (by decide), if_neg (by decide), if_neg (by omega), if_neg (by omega), nI_1]
    rw [start, hdrop, gq_met]
    have c246 : f12_changed_246 (f12_changed_164 (m + 1)) (nI kd) (nI q) kp (nI (a + 1)) (nI (gq_mv kd t.2.2.1)) M1 = f12_changed_164 (m + 1) (nI kd) (nI q) kp (nI (a + 1)) (gp_o (gq_oC ts (gq_mv kd t.2.2.1) t.2.2.2.2.2.2)) M1 := by
      unfold f12_changed_246
      rw [hoA, gp_eB2]
    have stop : ∀ j, f12_changed_164 (m + 1) (nI kd) (nI q) kp (nI (a + 1)) (gp_o (some j)) M1 = f12_changed_257 kp (nI (a + 1)) (gp_o (some j)) M1 ∨ ¬ j < 2 ^ 31 := fun j => by
      by_cases hj : j < 2 ^ 31
      · left
        rw [f12_changed_164, if_neg (by rw [gp_oS, gp_m1, gp_ne1 hj]; exact id)]
      · exact Or.inr hj
    have yes : (q < t.2.2.1 ∨ (kd = 2 ∧ q = t.2.2.1)) → f12_changed_223 (f12_changed_164 (m + 1)) (nI kd) (nI q) kp (nI (a + 1)) (-1) (nI (gq_mv kd t.2.2.1)) M1 = f12_changed_164 (m + 1) (nI kd) (nI q) kp (nI (a + 1)) (gp_o (gq_oC ts (gq_mv kd t.2.2.1) t.2.2.2.2.2.2)) M1 := fun h => by
      unfold f12_changed_223
      rw [e4]
      by_cases g : q < t.2.2.1
      · rw [if_pos (hq1.mpr g), c246]
      · rw [if_neg (fun z => g (hq1.mp z))]
        have h := h.resolve_left g
        rw [if_pos (hk2.mpr h.1), if_pos (hq2.mpr h.2), c246]
    have nope : ¬ (q < t.2.2.1 ∨ (kd = 2 ∧ q = t.2.2.1)) → f12_changed_223 (f12_changed_164 (m + 1)) (nI kd) (nI q) kp (nI (a + 1)) (-1) (nI (gq_mv kd t.2.2.1)) M1 = f12_changed_164 (m + 1) (nI kd) (nI q) kp (nI (a + 1)) (-1) M1 := fun h => by
      unfold f12_changed_223
      rw [e4, if_neg (fun z => h (Or.inl (hq1.mp z)))]
      by_cases g : kd = 2
      · rw [if_pos (hk2.mpr g), if_neg (fun z => h (Or.inr ⟨g, hq2.mp z⟩))]
      · rw [if_neg (fun z => g (hk2.mp z))]
    by_cases hP : q < t.2.2.1 ∨ (kd = 2 ∧ q = t.2.2.1)
    · rw [yes hP]
      cases ho : gq_oC ts (gq_mv kd t.2.2.1) t.2.2.2.2.2.2 with
      | none =>
        rw [if_neg (fun g => by cases g.2)]
        exact ⟨M2, f1, e2.trans f2⟩
      | some j =>
        have hj := gq_oC_lt ho
        rw [if_pos ⟨hP, rfl⟩]
        rcases stop j with g | g
        · exact ⟨M1, g, e2⟩
        · omega
    · rw [nope hP, if_neg (fun g => hP g.1)]
      exact ⟨M2, f1, e2.trans f2⟩
end
end
section
/-! promises 31, 32, 33: becomes, comes, goes -/
section
variable {M M' N : gz_M} {T T' : gp_T} {l l' : List Nat} {ts ss : List gp_K} {k k0 kd q n n' : Nat}
theorem gq_cI {v : Nat} (h : v = 30 ∨ v = 60) : gz_cIx (gz_cOf v) = v := by
  rcases h with rfl | rfl <;> decide
theorem gq_45 (h : gp_old M ts) (hl : ts.length ≤ 24) (hok : ∀ t, t ∈ ts → gp_tkOk T n t) (hn : n ≤ 24) (hq : q ≤ 24) : f12_changed_45 gz_FU (nI kd) (nI q) 0 M = f12_changed_76 (nI kd) (nI q) (nI (gp_ahd q ts)) M := by
  obtain ⟨h39, N, hN, h23⟩ := h
  obtain ⟨a1, a2, a3⟩ := gp_ahd_f q ts
  have main : ∀ d k m, k + d = gp_ahd q ts → d < m → f12_changed_45 m (nI kd) (nI q) (nI k) M = f12_changed_76 (nI kd) (nI q) (nI (gp_ahd q ts)) M := by
    intro d
    induction d with
    | zero =>
      intro k m hk hm
      obtain ⟨m, rfl⟩ : ∃ q, m = q + 1 := ⟨m - 1, by omega⟩
      have hk : k = gp_ahd q ts := by omega
      rw [f12_changed_45, h39, hk]
      by_cases c : ts.length ≤ gp_ahd q ts
      · rw [if_pos (nI_le c (by omega))]
      · have e3 : (12 : Int32) * nI (gp_ahd q ts) + 3 = nI (12 * gp_ahd q ts + 3) := by rw [show (12 : Int32) = nI 12 from rfl, pk_mul, show (3 : Int32) = nI 3 from rfl, nI_add]
        have v := hN.2.2 (gp_ahd q ts) (by omega)
        have g := a3 (by omega)
        have o := hok _ (gp_getD_mem (d := gp_k0) (show gp_ahd q ts < ts.length by omega))
        have hr := gp_rch_lt o hn
        rw [if_neg (nI_ge (by omega) (by omega)), e3, gp_ckb (show 12 * gp_ahd q ts + 3 < 300 by omega) (by omega), nI_clamp (by omega), h23 _ (by omega), v.2.2.2.1, if_pos (show nI q < nI (if (ts.getD (gp_ahd q ts) gp_k0).2.2.2.2.1.isSome = true then (ts.getD (gp_ahd q ts) gp_k0).2.2.2.1 else (ts.getD (gp_ahd q ts) gp_k0).2.2.2.1 + 1) from nI_lt (b := gp_rch (ts.getD (gp_ahd q ts) gp_k0)) g (by omega))]
    | succ d ih =>
      intro k m hk hm
      obtain ⟨m, rfl⟩ : ∃ q, m = q + 1 := ⟨m - 1, by omega⟩
      have e3 : (12 : Int32) * nI k + 3 = nI (12 * k + 3) := by rw [show (12 : Int32) = nI 12 from rfl, pk_mul, show (3 : Int32) = nI 3 from rfl, nI_add]
      have v := hN.2.2 k (by omega)
      have g := a2 k (by omega)
      have o := hok _ (gp_getD_mem (d := gp_k0) (show k < ts.length by omega))
      have hr := gp_rch_lt o hn
      rw [f12_changed_45, h39, if_neg (nI_ge (by omega) (by omega)), e3, gp_ckb (show 12 * k + 3 < 300 by omega) (by omega), nI_clamp (by omega), h23 _ (by omega), v.2.2.2.1, if_neg (show ¬ nI q < nI (if (ts.getD k gp_k0).2.2.2.2.1.isSome = true then (ts.getD k gp_k0).2.2.2.1 else (ts.getD k gp_k0).2.2.2.1 + 1) from nI_nlt (a := q) (b := gp_rch (ts.getD k gp_k0)) g (by omega)), gp_eL, nI_1]
      exact ih (k + 1) m (by omega) (by omega)
  exact main (gp_ahd q ts) 0 gz_FU (by omega) (by unfold gz_FU; omega)
theorem gq_76 (hk : kd < 3) (hw : gp_wT T) (hT : gp_tR M T) (hL : gp_lR M l) (hw' : gp_wT T') (hts : ts = gp_cut T' l') (hok' : ∀ t, t ∈ ts → gp_tkOk T' n' t) (hn' : n' ≤ 24) (hq : q ≤ 24) (hO : gp_old M ts) (hkp : gp_ahd q ts ≤ (gp_cut T l).length) (htk : (gp_cut T l).take (gp_ahd q ts) = ts.take (gp_ahd q ts)) : ∃ M', f12_changed_76 (nI kd) (nI q) (nI (gp_ahd q ts)) M = f12_changed_257 (nI (gp_ahd q ts)) (nI (gq_met kd q ts ((gp_cut T l).drop (gp_ahd q ts)) 0).1) (gp_o (gq_met kd q ts ((gp_cut T l).drop (gp_ahd q ts)) 0).2) M' ∧ gp_cutL M M' := by
  have hl24 := hL.1
  have hl' : ts.length ≤ 24 := by rw [hts]; exact gp_cut_len
  obtain ⟨a1, a2, a3⟩ := gp_ahd_f q ts
  have hssl := gp_cut_len (T := T) (l := l)
  generalize hkk : gp_ahd q ts = kp at *
  obtain ⟨M1, e1, e2, e3, e4, e5, e6, e7⟩ := gp_atFirstR M
  have hT1 : gp_tR M1 T := hT.fr (fun c c1 c2 => e3 c (by omega) (by omega)) (e2.2.2 10 (by omega) (by omega) (by omega) (by omega) (by omega))
  have hL1 : gp_lR M1 l := hL.fr (e3 1 (by omega) (by omega))
  have hO1 : gp_old M1 ts := hO.fr (e3 23 (by omega) (by omega)) (e2.2.2 39 (by omega) (by omega) (by omega) (by omega) (by omega))
  unfold f12_changed_76
  rw [e1, gp_eB]
  by_cases h0 : kp = 0
  · subst h0
    obtain ⟨M', f1, f2⟩ := gq_164 (M := M1) (q := q) hk hw hl24 hw' hts hl' hok' hn' hq (nI 0) (gp_cut T l).length 0 gz_FU 0 1 (by omega) (by unfold gz_FU; omega) (by omega) hT1 hL1 hO1 e4 e5 e6.1 (by omega) e6.2.1
    rw [if_pos (show nI 0 ≤ (0 : Int32) by decide)]
    exact ⟨M', f1, e2.trans f2⟩
  · obtain ⟨h39, N, hN, h23⟩ := hO1
    obtain ⟨i, rfl⟩ : ∃ i, kp = i + 1 := ⟨kp - 1, by omega⟩
    have hnew : (gp_cut T l).getD i gp_k0 = ts.getD i gp_k0 := by
      have := congrArg (fun L => L.getD i gp_k0) htk
      simpa [List.getD, List.getElem?_take] using this
    have v := hN.2.2 i (by omega)
    have o := hok' _ (gp_getD_mem (d := gp_k0) (show i < ts.length by omega))
    have o4 := o.2.2.2.2.2.2.2
    have o5 := o4.2.1
    have hm12 : (12 : Int32) * nI i = nI (12 * i) := by rw [show (12 : Int32) = nI 12 from rfl, pk_mul]
    have a0 : ∀ x : Nat, nI (12 * i) + nI x = nI (12 * i + x) := fun x => nI_add _ _
    rw [if_neg (show ¬ nI (i + 1) ≤ (0 : Int32) from nI_ge (a := 0) (by omega) (by omega)), nI_pred, hm12, gp_eL, show (2 : Int32) = nI 2 from rfl, show (5 : Int32) = nI 5 from rfl, a0, a0, gp_ckb (show 12 * i + 2 < 300 by omega) (by omega), nI_clamp (by omega), gp_eL, gp_ckb (show 12 * i + 5 < 300 by omega) (by omega), nI_clamp (by omega), gp_gn (by omega), h23 _ (by omega), h23 _ (by omega), v.2.2.1, v.2.2.2.2.2.1, gp_eL]
    obtain ⟨K, hK⟩ : ∃ K, K = gz_w (gz_w M1 0 26 (nI (ts.getD i gp_k0).2.2.1)) 0 28 (nI (ts.getD i gp_k0).2.2.2.2.2.2.length) := ⟨_, rfl⟩
    have Kc : ∀ c, c ≠ 0 → K.1 c = M1.1 c := fun c hc => by rw [hK, gp_wc _ hc, gp_wc _ hc]
    have K28 : K.1 0 28 = nI (ts.getD i gp_k0).2.2.2.2.2.2.length := by rw [hK, gp_gs]
    have lp := gp_fl_l (M := K) (c := 16) (o := 0) (N := (ts.getD i gp_k0).2.2.2.2.2.2.length) (v := fun x => nI ((ts.getD i gp_k0).2.2.2.2.2.2.getD ((ts.getD i gp_k0).2.2.2.2.2.2.length - 1 - x) 0)) (fun n a M => f12_changed_123 n (nI kd) (nI q) (nI (i + 1)) (nI (12 * i)) a M) (fun M1 => f12_changed_164 gz_FU (nI kd) (nI q) (nI (i + 1)) 0 (-1) M1) (fun n => by
      show f12_changed_123 (n + 1) _ _ _ _ _ _ = _
      rw [f12_changed_123, gp_fl_c (by omega), K28, if_pos (nI_le (Nat.le_refl _) (by omega))]) (fun n x hx => by
      show f12_changed_123 (n + 1) _ _ _ _ _ _ = f12_changed_123 n _ _ _ _ _ _
      rw [f12_changed_123, gp_fl_c (show (0 : Nat) ≠ 16 by omega), K28, if_neg (nI_ge hx (by omega)), show (7 : Int32) = nI 7 from rfl, a0, nI_add, gp_ckb (show 12 * i + 7 + x < 300 by omega) (by omega), gp_ckb (show x < 5 by omega) (by omega), nI_clamp (by omega), nI_clamp (by omega), gp_fl_c (show (23 : Nat) ≠ 16 by omega), Kc 23 (by omega), h23 _ (by omega), v.2.2.2.2.2.2.2 x (by omega), if_pos hx, gp_eL, gp_eL, nI_1, Nat.zero_add]) gz_FU (by unfold gz_FU; omega)
    obtain ⟨P, hP⟩ : ∃ P, P = gp_fl K 16 0 (ts.getD i gp_k0).2.2.2.2.2.2.length (fun x => nI ((ts.getD i gp_k0).2.2.2.2.2.2.getD ((ts.getD i gp_k0).2.2.2.2.2.2.length - 1 - x) 0)) := ⟨_, rfl⟩
    rw [← hP] at lp
    have Pc : ∀ c, c ≠ 0 → c ≠ 16 → P.1 c = M1.1 c := fun c c1 c2 => by rw [hP, gp_fl_c c2, Kc c c1]
    have P0 : ∀ x, x ≠ 26 → x ≠ 28 → P.1 0 x = M1.1 0 x := fun x x1 x2 => by rw [hP, gp_fl_c (by omega), hK, gp_gn (by omega), gp_gn (by omega)]
    have lP : gp_cutL M1 P := ⟨by rw [hP, hK]; rfl, fun c c1 c2 => Pc c c1 (by omega), fun x x1 x2 _ _ _ => P0 x x1 x2⟩
    have est : gq_st [0] (gp_cut T l) (i + 1) = (ts.getD i gp_k0).2.2.2.2.2.2 := by
      unfold gq_st
      rw [if_neg (by omega), Nat.add_sub_cancel, hnew]
    have epl : gq_pl 0 (gp_cut T l) (i + 1) = (ts.getD i gp_k0).2.2.1 := by
      unfold gq_pl
      rw [if_neg (by omega), Nat.add_sub_cancel, hnew]
    obtain ⟨M', f1, f2⟩ := gq_164 (M := P) (q := q) hk hw hl24 hw' hts hl' hok' hn' hq (nI (i + 1)) ((gp_cut T l).length - (i + 1)) (i + 1) gz_FU 0 1 (by omega) (by unfold gz_FU; omega) (by omega) (hT1.fr (fun c c1 c2 => Pc c (by omega) (by omega)) (P0 10 (by omega) (by omega))) (hL1.fr (Pc 1 (by omega) (by omega))) (gp_old.fr ⟨h39, N, hN, h23⟩ (Pc 23 (by omega) (by omega)) (P0 39 (by omega) (by omega))) (by
      rw [est]
      refine ⟨by rw [hP, gp_fl_c (by omega)]; exact K28, fun x hx => ?_⟩
      have := gp_fl_i (M := K) (c := 16) (o := 0) (N := (ts.getD i gp_k0).2.2.2.2.2.2.length) (v := fun x => nI ((ts.getD i gp_k0).2.2.2.2.2.2.getD ((ts.getD i gp_k0).2.2.2.2.2.2.length - 1 - x) 0)) hx
      rw [Nat.zero_add] at this
      rw [hP, this]) (by rw [epl, hP, gp_fl_c (by omega), hK, gp_gn (by omega), gp_gs]) (by rw [P0 31 (by omega) (by omega)]; exact e6.1) (by omega) (by rw [P0 29 (by omega) (by omega)]; exact e6.2.1)
    refine ⟨M', ?_, (e2.trans lP).trans f2⟩
    rw [← f1, ← hK]
    exact lp
theorem gq_257 (hw : gp_wT T) (hT : gp_tR M T) (hL : gp_lR M l) (hO : gp_old M ts) (hl' : ts.length ≤ 24) (kp a : Nat) (o : Option Nat) (ho : ∀ j, o = some j → j < ts.length) : ∃ M', f12_changed_257 (nI kp) (nI a) (gp_o o) M = some (nI (gp_cut T l).length, M') ∧ (∀ c, c ≠ 0 → ¬ (16 ≤ c ∧ c ≤ 20) → M'.1 c = M.1 c) ∧ (∀ i, i ≠ 4 → i ≠ 26 → i ≠ 28 → i ≠ 29 → i ≠ 31 → i ≠ 32 → M'.1 0 i = M.1 0 i) ∧ gp_wR M' [(nI kp).toInt64, (nI a).toInt64, (nI (gq_mN ts o)).toInt64] := by
  obtain ⟨M1, M2, M3, t1, t2, t3, t4, t5⟩ := gp_tell3R M (nI kp).toInt64 (nI a).toInt64 (nI (gq_mN ts o)).toInt64
  obtain ⟨M4, c1, c2, c3, c4, _⟩ := gp_cutAll0 (M := M3) (l := l) hw (hT.fr (fun c c1 c2 => t4.1 c (by omega)) (t4.2 10 (by omega))) (hL.fr (t4.1 1 (by omega)))
  have e276 : f12_changed_276 (nI kp) (nI a) (nI (gq_mN ts o)) M = some (nI (gp_cut T l).length, M4) := by
    unfold f12_changed_276
    rw [gp_eL, t1, gp_eB, t2, gp_eB, t3, gp_eB, c1, gp_eB, c4.1]
  refine ⟨M4, ?_, fun c e1 e2 => by rw [c2.2.1 c e1 e2, t4.1 c e1], fun i i0 i1 i2 i3 i4 i5 => by rw [c2.2.2 i i1 i2 i3 i4 i5, t4.2 i i0], t5.fr c2.1 (c2.2.2 4 (by omega) (by omega) (by omega) (by omega) (by omega))⟩
  unfold f12_changed_257
  cases o with
  | none =>
    rw [if_pos (show gp_o none = -1 from rfl)]
    exact e276
  | some j =>
    have hj := ho j rfl
    have hv : nI ts.length - 1 - nI j = nI (ts.length - 1 - j) := by
      obtain ⟨v, hv⟩ : ∃ v, ts.length = v + 1 := ⟨ts.length - 1, by omega⟩
      rw [hv, nI_pred, gp_subI (by omega)]
      rfl
    rw [if_neg (by rw [gp_oS, gp_m1, gp_ne1 (by omega)]; exact id), hO.1, gp_oS, hv]
    exact e276
end
section
variable {B : Prop} {pf pf' : Nat → Bool} {M M' Mc Mr Mc' Mr' C R : gz_M} {cu cu' o o' kd : Nat} {x x' t l l' : List Nat} {b u : gp_Bk} {us us' : List gp_Bk} {ks ks' : Nat → Option gp_Bk}
theorem gq_chgA (h : gp_RI B pf cu Mc Mr x b us ks o) (hk : kd < 3) (q s : Int32) (hs : kd = 2 → s = 0) : gp_call B (g11_change (nI kd) q s Mc pf) (f12_changed (nI kd) q s Mr) := by
  have hR := h
  obtain ⟨⟨q1, q2, q3, q4, q5, q6, q7, q8⟩, h2, h3, h4, h5, h6, h7, h8, h9, h10, h11⟩ := h
  have hcu := q6.1
  have hl24 : b.2.length ≤ 24 := h2.2.2.1
  have hlr : gp_lR (gz_w Mr 0 5 0) b.2 := q5.fr (gp_wc _ (by omega))
  rcases gq_ref q4 hlr hk q s hs with ⟨v, v1, v2, e1, e2⟩ | ⟨j, z, rfl, rfl, hcan, e1, e2⟩
  · refine ⟨v, Mc, pf, gz_w Mr 0 5 0, ?_, ?_, cu, x, b, us, ks, o, hR.ans gp_qC.refl (gp_thr 0).1 (q8.fr rfl rfl rfl (gp_gn (by omega)))⟩
    · unfold g11_change
      rw [show (7 + 2 : Nat) = 9 from rfl, e1, gp_eB2, if_neg v1]
    · unfold f12_changed
      rw [gp_eL, e2, gp_eB2, if_neg v1]
  · obtain ⟨hn24, n0, n1, n2⟩ := gq_chg_len hk hcan hl24
    generalize hle : gq_chg kd b.2 j z = l' at hn24 n0 n1 n2
    have hj24 : j ≤ 24 := by
      obtain ⟨g1, g2, g3, g4⟩ := hcan
      obtain e | e | e : kd = 0 ∨ kd = 1 ∨ kd = 2 := by omega
      · have := (g2 e).1; omega
      · have := (g3 e).1; omega
      · have := g4 e; omega
    have hjl : j ≤ b.2.length ∧ j ≤ l'.length := by
      obtain ⟨g1, g2, g3, g4⟩ := hcan
      obtain e | e | e : kd = 0 ∨ kd = 1 ∨ kd = 2 := by omega
      · have := (g2 e).1; have := n0 e; omega
      · have := (g3 e).1; have := n1 e; omega
      · have := g4 e; have := n2 e; omega
    have hpre : ∀ i, i < j → l'[i]? = b.2[i]? := fun i hi => by rw [← hle]; exact gq_chg_pre hk hcan i hi
    obtain ⟨kp1, kp2⟩ := gq_keep (T := gp_tab b.1) q1 hjl.1 hjl.2 hpre 24 0 [0] gp_sk0
    have kp1 : (gp_cut (gp_tab b.1) l').take (gp_ahd j (gp_cut (gp_tab b.1) b.2)) = (gp_cut (gp_tab b.1) b.2).take (gp_ahd j (gp_cut (gp_tab b.1) b.2)) := kp1
    have kp2 : gp_ahd j (gp_cut (gp_tab b.1) b.2) ≤ (gp_cut (gp_tab b.1) l').length := kp2
    have hok := gp_cut_ok (l := b.2) q1
    have hok' := gp_cut_ok (l := l') q1
    have hlen := gp_cut_len (T := gp_tab b.1) (l := b.2)
    have hlen' := gp_cut_len (T := gp_tab b.1) (l := l')
    -- the component
    obtain ⟨C1, pf', o', p1, p2, p3, p4, p5, p6⟩ := gp_pushG (M := Mc) (b := b) h7 h8 ⟨h5, q4⟩
    obtain ⟨C2, hC2⟩ : ∃ C2, C2 = gz_w (gz_w C1 0 5 (gz_cOf (90 - cu))) 0 8 (gz_cOf cu) := ⟨_, rfl⟩
    have C2c : ∀ c, c ≠ 0 → C2.1 c = C1.1 c := fun c hc => by rw [hC2, gp_wc _ hc, gp_wc _ hc]
    have C25 : gz_cIx (C2.1 0 5) = 90 - cu := by rw [hC2, gp_gn (by omega), gp_gs]; exact gq_cI (by omega)
    have C28 : gz_cIx (C2.1 0 8) = cu := by rw [hC2, gp_gs]; exact gq_cI hcu
    have C215 : C2.1 0 15 = C1.1 0 15 := by rw [hC2, gp_gn (by omega), gp_gn (by omega)]
    have hc2 : gp_lC 9 C2 b.2 := q4.fr (fun c c1 c2 => by rw [C2c c (by omega), p3 c (by omega) (by omega)])
    have e1' : f5_refusal 9 (nI kd) (nI j) (nI z) C2 = some (0, C2) := by
      rcases gq_ref hc2 hlr hk (nI j) (nI z) hs with ⟨v, v1, v2, _, g2⟩ | ⟨j', z', g0, g1, _, g3, _⟩
      · rw [e2] at g2
        have g2 := Option.some.inj g2
        exact absurd (congrArg Prod.fst g2).symm v2
      · exact g3
    obtain ⟨C3, d1, d2, d3⟩ := gq_doC hk hc2 hcan e1'
    rw [hle] at d3
    have c3c : ∀ c, c ≠ 0 → c ≠ 9 → c ≠ 10 → c ≠ 131 → c < 135 ∨ 175 ≤ c → C3.1 c = Mc.1 c := fun c g1 g2 g3 g4 g5 => by rw [d2.2 c g2 g3, C2c c g1, p3 c g4 g5]
    have c30 : ∀ i, C3.1 0 i = C2.1 0 i := fun i => by rw [d2.2 0 (by omega) (by omega)]
    obtain ⟨C4, f1, f2, f3, f4⟩ := gp_recut (M := C3) (cu := 90 - cu) (t := b.1) (l := l') q1 (q2.fr (fun c c1 c2 => c3c c (by omega) (by omega) (by omega) (by omega) (by omega))) d3 (by omega) (by rw [c30]; exact C25)
    have c40 : ∀ i, C4.1 0 i = C2.1 0 i := fun i => by rw [f3 0 (by omega), c30]
    have hold4 : gp_cC cu C4 (gp_cut (gp_tab b.1) b.2) := q6.2.2.1.fr (fun c c1 c2 => by rw [f3 c (by omega), c3c c (by omega) (by omega) (by omega) (by omega) (by omega)])
    obtain ⟨C5, g1, g2, g3⟩ := gq_tellC (M := C4) (q := j) hk (by rw [c40]; exact C25) (by rw [c40]; exact C28) f4 hold4 hlen' hlen hok' hok hn24 hl24 hj24 kp2
    have eC : g11_change (nI kd) (nI j) (nI z) Mc pf = some (nI (gp_cut (gp_tab b.1) l').length, C5, pf') := by
      unfold g11_change
      rw [show (7 + 2 : Nat) = 9 from rfl, e1, gp_eB2, if_pos (by decide), show decide (0 + 1 ≤ 1) = true from by decide, gp_eC, p1, gp_eB2, p3 0 (by omega) (by omega), q6.2.1, q7, gp_eL, gp_eL, ← hC2, d1, gp_eB, f1, gp_eB, g1, gp_eB, g2.2 5 (by omega), c40, C25, g2.1 (90 - cu) (by omega), f4.1]
    -- the reference
    obtain ⟨R1, r1, r2, r3, r4, r5, r6, r7, r8, r9⟩ := gp_cutT hR.1
    obtain ⟨R2, o1, o2, o3, o4, o5⟩ := gp_layOldE r3
    have r2c : ∀ c, (c = 1 ∨ c = 2 ∨ (5 ≤ c ∧ c ≤ 14) ∨ c = 21 ∨ c = 22 ∨ c = 33) → R2.1 c = Mr.1 c := fun c hc => by rw [o3 c (by omega) (by omega), r2.1 c hc]
    have r20 : ∀ i, i = 2 ∨ i = 10 ∨ i = 51 → R2.1 0 i = Mr.1 0 i := fun i hi => by
      rw [o4 i (by omega)]
      rcases hi with rfl | rfl | rfl
      · exact r2.2.1
      · exact r2.2.2.1
      · exact r2.2.2.2
    obtain ⟨R3, s1, s2, s3, s4, s5⟩ := gp_chgR (M := R2) (us := us) (b := b) (h10.fr (r2c 33 (by omega)) (r20 51 (by omega))) h8.2.1 h9 h2 (h6.fr (r2c 1 (by omega)))
    have hl3 : gp_lR R3 b.2 := q5.fr (by rw [s3 1 (by omega) (by omega) (by omega), r2c 1 (by omega)])
    obtain ⟨R4, w1, w2, w3, w4, w5⟩ := gq_doR hk hl3 hcan
    rw [hle] at w5
    have r4c : ∀ c, (c = 2 ∨ (5 ≤ c ∧ c ≤ 14) ∨ c = 21 ∨ c = 22) → R4.1 c = Mr.1 c := fun c hc => by rw [w3 c (by omega), s3 c (by omega) (by omega) (by omega), r2c c (by omega)]
    have r40 : ∀ i, i = 2 ∨ i = 10 → R4.1 0 i = Mr.1 0 i := fun i hi => by rw [w3 0 (by omega), s4 i (by omega), r20 i (by omega)]
    have hT4 : gp_tR R4 (gp_tab b.1) := q3.fr (fun c c1 c2 => r4c c (by omega)) (r40 10 (by omega))
    have hO4 : gp_old R4 (gp_cut (gp_tab b.1) b.2) := o5.fr (by rw [w3 23 (by omega), s3 23 (by omega) (by omega) (by omega)]) (by rw [w3 0 (by omega), s4 39 (by omega)])
    have e45 := gq_45 (kd := kd) (q := j) hO4 hlen hok hl24 hj24
    obtain ⟨R5, y1, y2⟩ := gq_76 (M := R4) (kd := kd) (q := j) hk q1 hT4 w5 q1 rfl hok hl24 hj24 hO4 kp2 kp1
    have hT5 : gp_tR R5 (gp_tab b.1) := hT4.fr (fun c c1 c2 => y2.2.1 c (by omega) (by omega)) (y2.2.2 10 (by omega) (by omega) (by omega) (by omega) (by omega))
    have hO5 : gp_old R5 (gp_cut (gp_tab b.1) b.2) := hO4.fr (y2.2.1 23 (by omega) (by omega)) (y2.2.2 39 (by omega) (by omega) (by omega) (by omega) (by omega))
    obtain ⟨R6, z1, z2, z3, z4⟩ := gq_257 (l := l') q1 hT5 (w5.fr (y2.2.1 1 (by omega) (by omega))) hO5 hlen (gp_ahd j (gp_cut (gp_tab b.1) b.2)) (gq_met kd j (gp_cut (gp_tab b.1) b.2) ((gp_cut (gp_tab b.1) l').drop (gp_ahd j (gp_cut (gp_tab b.1) b.2))) 0).1 (gq_met kd j (gp_cut (gp_tab b.1) b.2) ((gp_cut (gp_tab b.1) l').drop (gp_ahd j (gp_cut (gp_tab b.1) b.2))) 0).2 (gq_met_b _ _ _ _ _).2
    have eR : f12_changed (nI kd) (nI j) (nI z) Mr = some (nI (gp_cut (gp_tab b.1) l').length, R6) := by
      unfold f12_changed
      rw [gp_eL, e2, gp_eB2, if_pos (by decide), r1, gp_eB, o1, gp_eB, s1, gp_eB, w1, gp_eB, e45, y1, z1]
    have r6c : ∀ c, c ≠ 0 → ¬ (16 ≤ c ∧ c ≤ 20) → R6.1 c = R4.1 c := fun c c1 c2 => by rw [z2 c c1 c2, y2.2.1 c c1 c2]
    have r60 : ∀ i, i ≠ 4 → i ≠ 26 → i ≠ 28 → i ≠ 29 → i ≠ 31 → i ≠ 32 → R6.1 0 i = R4.1 0 i := fun i i0 i1 i2 i3 i4 i5 => by rw [z3 i i0 i1 i2 i3 i4 i5, y2.2.2 i i1 i2 i3 i4 i5]
    have c5c : ∀ c, c ≠ 0 → C5.1 c = C4.1 c := fun c hc => g2.1 c hc
    have c5m : ∀ c, c ≠ 0 → c ≠ 9 → c ≠ 10 → c ≠ 131 → c < 135 ∨ 175 ≤ c → c < 90 - cu ∨ 90 - cu + 9 ≤ c → C5.1 c = Mc.1 c := fun c a1 a2 a3 a4 a5 a6 => by rw [c5c c a1, f3 c a6, c3c c a1 a2 a3 a4 a5]
    refine ⟨_, C5, pf', R6, eC, eR, 90 - cu, x, (b.1, l'), (if us.length = 10 then us.drop 1 else us) ++ [b], ks, o', hR.nl (by omega) (by rw [g2.2 5 (by omega), c40]; exact C25) (by rw [g2.2 8 (by omega), c40, C28]; omega) (fun c hc => c5m c (by omega) (by omega) (by omega) (by omega) (by omega) (by omega)) (d3.fr (fun c a1 a2 => by rw [c5c c (by omega), f3 c (by omega)])) (f4.fr (fun c a1 a2 => c5c c (by omega))) (h3.fr (c5m 1 (by omega) (by omega) (by omega) (by omega) (by omega) (by omega)) (c5m 2 (by omega) (by omega) (by omega) (by omega) (by omega) (by omega))) p4 p5 (p6.fr (fun c hc => by rw [c5c c (by omega), f3 c (by omega), d2.2 c (by omega) (by omega), C2c c (by omega)])) (fun c hc => by rw [r6c c (by omega) (by omega), r4c c (by omega)]) (by rw [r60 10 (by omega) (by omega) (by omega) (by omega) (by omega) (by omega), r40 10 (by omega)]) ?_ (h4.fr (by rw [r6c 2 (by omega) (by omega), r4c 2 (by omega)]) (by rw [r60 2 (by omega) (by omega) (by omega) (by omega) (by omega) (by omega), r40 2 (by omega)])) (s5.fr (by rw [r6c 33 (by omega) (by omega), w3 33 (by omega)]) (by rw [r60 51 (by omega) (by omega) (by omega) (by omega) (by omega) (by omega), w3 0 (by omega)])) ?_ ⟨_, _, by simp, by simp, g3, z4, fun _ => rfl⟩⟩
    · refine ⟨?_, fun i hi => ?_, ?_, fun i hi => ?_⟩
      · rw [r6c 1 (by omega) (by omega), w4 0 (by omega), s3 1 (by omega) (by omega) (by omega), r2c 1 (by omega)]
        exact h6.1
      · have hi : i < b.1.length := hi
        have := h2.1.1
        rw [r6c 1 (by omega) (by omega), w4 _ (by omega), s3 1 (by omega) (by omega) (by omega), r2c 1 (by omega)]
        exact h6.2.1 i hi
      · rw [r6c 1 (by omega) (by omega), Nat.zero_add]
        exact w5.2.1
      · rw [r6c 1 (by omega) (by omega), Nat.zero_add]
        exact (w5.2.2 i hi).1
    · intro u hu
      rcases List.mem_append.mp hu with hu | hu
      · split at hu
        · exact h9 u (List.mem_of_mem_drop hu)
        · exact h9 u hu
      · rw [List.mem_singleton.mp hu]
        exact h2
theorem gp_callB {a : Option (Int32 × gz_M × (Nat → Bool))} {b : Option (Int32 × gz_M)} {f : Option (Int32 × gz_M × (Nat → Bool))} {g : Option (Int32 × gz_M)} (h : gp_call B a b) (hf : ∀ v M pf, a = some (v, M, pf) → f = some (v, M, pf)) (hg : ∀ v M, b = some (v, M) → g = some (v, M)) : gp_call B f g := by
  obtain ⟨v, Mc', pf', Mr', h1, h2, h3⟩ := h
  exact ⟨v, Mc', pf', Mr', hf _ _ _ h1, hg _ _ h2, h3⟩
theorem gp_a31 (h : gp_RI B pf cu Mc Mr x b us ks o) (q s : Int32) : gp_call B (g11_becomes q s Mc pf) (f12_becomes q s Mr) := by
  refine gp_callB (gq_chgA (kd := 0) h (by omega) q s (fun g => by omega)) (fun v M pf e => ?_) (fun v M e => ?_)
  · unfold g11_becomes
    rw [show decide (0 + 1 ≤ 1) = true from by decide, gp_eC, show g11_change 0 q s Mc _ = _ from e, gp_eB3]
  · unfold f12_becomes
    rw [show f12_changed 0 q s Mr = _ from e, gp_eB2]
theorem gp_a32 (h : gp_RI B pf cu Mc Mr x b us ks o) (q s : Int32) : gp_call B (g11_comes q s Mc pf) (f12_comes q s Mr) := by
  refine gp_callB (gq_chgA (kd := 1) h (by omega) q s (fun g => by omega)) (fun v M pf e => ?_) (fun v M e => ?_)
  · unfold g11_comes
    rw [show decide (0 + 1 ≤ 1) = true from by decide, gp_eC, show g11_change 1 q s Mc _ = _ from e, gp_eB3]
  · unfold f12_comes
    rw [show f12_changed 1 q s Mr = _ from e, gp_eB2]
theorem gp_a33 (h : gp_RI B pf cu Mc Mr x b us ks o) (q : Int32) : gp_call B (g11_goes q Mc pf) (f12_goes q Mr) := by
  refine gp_callB (gq_chgA (kd := 2) h (by omega) q 0 (fun _ => rfl)) (fun v M pf e => ?_) (fun v M e => ?_)
  · unfold g11_goes
    rw [show decide (0 + 1 ≤ 1) = true from by decide, gp_eC, show g11_change 2 q 0 Mc _ = _ from e, gp_eB3]
  · unfold f12_goes
    rw [show f12_changed 2 q 0 Mr = _ from e, gp_eB2]
end
end
section
/-! promise 35: day: what is told -/
def gq_dk (c : Nat) : Option Nat := if c = 114 then some 0 else if c = 105 then some 1 else if c = 100 then some 2 else none
def gq_isd (x : List Nat) (p : Nat) : Bool := decide (p < x.length) && (decide (48 ≤ x.getD p 0) && decide (x.getD p 0 ≤ 57))
def gq_iss (x : List Nat) (p : Nat) : Bool := decide (p < x.length) && (decide (97 ≤ x.getD p 0) && decide (x.getD p 0 ≤ 104))
def gq_pq (x : List Nat) (p : Nat) : Nat := 10 * (x.getD (p + 1) 0 - 48) + (x.getD (p + 2) 0 - 48)
def gq_dy (x : List Nat) : Nat → Nat → Option Nat × List (Nat × Nat × Nat)
  | 0, _ => (none, [])
  | n + 1, p => if x.length ≤ p then (none, []) else match gq_dk (x.getD p 0) with
    | none => (some p, [])
    | some kd => if gq_isd x (p + 1) = false then (some (p + 1), []) else if gq_isd x (p + 2) = false then (some (p + 2), []) else if kd = 2 then ((gq_dy x n (p + 3)).1, (2, gq_pq x p, 0) :: (gq_dy x n (p + 3)).2) else if gq_iss x (p + 3) = false then (some (p + 3), []) else ((gq_dy x n (p + 4)).1, (kd, gq_pq x p, x.getD (p + 3) 0 - 97) :: (gq_dy x n (p + 4)).2)
theorem gq_dk_lt {c kd : Nat} (h : gq_dk c = some kd) : kd < 3 := by
  unfold gq_dk at h
  split at h
  · cases h; omega
  · split at h
    · cases h; omega
    · split at h
      · cases h; omega
      · cases h
theorem gq_dy_le {x : List Nat} : ∀ (n p q : Nat), p ≤ x.length → (gq_dy x n p).1 = some q → q ≤ x.length
  | 0, p, q, _, h => by cases h
  | n + 1, p, q, hp, h => by
    rw [gq_dy] at h
    by_cases c0 : x.length ≤ p
    · rw [if_pos c0] at h
      cases h
    · rw [if_neg c0] at h
      cases hk : gq_dk (x.getD p 0) with
      | none => rw [hk] at h; cases h; omega
      | some kd =>
        rw [hk] at h
        dsimp only at h
        by_cases c1 : gq_isd x (p + 1) = false
        · rw [if_pos c1] at h
          cases h
          omega
        · rw [if_neg c1] at h
          have b1 : p + 1 < x.length := by
            unfold gq_isd at c1
            simp at c1
            omega
          by_cases c2 : gq_isd x (p + 2) = false
          · rw [if_pos c2] at h
            cases h
            omega
          · rw [if_neg c2] at h
            have b2 : p + 2 < x.length := by
              unfold gq_isd at c2
              simp at c2
              omega
            by_cases c3 : kd = 2
            · rw [if_pos c3] at h
              exact gq_dy_le n (p + 3) q (by omega) h
            · rw [if_neg c3] at h
              by_cases c4 : gq_iss x (p + 3) = false
              · rw [if_pos c4] at h
                cases h
                omega
              · rw [if_neg c4] at h
                have b3 : p + 3 < x.length := by
                  unfold gq_iss at c4
                  simp at c4
                  omega
                exact gq_dy_le n (p + 4) q (by omega) h
section
variable {M M' : gz_M} {x : List Nat} {p : Nat}
theorem gq_isdE (hp : p < x.length) : (gq_isd x p = true) ↔ 48 ≤ x.getD p 0 ∧ x.getD p 0 ≤ 57 := by
  unfold gq_isd
  simp only [Bool.and_eq_true, decide_eq_true_eq]
  omega
theorem gq_issE (hp : p < x.length) : (gq_iss x p = true) ↔ 97 ≤ x.getD p 0 ∧ x.getD p 0 ≤ 104 := by
  unfold gq_iss
  simp only [Bool.and_eq_true, decide_eq_true_eq]
  omega
theorem gq_isdN (hp : x.length ≤ p) : gq_isd x p = false := by unfold gq_isd; simp; omega
theorem gq_issN (hp : x.length ≤ p) : gq_iss x p = false := by unfold gq_iss; simp; omega
theorem gq_dig {c : Nat} (hc : c < 256) (M : gz_M) : f3_isDigit (nI c) M = some ((if 48 ≤ c ∧ c ≤ 57 then 1 else 0), M) := by
  unfold f3_isDigit
  by_cases h1 : c < 48
  · rw [if_pos (show nI c < (48 : Int32) from nI_lt (b := 48) h1 (by omega)), if_neg (by omega)]
  · rw [if_neg (show ¬ nI c < (48 : Int32) from nI_nlt (b := 48) (by omega) (by omega))]
    by_cases h2 : 57 < c
    · rw [if_pos (show (57 : Int32) < nI c from nI_lt (a := 57) h2 (by omega)), if_neg (by omega)]
    · rw [if_neg (show ¬ (57 : Int32) < nI c from nI_nlt (a := 57) (b := c) (by omega) (by omega)), if_pos (by omega)]
theorem gq_kind {c : Nat} (hc : c < 256) (M : gz_M) : f3_kindOfChange (nI c) M = some (gp_o (gq_dk c), M) := by
  unfold f3_kindOfChange gq_dk
  have e : ∀ k : Nat, k < 256 → ((nI c = nI k) ↔ c = k) := fun k hk => nI_eq (by omega) (by omega)
  by_cases h1 : c = 114
  · rw [if_pos (show nI c = (114 : Int32) from (e 114 (by omega)).mpr h1), if_pos h1]; rfl
  · rw [if_neg (show ¬ nI c = (114 : Int32) from fun g => h1 ((e 114 (by omega)).mp g)), if_neg h1]
    by_cases h2 : c = 105
    · rw [if_pos (show nI c = (105 : Int32) from (e 105 (by omega)).mpr h2), if_pos h2]; rfl
    · rw [if_neg (show ¬ nI c = (105 : Int32) from fun g => h2 ((e 105 (by omega)).mp g)), if_neg h2]
      by_cases h3 : c = 100
      · rw [if_pos (show nI c = (100 : Int32) from (e 100 (by omega)).mpr h3), if_pos h3]; rfl
      · rw [if_neg (show ¬ nI c = (100 : Int32) from fun g => h3 ((e 100 (by omega)).mp g)), if_neg h3]; rfl
theorem gq_dyC (h : gp_xC M x) : ∀ (n p m : Nat) (v : Int32), x.length ≤ p + n → p ≤ x.length → 4 * n < m → f3_faultOfDay_7 m v 0 (nI p) M = some (gp_ans1 (gq_dy x n p).1, M) := by
  have h80 := h.1
  have z3 : ∀ k : Nat, k < 100 → ∀ j : Nat, j < 100 → ((nI k = nI j) ↔ k = j) := fun k hk j hj => nI_eq (by omega) (by omega)
  intro n
  induction n with
  | zero =>
    intro p m v hp hpl hm
    obtain ⟨m, rfl⟩ : ∃ q, m = q + 1 := ⟨m - 1, by omega⟩
    rw [f3_faultOfDay_7, h.2.1, if_pos (nI_le (by omega) (by omega)), if_pos rfl]
    rfl
  | succ n ih =>
    intro p m v hp hpl hm
    obtain ⟨m, rfl⟩ : ∃ q, m = q + 4 := ⟨m - 4, by omega⟩
    rw [gq_dy, f3_faultOfDay_7, h.2.1]
    by_cases c0 : x.length ≤ p
    · rw [if_pos (nI_le c0 (by omega)), if_pos rfl, if_pos c0]
      rfl
    · rw [if_neg (nI_ge (by omega) (by omega)), if_neg c0, gp_xget h (by omega), gp_eB2, if_pos rfl, gq_kind (h.2.2 p (by omega)).2, gp_eB2]
      unfold f3_faultOfDay_34
      rw [if_pos rfl]
      cases hk : gq_dk (x.getD p 0) with
      | none =>
        rw [if_pos (show gp_o none = -1 from rfl)]
        unfold f3_faultOfDay_69
        rw [if_pos rfl]
        rfl
      | some kd =>
        have hk3 := gq_dk_lt hk
        dsimp only
        have go : ∀ m v2, f3_faultOfDay_69 (f3_faultOfDay_7 m) v2 0 (nI p) 1 M = f3_faultOfDay_7 m v2 (nI 1) (nI (p + 1)) M := fun m v2 => by
          unfold f3_faultOfDay_69 f3_faultOfDay_101
          rw [if_neg (by decide), if_neg (by decide), if_neg (by decide), if_pos rfl, gp_eL, gp_eL, nI_1]
          rfl
        rw [if_neg (show ¬ gp_o (some kd) = -1 from by rw [gp_oS, gp_m1, gp_ne1 (by omega)]; exact id), go, gp_oS, f3_faultOfDay_7, h.2.1]
        by_cases g1 : x.length ≤ p + 1
        · rw [if_pos (nI_le g1 (by omega)), if_neg (by decide), if_pos (gq_isdN g1), show p + 1 = x.length by omega]
          rfl
        · rw [if_neg (nI_ge (by omega) (by omega)), gp_xget h (by omega), gp_eB2, if_neg (by decide)]
          unfold f3_faultOfDay_34
          rw [if_neg (by decide), if_neg (by decide), gq_dig (h.2.2 (p + 1) (by omega)).2, gp_eB2]
          by_cases d1 : gq_isd x (p + 1) = true
          · have d1' := (gq_isdE (show p + 1 < x.length by omega)).mp d1
            rw [if_neg (show ¬ gq_isd x (p + 1) = false by simp [d1]), if_pos d1']
            unfold f3_faultOfDay_69 f3_faultOfDay_101
            rw [if_neg (by decide), if_neg (by decide), if_neg (by decide), if_pos rfl, gp_eL, gp_eL, nI_1, nI_1, f3_faultOfDay_7, h.2.1]
            by_cases g2 : x.length ≤ p + 1 + 1
            · rw [if_pos (nI_le g2 (by omega)), if_neg (by decide), if_pos (gq_isdN g2), show p + 2 = x.length by omega]
              rfl
            · rw [if_neg (nI_ge (by omega) (by omega)), gp_xget h (by omega), gp_eB2, if_neg (by decide)]
              unfold f3_faultOfDay_34
              rw [if_neg (by decide), if_neg (by decide), gq_dig (h.2.2 (p + 1 + 1) (by omega)).2, gp_eB2]
              by_cases d2 : gq_isd x (p + 2) = true
              · have d2' := (gq_isdE (show p + 2 < x.length by omega)).mp d2
                rw [if_neg (show ¬ gq_isd x (p + 2) = false by simp [d2]), if_pos d2']
                unfold f3_faultOfDay_69 f3_faultOfDay_101
                rw [if_neg (by decide), if_neg (by decide), if_pos (by decide)]
                by_cases k2 : kd = 2
                · rw [if_pos (show nI kd = (2 : Int32) from by rw [k2]; rfl), if_neg (by decide), gp_eL, nI_1, if_pos k2]
                  exact ih (p + 3) (m + 1) (nI kd) (by omega) (by omega) (by omega)
                · rw [if_neg (show ¬ nI kd = (2 : Int32) from fun g => k2 ((nI_eq (b := 2) (by omega) (by omega)).mp g)), if_pos rfl, gp_eL, gp_eL, nI_1, nI_1, if_neg k2, f3_faultOfDay_7, h.2.1]
                  by_cases g3 : x.length ≤ p + 1 + 1 + 1
                  · rw [if_pos (nI_le g3 (by omega)), if_neg (by decide), if_pos (gq_issN g3), show p + 3 = x.length by omega]
                    rfl
                  · rw [if_neg (nI_ge (by omega) (by omega)), gp_xget h (by omega), gp_eB2, if_neg (by decide)]
                    unfold f3_faultOfDay_34
                    rw [if_neg (by decide), if_pos (by decide), gp_isS (h.2.2 (p + 1 + 1 + 1) (by omega)).2, gp_eB2]
                    by_cases d3 : gq_iss x (p + 3) = true
                    · have d3' := (gq_issE (show p + 3 < x.length by omega)).mp d3
                      rw [if_neg (show ¬ gq_iss x (p + 3) = false by simp [d3]), if_pos d3']
                      unfold f3_faultOfDay_69 f3_faultOfDay_101
                      rw [if_neg (by decide), if_pos (by decide), if_neg (by decide), gp_eL, nI_1]
                      exact ih (p + 4) m (nI kd) (by omega) (by omega) (by omega)
                    · have d3' : ¬ (97 ≤ x.getD (p + 1 + 1 + 1) 0 ∧ x.getD (p + 1 + 1 + 1) 0 ≤ 104) := fun g => d3 ((gq_issE (show p + 3 < x.length by omega)).mpr g)
                      rw [if_neg d3', if_pos (show gq_iss x (p + 3) = false by simpa using d3)]
                      unfold f3_faultOfDay_69
                      rw [if_pos rfl]
                      rfl
              · have d2' : ¬ (48 ≤ x.getD (p + 1 + 1) 0 ∧ x.getD (p + 1 + 1) 0 ≤ 57) := fun g => d2 ((gq_isdE (show p + 2 < x.length by omega)).mpr g)
                rw [if_neg d2', if_pos (show gq_isd x (p + 2) = false by simpa using d2)]
                unfold f3_faultOfDay_69
                rw [if_pos rfl]
                rfl
          · have d1' : ¬ (48 ≤ x.getD (p + 1) 0 ∧ x.getD (p + 1) 0 ≤ 57) := fun g => d1 ((gq_isdE (show p + 1 < x.length by omega)).mpr g)
            rw [if_neg d1', if_pos (show gq_isd x (p + 1) = false by simpa using d1)]
            unfold f3_faultOfDay_69
            rw [if_pos rfl]
            rfl
/-! the reference reads acts -/
def gq_dL (M M' : gz_M) : Prop := M'.2 = M.2 ∧ (∀ c, c ≠ 0 → c ≠ 35 → M'.1 c = M.1 c) ∧ ∀ i, i ≠ 8 → i ≠ 9 → M'.1 0 i = M.1 0 i
theorem gq_dL.trans {M1 : gz_M} (h : gq_dL M M1) (h' : gq_dL M1 M') : gq_dL M M' := ⟨h'.1.trans h.1, fun c a b => (h'.2.1 c a b).trans (h.2.1 c a b), fun i a b => (h'.2.2 i a b).trans (h.2.2 i a b)⟩
theorem gq_dL.w0 {i : Nat} (v : Int32) (M : gz_M) (h : i = 8 ∨ i = 9) : gq_dL M (gz_w M 0 i v) := ⟨rfl, fun c h1 h2 => gp_wc _ h1, fun a h1 h2 => gp_gn (by omega)⟩
theorem gq_dL.w35 {i : Nat} (v : Int32) (M : gz_M) : gq_dL M (gz_w M 35 i v) := ⟨rfl, fun c h1 h2 => gp_wc _ h2, fun a h1 h2 => gp_gn (by omega)⟩
theorem gp_at.dL {t : List Nat} (h : gp_at M t p) (hL : gq_dL M M') (e8 : M'.1 0 8 = M.1 0 8) (e9 : M'.1 0 9 = M.1 0 9) : gp_at M' t p := ⟨h.1, h.2.1, by rw [hL.2.2 7 (by omega) (by omega)]; exact h.2.2.1, by rw [e8]; exact h.2.2.2.1, by rw [e9]; exact h.2.2.2.2.1, fun i hi => by rw [hL.2.1 4 (by omega) (by omega)]; exact h.2.2.2.2.2 i hi⟩
/-- a digit, or a fault -/
theorem gq_oneD (h : gp_at M x p) : (gq_isd x p = true ∧ p < x.length ∧ f12_oneOf 48 10 M = some (nI (x.getD p 0 - 48), gz_w M 0 8 (nI (p + 1)))) ∨ (gq_isd x p = false ∧ f12_oneOf 48 10 M = some (0, gz_w M 0 9 (nI p))) := by
  have one := gp_oneE h (a := 48) (b := 9) (by omega) (by omega)
  by_cases hp : p < x.length
  · rw [gp_hrS hp] at one
    dsimp only at one
    by_cases hd : gq_isd x p = true
    · have d := (gq_isdE hp).mp hd
      rw [if_pos (show 48 ≤ x.getD p 0 ∧ x.getD p 0 ≤ 48 + 9 from d)] at one
      exact Or.inl ⟨hd, hp, one⟩
    · have d : ¬ (48 ≤ x.getD p 0 ∧ x.getD p 0 ≤ 57) := fun g => hd ((gq_isdE hp).mpr g)
      rw [if_neg (show ¬ (48 ≤ x.getD p 0 ∧ x.getD p 0 ≤ 48 + 9) from d)] at one
      exact Or.inr ⟨by simpa using hd, one⟩
  · have hn : gp_hr x p = none := by unfold gp_hr; rw [if_neg hp]
    rw [hn] at one
    exact Or.inr ⟨gq_isdN (by omega), one⟩
theorem gq_oneS (h : gp_at M x p) : (gq_iss x p = true ∧ p < x.length ∧ f12_oneOf 97 8 M = some (nI (x.getD p 0 - 97), gz_w M 0 8 (nI (p + 1)))) ∨ (gq_iss x p = false ∧ f12_oneOf 97 8 M = some (0, gz_w M 0 9 (nI p))) := by
  have one := gp_oneE h (a := 97) (b := 7) (by omega) (by omega)
  by_cases hp : p < x.length
  · rw [gp_hrS hp] at one
    dsimp only at one
    by_cases hd : gq_iss x p = true
    · have d := (gq_issE hp).mp hd
      rw [if_pos (show 97 ≤ x.getD p 0 ∧ x.getD p 0 ≤ 97 + 7 from d)] at one
      exact Or.inl ⟨hd, hp, one⟩
    · have d : ¬ (97 ≤ x.getD p 0 ∧ x.getD p 0 ≤ 104) := fun g => hd ((gq_issE hp).mpr g)
      rw [if_neg (show ¬ (97 ≤ x.getD p 0 ∧ x.getD p 0 ≤ 97 + 7) from d)] at one
      exact Or.inr ⟨by simpa using hd, one⟩
  · have hn : gp_hr x p = none := by unfold gp_hr; rw [if_neg hp]
    rw [hn] at one
    exact Or.inr ⟨gq_issN (by omega), one⟩
/-- one act is read -/
def gq_act3 (M : gz_M) (i : Nat) (a : Nat × Nat × Nat) : Prop := M.1 35 (3 * i) = nI a.1 ∧ M.1 35 (3 * i + 1) = nI a.2.1 ∧ M.1 35 (3 * i + 2) = nI a.2.2
theorem gq_rdAct {n i : Nat} (h : gp_at M x p) (hp : p < x.length) (hi : 3 * i ≤ p) : ∃ M', f12_readAct (nI (3 * i)) M = some M' ∧ gq_dL M M' ∧ (∀ y, y < 3 * i → M'.1 35 y = M.1 35 y) ∧ ((∃ q, (gq_dy x (n + 1) p) = (some q, []) ∧ q ≤ x.length ∧ M'.1 0 9 = nI q) ∨ (∃ a p', gq_dy x (n + 1) p = ((gq_dy x n p').1, a :: (gq_dy x n p').2) ∧ gp_at M' x p' ∧ p + 3 ≤ p' ∧ gq_act3 M' i a)) := by
  have h80 := h.1
  have hh : gp_hr x p = some (x.getD p 0) := gp_hrS hp
  have hc := (h.2.2.2.2.2 p hp).2
  have e : ∀ k : Nat, k < 256 → ((nI (x.getD p 0) = nI k) ↔ x.getD p 0 = k) := fun k hk => nI_eq (by omega) (by omega)
  have start : f12_readAct (nI (3 * i)) M = f12_readAct_36 (nI (3 * i)) (gp_o (gq_dk (x.getD p 0))) M := by
    unfold f12_readAct gq_dk
    rw [gp_hereE h, gp_eB2, hh, gp_oS]
    by_cases h1 : x.getD p 0 = 114
    · rw [if_pos (show nI (x.getD p 0) = (114 : Int32) from (e 114 (by omega)).mpr h1), if_pos h1]; rfl
    · rw [if_neg (show ¬ nI (x.getD p 0) = (114 : Int32) from fun g => h1 ((e 114 (by omega)).mp g)), if_neg h1]
      by_cases h2 : x.getD p 0 = 105
      · rw [if_pos (show nI (x.getD p 0) = (105 : Int32) from (e 105 (by omega)).mpr h2), if_pos h2]; rfl
      · rw [if_neg (show ¬ nI (x.getD p 0) = (105 : Int32) from fun g => h2 ((e 105 (by omega)).mp g)), if_neg h2]
        by_cases h3 : x.getD p 0 = 100
        · rw [if_pos (show nI (x.getD p 0) = (100 : Int32) from (e 100 (by omega)).mpr h3), if_pos h3]; rfl
        · rw [if_neg (show ¬ nI (x.getD p 0) = (100 : Int32) from fun g => h3 ((e 100 (by omega)).mp g)), if_neg h3]; rfl
  rw [start, gq_dy, if_neg (show ¬ x.length ≤ p by omega)]
  cases hk : gq_dk (x.getD p 0) with
  | none =>
    refine ⟨gz_w M 0 9 (nI p), ?_, gq_dL.w0 _ _ (by omega), fun y hy => by rw [gp_gn (by omega)], Or.inl ⟨p, rfl, by omega, gp_gs _ _ _ _⟩⟩
    unfold f12_readAct_36
    rw [if_pos (show gp_o none = -1 from rfl), gp_faultE h, gp_eB]
  | some kd =>
    have hk3 := gq_dk_lt hk
    dsimp only
    obtain ⟨K, hK⟩ : ∃ K, K = gz_w (gz_w M 0 8 (nI (p + 1))) 35 (3 * i) (nI kd) := ⟨_, rfl⟩
    have lK : gq_dL M K := by rw [hK]; exact (gq_dL.w0 _ _ (by omega)).trans (gq_dL.w35 _ _)
    have aK : gp_at K x (p + 1) := by rw [hK]; exact (h.nx hp).dL (gq_dL.w35 _ _) (gp_gn (by omega)) (gp_gn (by omega))
    have K35 : ∀ y, y < 3 * i → K.1 35 y = M.1 35 y := fun y hy => by rw [hK, gp_gn (by omega), gp_gn (by omega)]
    have K0 : K.1 35 (3 * i) = nI kd := by rw [hK, gp_gs]
    have k2 : (gp_o (some kd) = (2 : Int32)) ↔ kd = 2 := nI_eq (b := 2) (by omega) (by omega)
    have e36 : f12_readAct_36 (nI (3 * i)) (gp_o (some kd)) M = gz_bd2 (f12_twoDigits K) fun v7 M8 => gz_ck (gz_inb (nI (3 * i) + 1) 240) <| gz_lt (gz_w M8 35 (nI (3 * i) + 1).toNatClampNeg v7) fun M11 => if kd = 2 then (gz_ck (gz_inb (nI (3 * i) + 2) 240) <| gz_lt (gz_w M11 35 (nI (3 * i) + 2).toNatClampNeg 0) fun M14 => some M14) else (gz_bd2 (f12_oneOf 97 8 M11) fun v15 M16 => gz_ck (gz_inb (nI (3 * i) + 2) 240) <| gz_lt (gz_w M16 35 (nI (3 * i) + 2).toNatClampNeg v15) fun M19 => some M19) := by
      unfold f12_readAct_36
      rw [if_neg (show ¬ gp_o (some kd) = -1 from by rw [gp_oS, gp_m1, gp_ne1 (by omega)]; exact id), h.2.2.2.1, nI_1, gp_eL, gp_ckb (show 3 * i < 240 by omega) (by omega), nI_clamp (by omega), gp_oS, gp_eL, ← hK]
      congr 1
      funext v7 M8
      congr 1
      congr 1
      funext M11
      by_cases c : kd = 2
      · rw [if_pos (show nI kd = (2 : Int32) from k2.mpr c), if_pos c]
      · rw [if_neg (show ¬ nI kd = (2 : Int32) from fun g => c (k2.mp g)), if_neg c]
    rw [e36]
    have i1 : nI (3 * i) + 1 = nI (3 * i + 1) := nI_1 _
    have i2 : nI (3 * i) + 2 = nI (3 * i + 2) := nI_add _ 2
    rw [i1, i2]
    -- a fault in the digits: the rest writes acts alone
    have badD : ∀ q v7 M8, f12_twoDigits K = some (v7, M8) → gq_dL K M8 → M8.1 35 = K.1 35 → M8.1 0 9 = nI q → q ≤ x.length → ∃ M', (gz_bd2 (f12_twoDigits K) fun v7 M8 => gz_ck (gz_inb (nI (3 * i + 1)) 240) <| gz_lt (gz_w M8 35 (nI (3 * i + 1)).toNatClampNeg v7) fun M11 => if kd = 2 then (gz_ck (gz_inb (nI (3 * i + 2)) 240) <| gz_lt (gz_w M11 35 (nI (3 * i + 2)).toNatClampNeg 0) fun M14 => some M14) else (gz_bd2 (f12_oneOf 97 8 M11) fun v15 M16 => gz_ck (gz_inb (nI (3 * i + 2)) 240) <| gz_lt (gz_w M16 35 (nI (3 * i + 2)).toNatClampNeg v15) fun M19 => some M19)) = some M' ∧ gq_dL M M' ∧ (∀ y, y < 3 * i → M'.1 35 y = M.1 35 y) ∧ M'.1 0 9 = nI q := by
      intro q v7 M8 t1 t2 t3 t4 t5
      have h9 : (gz_w M8 35 (3 * i + 1) v7).1 0 9 = nI q := by rw [gp_gn (by omega)]; exact t4
      rw [t1, gp_eB2, gp_ckb (show 3 * i + 1 < 240 by omega) (by omega), nI_clamp (by omega), gp_eL]
      refine ⟨gz_w (gz_w M8 35 (3 * i + 1) v7) 35 (3 * i + 2) 0, ?_, ((lK.trans t2).trans (gq_dL.w35 _ _)).trans (gq_dL.w35 _ _), fun y hy => by rw [gp_gn (by omega), gp_gn (by omega), t3, K35 y hy], by rw [gp_gn (by omega)]; exact h9⟩
      by_cases c : kd = 2
      · rw [if_pos c, gp_ckb (show 3 * i + 2 < 240 by omega) (by omega), nI_clamp (by omega), gp_eL]
      · rw [if_neg c, gp_oneN h9 (by omega), gp_eB2, gp_ckb (show 3 * i + 2 < 240 by omega) (by omega), nI_clamp (by omega), gp_eL]
    rcases gq_oneD aK with ⟨d1, p1, t1⟩ | ⟨d1, t1⟩
    · have aK1 : gp_at (gz_w K 0 8 (nI (p + 1 + 1))) x (p + 1 + 1) := aK.nx p1
      rcases gq_oneD aK1 with ⟨d2, p2, t2⟩ | ⟨d2, t2⟩
      · have td : f12_twoDigits K = some (nI (gq_pq x p), gz_w (gz_w K 0 8 (nI (p + 1 + 1))) 0 8 (nI (p + 1 + 1 + 1))) := by
          unfold f12_twoDigits
          rw [t1, gp_eB2, t2, gp_eB2, show (10 : Int32) = nI 10 from rfl, pk_mul, nI_add]
          rfl
        obtain ⟨P, hP⟩ : ∃ P, P = gz_w (gz_w (gz_w K 0 8 (nI (p + 1 + 1))) 0 8 (nI (p + 1 + 1 + 1))) 35 (3 * i + 1) (nI (gq_pq x p)) := ⟨_, rfl⟩
        have lP : gq_dL M P := by rw [hP]; exact ((lK.trans (gq_dL.w0 _ _ (by omega))).trans (gq_dL.w0 _ _ (by omega))).trans (gq_dL.w35 _ _)
        have aP : gp_at P x (p + 3) := by rw [hP]; exact (aK1.nx p2).dL (gq_dL.w35 _ _) (gp_gn (by omega)) (gp_gn (by omega))
        have P35 : ∀ y, y < 3 * i → P.1 35 y = M.1 35 y := fun y hy => by rw [hP, gp_gn (by omega), gp_gn (by omega), gp_gn (by omega), K35 y hy]
        have P0 : P.1 35 (3 * i) = nI kd := by rw [hP, gp_gn (by omega), gp_gn (by omega), gp_gn (by omega), K0]
        have P1 : P.1 35 (3 * i + 1) = nI (gq_pq x p) := by rw [hP, gp_gs]
        rw [td, gp_eB2, gp_ckb (show 3 * i + 1 < 240 by omega) (by omega), nI_clamp (by omega), gp_eL, ← hP, if_neg (show ¬ gq_isd x (p + 1) = false by simp [d1]), if_neg (show ¬ gq_isd x (p + 2) = false by simp [show gq_isd x (p + 2) = true from d2])]
        by_cases c : kd = 2
        · rw [if_pos c, gp_ckb (show 3 * i + 2 < 240 by omega) (by omega), nI_clamp (by omega), gp_eL, if_pos c]
          refine ⟨_, rfl, lP.trans (gq_dL.w35 _ _), fun y hy => by rw [gp_gn (by omega), P35 y hy], Or.inr ⟨(2, gq_pq x p, 0), p + 3, rfl, aP.dL (gq_dL.w35 _ _) (gp_gn (by omega)) (gp_gn (by omega)), Nat.le_refl _, ?_, ?_, ?_⟩⟩
          · rw [gp_gn (by omega), P0, c]
          · rw [gp_gn (by omega), P1]
          · rw [gp_gs]; rfl
        · rw [if_neg c, if_neg c]
          rcases gq_oneS aP with ⟨d3, p3, t3⟩ | ⟨d3, t3⟩
          · rw [t3, gp_eB2, gp_ckb (show 3 * i + 2 < 240 by omega) (by omega), nI_clamp (by omega), gp_eL, if_neg (show ¬ gq_iss x (p + 3) = false by simp [d3])]
            refine ⟨_, rfl, (lP.trans (gq_dL.w0 _ _ (by omega))).trans (gq_dL.w35 _ _), fun y hy => by rw [gp_gn (by omega), gp_gn (by omega), P35 y hy], Or.inr ⟨(kd, gq_pq x p, x.getD (p + 3) 0 - 97), p + 4, rfl, (aP.nx p3).dL (gq_dL.w35 _ _) (gp_gn (by omega)) (gp_gn (by omega)), by omega, ?_, ?_, ?_⟩⟩
            · rw [gp_gn (by omega), gp_gn (by omega), P0]
            · rw [gp_gn (by omega), gp_gn (by omega), P1]
            · rw [gp_gs]
          · rw [t3, gp_eB2, gp_ckb (show 3 * i + 2 < 240 by omega) (by omega), nI_clamp (by omega), gp_eL, if_pos d3]
            exact ⟨_, rfl, (lP.trans (gq_dL.w0 _ _ (by omega))).trans (gq_dL.w35 _ _), fun y hy => by rw [gp_gn (by omega), gp_gn (by omega), P35 y hy], Or.inl ⟨p + 3, rfl, aP.2.1, by rw [gp_gn (by omega), gp_gs]⟩⟩
      · have td : f12_twoDigits K = some (10 * nI (x.getD (p + 1) 0 - 48) + 0, gz_w (gz_w K 0 8 (nI (p + 1 + 1))) 0 9 (nI (p + 1 + 1))) := by
          unfold f12_twoDigits
          rw [t1, gp_eB2, t2, gp_eB2]
        obtain ⟨M', f1, f2, f3, f4⟩ := badD (p + 1 + 1) _ _ td ((gq_dL.w0 _ _ (by omega)).trans (gq_dL.w0 _ _ (by omega))) (by rw [gp_wc _ (by omega), gp_wc _ (by omega)]) (gp_gs _ _ _ _) (by omega)
        rw [if_neg (show ¬ gq_isd x (p + 1) = false by simp [d1]), if_pos (show gq_isd x (p + 2) = false from d2)]
        exact ⟨M', f1, f2, f3, Or.inl ⟨p + 2, rfl, by omega, f4⟩⟩
    · have h9 : (gz_w K 0 9 (nI (p + 1))).1 0 9 = nI (p + 1) := gp_gs _ _ _ _
      have td : f12_twoDigits K = some (10 * 0 + 0, gz_w K 0 9 (nI (p + 1))) := by
        unfold f12_twoDigits
        rw [t1, gp_eB2, gp_oneN h9 (by omega), gp_eB2]
      obtain ⟨M', f1, f2, f3, f4⟩ := badD (p + 1) _ _ td (gq_dL.w0 _ _ (by omega)) (gp_wc _ (by omega)) h9 (by omega)
      rw [if_pos d1]
      exact ⟨M', f1, f2, f3, Or.inl ⟨p + 1, rfl, by omega, f4⟩⟩
/-- acts are read -/
theorem gq_day11 : ∀ (n p i m : Nat) (M : gz_M), x.length ≤ p + n → n + 1 < m → gp_at M x p → 3 * i ≤ p → ∃ M', gq_dL M M' ∧ (∀ y, y < 3 * i → M'.1 35 y = M.1 35 y) ∧ ((∃ q, (gq_dy x n p).1 = some q ∧ q ≤ x.length ∧ f12_day_11 m (nI i) M = some ((-1) - nI q, M')) ∨ ((gq_dy x n p).1 = none ∧ (∀ j, j < (gq_dy x n p).2.length → gq_act3 M' (i + j) ((gq_dy x n p).2.getD j (0, 0, 0))) ∧ 3 * (i + (gq_dy x n p).2.length) ≤ x.length ∧ f12_day_11 m (nI i) M = f12_day_58 gz_FU (nI (i + (gq_dy x n p).2.length)) 0 M')) := by
  have fin : ∀ (p i m : Nat) (M : gz_M), x.length = p → 1 < m → gp_at M x p → f12_day_11 m (nI i) M = f12_day_58 gz_FU (nI i) 0 M := fun p i m M hp hm ha => by
    have h80 := ha.1
    obtain ⟨m, rfl⟩ : ∃ q, m = q + 1 := ⟨m - 1, by omega⟩
    rw [f12_day_11, gp_fineE ha, gp_eB2, if_neg (by decide), ha.2.2.1, ha.2.2.2.1, if_pos (nI_le (by omega) (by omega))]
    unfold f12_day_42
    rw [gp_wrE ha, if_pos hp.symm, gp_eB2, if_neg (by decide)]
  intro n
  induction n with
  | zero =>
    intro p i m M hn hm ha hi
    have := ha.2.1
    refine ⟨M, ⟨rfl, fun _ _ _ => rfl, fun _ _ _ => rfl⟩, fun _ _ => rfl, Or.inr ⟨rfl, fun j hj => absurd hj (by simp [gq_dy]), by simp [gq_dy]; omega, ?_⟩⟩
    rw [fin p i m M (by omega) (by omega) ha]
    rfl
  | succ n ih =>
    intro p i m M hn hm ha hi
    have h80 := ha.1
    by_cases hp : p < x.length
    · obtain ⟨m, rfl⟩ : ∃ q, m = q + 2 := ⟨m - 2, by omega⟩
      obtain ⟨M1, e1, e2, e3, e4⟩ := gq_rdAct (n := n) ha hp hi
      have hm3 : (3 : Int32) * nI i = nI (3 * i) := by rw [show (3 : Int32) = nI 3 from rfl, pk_mul]
      rw [f12_day_11, gp_fineE ha, gp_eB2, if_neg (by decide), ha.2.2.1, ha.2.2.2.1, if_neg (nI_ge hp (by omega)), hm3, e1, gp_eB, gp_eL, nI_1]
      rcases e4 with ⟨q, g1, g2, g3⟩ | ⟨a, p', g1, g2, g3, g4⟩
      · refine ⟨M1, e2, e3, Or.inl ⟨q, by rw [g1], g2, ?_⟩⟩
        rw [f12_day_11, gp_nfine g3 (by omega), gp_eB2, if_pos rfl]
        unfold f12_day_42
        rw [gp_wrN g3 (by omega), gp_eB2, if_pos rfl, g3]
      · obtain ⟨M2, f1, f2, f3⟩ := ih p' (i + 1) (m + 1) M1 (by omega) (by omega) g2 (by omega)
        refine ⟨M2, e2.trans f1, fun y hy => by rw [f2 y (by omega), e3 y hy], ?_⟩
        rw [g1]
        rcases f3 with ⟨q, g5, g6, g7⟩ | ⟨g5, g6, g7, g8⟩
        · exact Or.inl ⟨q, g5, g6, g7⟩
        · refine Or.inr ⟨g5, fun j hj => ?_, by rw [List.length_cons]; omega, by rw [g8, List.length_cons, show i + 1 + (gq_dy x n p').2.length = i + ((gq_dy x n p').2.length + 1) by omega]⟩
          cases j with
          | zero =>
            have : (a :: (gq_dy x n p').2).getD 0 (0, 0, 0) = a := rfl
            rw [this, Nat.add_zero]
            obtain ⟨z1, z2, z3⟩ := g4
            exact ⟨by rw [f2 _ (by omega)]; exact z1, by rw [f2 _ (by omega)]; exact z2, by rw [f2 _ (by omega)]; exact z3⟩
          | succ j =>
            have e : (a :: (gq_dy x n p').2).getD (j + 1) (0, 0, 0) = (gq_dy x n p').2.getD j (0, 0, 0) := by simp [List.getD]
            rw [e, show i + (j + 1) = i + 1 + j by omega]
            exact g6 j (by simpa using hj)
    · have hl := ha.2.1
      have e : gq_dy x (n + 1) p = (none, []) := by rw [gq_dy, if_pos (by omega)]
      refine ⟨M, ⟨rfl, fun _ _ _ => rfl, fun _ _ _ => rfl⟩, fun _ _ => rfl, Or.inr ⟨by rw [e], fun j hj => absurd hj (by rw [e]; simp), by rw [e]; simp; omega, ?_⟩⟩
      rw [fin p i m M (by omega) (by omega) ha, e]
      rfl
end
end
section
/-! promise 35: day: what is done -/
section
variable {B : Prop} {pf pf' : Nat → Bool} {M M' Mc Mr Mc' Mr' C R Q : gz_M} {cu cu' o o' kd : Nat} {x x' t l l' : List Nat} {b u : gp_Bk} {us us' : List gp_Bk} {ks ks' : Nat → Option gp_Bk}
def gq_ps (us : List gp_Bk) (b : gp_Bk) : List gp_Bk := (if us.length = 10 then us.drop 1 else us) ++ [b]
/-- the component within a day -/
def gq_iC (pf : Nat → Bool) (Mc : gz_M) (us : List gp_Bk) (b : gp_Bk) (d : Nat) (C : gz_M) (pf' : Nat → Bool) (l : List Nat) : Prop := C.2 = Mc.2 ∧ (∀ c, c ≠ 9 → c ≠ 10 → c ≠ 131 → c < 135 ∨ 175 ≤ c → C.1 c = Mc.1 c) ∧ gp_lC 9 C l ∧ gp_pf pf' ∧ (∀ j, 10 ≤ j → j < 12 → pf' j = pf j) ∧ (∃ o', gp_H pf' C o' (if d = 0 then us else gq_ps us b)) ∧ (d = 0 → l = b.2)
def gq_iR (Q R : gz_M) (l : List Nat) : Prop := R.2 = Q.2 ∧ (∀ c, c ≠ 1 → R.1 c = Q.1 c) ∧ (∀ i, i < 81 → R.1 1 i = Q.1 1 i) ∧ gp_lR R l
theorem gq_c9s {m : Nat} {v x3 x4 : Int32} {C : gz_M} {pf' : Nat → Bool} {u : Nat} (x1 : Int32) (hv : ¬ v = 0) : g11_changeByText_9 (m + 1) x1 v x3 x4 C pf' u = g11_changeByText_184 x1 v C pf' u := by
  rw [g11_changeByText_9]
  split
  · rfl
  · split
    · rfl
    · first | rw [if_neg hv] | rfl
theorem gq_ref0 {k : Nat} {q s : Int32} (hc : gp_lC k C l) (hr : gp_lR R l) (hk : kd < 3) (hs : kd = 2 → s = 0) (h : f12_refuses (nI kd) q s R = some (0, R)) : f5_refusal k (nI kd) q s C = some (0, C) := by
  rcases gq_ref hc hr hk q s hs with ⟨v, v1, v2, _, g2⟩ | ⟨j', z', g0, g1, _, g3, _⟩
  · rw [h] at g2
    exact absurd (congrArg Prod.fst (Option.some.inj g2)).symm v2
  · exact g3
/-- one change of a day, behind its signs -/
theorem gq_113 (hx5 : gp_xK 7 Mc b.1) {d v z : Nat} (m : Nat) (hd : 3 * d ≤ 80) (hk : kd < 3) (s0 s1 : Int32) (hC : gq_iC pf Mc us b d C pf' l) (hR : gq_iR Q R l) (hz : kd = 2 → z = 0) (hv : v < 1000) (hz8 : z < 1000) : (∃ w, g11_changeByText_113 (g11_changeByText_9 (m + 1)) (nI d) (nI d) (nI kd) (nI v) (nI z) s0 s1 C pf' (if d = 0 then 0 else 1) = g11_changeByText_184 (nI d) 1 C pf' (if d = 0 then 0 else 1) ∧ f12_refuses (nI kd) (nI v) (nI z) R = some (w, R) ∧ ¬ w = 0) ∨ (∃ C' pf2 R', g11_changeByText_113 (g11_changeByText_9 (m + 1)) (nI d) (nI d) (nI kd) (nI v) (nI z) s0 s1 C pf' (if d = 0 then 0 else 1) = g11_changeByText_9 (m + 1) (nI (d + 1)) 0 (s1 + s0) (nI (d + 1)) C' pf2 (if d + 1 = 0 then 0 else 1) ∧ f12_refuses (nI kd) (nI v) (nI z) R = some (0, R) ∧ f12_doChange (nI kd) (nI v) (nI z) R = some R' ∧ gq_iC pf Mc us b (d + 1) C' pf2 (gq_chg kd l v z) ∧ gq_iR Q R' (gq_chg kd l v z)) := by
  obtain ⟨a1, a2, a3, a4, a5, ⟨o1, a6⟩, a7⟩ := hC
  obtain ⟨r1, r2, r3, r4⟩ := hR
  have hs : kd = 2 → nI z = 0 := fun g => by rw [hz g]; rfl
  have d0 : (nI d = (0 : Int32)) ↔ d = 0 := nI_eq (b := 0) (by omega) (by omega)
  unfold g11_changeByText_113
  rw [gp_eL, show (7 + 2 : Nat) = 9 from rfl]
  rcases gq_ref a3 r4 hk (nI v) (nI z) hs with ⟨w, w1, w2, e1, e2⟩ | ⟨j, zz, g1, g2, hcan, e1, e2⟩
  · left
    refine ⟨w, ?_, e2, w2⟩
    rw [e1, gp_eB2, if_neg w1]
    unfold g11_changeByText_139
    rw [if_neg (by decide), gp_eL]
    exact gq_c9s _ (by decide)
  · right
    have h24 := a3.1
    have hcan : gq_can kd l v z := by
      have b1 : j ≤ 24 := by
        obtain ⟨c1, c2, c3, c4⟩ := hcan
        obtain e | e | e : kd = 0 ∨ kd = 1 ∨ kd = 2 := by omega
        · have := (c2 e).1; omega
        · have := (c3 e).1; omega
        · have := c4 e; omega
      have b2 := hcan.1
      have b3 : v = j := (nI_eq (by omega) (by omega)).mp g1
      have b4 : z = zz := (nI_eq (by omega) (by omega)).mp g2
      rw [b3, b4]
      exact hcan
    obtain ⟨R', w1, w2, w3, w4, w5⟩ := gq_doR hk r4 hcan
    have iR : gq_iR Q R' (gq_chg kd l v z) := ⟨by rw [w2, r1], fun c hc => by rw [w3 c hc, r2 c hc], fun i hi => by rw [w4 i hi, r3 i hi], w5⟩
    rw [e1, gp_eB2, if_pos (by decide)]
    unfold g11_changeByText_139
    rw [if_pos rfl]
    by_cases hd0 : d = 0
    · subst hd0
      have hlb := a7 rfl
      subst hlb
      obtain ⟨C1, pf2, o', p1, p2, p3, p4, p5, p6⟩ := gp_pushG (M := C) (b := b) (us := us) a4 a6 ⟨⟨hx5.1, by rw [a2 7 (by omega) (by omega) (by omega) (by omega)]; exact hx5.2.1, fun i hi => by rw [a2 8 (by omega) (by omega) (by omega) (by omega)]; exact hx5.2.2 i hi⟩, a3⟩
      have l1 : gp_lC 9 C1 b.2 := a3.fr (fun c c1 c2 => p3 c (by omega) (by omega))
      obtain ⟨C2, f1, f2, f3⟩ := gq_doC hk l1 hcan (gq_ref0 l1 r4 hk hs e2)
      refine ⟨C2, pf2, R', ?_, e2, w1, ⟨by rw [f2.1, p2, a1], fun c c1 c2 c3 c4 => by rw [f2.2 c c1 c2, p3 c c3 c4, a2 c c1 c2 c3 c4], f3, p4, fun j j1 j2 => by rw [p5 j j1 j2, a5 j j1 j2], ⟨o', ?_⟩, fun g => by omega⟩, iR⟩
      · rw [if_pos (d0.mpr rfl), show decide ((if (0 : Nat) = 0 then 0 else 1) + 1 ≤ 1) = true from by decide, gp_eC, p1, gp_eB2]
        unfold g11_changeByText_159
        rw [show (7 + 2 : Nat) = 9 from rfl, f1, gp_eB, nI_1, gp_eL, gp_eL]
        rfl
      · rw [if_neg (by omega)]
        exact gp_H.fr p6 (fun c hc => f2.2 c (by omega) (by omega))
    · obtain ⟨C2, f1, f2, f3⟩ := gq_doC hk a3 hcan e1
      refine ⟨C2, pf', R', ?_, e2, w1, ⟨by rw [f2.1, a1], fun c c1 c2 c3 c4 => by rw [f2.2 c c1 c2, a2 c c1 c2 c3 c4], f3, a4, a5, ⟨o1, ?_⟩, fun g => by omega⟩, iR⟩
      · rw [if_neg (fun g => hd0 (d0.mp g))]
        unfold g11_changeByText_159
        rw [show (7 + 2 : Nat) = 9 from rfl, f1, gp_eB, nI_1, gp_eL, gp_eL, if_neg hd0, if_neg (by omega)]
      · rw [if_neg hd0] at a6
        rw [if_neg (by omega)]
        exact a6.fr (fun c hc => f2.2 c (by omega) (by omega))
theorem gq_dayJ (hx5 : gp_xK 7 Mc b.1) (hxC : gp_xC Mc x) : ∀ (n p d m m2 : Nat) (C R : gz_M) (pf' : Nat → Bool) (l : List Nat), x.length ≤ p + n → p ≤ x.length → n + 1 < m → n + 1 < m2 → (gq_dy x n p).1 = none → gq_iC pf Mc us b d C pf' l → gq_iR Q R l → (∀ j, j < (gq_dy x n p).2.length → gq_act3 Q (d + j) ((gq_dy x n p).2.getD j (0, 0, 0))) → 3 * (d + (gq_dy x n p).2.length) ≤ 80 → ∃ C' R' pf2 l' d' bar, g11_changeByText_9 m (nI d) 0 (nI p) (nI d) C pf' (if d = 0 then 0 else 1) = g11_changeByText_184 (nI d') bar C' pf2 (if d' = 0 then 0 else 1) ∧ f12_day_84 m2 (nI (d + (gq_dy x n p).2.length)) (nI d) R = f12_day_162 (nI (d + (gq_dy x n p).2.length)) (nI d') R' ∧ gq_iC pf Mc us b d' C' pf2 l' ∧ gq_iR Q R' l' ∧ ((bar = 0 ∧ d' = d + (gq_dy x n p).2.length) ∨ (bar = 1 ∧ d' < d + (gq_dy x n p).2.length)) := by
  have h80 := hxC.1
  intro n
  induction n with
  | zero =>
    intro p d m m2 C R pf' l hp hpl hm hm2 hf hC hR hA h3
    obtain ⟨m, rfl⟩ : ∃ q, m = q + 1 := ⟨m - 1, by omega⟩
    obtain ⟨m2, rfl⟩ : ∃ q, m2 = q + 1 := ⟨m2 - 1, by omega⟩
    have hx : gp_xC C x := hxC.fr (hC.2.1 1 (by omega) (by omega) (by omega) (by omega)) (hC.2.1 2 (by omega) (by omega) (by omega) (by omega))
    have hd : 3 * d ≤ 80 := by omega
    refine ⟨C, R, pf', l, d, 0, ?_, ?_, hC, hR, Or.inl ⟨rfl, rfl⟩⟩
    · rw [g11_changeByText_9, if_neg (show ¬ (80 : Int32) ≤ nI d from nI_ge (b := 80) (by omega) (by omega)), hx.2.1, if_pos (nI_le (by omega) (by omega))]
    · show f12_day_84 (m2 + 1) (nI d) (nI d) R = f12_day_162 (nI d) (nI d) R
      rw [f12_day_84, if_pos (nI_le (Nat.le_refl _) (by omega))]
  | succ n ih =>
    intro p d m m2 C R pf' l hp hpl hm hm2 hf hC hR hA h3
    obtain ⟨m, rfl⟩ : ∃ q, m = q + 2 := ⟨m - 2, by omega⟩
    obtain ⟨m2, rfl⟩ : ∃ q, m2 = q + 1 := ⟨m2 - 1, by omega⟩
    have hx : gp_xC C x := hxC.fr (hC.2.1 1 (by omega) (by omega) (by omega) (by omega)) (hC.2.1 2 (by omega) (by omega) (by omega) (by omega))
    have hd : 3 * d ≤ 80 := by omega
    by_cases c0 : x.length ≤ p
    · have e0 : gq_dy x (n + 1) p = (none, []) := by rw [gq_dy, if_pos c0]
      rw [e0]
      refine ⟨C, R, pf', l, d, 0, ?_, ?_, hC, hR, Or.inl ⟨rfl, rfl⟩⟩
      · rw [g11_changeByText_9, if_neg (show ¬ (80 : Int32) ≤ nI d from nI_ge (b := 80) (by omega) (by omega)), hx.2.1, if_pos (nI_le (by omega) (by omega))]
      · show f12_day_84 (m2 + 1) (nI d) (nI d) R = f12_day_162 (nI d) (nI d) R
        rw [f12_day_84, if_pos (nI_le (Nat.le_refl _) (by omega))]
    · -- an act
      obtain ⟨kd, vq, z, p', s0, s1, hk3, hkz, hvq, hz8, hdy, hp'1, hp'2, hst⟩ : ∃ (kd vq z p' : Nat) (s0 s1 : Int32), kd < 3 ∧ (kd = 2 → z = 0) ∧ vq < 1000 ∧ z < 1000 ∧ gq_dy x (n + 1) p = ((gq_dy x n p').1, (kd, vq, z) :: (gq_dy x n p').2) ∧ p < p' ∧ p' ≤ x.length ∧ (g11_changeByText_9 (m + 1 + 1) (nI d) 0 (nI p) (nI d) C pf' (if d = 0 then 0 else 1) = g11_changeByText_113 (g11_changeByText_9 (m + 1)) (nI d) (nI d) (nI kd) (nI vq) (nI z) s0 s1 C pf' (if d = 0 then 0 else 1) ∧ s1 + s0 = nI p') := by
        have hf' := hf
        rw [gq_dy, if_neg c0] at hf'
        have st0 : ∀ kd, gq_dk (x.getD p 0) = some kd → p + 1 < x.length → p + 2 < x.length → 48 ≤ x.getD (p + 1) 0 → 48 ≤ x.getD (p + 2) 0 → g11_changeByText_9 (m + 1 + 1) (nI d) 0 (nI p) (nI d) C pf' (if d = 0 then 0 else 1) = if nI kd = 2 then g11_changeByText_99 (g11_changeByText_9 (m + 1)) (nI d) (nI p) (nI d) (nI kd) (nI (gq_pq x p)) 0 C pf' (if d = 0 then 0 else 1) else (gz_bd2 (f10_get (nI p + 3) C) fun v18 M19 => g11_changeByText_99 (g11_changeByText_9 (m + 1)) (nI d) (nI p) (nI d) (nI kd) (nI (gq_pq x p)) (v18 - 97) M19 pf' (if d = 0 then 0 else 1)) := fun kd hk g1 g2 g3 g4 => by
          have e1 : nI p + 1 = nI (p + 1) := nI_1 _
          have e2 : nI p + 2 = nI (p + 2) := nI_add _ 2
          have e4 : (nI (x.getD (p + 1) 0) - 48) * 10 + (nI (x.getD (p + 2) 0) - 48) = nI (gq_pq x p) := by
            rw [show (48 : Int32) = nI 48 from rfl, gp_subI g3, gp_subI g4, show (10 : Int32) = nI 10 from rfl, pk_mul, nI_add]
            unfold gq_pq
            rw [Nat.mul_comm]
          rw [g11_changeByText_9, if_neg (show ¬ (80 : Int32) ≤ nI d from nI_ge (b := 80) (by omega) (by omega)), hx.2.1, if_neg (nI_ge (by omega) (by omega)), if_pos rfl, gp_xget hx (by omega), gp_eB2, gq_kind (hx.2.2 p (by omega)).2, gp_eB2, e1, gp_xget hx g1, gp_eB2, e2, gp_xget hx g2, gp_eB2, e4, gp_eL, hk, gp_oS]
        cases hk : gq_dk (x.getD p 0) with
        | none => rw [hk] at hf'; cases hf'
        | some kd =>
          rw [hk] at hf'
          dsimp only at hf'
          have hk3 := gq_dk_lt hk
          have k2 : (nI kd = (2 : Int32)) ↔ kd = 2 := nI_eq (b := 2) (by omega) (by omega)
          by_cases c1 : gq_isd x (p + 1) = false
          · rw [if_pos c1] at hf'; cases hf'
          rw [if_neg c1] at hf'
          by_cases c2 : gq_isd x (p + 2) = false
          · rw [if_pos c2] at hf'; cases hf'
          rw [if_neg c2] at hf'
          have c1t : gq_isd x (p + 1) = true := by simpa using c1
          have c2t : gq_isd x (p + 2) = true := by simpa using c2
          have l1 : p + 1 < x.length := Classical.byContradiction fun g => by rw [gq_isdN (by omega)] at c1t; cases c1t
          have l2 : p + 2 < x.length := Classical.byContradiction fun g => by rw [gq_isdN (by omega)] at c2t; cases c2t
          have d1 := (gq_isdE l1).mp c1t
          have d2 := (gq_isdE l2).mp c2t
          have hvq : gq_pq x p < 1000 := by unfold gq_pq; omega
          have hst := st0 kd hk l1 l2 d1.1 d2.1
          by_cases c3 : kd = 2
          · rw [if_pos (k2.mpr c3)] at hst
            refine ⟨2, gq_pq x p, 0, p + 3, 3, nI p, by omega, fun _ => rfl, hvq, by omega, ?_, by omega, by omega, ?_, ?_⟩
            · rw [gq_dy, if_neg c0, hk]
              dsimp only
              rw [if_neg c1, if_neg c2, if_pos c3]
            · rw [hst]
              unfold g11_changeByText_99
              rw [if_pos (k2.mpr c3), c3]
              rfl
            · exact nI_add _ 3
          · rw [if_neg c3] at hf'
            by_cases c4 : gq_iss x (p + 3) = false
            · rw [if_pos c4] at hf'; cases hf'
            have c4t : gq_iss x (p + 3) = true := by simpa using c4
            have l3 : p + 3 < x.length := Classical.byContradiction fun g => by rw [gq_issN (by omega)] at c4t; cases c4t
            have d3 := (gq_issE l3).mp c4t
            have e3 : nI p + 3 = nI (p + 3) := nI_add _ 3
            rw [if_neg (fun g => c3 (k2.mp g)), e3, gp_xget hx l3, gp_eB2, show (97 : Int32) = nI 97 from rfl, gp_subI d3.1] at hst
            refine ⟨kd, gq_pq x p, x.getD (p + 3) 0 - 97, p + 4, 4, nI p, hk3, fun g => absurd g c3, hvq, by omega, ?_, by omega, by omega, ?_, ?_⟩
            · rw [gq_dy, if_neg c0, hk]
              dsimp only
              rw [if_neg c1, if_neg c2, if_neg c3, if_neg c4]
            · rw [hst]
              unfold g11_changeByText_99
              rw [if_neg (fun g => c3 (k2.mp g))]
            · exact nI_add _ 4
      rw [hdy] at hf hA h3 ⊢
      rw [List.length_cons] at h3
      have hl : ((kd, vq, z) :: (gq_dy x n p').2).length = (gq_dy x n p').2.length + 1 := List.length_cons
      have hA0 := hA 0 (by rw [hl]; omega)
      have A0 : ((kd, vq, z) :: (gq_dy x n p').2).getD 0 (0, 0, 0) = (kd, vq, z) := rfl
      rw [A0, Nat.add_zero] at hA0
      obtain ⟨A1, A2, A3⟩ := hA0
      dsimp only at A1 A2 A3
      have m3 : (3 : Int32) * nI d = nI (3 * d) := by rw [show (3 : Int32) = nI 3 from rfl, pk_mul]
      have m31 : nI (3 * d) + 1 = nI (3 * d + 1) := nI_1 _
      have m32 : nI (3 * d) + 2 = nI (3 * d + 2) := nI_add _ 2
      have hRQ := hR.2.1 35 (by omega)
      have s84 : f12_day_84 (m2 + 1) (nI (d + ((gq_dy x n p').2.length + 1))) (nI d) R = (gz_bd2 (f12_refuses (nI kd) (nI vq) (nI z) R) fun v5 M6 => if v5 = 0 then (gz_ck (gz_inb (nI (3 * d)) 240) <| gz_ck (gz_inb (nI (3 * d + 1)) 240) <| gz_ck (gz_inb (nI (3 * d + 2)) 240) <| gz_bd (f12_doChange (M6.1 35 (nI (3 * d)).toNatClampNeg) (M6.1 35 (nI (3 * d + 1)).toNatClampNeg) (M6.1 35 (nI (3 * d + 2)).toNatClampNeg) M6) fun M12 => gz_lt (nI d + 1) fun v14 => f12_day_84 m2 (nI (d + ((gq_dy x n p').2.length + 1))) v14 M12) else (f12_day_162 (nI (d + ((gq_dy x n p').2.length + 1))) (nI d) M6)) := by
        rw [f12_day_84, if_neg (nI_ge (by omega) (by omega)), m3, m31, m32, gp_ckb (show 3 * d < 240 by omega) (by omega), gp_ckb (show 3 * d + 1 < 240 by omega) (by omega), gp_ckb (show 3 * d + 2 < 240 by omega) (by omega), nI_clamp (by omega), nI_clamp (by omega), nI_clamp (by omega), hRQ, A1, A2, A3]
      rcases gq_113 (C := C) (R := R) (Q := Q) hx5 m hd hk3 s0 s1 hC hR hkz hvq hz8 with ⟨w, g1, g2, g3⟩ | ⟨C', pf2, R', g1, g2, g3, g4, g5⟩
      · refine ⟨C, R, pf', l, d, 1, by rw [hst.1, g1], ?_, hC, hR, Or.inr ⟨rfl, by rw [hl]; omega⟩⟩
        rw [hl, s84, g2, gp_eB2, if_neg g3]
      · obtain ⟨C2, R2, pf3, l2, d2, bar, f1, f2, f3, f4, f5⟩ := ih p' (d + 1) (m + 1) m2 C' R' pf2 (gq_chg kd l vq z) (by omega) (by omega) (by omega) (by omega) hf g4 g5 (fun j hj => by
          have := hA (j + 1) (by rw [hl]; omega)
          have e : ((kd, vq, z) :: (gq_dy x n p').2).getD (j + 1) (0, 0, 0) = (gq_dy x n p').2.getD j (0, 0, 0) := by simp [List.getD]
          rw [e, show d + (j + 1) = d + 1 + j by omega] at this
          exact this) (by omega)
        have hsum : d + 1 + (gq_dy x n p').2.length = d + ((gq_dy x n p').2.length + 1) := by omega
        rw [hsum] at f2 f5
        refine ⟨C2, R2, pf3, l2, d2, bar, by rw [hst.1, g1, hst.2, f1], ?_, f3, f4, by rw [hl]; exact f5⟩
        rw [hl, s84, g2, gp_eB2, if_pos rfl, gp_ckb (show 3 * d < 240 by omega) (by omega), gp_ckb (show 3 * d + 1 < 240 by omega) (by omega), gp_ckb (show 3 * d + 2 < 240 by omega) (by omega), nI_clamp (by omega), nI_clamp (by omega), nI_clamp (by omega), hRQ, A1, A2, A3, g3, gp_eB, gp_eL, nI_1]
        exact f2
end
end
section
/-! promise 35: day -/
section
variable {B : Prop} {pf pf' : Nat → Bool} {M M' Mc Mr Mc' Mr' C R Q : gz_M} {cu cu' o o' kd : Nat} {x x' t l l' : List Nat} {b u : gp_Bk} {us us' : List gp_Bk} {ks ks' : Nat → Option gp_Bk}
theorem gq_ps_ok (h : ∀ u, u ∈ us → gp_okB u) (hb : gp_okB b) : ∀ u, u ∈ gq_ps us b → gp_okB u := by
  intro u hu
  unfold gq_ps at hu
  rcases List.mem_append.mp hu with hu | hu
  · split at hu
    · exact h u (List.mem_of_mem_drop hu)
    · exact h u hu
  · rw [List.mem_singleton.mp hu]
    exact hb
theorem gp_a35 (h : gp_RI B pf cu Mc Mr x b us ks o) : gp_call B (g11_day Mc pf) (f12_day Mr) := by
  have hR := h
  obtain ⟨⟨q1, q2, q3, q4, q5, q6, q7, q8⟩, h2, h3, h4, h5, h6, h7, h8, h9, h10, h11⟩ := h
  have hcu := q6.1
  have h80 := h3.1
  obtain ⟨M2, b1, b2, b3⟩ := gp_begin (M := gz_w Mr 0 5 0) (h4.fr (gp_wc _ (by omega)) (gp_gn (by omega)))
  obtain ⟨M3, l1, l2, l3⟩ := gq_day11 (x := x) x.length 0 0 gz_FU M2 (by omega) (by unfold gz_FU; omega) b3 (by omega)
  have m3_2 : M3.2 = Mr.2 := by rw [l1.1, b2.1]; rfl
  have m3_c : ∀ c, c ≠ 0 → c ≠ 4 → c ≠ 35 → M3.1 c = Mr.1 c := fun c e1 e2 e3 => by rw [l1.2.1 c e1 e3, b2.2.1 c e1 e2, gp_wc _ e1]
  have m3_0 : ∀ i, i ≠ 2 → i ≠ 5 → i ≠ 7 → i ≠ 8 → i ≠ 9 → M3.1 0 i = Mr.1 0 i := fun i a1 a2 a3 a4 a5 => by rw [l1.2.2 i a4 a5, b2.2.2.1 i a1 a3 a4 a5, gp_gn (by omega)]
  have m3_02 : M3.1 0 2 = 0 := by rw [l1.2.2 2 (by omega) (by omega)]; exact b2.2.2.2
  have start : f12_day Mr = f12_day_11 gz_FU (nI 0) M2 := by
    unfold f12_day
    rw [gp_eL, b1, gp_eB]
    rfl
  have cf : f3_faultOfDay Mc = some (gp_ans1 (gq_dy x x.length 0).1, Mc) := by
    unfold f3_faultOfDay
    exact gq_dyC h3 x.length 0 gz_FU (-1) (by omega) (by omega) (by unfold gz_FU; omega)
  rcases l3 with ⟨q, g1, g2, g3⟩ | ⟨g1, g2, g3, g4⟩
  · obtain ⟨n1, n2⟩ := gp_neg1 q (by omega)
    rw [g1] at cf
    refine ⟨(-1) - nI q, gz_w Mc 1 1 0, pf, M3, ?_, by rw [start]; exact g3, cu, [], b, us, ks, o, hR.emp rfl (fun c e1 e2 => gp_wc _ e1) (gp_gs _ _ _ _) m3_2 (fun c e1 e2 e3 => m3_c c (by omega) (by omega) e3) (m3_0 4 (by omega) (by omega) (by omega) (by omega) (by omega)) (m3_0 51 (by omega) (by omega) (by omega) (by omega) (by omega)) m3_02 (q3.fr (fun c c1 c2 => m3_c c (by omega) (by omega) (by omega)) (m3_0 10 (by omega) (by omega) (by omega) (by omega) (by omega)))⟩
    unfold g11_day
    rw [cf, gp_eB2, if_neg (show ¬ 0 ≤ gp_ans1 (some q) from n2)]
    unfold g11_day_24
    rw [gp_emptyC, gp_eB]
    rfl
  · rw [g1] at cf
    rw [Nat.zero_add] at g3 g4
    -- the reference lays its state aside
    have rb3 : gp_rB 1 0 M3 b := h6.fr (m3_c 1 (by omega) (by omega) (by omega))
    obtain ⟨Q, t1, t2, t3, t4⟩ := gp_thenL (f := fun n a M => f12_day_58 n (nI (gq_dy x x.length 0).2.length) a M) (K := fun M1 => f12_day_84 gz_FU (nI (gq_dy x x.length 0).2.length) 0 M1) (fun n M1 => by
      show f12_day_58 (n + 1) _ _ _ = _
      rw [f12_day_58, if_pos (show (106 : Int32) ≤ nI 106 by decide)]) (fun n i M1 hi => by
      show f12_day_58 (n + 1) _ _ _ = f12_day_58 n _ _ _
      rw [f12_day_58, if_neg (show ¬ (106 : Int32) ≤ nI i from nI_ge (b := 106) hi (by omega)), gp_ckb (show i < 106 by omega) (by omega), gp_ckb (show i < 106 by omega) (by omega), nI_clamp (by omega), gp_eL, gp_eL, nI_1]) M3 h2 rb3
    have qc : ∀ c, c ≠ 0 → c ≠ 4 → c ≠ 34 → c ≠ 35 → Q.1 c = Mr.1 c := fun c e1 e2 e3 e4 => by rw [t3 c e3, m3_c c e1 e2 e4]
    have q0 : ∀ i, Q.1 0 i = M3.1 0 i := fun i => by rw [t3 0 (by omega)]
    have hlQ : gp_lR Q b.2 := q5.fr (qc 1 (by omega) (by omega) (by omega) (by omega))
    obtain ⟨C1, R1, pf2, l', d', bar, f1, f2, f3, f4, f5⟩ := gq_dayJ (pf := pf) (Mc := Mc) (us := us) (b := b) (x := x) (Q := Q) h5 h3 x.length 0 0 gz_FU gz_FU Mc Q pf b.2 (by omega) (by omega) (by unfold gz_FU; omega) (by unfold gz_FU; omega) g1 ⟨rfl, fun _ _ _ _ _ => rfl, q4, h7, fun _ _ _ => rfl, ⟨o, by rw [if_pos rfl]; exact h8⟩, fun _ => rfl⟩ ⟨rfl, fun _ _ => rfl, fun _ _ => rfl, hlQ⟩ (fun j hj => by
      obtain ⟨z1, z2, z3⟩ := g2 j hj
      exact ⟨by rw [t3 35 (by omega)]; exact z1, by rw [t3 35 (by omega)]; exact z2, by rw [t3 35 (by omega)]; exact z3⟩) (by rw [Nat.zero_add]; omega)
    rw [Nat.zero_add] at f2 f5
    obtain ⟨a1, a2, a3, a4, a5, ⟨o', a6⟩, a7⟩ := f3
    obtain ⟨r1, r2, r3, r4⟩ := f4
    have hd80 : d' ≤ 80 := by omega
    have hN80 : (gq_dy x x.length 0).2.length ≤ 80 := by omega
    -- the component
    obtain ⟨C2, c1, c2, c3, c4⟩ := gp_recut (M := C1) (t := b.1) (l := l') q1 (q2.fr (fun c e1 e2 => a2 c (by omega) (by omega) (by omega) (by omega))) a3 hcu (by rw [a2 0 (by omega) (by omega) (by omega) (by omega)]; exact q6.2.1)
    have c20 : C2.1 0 = Mc.1 0 := by rw [c3 0 (by omega), a2 0 (by omega) (by omega) (by omega) (by omega)]
    obtain ⟨s, hs⟩ : ∃ s : Int64, s = if bar = 0 then 0 else 1 := ⟨_, rfl⟩
    obtain ⟨C3, C4, w1, w2, w3, w4, w5⟩ := gp_tell2C C2 s (nI (gp_cut (gp_tab b.1) l').length).toInt64
    have e3sz : (C3.1 (gz_cIx (C3.1 0 5)) 0).toInt64 = (nI (gp_cut (gp_tab b.1) l').length).toInt64 := by rw [w2.2 5 (by omega), c20, q6.2.1, w2.1 cu (by omega), c4.1]
    have eC : g11_day Mc pf = some (nI d', gz_w C4 1 1 0, pf2) := by
      have e203 : g11_changeByText_203 (nI d') s (gz_w C2 0 15 0) pf2 (if d' = 0 then 0 else 1) = some (nI d', C4, pf2) := by
        unfold g11_changeByText_203
        rw [w1, gp_eB, e3sz, w3, gp_eB]
      have e184 : g11_changeByText_184 (nI d') bar C1 pf2 (if d' = 0 then 0 else 1) = some (nI d', C4, pf2) := by
        unfold g11_changeByText_184
        rw [c1, gp_eB, gp_eL]
        by_cases hb : bar = 0
        · rw [if_pos hb]
          rw [if_pos hb] at hs
          rw [← hs]
          exact e203
        · rw [if_neg hb]
          rw [if_neg hb] at hs
          rw [← hs]
          exact e203
      unfold g11_day
      rw [cf, gp_eB2, if_pos (show 0 ≤ gp_ans1 none from by decide), show decide (0 + 1 ≤ 1) = true from by decide, gp_eC]
      unfold g11_changeByText
      rw [show g11_changeByText_9 gz_FU 0 0 0 0 Mc pf 0 = _ from f1, e184, gp_eB3]
      unfold g11_day_24
      rw [gp_emptyC, gp_eB]
    -- the reference: the day is noted
    have rc1 : ∀ c, c ≠ 0 → c ≠ 1 → c ≠ 4 → c ≠ 34 → c ≠ 35 → R1.1 c = Mr.1 c := fun c e1 e2 e3 e4 e5 => by rw [r2 c e2, qc c e1 e3 e4 e5]
    have r10 : ∀ i, R1.1 0 i = M3.1 0 i := fun i => by rw [r2 0 (by omega), q0]
    have hu1 : gp_uR R1 us := h10.fr (rc1 33 (by omega) (by omega) (by omega) (by omega) (by omega)) (by rw [r10, m3_0 51 (by omega) (by omega) (by omega) (by omega) (by omega)])
    have nt : ∃ R2, f12_day_162 (nI (gq_dy x x.length 0).2.length) (nI d') R1 = f12_day_170 (nI (gq_dy x x.length 0).2.length) (nI d') R2 ∧ R2.2 = R1.2 ∧ (∀ c, c ≠ 0 → c ≠ 33 → R2.1 c = R1.1 c) ∧ (∀ i, i ≠ 51 → R2.1 0 i = R1.1 0 i) ∧ gp_uR R2 (if d' = 0 then us else gq_ps us b) := by
      unfold f12_day_162
      by_cases hd0 : d' = 0
      · rw [if_pos (show nI d' ≤ (0 : Int32) from by rw [hd0]; decide), if_pos hd0]
        exact ⟨R1, rfl, rfl, fun _ _ _ => rfl, fun _ _ => rfl, hu1⟩
      · obtain ⟨R2, n1, n2, n3, n4, n5⟩ := gp_noteR hu1 h8.2.1 h9 h2 (t4.fr (r2 34 (by omega)))
        rw [if_neg (show ¬ nI d' ≤ (0 : Int32) from nI_ge (a := 0) (by omega) (by omega)), if_neg hd0, n1, gp_eB]
        exact ⟨R2, rfl, n2, n3, n4, n5⟩
    obtain ⟨R2, n1, n2, n3, n4, n5⟩ := nt
    have hT2 : gp_tR R2 (gp_tab b.1) := q3.fr (fun c e1 e2 => by rw [n3 c (by omega) (by omega), rc1 c (by omega) (by omega) (by omega) (by omega) (by omega)]) (by rw [n4 10 (by omega), r10, m3_0 10 (by omega) (by omega) (by omega) (by omega) (by omega)]) |> fun h => h
    have hL2 : gp_lR R2 l' := r4.fr (n3 1 (by omega) (by omega))
    obtain ⟨R3, y1, y2, y3, y4, _⟩ := gp_cutAll0 (M := R2) q1 hT2 hL2
    obtain ⟨R4, R5, v1, v2, v3, v4, v5⟩ := gp_tell2R R3 s (nI (gp_cut (gp_tab b.1) l').length).toInt64
    have hNd : (nI (gq_dy x x.length 0).2.length ≤ nI d') ↔ bar = 0 := by
      rw [nI_leI (by omega) (by omega)]
      rcases f5 with ⟨z1, z2⟩ | ⟨z1, z2⟩
      · rw [z1]; exact ⟨fun _ => rfl, fun _ => by omega⟩
      · rw [z1]; exact ⟨fun g => by omega, fun g => absurd g (by decide)⟩
    have eR : f12_day Mr = some (nI d', R5) := by
      have e191 : f12_day_191 (nI d') s (gz_w R3 0 4 0) = some (nI d', R5) := by
        unfold f12_day_191
        rw [v1, gp_eB, v2.2 31 (by omega), y4.1, v3, gp_eB]
      rw [start, g4, show f12_day_58 gz_FU (nI (gq_dy x x.length 0).2.length) 0 M3 = _ from t1, show f12_day_84 gz_FU (nI (gq_dy x x.length 0).2.length) 0 Q = _ from f2, n1]
      unfold f12_day_170
      rw [y1, gp_eB, gp_eL]
      by_cases hb : bar = 0
      · rw [if_pos (hNd.mpr hb)]
        rw [if_pos hb] at hs
        rw [← hs]
        exact e191
      · rw [if_neg (fun g => hb (hNd.mp g))]
        rw [if_neg hb] at hs
        rw [← hs]
        exact e191
    have r5c : ∀ c, c ≠ 0 → ¬ (16 ≤ c ∧ c ≤ 20) → R5.1 c = R2.1 c := fun c e1 e2 => by rw [v4.1 c e1, y2.2.1 c e1 e2]
    have r50 : ∀ i, i ≠ 4 → i ≠ 26 → i ≠ 28 → i ≠ 29 → i ≠ 31 → i ≠ 32 → R5.1 0 i = R2.1 0 i := fun i i0 i1 i2 i3 i4 i5 => by rw [v4.2 i i0, y2.2.2 i i1 i2 i3 i4 i5]
    have c4m : ∀ c, c ≠ 0 → c ≠ 1 → (gz_w C4 1 1 0).1 c = C2.1 c := fun c e1 e2 => by rw [gp_wc _ e2, w4.1 c e1]
    have c4a : ∀ c, c ≠ 0 → c ≠ 1 → c ≠ 9 → c ≠ 10 → c ≠ 131 → c < 135 ∨ 175 ≤ c → c < cu ∨ cu + 9 ≤ c → (gz_w C4 1 1 0).1 c = Mc.1 c := fun c e1 e2 e3 e4 e5 e6 e7 => by rw [c4m c e1 e2, c3 c e7, a2 c e3 e4 e5 e6]
    refine ⟨nI d', gz_w C4 1 1 0, pf2, R5, eC, eR, cu, [], (b.1, l'), (if d' = 0 then us else gq_ps us b), ks, o', hR.nl hcu (by rw [gp_gn (by omega), w4.2 5 (by omega), c20]; exact q6.2.1) (by rw [gp_gn (by omega), w4.2 8 (by omega), c20]; exact q7) (fun c hc => c4a c (by omega) (by omega) (by omega) (by omega) (by omega) (by omega) (by omega)) (a3.fr (fun c e1 e2 => by rw [c4m c (by omega) (by omega), c3 c (by omega)])) (c4.fr (fun c e1 e2 => c4m c (by omega) (by omega))) (gp_xC0 _ (gp_gs _ _ _ _)) a4 a5 (a6.fr (fun c hc => by rw [c4m c (by omega) (by omega), c3 c (by omega)])) (fun c hc => by rw [r5c c (by omega) (by omega), n3 c (by omega) (by omega), rc1 c (by omega) (by omega) (by omega) (by omega) (by omega)]) (by rw [r50 10 (by omega) (by omega) (by omega) (by omega) (by omega) (by omega), n4 10 (by omega), r10, m3_0 10 (by omega) (by omega) (by omega) (by omega) (by omega)]) ?_ (gp_txR0 _ ?_) (n5.fr (r5c 33 (by omega) (by omega)) (r50 51 (by omega) (by omega) (by omega) (by omega) (by omega) (by omega))) ?_ ⟨_, _, by simp, by simp, w5.fr rfl (gp_gn (by omega)), v5, fun _ => rfl⟩⟩
    · have e1 : R5.1 1 = R1.1 1 := by rw [r5c 1 (by omega) (by omega), n3 1 (by omega) (by omega)]
      refine ⟨?_, fun i hi => ?_, ?_, fun i hi => ?_⟩
      · rw [e1, r3 0 (by omega), qc 1 (by omega) (by omega) (by omega) (by omega)]
        exact h6.1
      · have hi : i < b.1.length := hi
        have := h2.1.1
        rw [e1, r3 _ (by omega), qc 1 (by omega) (by omega) (by omega) (by omega)]
        exact h6.2.1 i hi
      · rw [e1, Nat.zero_add]
        exact r4.2.1
      · rw [e1, Nat.zero_add]
        exact (r4.2.2 i hi).1
    · rw [r50 2 (by omega) (by omega) (by omega) (by omega) (by omega) (by omega), n4 2 (by omega), r10, m3_02]
    · split
      · exact h9
      · exact gq_ps_ok h9 h2
end
end
