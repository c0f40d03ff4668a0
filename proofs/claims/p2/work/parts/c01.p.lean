/-! changes: the component tells them -/
def gq_mo (kd : Nat) : Int32 := if kd = 1 then 1 else if kd = 2 then -1 else 0
def gq_mN (ts : List gp_K) : Option Nat → Nat
  | some j => ts.length - 1 - j
  | none => 0
section
variable {M M' : gz_M} {T T' : gp_T} {ts ss : List gp_K} {k k0 kd q n n' : Nat}
theorem gq_endC (h : gp_cC k M ts) (hl : ts.length ≤ 24) (hok : ∀ t, t ∈ ts → gp_tkOk T n t) (hn : n ≤ 24) {w : Nat} (hw : w < 2 ^ 30) : f2_endingAt k (nI w) M = some (gp_o (gp_fst (fun j => decide ((ts.getD j gp_k0).2.2.1 = w)) ts.length 0), M) := by
  have main : ∀ d x m, x + d = ts.length → d < m → f2_endingAt_2 k m (nI w) (nI x) M = some (gp_o (gp_fst (fun j => decide ((ts.getD j gp_k0).2.2.1 = w)) d x), M) := by
    intro d
    induction d with
    | zero =>
      intro x m hx hm
      obtain ⟨m, rfl⟩ : ∃ q, m = q + 1 := ⟨m - 1, by omega⟩
      rw [f2_endingAt_2, h.1, if_pos (nI_le (by omega) (by omega))]
      rfl
    | succ d ih =>
      intro x m hx hm
      obtain ⟨m, rfl⟩ : ∃ q, m = q + 1 := ⟨m - 1, by omega⟩
      have o1 := hok _ (gp_getD_mem (d := gp_k0) (show x < ts.length by omega))
      have b1 := o1.2.1
      have b2 := o1.2.2.1
      rw [f2_endingAt_2, h.1, if_neg (nI_ge (by omega) (by omega)), gp_ckb (show x < 24 by omega) (by omega), nI_clamp (by omega), (h.2.2 x (by omega)).2.2.1, gp_fst]
      by_cases e : (ts.getD x gp_k0).2.2.1 = w
      · rw [if_pos (by rw [e]), if_pos (show decide ((ts.getD x gp_k0).2.2.1 = w) = true from decide_eq_true e)]
        rfl
      · rw [if_neg (fun g => e ((nI_eq (by omega) (by omega)).mp g)), if_neg (show ¬ decide ((ts.getD x gp_k0).2.2.1 = w) = true from fun g => e (of_decide_eq_true g)), gp_eL, nI_1]
        exact ih (x + 1) m (by omega) (by omega)
  unfold f2_endingAt
  exact main ts.length 0 gz_FU (by omega) (by unfold gz_FU; omega)
theorem gq_hasC (h : gp_cC k M ss) (h' : gp_cC k0 M ts) (hl : ss.length ≤ 24) (hl' : ts.length ≤ 24) (hok : ∀ t, t ∈ ss → gp_tkOk T n t) (hok' : ∀ t, t ∈ ts → gp_tkOk T' n' t) {i j : Nat} (hi : i < ss.length) (hj : j < ts.length) : f2_hasModesOf k k0 (nI i) (nI j) M = some ((if (ts.getD j gp_k0).2.2.2.2.2.2 = (ss.getD i gp_k0).2.2.2.2.2.2 then 1 else 0), M) := by
  have o1 := (hok _ (gp_getD_mem (d := gp_k0) hi)).2.2.2.2.2.2.2
  have o2 := (hok' _ (gp_getD_mem (d := gp_k0) hj)).2.2.2.2.2.2.2
  have v1 := h.2.2 i hi
  have v2 := h'.2.2 j hj
  have l1 := o1.2.1
  have l2 := o2.2.1
  have e1 := o1.lt
  have e2 := o2.lt
  unfold f2_hasModesOf
  rw [if_neg (nI_pos (by omega)), h.1, if_neg (nI_ge hi (by omega)), if_neg (nI_pos (by omega)), h'.1, if_pos (nI_lt hj (by omega)), gp_ckb (show i < 24 by omega) (by omega), gp_ckb (show j < 24 by omega) (by omega), gp_ckb (show i < 24 by omega) (by omega), gp_ckb (show j < 24 by omega) (by omega), nI_clamp (by omega), nI_clamp (by omega), v1.2.2.2.2.2.2.1, v1.2.2.2.2.2.2.2, v2.2.2.2.2.2.2.1, v2.2.2.2.2.2.2.2]
  by_cases e : (ts.getD j gp_k0).2.2.2.2.2.2 = (ss.getD i gp_k0).2.2.2.2.2.2
  · rw [if_pos (by rw [e]), if_pos (by rw [e]), if_pos e]
  · rw [if_neg e]
    by_cases e3 : (ss.getD i gp_k0).2.2.2.2.2.2.length = (ts.getD j gp_k0).2.2.2.2.2.2.length
    · rw [if_pos (by rw [e3]), if_neg]
      intro g
      have g := (nI_eq (by omega) (by omega)).mp g
      exact e (gq_enc_inj o1.2.2 o2.2.2 e3 g).symm
    · rw [if_neg (fun g => e3 ((nI_eq (by omega) (by omega)).mp g))]
theorem gq_mvI {w : Nat} (hk : kd < 3) (h : 0 < w) : nI w - gq_mo kd = nI (gq_mv kd w) := by
  unfold gq_mo gq_mv
  obtain e | e | e : kd = 0 ∨ kd = 1 ∨ kd = 2 := by omega
  · subst e
    rw [if_neg (by omega), if_neg (by omega), if_pos rfl]
    exact Int32.sub_zero _
  · subst e
    obtain ⟨v, rfl⟩ : ∃ v, w = v + 1 := ⟨w - 1, by omega⟩
    rw [if_pos rfl, if_neg (by omega), if_pos rfl, nI_pred]
    rfl
  · subst e
    rw [if_neg (by omega), if_pos rfl, if_neg (by omega), if_neg (by omega), Int32.sub_neg, nI_1]
theorem gq_tell46 (hk : kd < 3) {cu : Nat} (hcu : gz_cIx (M.1 0 5) = cu) (h : gp_cC cu M ss) (h' : gp_cC k0 M ts) (hl : ss.length ≤ 24) (hl' : ts.length ≤ 24) (hok : ∀ t, t ∈ ss → gp_tkOk T n t) (hok' : ∀ t, t ∈ ts → gp_tkOk T' n' t) (hn : n ≤ 24) (hn' : n' ≤ 24) (hq : q ≤ 24) (kp : Int32) : ∀ (d x m a : Nat), x + d = ss.length → d + 1 < m → a ≤ x → f11_tellChange_46 m (nI kd) (nI q) k0 (gq_mo kd) kp (nI a) 0 0 (nI x) M = f11_tellChange_159 kp (nI (gq_met kd q ts (ss.drop x) a).1) (nI (gq_mN ts (gq_met kd q ts (ss.drop x) a).2)) M := by
  intro d
  induction d with
  | zero =>
    intro x m a hx hm ha
    obtain ⟨m, rfl⟩ : ∃ q, m = q + 1 := ⟨m - 1, by omega⟩
    rw [f11_tellChange_46, hcu, h.1, if_pos (nI_le (by omega) (by omega)), show ss.drop x = [] from List.drop_eq_nil_of_le (by omega)]
    rfl
  | succ d ih =>
    intro x m a hx hm ha
    obtain ⟨m, rfl⟩ : ∃ q, m = q + 2 := ⟨m - 2, by omega⟩
    have o1 := hok _ (gp_getD_mem (d := gp_k0) (show x < ss.length by omega))
    have b1 := o1.1
    have b2 := o1.2.1
    have b3 := o1.2.2.1
    have hdrop : ss.drop x = ss.getD x gp_k0 :: ss.drop (x + 1) := by
      rw [List.drop_eq_getElem_cons (show x < ss.length by omega)]
      simp [List.getD, show x < ss.length by omega]
    have nx := ih (x + 1) (m + 1) (a + 1) (by omega) (by omega) (by omega)
    rw [f11_tellChange_46, hcu, h.1, if_neg (nI_ge (by omega) (by omega)), if_pos rfl, nI_1, gp_eL, gp_ckb (show x < 24 by omega) (by omega), nI_clamp (by omega), (h.2.2 x (by omega)).2.2.1, gp_eL]
    generalize hte : ss.getD x gp_k0 = t at *
    have hmv : gq_mv kd t.2.2.1 < 2 ^ 30 := by
      unfold gq_mv
      split
      · omega
      · split <;> omega
    rw [gq_mvI hk (by omega), gq_endC h' hl' hok' hn' hmv, gp_eB2, hdrop, gq_met]
    have hq1 : (nI q < nI t.2.2.1) ↔ q < t.2.2.1 := nI_ltI (by omega) (by omega)
    have hq2 : (nI q = nI t.2.2.1) ↔ q = t.2.2.1 := nI_eq (by omega) (by omega)
    have hk2 : (nI kd = (2 : Int32)) ↔ kd = 2 := nI_eq (b := 2) (by omega) (by omega)
    -- the rest of a step
    have c111 : ∀ s0 : Int32, ∀ (P : Prop) [Decidable P], (s0 = 0 ↔ ¬ P) → f11_tellChange_111 (f11_tellChange_46 (m + 1)) (nI kd) (nI q) k0 (gq_mo kd) kp (nI (a + 1)) 0 0 (nI x) (gp_o (gp_fst (fun j => decide ((ts.getD j gp_k0).2.2.1 = gq_mv kd t.2.2.1)) ts.length 0)) s0 M = f11_tellChange_159 kp (nI (if P ∧ (gq_oC ts (gq_mv kd t.2.2.1) t.2.2.2.2.2.2).isSome = true then (a + 1, gq_oC ts (gq_mv kd t.2.2.1) t.2.2.2.2.2.2) else gq_met kd q ts (ss.drop (x + 1)) (a + 1)).1) (nI (gq_mN ts (if P ∧ (gq_oC ts (gq_mv kd t.2.2.1) t.2.2.2.2.2.2).isSome = true then (a + 1, gq_oC ts (gq_mv kd t.2.2.1) t.2.2.2.2.2.2) else gq_met kd q ts (ss.drop (x + 1)) (a + 1)).2)) M := by
      intro s0 P _ hP
      unfold f11_tellChange_111
      have hlt : ∀ j, gp_fst (fun j => decide ((ts.getD j gp_k0).2.2.1 = gq_mv kd t.2.2.1)) ts.length 0 = some j → j < ts.length := fun j hj => by
        have g : ∀ (p : Nat → Bool) (n i : Nat), gp_fst p n i = some j → j < i + n := by
          intro p n
          induction n with
          | zero => intro i h; cases h
          | succ n ih =>
            intro i h
            rw [gp_fst] at h
            split at h
            · cases h; omega
            · have := ih (i + 1) h; omega
        have := g _ _ _ hj
        omega
      have hoC : gq_oC ts (gq_mv kd t.2.2.1) t.2.2.2.2.2.2 = match gp_fst (fun j => decide ((ts.getD j gp_k0).2.2.1 = gq_mv kd t.2.2.1)) ts.length 0 with
          | some j => if (ts.getD j gp_k0).2.2.2.2.2.2 = t.2.2.2.2.2.2 then some j else none
          | none => none := rfl
      cases hf : gp_fst (fun j => decide ((ts.getD j gp_k0).2.2.1 = gq_mv kd t.2.2.1)) ts.length 0 with
      | none =>
        rw [hf] at hoC
        dsimp only at hoC
        rw [hoC, if_pos (show gp_o none = -1 from rfl), gp_eL, nI_1, if_neg (fun g => by cases g.2)]
        exact nx
      | some j =>
        have hj := hlt j hf
        rw [hf] at hoC
        dsimp only at hoC
        rw [if_neg (show ¬ gp_o (some j) = -1 from by rw [gp_oS, gp_m1, gp_ne1 (by omega)]; exact id), gp_oS]
        by_cases hp : P
        · rw [if_neg (fun g => hP.mp g hp), hcu]
          have hh := gq_hasC h h' hl hl' hok hok' (show x < ss.length by omega) hj
          rw [hte] at hh
          rw [hh, gp_eB2]
          by_cases he : (ts.getD j gp_k0).2.2.2.2.2.2 = t.2.2.2.2.2.2
          · rw [if_pos he] at hoC
            have hne : ¬ (if (ts.getD j gp_k0).2.2.2.2.2.2 = t.2.2.2.2.2.2 then (1 : Int32) else 0) = 0 := by rw [if_pos he]; decide
            have hv : nI ts.length - nI j - 1 = nI (ts.length - 1 - j) := by
              rw [gp_subI (by omega)]
              obtain ⟨v, hv⟩ : ∃ v, ts.length - j = v + 1 := ⟨ts.length - j - 1, by omega⟩
              rw [hv, nI_pred]
              congr 1
              omega
            rw [if_neg hne, hoC, if_pos ⟨hp, rfl⟩, h'.1, hv, gp_eL, nI_1, gp_eL, f11_tellChange_46, hcu, h.1]
            have fin : (if nI ss.length ≤ nI (x + 1) then f11_tellChange_159 kp (nI (a + 1)) (nI (ts.length - 1 - j)) M else f11_tellChange_159 kp (nI (a + 1)) (nI (ts.length - 1 - j)) M) = f11_tellChange_159 kp (nI (a + 1)) (nI (ts.length - 1 - j)) M := by split <;> rfl
            rw [if_neg (show ¬ (1 : Int32) = 0 by decide)]
            exact fin
          · rw [if_neg he] at hoC
            have hz : (if (ts.getD j gp_k0).2.2.2.2.2.2 = t.2.2.2.2.2.2 then (1 : Int32) else 0) = 0 := if_neg he
            rw [if_pos hz, hoC, gp_eL, nI_1, if_neg (fun g => by cases g.2)]
            exact nx
        · rw [if_pos (hP.mpr hp), gp_eL, nI_1, if_neg (fun g => hp g.1)]
          exact nx
    by_cases h1 : q < t.2.2.1
    · rw [if_pos (hq1.mpr h1)]
      exact c111 1 _ ⟨fun g => absurd g (by decide), fun g => absurd (Or.inl h1) g⟩
    · rw [if_neg (fun g => h1 (hq1.mp g))]
      by_cases h2 : kd = 2
      · rw [if_pos (hk2.mpr h2)]
        by_cases h3 : q = t.2.2.1
        · rw [if_pos (hq2.mpr h3)]
          exact c111 1 _ ⟨fun g => absurd g (by decide), fun g => absurd (Or.inr ⟨h2, h3⟩) g⟩
        · rw [if_neg (fun g => h3 (hq2.mp g))]
          exact c111 0 _ ⟨fun _ g => g.elim h1 (fun g => h3 g.2), fun _ => rfl⟩
      · rw [if_neg (fun g => h2 (hk2.mp g))]
        exact c111 0 _ ⟨fun _ g => g.elim h1 (fun g => h2 g.1), fun _ => rfl⟩
theorem gp_tell3C (M : gz_M) (p q r : Int64) : ∃ M1 M2 M3, f11_tell p (gz_w M 0 15 0) = some M1 ∧ f11_tell q M1 = some M2 ∧ f11_tell r M2 = some M3 ∧ gp_fC M M3 ∧ gp_wC M3 [p, q, r] ∧ gp_fC M M1 ∧ gp_fC M M2 := by
  obtain ⟨a1, a2⟩ := gp_wC0 M
  obtain ⟨M1, b1, b2, b3⟩ := gp_tellC p a2 (by simp)
  obtain ⟨M2, c1, c2, c3⟩ := gp_tellC q b3 (by simp)
  obtain ⟨M3, d1, d2, d3⟩ := gp_tellC r c3 (by simp)
  exact ⟨M1, M2, M3, b1, c1, d1, ((a1.trans b2).trans c2).trans d2, d3, a1.trans b2, (a1.trans b2).trans c2⟩
theorem gp_tell3R (M : gz_M) (p q r : Int64) : ∃ M1 M2 M3, f12_tell p (gz_w M 0 4 0) = some M1 ∧ f12_tell q M1 = some M2 ∧ f12_tell r M2 = some M3 ∧ gp_fR M M3 ∧ gp_wR M3 [p, q, r] := by
  obtain ⟨a1, a2⟩ := gp_wR0 M
  obtain ⟨M1, b1, b2, b3⟩ := gp_tellR p a2 (by simp)
  obtain ⟨M2, c1, c2, c3⟩ := gp_tellR q b3 (by simp)
  obtain ⟨M3, d1, d2, d3⟩ := gp_tellR r c3 (by simp)
  exact ⟨M1, M2, M3, b1, c1, d1, ((a1.trans b2).trans c2).trans d2, d3⟩
/-- kept, cut anew, met -/
theorem gq_tellC (hk : kd < 3) {cu : Nat} (hcu : gz_cIx (M.1 0 5) = cu) (hcu8 : gz_cIx (M.1 0 8) = k0) (h : gp_cC cu M ss) (h' : gp_cC k0 M ts) (hl : ss.length ≤ 24) (hl' : ts.length ≤ 24) (hok : ∀ t, t ∈ ss → gp_tkOk T n t) (hok' : ∀ t, t ∈ ts → gp_tkOk T' n' t) (hn : n ≤ 24) (hn' : n' ≤ 24) (hq : q ≤ 24) (hkp : gp_ahd q ts ≤ ss.length) : ∃ M', f11_tellChange (nI kd) (nI q) M = some M' ∧ gp_fC M M' ∧ gp_wC M' [(nI (gp_ahd q ts)).toInt64, (nI (gq_met kd q ts (ss.drop (gp_ahd q ts)) 0).1).toInt64, (nI (gq_mN ts (gq_met kd q ts (ss.drop (gp_ahd q ts)) 0).2)).toInt64] := by
  obtain ⟨M1, M2, M3, t1, t2, t3, t4, t5, _⟩ := gp_tell3C M (nI (gp_ahd q ts)).toInt64 (nI (gq_met kd q ts (ss.drop (gp_ahd q ts)) 0).1).toInt64 (nI (gq_mN ts (gq_met kd q ts (ss.drop (gp_ahd q ts)) 0).2)).toInt64
  have e24 : f11_tellChange (nI kd) (nI q) M = f11_tellChange_24 (nI kd) (nI q) k0 (gq_mo kd) M := by
    unfold f11_tellChange gq_mo
    rw [hcu8]
    obtain e | e | e : kd = 0 ∨ kd = 1 ∨ kd = 2 := by omega
    all_goals subst e; rfl
  refine ⟨M3, ?_, t4, t5⟩
  rw [e24]
  unfold f11_tellChange_24
  rw [gp_aheadC h' hl' hok' hn' (show q < 2 ^ 30 by omega), gp_eB2, show (0 : Int32) = nI 0 from rfl]
  rw [show f11_tellChange_46 gz_FU (nI kd) (nI q) k0 (gq_mo kd) (nI (gp_ahd q ts)) (nI 0) (nI 0) (nI 0) (nI (gp_ahd q ts)) M = _ from gq_tell46 hk hcu h h' hl hl' hok hok' hn hn' hq (nI (gp_ahd q ts)) (ss.length - gp_ahd q ts) (gp_ahd q ts) gz_FU 0 (by omega) (by unfold gz_FU; omega) (by omega)]
  unfold f11_tellChange_159
  rw [gp_eL, t1, gp_eB, t2, gp_eB, t3, gp_eB]
end
