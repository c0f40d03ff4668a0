/-! pairs: remembered, in the component -/
section
variable {M M' : gz_M} {T : gp_T} {l cs mks : List Nat} {rd k k1 k2 m : Nat} {K : Nat → List Nat} {Bd Bd' : Nat → Nat} {ts : List gp_K}
theorem gq_pC.nx (h : gq_pC M cs rd Bd K) : ∃ N, N = gz_w M 69 4 (M.1 69 4 + 1) ∧ gq_pL M N ∧ gq_pC N cs (rd + 1) Bd K := by
  refine ⟨_, rfl, ⟨rfl, fun c hc => gp_wc _ (by omega)⟩, fun p hp => ⟨(h.1 p hp).1.fr (gp_wc _ (by omega)) (gp_wc _ (by omega)) (gp_gn (by omega)), (h.1 p hp).2⟩, by rw [gp_gn (by omega)]; exact h.2.1, ?_⟩
  rw [gp_gs, h.2.2, nI_1]
theorem gq_pC.bd (h : gq_pC M cs rd Bd K) (hB : ∀ z, z < 25 → Bd z ≤ Bd' z) : gq_pC M cs rd Bd' K := ⟨fun p hp => ⟨(h.1 p hp).1, Nat.le_trans (h.1 p hp).2 (hB p hp)⟩, h.2⟩
theorem gq_ro (hw : gp_wT T) (hm : m < 4) (hk : k < 24) (hk1 : k1 + 1 < 69) (hk2 : k2 + 9 ≤ 69) {w : Nat} (hwl : w < 2 ^ 30) : ∀ (L : List Nat) (q nx n rd : Nat) (r : Option Nat) (b : Nat) (cs : List Nat) (K : Nat → List Nat) (M : gz_M), L = l.drop q → q ≤ l.length → L.length + 2 < n → nx < 2 ^ 10 → gq_bs k1 k2 M T l ts → gq_pC M cs rd (fun z => if z ≤ q then k + 1 else k) K → (∀ y, y ∈ mks → y ∈ cs) → (∀ y, y ∈ cs → y ∈ mks ∨ y % 25 ≤ q) → ∃ M' cs' K', f6_readOn_14 11 k1 n (nI m) (nI w) (nI nx) 1 (nI q) M = some M' ∧ gq_pL M M' ∧ gq_pC M' cs' (rd + ((gp_rm T m (gq_F mks m) L q nx r b).2.2.1 - q)) (fun _ => k + 1) K' ∧ ∀ y, y ∈ cs' ↔ (y ∈ cs ∨ ∃ i, i < (gp_rm T m (gq_F mks m) L q nx r b).2.2.2.2.length ∧ w < q + 1 + i ∧ y = gp_code m ((gp_rm T m (gq_F mks m) L q nx r b).2.2.2.2.getD i 0) (q + 1 + i))
  | [], q, nx, n, rd, r, b, cs, K, M, hL, hq, hn, hnx, hb, hp, h1, h2 => by
    obtain ⟨n, rfl⟩ : ∃ z, n = z + 1 := ⟨n - 1, by omega⟩
    have hl24 := hb.2.1.1
    have hql : l.length ≤ q := by
      have := congrArg List.length hL
      rw [List.length_drop] at this
      simp at this
      omega
    refine ⟨M, cs, K, ?_, gq_pL.refl M, ?_, fun y => ?_⟩
    · rw [f6_readOn_14, hb.2.1.2.1, if_pos (nI_le hql (by omega))]
    · have : (gp_rm T m (gq_F mks m) [] q nx r b).2.2.1 = q := rfl
      rw [this, Nat.sub_self, Nat.add_zero]
      exact hp.bd (fun z hz => by split <;> omega)
    · have : (gp_rm T m (gq_F mks m) [] q nx r b).2.2.2.2 = [] := rfl
      rw [this]
      simp
  | s :: L, q, nx, n, rd, r, b, cs, K, M, hL, hq, hn, hnx, hb, hp, h1, h2 => by
    have hl24 := hb.2.1.1
    have hql : q < l.length := by
      have := congrArg List.length hL
      rw [List.length_drop, List.length_cons] at this
      omega
    have hs : s = l.getD q 0 := by
      have := gp_drop hql
      rw [← hL] at this
      injection this
    have hL1 : L = l.drop (q + 1) := by
      have := congrArg (List.drop 1) hL
      rwa [List.drop_succ_cons, List.drop_zero, List.drop_drop] at this
    have h8 := (hb.2.1.2.2 q hql).2
    rw [← hs] at h8
    have hget : f5_get k1 (nI q) M = some (nI s, M) := by rw [gp_lget hb.2.1 hql, ← hs]
    obtain ⟨n, rfl⟩ : ∃ z, n = z + 2 := ⟨n - 2, by omega⟩
    rw [gp_rm]
    have hS : nx &&& T.2.2 (15 + m) s < 2 ^ 10 := Nat.lt_of_le_of_lt Nat.and_le_left hnx
    have hA : gp_aft T m (nx &&& T.2.2 (15 + m) s) < 2 ^ 10 := gp_lt10 hw hm (gp_aft_lt hw hm _)
    obtain ⟨N, hN, n1, n2⟩ := hp.nx
    have hbN := hb.fr hk1 hk2 n1
    -- what stops
    have stop : ∀ (P : gz_M) (v6 : Int32), gq_bs k1 k2 P T l ts → f6_readOn_14 11 k1 (n + 1) (nI m) (nI w) v6 0 (nI (q + 1)) P = some P := fun P v6 hP => by
      rw [f6_readOn_14, hP.2.1.2.1]
      split
      · rfl
      · rw [if_pos rfl]
    have start : f6_readOn_14 11 k1 (n + 1 + 1) (nI m) (nI w) (nI nx) 1 (nI q) M = if nI (nx &&& T.2.2 (15 + m) s) = 0 then (f6_readOn_95 11 k1 (f6_readOn_14 11 k1 (n + 1)) (nI m) (nI w) (nI (gp_aft T m (nx &&& T.2.2 (15 + m) s))) (nI q) (nI (1024 * m + (nx &&& T.2.2 (15 + m) s))) 0 N) else (gz_bd2 (f6_indexOf (nI (q + 1)) (nI (1024 * m + (nx &&& T.2.2 (15 + m) s))) N) fun v18 M19 => if v18 = (-1) then (f6_readOn_95 11 k1 (f6_readOn_14 11 k1 (n + 1)) (nI m) (nI w) (nI (gp_aft T m (nx &&& T.2.2 (15 + m) s))) (nI q) (nI (1024 * m + (nx &&& T.2.2 (15 + m) s))) 1 M19) else (f6_readOn_95 11 k1 (f6_readOn_14 11 k1 (n + 1)) (nI m) (nI w) (nI (gp_aft T m (nx &&& T.2.2 (15 + m) s))) (nI q) (nI (1024 * m + (nx &&& T.2.2 (15 + m) s))) 0 M19)) := by
      rw [f6_readOn_14, hb.2.1.2.1, if_neg (nI_ge hql (by omega)), if_neg (by decide), hget, gp_eB2, gp_takersOf hb.1 hm h8, gp_eB2, gp_and, gp_eL, gp_after hb.1 hm hS, gp_eB2, gp_eL, ← hN, gq_keyE, gp_eB2, nI_1]
    have z0 : (nI (nx &&& T.2.2 (15 + m) s) = (0 : Int32)) ↔ nx &&& T.2.2 (15 + m) s = 0 := nI_eq (b := 0) (by omega) (by omega)
    by_cases h0 : nx &&& T.2.2 (15 + m) s = 0
    · rw [if_pos h0]
      refine ⟨N, cs, K, ?_, n1, ?_, fun y => by simp⟩
      · rw [start, if_pos (z0.mpr h0)]
        unfold f6_readOn_95
        rw [if_pos rfl, nI_1, gp_eL]
        exact stop N _ hbN
      · show gq_pC N cs (rd + (q + 1 - q)) _ K
        rw [show q + 1 - q = 1 by omega]
        exact n2.bd (fun z hz => by split <;> omega)
    · rw [if_neg h0]
      have hkey : 1024 * m + (nx &&& T.2.2 (15 + m) s) < 4096 := by omega
      obtain ⟨ro, i1, i2, i3⟩ := gq_idxO (n2.1 (q + 1) (by omega)).1 (show q + 1 < 25 by omega) hkey
      have hcode : (1024 * m + (nx &&& T.2.2 (15 + m) s)) * 25 + (q + 1) = gp_code m (nx &&& T.2.2 (15 + m) s) (q + 1) := rfl
      have hcs : gp_code m (nx &&& T.2.2 (15 + m) s) (q + 1) ∈ cs ↔ gp_code m (nx &&& T.2.2 (15 + m) s) (q + 1) ∈ mks := by
        refine ⟨fun g => ?_, h1 _⟩
        rcases h2 _ g with g | g
        · exact g
        · exfalso
          unfold gp_code at g
          omega
      have hF : (gq_F mks m (nx &&& T.2.2 (15 + m) s) (q + 1) = true) ↔ gp_code m (nx &&& T.2.2 (15 + m) s) (q + 1) ∈ mks := by
        unfold gq_F
        rw [decide_eq_true_iff]
        exact ⟨fun g => g.2.2, fun g => ⟨by omega, by omega, g⟩⟩
      by_cases hf : gq_F mks m (nx &&& T.2.2 (15 + m) s) (q + 1) = true
      · have hin := hcs.mpr (hF.mp hf)
        have hro : ¬ ro = none := fun g => (i3.mp g) (by rw [hcode]; exact hin)
        obtain ⟨j, rfl⟩ : ∃ j, ro = some j := by
          cases ro with
          | none => exact absurd rfl hro
          | some j => exact ⟨j, rfl⟩
        have hj := (i2 j rfl).1
        have hj24 := (n2.1 (q + 1) (by omega)).1.2.1
        rw [if_pos hf]
        refine ⟨N, cs, K, ?_, n1, ?_, fun y => ?_⟩
        · rw [start, if_neg (fun g => h0 (z0.mp g)), i1, gp_eB2, if_neg (by rw [gp_oS, gp_m1, gp_ne1 (by omega)]; exact id)]
          unfold f6_readOn_95
          rw [if_pos rfl, nI_1, gp_eL]
          exact stop N _ hbN
        · show gq_pC N cs (rd + (q + 1 - q)) _ K
          rw [show q + 1 - q = 1 by omega]
          exact n2.bd (fun z hz => by split <;> omega)
        · constructor
          · exact Or.inl
          · rintro (g | ⟨i, g1, g2, g3⟩)
            · exact g
            · have : i = 0 := by simpa using g1
              subst this
              rw [g3]
              exact hin
      · have hnin : gp_code m (nx &&& T.2.2 (15 + m) s) (q + 1) ∉ cs := fun g => hf (hF.mpr (hcs.mp g))
        have hro : ro = none := i3.mpr (by rw [hcode]; exact hnin)
        subst hro
        rw [if_neg hf]
        dsimp only
        have hge := gp_rm_ge (T := T) (m := m) (F := gq_F mks m) L (q + 1) (gp_aft T m (nx &&& T.2.2 (15 + m) s)) ((gp_win T m (nx &&& T.2.2 (15 + m) s)).or r) (if (gp_win T m (nx &&& T.2.2 (15 + m) s)).isSome = true then q + 1 else b)
        have hfin : ∀ (A B : List Nat) (i0 : Nat), True := fun _ _ _ => trivial
        -- the next sign
        have next : ∀ (P : gz_M) (cs1 : List Nat) (K1 : Nat → List Nat), gq_pL M P → gq_bs k1 k2 P T l ts → gq_pC P cs1 (rd + 1) (fun z => if z ≤ q + 1 then k + 1 else k) K1 → (∀ y, y ∈ cs1 ↔ (y ∈ cs ∨ (w < q + 1 ∧ y = gp_code m (nx &&& T.2.2 (15 + m) s) (q + 1)))) → ∃ M' cs' K', f6_readOn_14 11 k1 (n + 1) (nI m) (nI w) (nI (gp_aft T m (nx &&& T.2.2 (15 + m) s))) 1 (nI (q + 1)) P = some M' ∧ gq_pL M M' ∧ gq_pC M' cs' (rd + ((gp_rm T m (gq_F mks m) L (q + 1) (gp_aft T m (nx &&& T.2.2 (15 + m) s)) ((gp_win T m (nx &&& T.2.2 (15 + m) s)).or r) (if (gp_win T m (nx &&& T.2.2 (15 + m) s)).isSome = true then q + 1 else b)).2.2.1 - q)) (fun _ => k + 1) K' ∧ ∀ y, y ∈ cs' ↔ (y ∈ cs ∨ ∃ i, i < ((nx &&& T.2.2 (15 + m) s) :: (gp_rm T m (gq_F mks m) L (q + 1) (gp_aft T m (nx &&& T.2.2 (15 + m) s)) ((gp_win T m (nx &&& T.2.2 (15 + m) s)).or r) (if (gp_win T m (nx &&& T.2.2 (15 + m) s)).isSome = true then q + 1 else b)).2.2.2.2).length ∧ w < q + 1 + i ∧ y = gp_code m (((nx &&& T.2.2 (15 + m) s) :: (gp_rm T m (gq_F mks m) L (q + 1) (gp_aft T m (nx &&& T.2.2 (15 + m) s)) ((gp_win T m (nx &&& T.2.2 (15 + m) s)).or r) (if (gp_win T m (nx &&& T.2.2 (15 + m) s)).isSome = true then q + 1 else b)).2.2.2.2).getD i 0) (q + 1 + i)) := by
          intro P cs1 K1 p1 p2 p3 p4
          obtain ⟨M', cs', K', f1, f2, f3, f4⟩ := gq_ro hw hm hk hk1 hk2 hwl L (q + 1) (gp_aft T m (nx &&& T.2.2 (15 + m) s)) (n + 1) (rd + 1) ((gp_win T m (nx &&& T.2.2 (15 + m) s)).or r) (if (gp_win T m (nx &&& T.2.2 (15 + m) s)).isSome = true then q + 1 else b) cs1 K1 P hL1 (by omega) (by rw [List.length_cons] at hn; omega) hA p2 p3 (fun y hy => (p4 y).mpr (Or.inl (h1 y hy))) (fun y hy => by
            rcases (p4 y).mp hy with g | ⟨_, g⟩
            · rcases h2 y g with g | g
              · exact Or.inl g
              · right; omega
            · right
              rw [g]
              unfold gp_code
              omega)
          refine ⟨M', cs', K', f1, p1.trans f2, ?_, fun y => ?_⟩
          · rw [show rd + ((gp_rm T m (gq_F mks m) L (q + 1) (gp_aft T m (nx &&& T.2.2 (15 + m) s)) ((gp_win T m (nx &&& T.2.2 (15 + m) s)).or r) (if (gp_win T m (nx &&& T.2.2 (15 + m) s)).isSome = true then q + 1 else b)).2.2.1 - q) = rd + 1 + ((gp_rm T m (gq_F mks m) L (q + 1) (gp_aft T m (nx &&& T.2.2 (15 + m) s)) ((gp_win T m (nx &&& T.2.2 (15 + m) s)).or r) (if (gp_win T m (nx &&& T.2.2 (15 + m) s)).isSome = true then q + 1 else b)).2.2.1 - (q + 1)) by omega]
            exact f3
          · rw [f4, p4]
            constructor
            · rintro ((g | ⟨g1, g2⟩) | ⟨i, g1, g2, g3⟩)
              · exact Or.inl g
              · exact Or.inr ⟨0, by simp, by omega, g2⟩
              · exact Or.inr ⟨i + 1, by simpa using g1, by omega, by rw [g3, show q + 1 + (i + 1) = q + 1 + 1 + i by omega]; simp [List.getD]⟩
            · rintro (g | ⟨i, g1, g2, g3⟩)
              · exact Or.inl (Or.inl g)
              · cases i with
                | zero => exact Or.inl (Or.inr ⟨by omega, g3⟩)
                | succ i => exact Or.inr ⟨i, by simpa using g1, by omega, by rw [g3, show q + 1 + (i + 1) = q + 1 + 1 + i by omega]; simp [List.getD]⟩
        have e95 : f6_readOn_14 11 k1 (n + 1 + 1) (nI m) (nI w) (nI nx) 1 (nI q) M = f6_readOn_95 11 k1 (f6_readOn_14 11 k1 (n + 1)) (nI m) (nI w) (nI (gp_aft T m (nx &&& T.2.2 (15 + m) s))) (nI q) (nI (1024 * m + (nx &&& T.2.2 (15 + m) s))) 1 N := by
          rw [start, if_neg (fun g => h0 (z0.mp g)), i1, gp_eB2, if_pos (show gp_o none = -1 from rfl)]
        rw [e95]
        unfold f6_readOn_95
        rw [if_neg (by decide), nI_1]
        by_cases hwq : q + 1 ≤ w
        · rw [if_pos (nI_le hwq (by omega)), gp_eL]
          exact next N cs K n1 hbN (n2.bd (fun z hz => by split <;> split <;> omega)) (fun y => ⟨Or.inl, fun g => g.elim id (fun g => by omega)⟩)
        · obtain ⟨M1, K1, e1, e2, e3, _⟩ := gq_come (Bd' := fun z => if z ≤ q + 1 then k + 1 else k) (p := q + 1) (key := 1024 * m + (nx &&& T.2.2 (15 + m) s)) n2 (by omega) hkey (fun z hz hn => by split <;> split <;> omega) (by rw [if_neg (by omega), if_pos (by omega)]; omega) (by rw [if_neg (by omega)]; exact hk)
          rw [if_neg (nI_ge (by omega) (by omega)), e1, gp_eB, gp_eL]
          exact next M1 _ K1 (n1.trans e2) (hbN.fr hk1 hk2 e2) e3 (fun y => by
            rw [List.mem_append, List.mem_singleton]
            constructor
            · rintro (g | g)
              · exact Or.inl g
              · exact Or.inr ⟨by omega, g⟩
            · rintro (g | ⟨_, g⟩)
              · exact Or.inl g
              · exact Or.inr g)
theorem gq_rem (hw : gp_wT T) (hk1 : k1 + 1 < 69) (hk2 : k2 + 9 ≤ 69) (hok : ∀ t, t ∈ ts → gp_tkOk T l.length t) (hR : ∀ t, t ∈ ts → gq_tkR T l t) (hlen : ts.length ≤ 24) (hb : gq_bs k1 k2 M T l ts) : ∃ M' cs K', f6_remember 11 k1 k2 M = some M' ∧ gq_pL M M' ∧ gq_pC M' cs (gq_mem T l ts []).2 (fun _ => ts.length) K' ∧ ∀ y, y ∈ cs ↔ y ∈ (gq_mem T l ts []).1 := by
  have hl24 := hb.2.1.1
  have h8 : ∀ p, p < l.length → l.getD p 0 < 8 := fun p hp => (hb.2.1.2.2 p hp).2
  obtain ⟨M1, c1, c2, c3⟩ := gq_clear M
  have main : ∀ d k n rd (cs mks : List Nat) (K : Nat → List Nat) (N : gz_M), k + d = ts.length → d < n → gq_bs k1 k2 N T l ts → gq_pC N cs rd (fun _ => k) K → (∀ y, y ∈ cs ↔ y ∈ mks) → gq_nwK T l mks → ∃ M' cs' K', f6_remember_7 11 k1 k2 n (nI k) N = some M' ∧ gq_pL N M' ∧ gq_pC M' cs' (rd + (gq_mem T l (ts.drop k) mks).2) (fun _ => ts.length) K' ∧ ∀ y, y ∈ cs' ↔ y ∈ (gq_mem T l (ts.drop k) mks).1 := by
    intro d
    induction d with
    | zero =>
      intro k n rd cs mks K N hk hn hb hp hcs hnw
      obtain ⟨n, rfl⟩ : ∃ z, n = z + 1 := ⟨n - 1, by omega⟩
      rw [f6_remember_7, hb.2.2.1, if_pos (nI_le (by omega) (by omega)), List.drop_eq_nil_of_le (by omega), gq_mem, ← show k = ts.length by omega]
      exact ⟨N, cs, K, rfl, gq_pL.refl N, hp, hcs⟩
    | succ d ih =>
      intro k n rd cs mks K N hk hn hb hp hcs hnw
      obtain ⟨n, rfl⟩ : ∃ z, n = z + 1 := ⟨n - 1, by omega⟩
      have hkl : k < ts.length := by omega
      have ht := gp_getD_mem (d := gp_k0) hkl
      have o := hok _ ht
      have rr := hR _ ht
      have v := hb.2.2.2.2 k hkl
      have hdrop : ts.drop k = ts.getD k gp_k0 :: ts.drop (k + 1) := by
        rw [List.drop_eq_getElem_cons hkl]
        simp [List.getD, hkl]
      have hrs := gp_rS hw hok hkl
      generalize hte : ts.getD k gp_k0 = t at *
      have hm := o.2.2.2.2.2.2.1
      have b1 := o.1
      have b2 := o.2.1
      have b3 := o.2.2.1
      have hp1 := rr.2.2.2
      obtain ⟨g1, g2, g3, g4, g5⟩ := gq_R_f (mks := mks) hw hm hl24 h8 hp1
      obtain ⟨s1, s2⟩ := gq_R_same hnw t
      obtain ⟨w, hwd⟩ : ∃ w, w = if t.1.isSome = true then t.2.2.1 else t.2.1 := ⟨_, rfl⟩
      have hwe : w = if (gq_R T l mks t).1.isSome = true then (gq_R T l mks t).2.1 else t.2.1 := by
        rw [hwd, s1, s2, ← rr.1, rr.2.1, ← rr.1]
        split <;> rfl
      have hwl : w < 2 ^ 30 := by
        rw [hwd]
        split <;> omega
      obtain ⟨M2, cs2, K2, f1, f2, f3, f4⟩ := gq_ro (mks := mks) (ts := ts) hw hm (show k < 24 by omega) hk1 hk2 hwl (l.drop t.2.1) t.2.1 (T.2.2 8 t.2.2.2.2.2.1) gz_FU rd none t.2.1 cs K N rfl (by omega) (by rw [List.length_drop]; unfold gz_FU; omega) (gp_lt10 hw hm (hw.2.2 _ hm).2.1) hb (hp.bd (fun z hz => by split <;> omega)) (fun y hy => (hcs y).mpr hy) (fun y hy => Or.inl ((hcs y).mp hy))
      have hcs2 : ∀ y, y ∈ cs2 ↔ y ∈ mks ++ gp_marks t.2.2.2.2.2.1 t.2.1 (gq_R T l mks t) := fun y => by
        rw [f4 y, hcs, List.mem_append, gq_marks_mem g5, ← hwe]
        exact Iff.rfl
      obtain ⟨M3, cs3, K3, y1, y2, y3, y4⟩ := ih (k + 1) n _ cs2 _ K2 M2 (by omega) (by omega) (hb.fr hk1 hk2 f2) f3 hcs2 (hnw.marks hw hm hl24 h8 hp1)
      refine ⟨M3, cs3, K3, ?_, f2.trans y2, ?_, ?_⟩
      · have e44 : f6_remember_44 11 k1 k2 (f6_remember_7 11 k1 k2 n) (nI k) (nI w) N = some M3 := by
          unfold f6_remember_44 f6_readOn
          rw [gp_ckb (show k < 24 by omega) (by omega), gp_ckb (show k < 24 by omega) (by omega), nI_clamp (by omega), v.2.2.2.2.2.1, v.2.1, gp_atFirst hb.1 hm, gp_eB2, f1, gp_eB, gp_eL, nI_1]
          exact y1
        rw [f6_remember_7, hb.2.2.1, if_neg (nI_ge hkl (by omega)), gp_ckb (show k < 24 by omega) (by omega), nI_clamp (by omega), v.1, gp_itO hrs, gp_ckb (show k < 24 by omega) (by omega), gp_ckb (show k < 24 by omega) (by omega), v.2.1, v.2.2.1]
        cases ht1 : t.1 with
        | none =>
          rw [ht1] at hwd
          rw [if_pos (show (none : Option Nat).isNone = true from rfl), ← show w = t.2.1 from hwd]
          exact e44
        | some z =>
          rw [ht1] at hwd
          rw [if_neg (by simp), ← show w = t.2.2.1 from hwd]
          exact e44
      · rw [hdrop, gq_mem]
        rw [Nat.add_assoc] at y3
        exact y3
      · rw [hdrop, gq_mem]
        exact y4
  obtain ⟨M2, cs2, K2, g1, g2, g3, g4⟩ := main ts.length 0 gz_FU 0 [] [] _ M1 (by omega) (by unfold gz_FU; omega) (hb.fr hk1 hk2 c2) c3 (fun y => Iff.rfl) (fun m S p _ _ h => by cases h)
  unfold f6_remember
  rw [c1, gp_eB]
  rw [List.drop_zero, Nat.zero_add] at g3
  rw [List.drop_zero] at g4
  exact ⟨M2, cs2, K2, g1, c2.trans g2, g3, g4⟩
end
