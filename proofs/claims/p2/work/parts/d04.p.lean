/-! pairs: walked, remembered, in the component -/
def gq_F (mks : List Nat) (m S p : Nat) : Bool := decide (S < 1024 ∧ p < 25 ∧ gp_code m S p ∈ mks)
def gq_R0 (T : gp_T) (l : List Nat) (t : gp_K) : Option Nat × Nat × Nat × Option Nat × List Nat := gp_rm T t.2.2.2.2.2.1 gp_F0 (l.drop t.2.1) t.2.1 (T.2.2 8 t.2.2.2.2.2.1) none t.2.1
def gq_R (T : gp_T) (l : List Nat) (mks : List Nat) (t : gp_K) : Option Nat × Nat × Nat × Option Nat × List Nat := gp_rm T t.2.2.2.2.2.1 (gq_F mks t.2.2.2.2.2.1) (l.drop t.2.1) t.2.1 (T.2.2 8 t.2.2.2.2.2.1) none t.2.1
def gq_mem (T : gp_T) (l : List Nat) : List gp_K → List Nat → List Nat × Nat
  | [], mks => (mks, 0)
  | t :: ts, mks => ((gq_mem T l ts (mks ++ gp_marks t.2.2.2.2.2.1 t.2.1 (gq_R T l mks t))).1, ((gq_R T l mks t).2.2.1 - t.2.1) + (gq_mem T l ts (mks ++ gp_marks t.2.2.2.2.2.1 t.2.1 (gq_R T l mks t))).2)
/-- what tokens say of their reading -/
def gq_tkR (T : gp_T) (l : List Nat) (t : gp_K) : Prop := t.1 = (gq_R0 T l t).1 ∧ t.2.2.1 = (if (gq_R0 T l t).1.isSome = true then (gq_R0 T l t).2.1 else t.2.1 + 1) ∧ t.2.2.2.1 = (gq_R0 T l t).2.2.1 ∧ t.2.1 < l.length
theorem gq_tkR_cutF {T : gp_T} {l : List Nat} : ∀ (n p : Nat) (stk : List Nat), ∀ t, t ∈ gp_cutF T l n p stk → gq_tkR T l t
  | 0, p, stk, t, h => by cases h
  | n + 1, p, stk, t, h => by
    rw [gp_cutF] at h
    by_cases hp : p < l.length
    · rw [if_pos hp] at h
      rcases List.mem_cons.mp h with e | e
      · rw [e]
        exact ⟨rfl, rfl, rfl, hp⟩
      · exact gq_tkR_cutF n _ _ t e
    · rw [if_neg hp] at h
      cases h
/-- what is remembered leads to no winner -/
def gq_nwK (T : gp_T) (l : List Nat) (mks : List Nat) : Prop := ∀ m S p, S < 1024 → p < 25 → gp_code m S p ∈ mks → gq_nw T l m S p
theorem gq_nwK.F {T : gp_T} {l mks : List Nat} (h : gq_nwK T l mks) (m : Nat) : ∀ S p, gq_F mks m S p = true → gq_nw T l m S p := fun S p g => by
  obtain ⟨a, b, c⟩ := of_decide_eq_true g
  exact h m S p a b c
section
variable {T : gp_T} {l mks : List Nat} {t : gp_K} {n : Nat}
theorem gq_R_same (h : gq_nwK T l mks) (t : gp_K) : (gq_R T l mks t).1 = (gq_R0 T l t).1 ∧ (gq_R T l mks t).2.1 = (gq_R0 T l t).2.1 := gq_same (h.F _) _ _ _ _ _ rfl
theorem gq_R_f (hw : gp_wT T) (hm : t.2.2.2.2.2.1 < 4) (hl : l.length ≤ 24) (h8 : ∀ p, p < l.length → l.getD p 0 < 8) (hp : t.2.1 < l.length) : t.2.1 < (gq_R T l mks t).2.2.1 ∧ (gq_R T l mks t).2.2.1 ≤ l.length ∧ (∀ S, S ∈ (gq_R T l mks t).2.2.2.2 → S < 1024) ∧ (gq_R T l mks t).2.2.2.2.length + t.2.1 ≤ l.length ∧ ((gq_R T l mks t).1.isSome = true → t.2.1 < (gq_R T l mks t).2.1) := by
  obtain ⟨a1, a2, a3, a4, a5, a6, a7, a8, a9⟩ := gp_rm_f (T := T) (m := t.2.2.2.2.2.1) (F := gq_F mks t.2.2.2.2.2.1) (l.drop t.2.1) t.2.1 (T.2.2 8 t.2.2.2.2.2.1) none t.2.1 (by simp) (by simp)
  have hlen : (l.drop t.2.1).length = l.length - t.2.1 := List.length_drop
  have a1 : t.2.1 ≤ (gq_R T l mks t).2.2.1 := a1
  have a2 : (gq_R T l mks t).2.2.1 ≤ t.2.1 + (l.drop t.2.1).length := a2
  have a3 : l.drop t.2.1 ≠ [] → t.2.1 < (gq_R T l mks t).2.2.1 := a3
  have a8 : (gq_R T l mks t).2.2.2.2.length + t.2.1 + (if (gq_R T l mks t).2.2.2.1.isSome = true then 1 else 0) = (gq_R T l mks t).2.2.1 := a8
  refine ⟨a3 (by rw [gp_drop hp]; simp), by omega, fun S hS => gp_lt10 hw hm (gp_rm_mets hw hm (l.drop t.2.1) t.2.1 _ _ _ (fun s hs => ?_) S hS), by omega, fun h => a5 rfl h⟩
  obtain ⟨i, hi, e⟩ := List.mem_iff_getElem.mp (List.mem_of_mem_drop hs)
  have := h8 i hi
  simp [List.getD, hi] at this
  rw [← e]
  exact this
theorem gq_marks_mem (hp : (gq_R T l mks t).1.isSome = true → t.2.1 < (gq_R T l mks t).2.1) (y : Nat) : y ∈ gp_marks t.2.2.2.2.2.1 t.2.1 (gq_R T l mks t) ↔ ∃ i, i < (gq_R T l mks t).2.2.2.2.length ∧ (if (gq_R T l mks t).1.isSome = true then (gq_R T l mks t).2.1 else t.2.1) < t.2.1 + 1 + i ∧ y = gp_code t.2.2.2.2.2.1 ((gq_R T l mks t).2.2.2.2.getD i 0) (t.2.1 + 1 + i) := by
  have hc : ∀ (L : List Nat) (p i : Nat), i < L.length → (gp_codes t.2.2.2.2.2.1 L p).getD i 0 = gp_code t.2.2.2.2.2.1 (L.getD i 0) (p + 1 + i) := by
    intro L
    induction L with
    | nil => intro p i h; simp at h
    | cons S L ih =>
      intro p i h
      rw [gp_codes]
      cases i with
      | zero => simp [List.getD]
      | succ i =>
        have := ih (p + 1) i (by simpa using h)
        rw [show p + 1 + (i + 1) = p + 1 + 1 + i by omega]
        simpa [List.getD] using this
  unfold gp_marks
  rw [gp_mem_drop (d := 0), gp_codes_len]
  constructor
  · rintro ⟨i, h1, h2, h3⟩
    refine ⟨i, h2, ?_, by rw [h3, hc _ _ _ h2]⟩
    split at h1 <;> rename_i g
    · have := hp g
      rw [if_pos g]; omega
    · rw [if_neg g]; omega
  · rintro ⟨i, h1, h2, h3⟩
    exact ⟨i, by omega, h1, by rw [h3, hc _ _ _ h1]⟩
theorem gq_nwK.marks (h : gq_nwK T l mks) (hw : gp_wT T) (hm : t.2.2.2.2.2.1 < 4) (hl : l.length ≤ 24) (h8 : ∀ p, p < l.length → l.getD p 0 < 8) (hp : t.2.1 < l.length) : gq_nwK T l (mks ++ gp_marks t.2.2.2.2.2.1 t.2.1 (gq_R T l mks t)) := by
  obtain ⟨f1, f2, f3, f4, f5⟩ := gq_R_f (mks := mks) hw hm hl h8 hp
  intro m S p hS hp' hy
  rcases List.mem_append.mp hy with g | g
  · exact h m S p hS hp' g
  · obtain ⟨i, g1, g2, g3⟩ := (gq_marks_mem f5 _).mp g
    have hS' := f3 _ (gp_getD_mem (d := 0) g1)
    obtain ⟨e1, e2, e3⟩ := gq_code_inj hS hS' hp' (by omega) g3
    rw [e1, e2, e3]
    refine gq_mark (h.F _) (l.drop t.2.1) t.2.1 (T.2.2 8 t.2.2.2.2.2.1) none t.2.1 rfl i g1 ?_
    show (gq_R T l mks t).1 = none ∨ (gq_R T l mks t).2.1 < t.2.1 + 1 + i
    split at g2
    · exact Or.inr g2
    · rename_i z
      left
      cases hz : (gq_R T l mks t).1 with
      | none => rfl
      | some k => rw [hz] at z; exact absurd rfl z
end
section
variable {M M' : gz_M} {T : gp_T} {l cs mks : List Nat} {rd k k1 k2 m : Nat} {K : Nat → List Nat} {ts : List gp_K}
/-- the rows that stand beside the pairs -/
def gq_bs (k1 k2 : Nat) (M : gz_M) (T : gp_T) (l : List Nat) (ts : List gp_K) : Prop := gp_tC 11 M T ∧ gp_lC k1 M l ∧ gp_cC k2 M ts
theorem gq_bs.fr (hk1 : k1 + 1 < 69) (hk2 : k2 + 9 ≤ 69) (h : gq_bs k1 k2 M T l ts) (hL : gq_pL M M') : gq_bs k1 k2 M' T l ts := ⟨h.1.fr (fun c c1 c2 => hL.2 c (by omega)), h.2.1.fr (fun c c1 c2 => hL.2 c (by omega)), h.2.2.fr (fun c c1 c2 => hL.2 c (by omega))⟩
theorem gq_keyE (m S : Nat) (M : gz_M) : f6_keyOf (nI m) (nI S) M = some (nI (1024 * m + S), M) := by
  unfold f6_keyOf
  rw [show (1024 : Int32) = nI 1024 from rfl, pk_mul, nI_add, Nat.mul_comm]
theorem gq_w42 (hw : gp_wT T) (hm : m < 4) (hk : k < 24) (hk1 : k1 + 1 < 69) (hk2 : k2 + 9 ≤ 69) (c7 : Int32 → gz_M → Option gz_M) {rt : Nat} (hrt : (∀ M, gq_bs k1 k2 M T l ts → M.1 (k2 + 4) k = nI rt)) : ∀ (L : List Nat) (q nx n : Nat) (r : Option Nat) (b : Nat) (cs : List Nat) (K : Nat → List Nat) (M : gz_M), L = l.drop q → q ≤ l.length → L.length + 2 < n → nx < 2 ^ 10 → rt = (gp_rm T m gp_F0 L q nx r b).2.2.1 → gq_bs k1 k2 M T l ts → gq_pC M cs rd (fun z => if z ≤ q then k + 1 else k) K → ∃ M' K', f6_walk_42 11 k1 k2 c7 n (nI k) (nI m) (nI nx) (nI q) M = c7 (nI (k + 1)) M' ∧ gq_pL M M' ∧ gq_pC M' (cs ++ gp_codes m (gp_rm T m gp_F0 L q nx r b).2.2.2.2 q) rd (fun _ => k + 1) K'
  | [], q, nx, n, r, b, cs, K, M, hL, hq, hn, hnx, hr, hb, hp => by
    obtain ⟨n, rfl⟩ : ∃ z, n = z + 1 := ⟨n - 1, by omega⟩
    have hr : rt = q := hr
    have hl24 := hb.2.1.1
    refine ⟨M, K, ?_, gq_pL.refl M, ?_⟩
    · rw [f6_walk_42, gp_ckb hk (by omega), nI_clamp (by omega), hrt M hb, hr, if_pos (nI_le (Nat.le_refl _) (by omega)), gp_eL, nI_1]
    · have : (gp_rm T m gp_F0 [] q nx r b).2.2.2.2 = [] := rfl
      rw [this, gp_codes, List.append_nil]
      exact ⟨fun p hp' => ⟨(hp.1 p hp').1, Nat.le_trans (hp.1 p hp').2 (by dsimp only; split <;> omega)⟩, hp.2⟩
  | s :: L, q, nx, n, r, b, cs, K, M, hL, hq, hn, hnx, hr, hb, hp => by
    have hl24 := hb.2.1.1
    have hql : q < l.length := by
      have := congrArg List.length hL
      rw [List.length_drop, List.length_cons] at this
      omega
    have hs : s = l.getD q 0 := by
      have := gp_drop hql
      rw [← hL] at this
      injection this
    have hL1 : L = l.drop (q + 1) := by
      have := congrArg (List.drop 1) hL
      rwa [List.drop_succ_cons, List.drop_zero, List.drop_drop] at this
    have h8 := (hb.2.1.2.2 q hql).2
    rw [← hs] at h8
    have hget : f5_get k1 (nI q) M = some (nI s, M) := by rw [gp_lget hb.2.1 hql, ← hs]
    rw [gp_rm] at hr ⊢
    have hS : nx &&& T.2.2 (15 + m) s < 2 ^ 10 := Nat.lt_of_le_of_lt Nat.and_le_left hnx
    have hA : gp_aft T m (nx &&& T.2.2 (15 + m) s) < 2 ^ 10 := gp_lt10 hw hm (gp_aft_lt hw hm _)
    by_cases h0 : nx &&& T.2.2 (15 + m) s = 0
    · rw [if_pos h0] at hr ⊢
      have hr : rt = q + 1 := hr
      obtain ⟨n, rfl⟩ : ∃ z, n = z + 2 := ⟨n - 2, by omega⟩
      refine ⟨M, K, ?_, gq_pL.refl M, ?_⟩
      · rw [f6_walk_42, gp_ckb hk (by omega), nI_clamp (by omega), hrt M hb, hr, if_neg (nI_ge (by omega) (by omega)), hget, gp_eB2, gp_takersOf hb.1 hm h8, gp_eB2, gp_and, gp_eL, gp_after hb.1 hm hS, gp_eB2, if_pos (show nI (nx &&& T.2.2 (15 + m) s) = (0 : Int32) from by rw [h0]; rfl), gp_eL, nI_1, f6_walk_42, gp_ckb hk (by omega), nI_clamp (by omega), hrt M hb, hr, if_pos (nI_le (Nat.le_refl _) (by omega)), gp_eL, nI_1]
      · show gq_pC M (cs ++ gp_codes m [] q) rd _ K
        rw [gp_codes, List.append_nil]
        exact ⟨fun p hp' => ⟨(hp.1 p hp').1, Nat.le_trans (hp.1 p hp').2 (by dsimp only; split <;> omega)⟩, hp.2⟩
    · rw [if_neg h0, if_neg (gq_F0 _ _)] at hr ⊢
      dsimp only at hr ⊢
      obtain ⟨n, rfl⟩ : ∃ z, n = z + 1 := ⟨n - 1, by omega⟩
      have hge := gp_rm_ge (T := T) (m := m) (F := gp_F0) L (q + 1) (gp_aft T m (nx &&& T.2.2 (15 + m) s)) ((gp_win T m (nx &&& T.2.2 (15 + m) s)).or r) (if (gp_win T m (nx &&& T.2.2 (15 + m) s)).isSome = true then q + 1 else b)
      rw [← hr] at hge
      have hrt2 : rt < 2 ^ 31 := by
        obtain ⟨_, a2, _⟩ := gp_rm_f (T := T) (m := m) (F := gp_F0) L (q + 1) (gp_aft T m (nx &&& T.2.2 (15 + m) s)) none (q + 1) (by simp) (by simp)
        have : (gp_rm T m gp_F0 L (q + 1) (gp_aft T m (nx &&& T.2.2 (15 + m) s)) none (q + 1)).2.2.1 = (gp_rm T m gp_F0 L (q + 1) (gp_aft T m (nx &&& T.2.2 (15 + m) s)) ((gp_win T m (nx &&& T.2.2 (15 + m) s)).or r) (if (gp_win T m (nx &&& T.2.2 (15 + m) s)).isSome = true then q + 1 else b)).2.2.1 := by
          have g : ∀ (L : List Nat) (q nx : Nat) (r r' : Option Nat) (b b' : Nat), (gp_rm T m gp_F0 L q nx r b).2.2.1 = (gp_rm T m gp_F0 L q nx r' b').2.2.1 := by
            intro L
            induction L with
            | nil => intros; rfl
            | cons s L ih =>
              intro q nx r r' b b'
              rw [gp_rm, gp_rm]
              by_cases h0 : nx &&& T.2.2 (15 + m) s = 0
              · rw [if_pos h0, if_pos h0]
              · rw [if_neg h0, if_neg (gq_F0 _ _), if_neg h0, if_neg (gq_F0 _ _)]
                exact ih _ _ _ _ _ _
          exact g _ _ _ _ _ _ _
        rw [this, ← hr] at a2
        have hLl : L.length = l.length - (q + 1) := by rw [hL1, List.length_drop]
        omega
      obtain ⟨M1, K1, e1, e2, e3, _⟩ := gq_come (Bd' := fun z => if z ≤ q + 1 then k + 1 else k) (p := q + 1) (key := 1024 * m + (nx &&& T.2.2 (15 + m) s)) hp (by omega) (by omega) (fun z hz hn => by
        split <;> split <;> omega) (by rw [if_neg (by omega), if_pos (by omega)]; omega) (by rw [if_neg (by omega)]; exact hk)
      obtain ⟨M2, K2, f1, f2, f3⟩ := gq_w42 hw hm hk hk1 hk2 c7 hrt L (q + 1) (gp_aft T m (nx &&& T.2.2 (15 + m) s)) n ((gp_win T m (nx &&& T.2.2 (15 + m) s)).or r) (if (gp_win T m (nx &&& T.2.2 (15 + m) s)).isSome = true then q + 1 else b) _ K1 M1 hL1 (by omega) (by rw [List.length_cons] at hn; omega) hA hr (hb.fr hk1 hk2 e2) e3
      refine ⟨M2, K2, ?_, e2.trans f2, ?_⟩
      · rw [f6_walk_42, gp_ckb hk (by omega), nI_clamp (by omega), hrt M hb, if_neg (nI_ge (by omega) hrt2), hget, gp_eB2, gp_takersOf hb.1 hm h8, gp_eB2, gp_and, gp_eL, gp_after hb.1 hm hS, gp_eB2, if_neg (show ¬ nI (nx &&& T.2.2 (15 + m) s) = (0 : Int32) from fun g => h0 ((nI_eq (b := 0) (by omega) (by omega)).mp g)), gq_keyE, gp_eB2, nI_1, e1, gp_eB, gp_eL]
        exact f1
      · rw [gp_codes]
        rw [List.append_assoc] at f3
        exact f3
theorem gq_walk (hw : gp_wT T) (hk1 : k1 + 1 < 69) (hk2 : k2 + 9 ≤ 69) (hok : ∀ t, t ∈ ts → gp_tkOk T l.length t) (hR : ∀ t, t ∈ ts → gq_tkR T l t) (hlen : ts.length ≤ 24) (hb : gq_bs k1 k2 M T l ts) : ∃ M' K', f6_walk 11 k1 k2 M = some M' ∧ gq_pL M M' ∧ gq_pC M' (gp_coms T l ts) 0 (fun _ => ts.length) K' := by
  have hl24 := hb.2.1.1
  obtain ⟨M1, c1, c2, c3⟩ := gq_clear M
  have main : ∀ d k n (cs : List Nat) (K : Nat → List Nat) (N : gz_M), k + d = ts.length → d < n → gq_bs k1 k2 N T l ts → gq_pC N cs 0 (fun _ => k) K → ∃ M' K', f6_walk_7 11 k1 k2 n (nI k) N = some M' ∧ gq_pL N M' ∧ gq_pC M' (cs ++ gp_coms T l (ts.drop k)) 0 (fun _ => ts.length) K' := by
    intro d
    induction d with
    | zero =>
      intro k n cs K N hk hn hb hp
      obtain ⟨n, rfl⟩ : ∃ z, n = z + 1 := ⟨n - 1, by omega⟩
      rw [f6_walk_7, hb.2.2.1, if_pos (nI_le (by omega) (by omega)), List.drop_eq_nil_of_le (by omega), gp_coms, List.append_nil, ← show k = ts.length by omega]
      exact ⟨N, K, rfl, gq_pL.refl N, hp⟩
    | succ d ih =>
      intro k n cs K N hk hn hb hp
      obtain ⟨n, rfl⟩ : ∃ z, n = z + 1 := ⟨n - 1, by omega⟩
      have hkl : k < ts.length := by omega
      have ht := gp_getD_mem (d := gp_k0) hkl
      have o := hok _ ht
      have rr := hR _ ht
      have v := hb.2.2.2.2 k hkl
      have hdrop : ts.drop k = ts.getD k gp_k0 :: ts.drop (k + 1) := by
        rw [List.drop_eq_getElem_cons hkl]
        simp [List.getD, hkl]
      generalize hte : ts.getD k gp_k0 = t at *
      have hm := o.2.2.2.2.2.2.1
      obtain ⟨M2, K2, f1, f2, f3⟩ := gq_w42 (rt := t.2.2.2.1) (ts := ts) (rd := 0) hw hm (show k < 24 by omega) hk1 hk2 (f6_walk_7 11 k1 k2 n) (fun M hM => by have := (hM.2.2.2.2 k hkl).2.2.2.1; rw [hte] at this; exact this) (l.drop t.2.1) t.2.1 (T.2.2 8 t.2.2.2.2.2.1) gz_FU none t.2.1 cs K N rfl (by have := rr.2.2.2; omega) (by rw [List.length_drop]; unfold gz_FU; omega) (gp_lt10 hw hm (hw.2.2 _ hm).2.1) rr.2.2.1 hb ⟨fun p hp' => ⟨(hp.1 p hp').1, Nat.le_trans (hp.1 p hp').2 (by dsimp only; split <;> omega)⟩, hp.2⟩
      obtain ⟨M3, K3, g1, g2, g3⟩ := ih (k + 1) n _ K2 M2 (by omega) (by omega) (hb.fr hk1 hk2 f2) f3
      refine ⟨M3, K3, ?_, f2.trans g2, ?_⟩
      · have hp1 := rr.2.2.2
        rw [f6_walk_7, hb.2.2.1, if_neg (nI_ge hkl (by omega)), gp_ckb (show k < 24 by omega) (by omega), nI_clamp (by omega), v.2.2.2.2.2.1, gp_eL, gp_atFirst hb.1 hm, gp_eB2, gp_ckb (show k < 24 by omega) (by omega), v.2.1, gp_eL, f1, g1]
      · rw [hdrop, gp_coms]
        rw [List.append_assoc] at g3
        exact g3
  obtain ⟨M2, K2, g1, g2, g3⟩ := main ts.length 0 gz_FU [] _ M1 (by omega) (by unfold gz_FU; omega) (hb.fr hk1 hk2 c2) c3
  unfold f6_walk
  rw [c1, gp_eB]
  exact ⟨M2, K2, g1, c2.trans g2, g3⟩
end
