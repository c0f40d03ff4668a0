/-! changes: tokens that are kept, met -/
section
variable {T : gp_T} {l l' : List Nat} {m q p n : Nat}
theorem gq_F0 (S p : Nat) : ¬ gp_F0 S p = true := by simp [gp_F0]
theorem gq_dead_ge : ∀ (L : List Nat) (q nx : Nat) (r : Option Nat) (b x : Nat), (gp_rm T m gp_F0 L q nx r b).2.2.2.1 = some x → q ≤ x
  | [], q, nx, r, b, x, h => by cases h
  | s :: L, q, nx, r, b, x, h => by
    rw [gp_rm] at h
    by_cases h0 : nx &&& T.2.2 (15 + m) s = 0
    · rw [if_pos h0] at h
      cases h
      exact Nat.le_refl _
    · rw [if_neg h0, if_neg (gq_F0 _ _)] at h
      have := gq_dead_ge L (q + 1) _ _ _ x h
      omega
/-- reading looks at no sign behind the dead one -/
theorem gq_rm_pre : ∀ (L L' : List Nat) (q nx : Nat) (r : Option Nat) (b x : Nat), (gp_rm T m gp_F0 L q nx r b).2.2.2.1 = some x → (∀ i, q + i ≤ x → L'[i]? = L[i]?) → gp_rm T m gp_F0 L' q nx r b = gp_rm T m gp_F0 L q nx r b
  | [], L', q, nx, r, b, x, h, _ => by cases h
  | s :: L, L', q, nx, r, b, x, h, e => by
    have hqx := gq_dead_ge (s :: L) q nx r b x h
    have e0 := e 0 (by omega)
    rw [List.getElem?_cons_zero] at e0
    cases L' with
    | nil => cases e0
    | cons s' L1 =>
      rw [List.getElem?_cons_zero] at e0
      cases e0
      rw [gp_rm] at h
      rw [gp_rm, gp_rm]
      by_cases h0 : nx &&& T.2.2 (15 + m) s = 0
      · rw [if_pos h0, if_pos h0]
      · rw [if_neg h0, if_neg (gq_F0 _ _)] at h
        rw [if_neg h0, if_neg (gq_F0 _ _), if_neg h0, if_neg (gq_F0 _ _)]
        rw [gq_rm_pre L L1 (q + 1) _ _ _ x h (fun i hi => by
          have := e (i + 1) (by omega)
          rwa [List.getElem?_cons_succ, List.getElem?_cons_succ] at this)]
theorem gq_tok_pre {stk : List Nat} {x : Nat} (h : (gp_tok T l p stk).2.2.2.2.1 = some x) (e : ∀ i, i ≤ x → l'[i]? = l[i]?) : gp_tok T l' p stk = gp_tok T l p stk := by
  unfold gp_tok
  rw [gq_rm_pre (l.drop p) (l'.drop p) p _ _ _ x h (fun i hi => by rw [List.getElem?_drop, List.getElem?_drop]; exact e _ hi)]
/-- tokens whose reach is not above q are cut again as they were -/
theorem gq_keep (hw : gp_wT T) (hq : q ≤ l.length) (hq' : q ≤ l'.length) (e : ∀ i, i < q → l'[i]? = l[i]?) : ∀ (n p : Nat) (stk : List Nat), gp_sk stk → (gp_cutF T l' n p stk).take (gp_ahd q (gp_cutF T l n p stk)) = (gp_cutF T l n p stk).take (gp_ahd q (gp_cutF T l n p stk)) ∧ gp_ahd q (gp_cutF T l n p stk) ≤ (gp_cutF T l' n p stk).length
  | 0, p, stk, _ => ⟨rfl, Nat.le_refl _⟩
  | n + 1, p, stk, hs => by
    rw [gp_cutF]
    by_cases hp : p < l.length
    · rw [if_pos hp, gp_ahd]
      have hok := gp_tok_ok (T := T) hw hp hs
      have hnx : (gp_tok T l p stk).2.1 = p := rfl
      by_cases hr : gp_rch (gp_tok T l p stk) ≤ q
      · obtain ⟨x, hx⟩ : ∃ x, (gp_tok T l p stk).2.2.2.2.1 = some x := by
          cases hd : (gp_tok T l p stk).2.2.2.2.1 with
          | some x => exact ⟨x, rfl⟩
          | none =>
            exfalso
            have h1 := hok.2.2.2.2.2.1 hd
            unfold gp_rch at hr
            rw [hd] at hr
            simp at hr
            omega
        obtain ⟨x1, x2⟩ := hok.2.2.2.2.1 x hx
        have hxq : x < q := by
          unfold gp_rch at hr
          rw [hx] at hr
          simp at hr
          omega
        have ht : gp_tok T l' p stk = gp_tok T l p stk := gq_tok_pre hx (fun i hi => e i (by omega))
        rw [if_pos hr, gp_cutF, if_pos (show p < l'.length by omega), ht, List.take_succ_cons, List.take_succ_cons]
        obtain ⟨a, b⟩ := gq_keep hw hq hq' e n (gp_tok T l p stk).2.2.1 (gp_tok T l p stk).2.2.2.2.2.2 hok.2.2.2.2.2.2.2
        exact ⟨by rw [a], by rw [List.length_cons]; omega⟩
      · rw [if_neg hr]
        exact ⟨rfl, Nat.zero_le _⟩
    · rw [if_neg hp]
      exact ⟨rfl, Nat.zero_le _⟩
/-- the place and the modes behind so many tokens -/
def gq_pl (p : Nat) (ts : List gp_K) (k : Nat) : Nat := if k = 0 then p else (ts.getD (k - 1) gp_k0).2.2.1
def gq_st (stk : List Nat) (ts : List gp_K) (k : Nat) : List Nat := if k = 0 then stk else (ts.getD (k - 1) gp_k0).2.2.2.2.2.2
theorem gq_dropF : ∀ (n p : Nat) (stk : List Nat) (k : Nat), k ≤ (gp_cutF T l n p stk).length → (gp_cutF T l n p stk).drop k = gp_cutF T l (n - k) (gq_pl p (gp_cutF T l n p stk) k) (gq_st stk (gp_cutF T l n p stk) k)
  | n, p, stk, 0, _ => by
    unfold gq_pl gq_st
    rw [if_pos rfl, if_pos rfl, List.drop_zero, Nat.sub_zero]
  | 0, p, stk, k + 1, h => by
    rw [gp_cutF] at h
    simp at h
  | n + 1, p, stk, k + 1, h => by
    rw [gp_cutF] at h ⊢
    by_cases hp : p < l.length
    · rw [if_pos hp] at h ⊢
      rw [List.length_cons] at h
      rw [List.drop_succ_cons, gq_dropF n _ _ k (by omega), show n + 1 - (k + 1) = n - k by omega]
      unfold gq_pl gq_st
      rw [if_neg (show ¬ k + 1 = 0 by omega), if_neg (show ¬ k + 1 = 0 by omega), Nat.add_sub_cancel]
      cases k with
      | zero => rfl
      | succ k =>
        rw [if_neg (by omega), if_neg (by omega), Nat.add_sub_cancel]
        simp [List.getD]
    · rw [if_neg hp] at h
      simp at h
/-- tokens end one behind another -/
theorem gq_sortF (hw : gp_wT T) : ∀ (n p : Nat) (stk : List Nat), gp_sk stk → (∀ t, t ∈ gp_cutF T l n p stk → p < t.2.2.1) ∧ (gp_cutF T l n p stk).Pairwise (fun a b => a.2.2.1 < b.2.2.1)
  | 0, p, stk, _ => ⟨fun t h => (by cases h), List.Pairwise.nil⟩
  | n + 1, p, stk, hs => by
    rw [gp_cutF]
    by_cases hp : p < l.length
    · rw [if_pos hp]
      have hok := gp_tok_ok (T := T) hw hp hs
      have hnx : (gp_tok T l p stk).2.1 = p := rfl
      obtain ⟨a, b⟩ := gq_sortF hw n (gp_tok T l p stk).2.2.1 (gp_tok T l p stk).2.2.2.2.2.2 hok.2.2.2.2.2.2.2
      have h1 := hok.1
      refine ⟨fun t ht => ?_, List.Pairwise.cons (fun t ht => a t ht) b⟩
      rcases List.mem_cons.mp ht with rfl | ht
      · omega
      · have := a t ht
        omega
    · rw [if_neg hp]
      exact ⟨fun t h => (by cases h), List.Pairwise.nil⟩
theorem gq_sort (hw : gp_wT T) {i k : Nat} (hik : i < k) (hk : k < (gp_cut T l).length) : ((gp_cut T l).getD i gp_k0).2.2.1 < ((gp_cut T l).getD k gp_k0).2.2.1 := by
  have h := (gq_sortF (l := l) hw 24 0 [0] gp_sk0).2
  have := List.pairwise_iff_getElem.mp h i k (show i < (gp_cutF T l 24 0 [0]).length by unfold gp_cut at hk; omega) hk hik
  unfold gp_cut at hk ⊢
  rw [List.getD_eq_getElem?_getD, List.getD_eq_getElem?_getD, List.getElem?_eq_getElem (by omega), List.getElem?_eq_getElem hk]
  exact this
/-- an old token that ends at a place, with modes -/
def gq_oC (ts : List gp_K) (w : Nat) (stk : List Nat) : Option Nat := match gp_fst (fun j => decide ((ts.getD j gp_k0).2.2.1 = w)) ts.length 0 with
  | some j => if (ts.getD j gp_k0).2.2.2.2.2.2 = stk then some j else none
  | none => none
def gq_oR (ts : List gp_K) (w : Nat) (stk : List Nat) : Nat → Nat → Option Nat
  | 0, _ => none
  | n + 1, k => if (ts.getD k gp_k0).2.2.1 = w ∧ (ts.getD k gp_k0).2.2.2.2.2.2.length = stk.length then (if (ts.getD k gp_k0).2.2.2.2.2.2 = stk then some k else none) else gq_oR ts w stk n (k + 1)
theorem gq_oR_no {ts : List gp_K} {w : Nat} {stk : List Nat} : ∀ n k, (∀ j, k ≤ j → j < k + n → (ts.getD j gp_k0).2.2.1 ≠ w) → gq_oR ts w stk n k = none
  | 0, k, _ => rfl
  | n + 1, k, h => by
    rw [gq_oR, if_neg (fun g => h k (Nat.le_refl _) (by omega) g.1)]
    exact gq_oR_no n (k + 1) (fun j h1 h2 => h j (by omega) (by omega))
theorem gq_oE (hw : gp_wT T) (w : Nat) (stk : List Nat) : gq_oR (gp_cut T l) w stk (gp_cut T l).length 0 = gq_oC (gp_cut T l) w stk := by
  have hs : ∀ i k, i < k → k < (gp_cut T l).length → ((gp_cut T l).getD i gp_k0).2.2.1 < ((gp_cut T l).getD k gp_k0).2.2.1 := fun i k h1 h2 => gq_sort hw h1 h2
  generalize gp_cut T l = ts at hs
  unfold gq_oC
  have main : ∀ n k, k + n = ts.length → gq_oR ts w stk n k = match gp_fst (fun j => decide ((ts.getD j gp_k0).2.2.1 = w)) n k with
      | some j => if (ts.getD j gp_k0).2.2.2.2.2.2 = stk then some j else none
      | none => none := by
    intro n
    induction n with
    | zero => intro k _; rfl
    | succ n ih =>
      intro k hk
      rw [gq_oR, gp_fst]
      by_cases h1 : (ts.getD k gp_k0).2.2.1 = w
      · rw [if_pos (show decide ((ts.getD k gp_k0).2.2.1 = w) = true from decide_eq_true h1)]
        dsimp only
        by_cases h2 : (ts.getD k gp_k0).2.2.2.2.2.2.length = stk.length
        · rw [if_pos ⟨h1, h2⟩]
        · rw [if_neg (fun g => h2 g.2), if_neg (fun g => h2 (by rw [g]))]
          refine gq_oR_no n (k + 1) (fun j g1 g2 g => ?_)
          have := hs k j (by omega) (by omega)
          omega
      · rw [if_neg (fun g => h1 g.1), if_neg (show ¬ decide ((ts.getD k gp_k0).2.2.1 = w) = true from fun g => h1 (of_decide_eq_true g)), ih (k + 1) (by omega)]
  exact main ts.length 0 (by omega)
def gq_mv (kd w : Nat) : Nat := if kd = 0 then w else if kd = 1 then w - 1 else w + 1
/-- how many are cut anew, which old one is met -/
def gq_met (kd q : Nat) (ts : List gp_K) : List gp_K → Nat → Nat × Option Nat
  | [], a => (a, none)
  | t :: r, a => if (q < t.2.2.1 ∨ (kd = 2 ∧ q = t.2.2.1)) ∧ (gq_oC ts (gq_mv kd t.2.2.1) t.2.2.2.2.2.2).isSome = true then (a + 1, gq_oC ts (gq_mv kd t.2.2.1) t.2.2.2.2.2.2) else gq_met kd q ts r (a + 1)
theorem gq_oC_lt {ts : List gp_K} {w j : Nat} {stk : List Nat} (h : gq_oC ts w stk = some j) : j < ts.length := by
  unfold gq_oC at h
  split at h
  · rename_i k hk
    split at h
    · cases h
      have g : ∀ (p : Nat → Bool) (n i : Nat), gp_fst p n i = some j → j < i + n := by
        intro p n
        induction n with
        | zero => intro i h; cases h
        | succ n ih =>
          intro i h
          rw [gp_fst] at h
          split at h
          · cases h; omega
          · have := ih (i + 1) h; omega
      have := g _ _ _ hk
      omega
    · cases h
  · cases h
theorem gq_met_b (kd q : Nat) (ts : List gp_K) : ∀ (r : List gp_K) (a : Nat), (gq_met kd q ts r a).1 ≤ a + r.length ∧ ∀ j, (gq_met kd q ts r a).2 = some j → j < ts.length
  | [], a => ⟨Nat.le_refl _, fun j h => by cases h⟩
  | t :: r, a => by
    rw [gq_met]
    split
    · exact ⟨by simp, fun j h => gq_oC_lt h⟩
    · obtain ⟨b1, b2⟩ := gq_met_b kd q ts r (a + 1)
      exact ⟨by rw [List.length_cons]; omega, b2⟩
theorem gq_enc_inj : ∀ {a b : List Nat}, (∀ d, d ∈ a → d < 4) → (∀ d, d ∈ b → d < 4) → a.length = b.length → gp_enc a = gp_enc b → a = b
  | [], [], _, _, _, _ => rfl
  | [], y :: b, _, _, h, _ => by simp at h
  | x :: a, [], _, _, h, _ => by simp at h
  | x :: a, y :: b, ha, hb, h, e => by
    rw [gp_enc, gp_enc] at e
    have h1 := ha x List.mem_cons_self
    have h2 := hb y List.mem_cons_self
    have h3 : x = y := by omega
    have h4 : gp_enc a = gp_enc b := by omega
    rw [h3, gq_enc_inj (fun d hd => ha d (List.mem_cons_of_mem _ hd)) (fun d hd => hb d (List.mem_cons_of_mem _ hd)) (by simpa using h) h4]
theorem gq_chg_pre {kd j z : Nat} (hk : kd < 3) (h : gq_can kd l j z) : ∀ i, i < j → (gq_chg kd l j z)[i]? = l[i]? := by
  intro i hi
  obtain ⟨h1, h2, h3, h4⟩ := h
  unfold gq_chg
  obtain h | h | h : kd = 0 ∨ kd = 1 ∨ kd = 2 := by omega
  · subst h
    rw [if_pos rfl, List.getElem?_set_ne (by omega)]
  · subst h
    have := (h3 rfl).1
    rw [if_neg (by omega), if_pos rfl]
    unfold gp_ins
    rw [List.getElem?_append_left (by simp; omega), List.getElem?_take, if_pos hi]
  · subst h
    have := h4 rfl
    rw [if_neg (by omega), if_neg (by omega)]
    unfold gp_del
    rw [List.getElem?_append_left (by simp; omega), List.getElem?_take, if_pos hi]
end
