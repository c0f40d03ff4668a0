/-! promise 28: fewest: the reference and the answer -/
section
variable {B : Prop} {k k0 k1 m S s x p cu i j nx : Nat} {M M' Mc Mr Mc' Mr' : gz_M} {T : gp_T} {l : List Nat}
/-- the reference's table of fewest from place p on -/
def gp_fwS (M : gz_M) (T : gp_T) (l : List Nat) (j p : Nat) : Prop := ∀ q, p ≤ q → q ≤ j → M.1 31 q = gp_o (gp_Rb (gp_eW T l) j q) ∧ (q < j → gp_Rb (gp_eW T l) j q ≠ none → M.1 32 q = nI (gp_ft (gp_eW T l) (gp_Rb (gp_eW T l) j) q (j + 1)))
theorem gp_mn_dead {E : Nat → Nat → Bool} {R : Nat → Option Nat} {p x : Nat} (h : ∀ q, x ≤ q → E p q = false) : ∀ d, gp_mn E R p (x + d) = gp_mn E R p x ∧ gp_ft E R p (x + d) = gp_ft E R p x
  | 0 => ⟨rfl, rfl⟩
  | d + 1 => by
    obtain ⟨h1, h2⟩ := gp_mn_dead h d
    have hc : ¬ (p < x + d ∧ E p (x + d) = true) := fun hc => by rw [h (x + d) (by omega)] at hc; simp at hc
    rw [show x + (d + 1) = (x + d) + 1 by omega, gp_mn, gp_ft, if_neg hc, if_neg hc]
    exact ⟨h1, h2⟩
theorem gp_few45 (hw : gp_wT T) (hij : i ≤ j) (hj : j ≤ l.length) (hip : i ≤ p) (hpj : p < j) (c18 : Int32 → Int32 → Int32 → gz_M → Option (Int32 × gz_M)) : ∀ (d n x : Nat) (M : gz_M), x + d = j → d < n → p ≤ x → gp_tR M T → gp_lR M l → gp_fwS M T l j (p + 1) → M.1 31 p = gp_o (gp_mn (gp_eW T l) (gp_Rb (gp_eW T l) j) p (x + 1)) → (gp_mn (gp_eW T l) (gp_Rb (gp_eW T l) j) p (x + 1) ≠ none → M.1 32 p = nI (gp_ft (gp_eW T l) (gp_Rb (gp_eW T l) j) p (x + 1))) → ∃ M', f12_fewest_45 c18 n (nI i) (nI j) (nI p) (nI (gp_ss T 0 l p (x - p)).2) (nI x) M = c18 (nI i) (nI j) (nI p + (-1)) M' ∧ gp_yL M M' ∧ gp_fwS M' T l j p := by
  have hm : 0 < 4 := by decide
  -- the end
  have fin : ∀ (x : Nat) (M : gz_M), l.length ≤ 24 → gp_fwS M T l j (p + 1) → M.1 31 p = gp_o (gp_mn (gp_eW T l) (gp_Rb (gp_eW T l) j) p (j + 1)) → (gp_mn (gp_eW T l) (gp_Rb (gp_eW T l) j) p (j + 1) ≠ none → M.1 32 p = nI (gp_ft (gp_eW T l) (gp_Rb (gp_eW T l) j) p (j + 1))) → gp_fwS M T l j p := by
    intro x M h24 hS h31 h32 q h1 h2
    by_cases hqp : q = p
    · subst hqp
      rw [gp_Rb_p (by omega) (by omega)]
      exact ⟨h31, fun _ h => h32 h⟩
    · exact hS q (by omega) h2
  intro d
  induction d with
  | zero =>
    intro n x M hx hn hpx ht hl hS h31 h32
    have h24 := hl.1
    obtain ⟨n, rfl⟩ : ∃ q, n = q + 1 := ⟨n - 1, by omega⟩
    have : x = j := by omega
    subst this
    refine ⟨M, ?_, gp_yL.refl M, fin x M h24 hS h31 h32⟩
    rw [f12_fewest_45, if_pos (nI_le (Nat.le_refl _) (by omega)), gp_eL]
  | succ d ih =>
    intro n x M hx hn hpx ht hl hS h31 h32
    have h24 := hl.1
    have hj24 : j ≤ 24 := by omega
    obtain ⟨n, rfl⟩ : ∃ q, n = q + 1 := ⟨n - 1, by omega⟩
    have hb1 := gp_ss_lt (T := T) (m := 0) (i := p) hw hm (fun p hp => (hl.2.2 p hp).2) (x - p + 1) (by omega)
    have hx11 := gp_lt10 hw hm hb1.2
    have st : f12_fewest_62 c18 (f12_fewest_45 c18 n) (nI i) (nI j) (nI p) (nI (gp_ss T 0 l p (x - p)).2) (nI x) M = f12_fewest_77 c18 (f12_fewest_45 c18 n) (nI i) (nI j) (nI p) (nI x) (if x - p = 0 then 1 else 0) (nI (gp_ss T 0 l p (x - p)).2) 0 M := by
      unfold f12_fewest_62
      by_cases hx0 : x = p
      · rw [if_pos (by rw [hx0]), if_pos (by omega)]
      · rw [if_neg (fun e => hx0 ((nI_eq (by omega) (by omega)).mp e)), if_neg (by omega)]
    have go : ∃ M', f12_fewest_77 c18 (f12_fewest_45 c18 n) (nI i) (nI j) (nI p) (nI x) (if x - p = 0 then 1 else 0) (nI (gp_ss T 0 l p (x - p)).2) 0 M = c18 (nI i) (nI j) (nI p + (-1)) M' ∧ gp_yL M M' ∧ gp_fwS M' T l j p := by
      have e := gp_stepS (i := p) (m := 0) hw ht hl hm (x - p) (by omega) (if x - p = 0 then 1 else 0) rfl
      rw [show p + (x - p) = x by omega] at e
      unfold f12_fewest_77
      have hck : gz_inb (82 + nI x) 106 = true := by rw [show (82 : Int32) = nI 82 from rfl, nI_add]; exact gp_inb (by omega) (by omega)
      rw [hck, gp_eC] at e ⊢
      have e' : f12_step 0 (nI (gp_ss T 0 l p (x - p)).2) (if x - p = 0 then 1 else 0) (M.1 1 (82 + nI x).toNatClampNeg) M = some (nI (gp_ss T 0 l p (x - p + 1)).2, M) := e
      have ew : f12_winner 0 (nI (gp_ss T 0 l p (x - p + 1)).2) M = _ := gp_winR hw ht hm hx11
      have hv := (hS (x + 1) (by omega) (by omega)).1
      rw [e', gp_eB2, show nI x + 1 = nI (x + 1) from nI_1 x, gp_ckb (by omega) (by omega), gp_eL, show (nI (x + 1)).toNatClampNeg = x + 1 from nI_clamp (by omega), hv, ew, gp_eB2, gp_itW hw]
      have hEW : gp_eW T l p (x + 1) = (gp_win T 0 (gp_ss T 0 l p (x - p + 1)).2).isSome := by
        unfold gp_eW
        rw [show x + 1 - p = x - p + 1 by omega]
      have nxt : ∀ M1 : gz_M, gp_yL M M1 → (∀ q, q ≠ p → M1.1 31 q = M.1 31 q ∧ M1.1 32 q = M.1 32 q) → M1.1 31 p = gp_o (gp_mn (gp_eW T l) (gp_Rb (gp_eW T l) j) p (x + 1 + 1)) → (gp_mn (gp_eW T l) (gp_Rb (gp_eW T l) j) p (x + 1 + 1) ≠ none → M1.1 32 p = nI (gp_ft (gp_eW T l) (gp_Rb (gp_eW T l) j) p (x + 1 + 1))) → ∃ M', f12_fewest_45 c18 n (nI i) (nI j) (nI p) (nI (gp_ss T 0 l p (x - p + 1)).2) (nI (x + 1)) M1 = c18 (nI i) (nI j) (nI p + (-1)) M' ∧ gp_yL M M' ∧ gp_fwS M' T l j p := by
        intro M1 y1 u1 u2 u3
        have := ih n (x + 1) M1 (by omega) (by omega) (by omega) (y1.t ht) (y1.ln hl) (fun q a1 a2 => by
          rw [(u1 q (by omega)).1, (u1 q (by omega)).2]
          exact hS q a1 a2) u2 u3
        rw [show x + 1 - p = x - p + 1 by omega] at this
        obtain ⟨M', f1, f2, f3⟩ := this
        exact ⟨M', f1, y1.trans f2, f3⟩
      cases hwin : gp_win T 0 (gp_ss T 0 l p (x - p + 1)).2 with
      | none =>
        have hc : ¬ (p < x + 1 ∧ gp_eW T l p (x + 1) = true) := fun h => by rw [hEW, hwin] at h; simp at h
        rw [if_pos (show (none : Option Nat).isNone = true from rfl), gp_eL]
        refine nxt M (gp_yL.refl M) (fun q _ => ⟨rfl, rfl⟩) ?_ ?_
        · rw [gp_mn, if_neg hc]; exact h31
        · rw [gp_mn, gp_ft, if_neg hc, if_neg hc]; exact h32
      | some w =>
        have hc : p < x + 1 ∧ gp_eW T l p (x + 1) = true := ⟨by omega, by rw [hEW, hwin]; rfl⟩
        have hmb : ∀ n, gp_mn (gp_eW T l) (gp_Rb (gp_eW T l) j) p (x + 1) = some n → n < 2 ^ 31 := fun n hn => by have := gp_mn_b (b := 25) (fun q n h => gp_Rb_b h) (x + 1) n hn; omega
        rw [if_neg (by simp), gp_itO (fun n hn => by have := gp_Rb_b hn; omega), gp_eL, gp_ckb (by omega) (by omega), gp_ckb (by omega) (by omega), nI_clamp (by omega), h31, gp_itO hmb]
        cases hRx : gp_Rb (gp_eW T l) j (x + 1) with
        | none =>
          rw [if_pos (show (none : Option Nat).isNone = true from rfl)]
          refine nxt M (gp_yL.refl M) (fun q _ => ⟨rfl, rfl⟩) ?_ ?_
          · rw [gp_mn, if_pos hc, hRx, h31]
            cases gp_mn (gp_eW T l) (gp_Rb (gp_eW T l) j) p (x + 1) <;> rfl
          · rw [gp_mn, gp_ft, if_pos hc, if_pos hc, hRx]
            intro h
            refine h32 (fun h' => h ?_)
            rw [h']; rfl
        | some r =>
          have hrb := gp_Rb_b hRx
          rw [if_neg (by simp), gp_oS, nI_1]
          have e146 : ∃ M1, gp_yL M M1 ∧ (∀ q, q ≠ p → M1.1 31 q = M.1 31 q ∧ M1.1 32 q = M.1 32 q) ∧ M1.1 31 p = nI (r + 1) ∧ M1.1 32 p = nI (x + 1) ∧ f12_fewest_146 c18 (f12_fewest_45 c18 n) (nI i) (nI j) (nI p) (nI (gp_ss T 0 l p (x - p + 1)).2) (nI x) (nI r) M = f12_fewest_45 c18 n (nI i) (nI j) (nI p) (nI (gp_ss T 0 l p (x - p + 1)).2) (nI (x + 1)) M1 := by
            refine ⟨gz_w (gz_w M 31 p (nI (r + 1))) 32 p (nI (x + 1)), ⟨rfl, fun c hc => by rw [gp_wc _ (by omega), gp_wc _ (by omega)]⟩, fun q hq => ⟨by rw [gp_gn (by omega), gp_gn (by omega)], by rw [gp_gn (by omega), gp_gn (by omega)]⟩, by rw [gp_gn (by omega), gp_gs], gp_gs _ _ _ _, ?_⟩
            unfold f12_fewest_146
            rw [gp_ckb (by omega) (by omega), gp_eL, gp_ckb (by omega) (by omega), gp_eL, gp_eL, nI_clamp (by omega), nI_1, nI_1]
          obtain ⟨M1, y1, y2, y3, y4, y5⟩ := e146
          cases hmq : gp_mn (gp_eW T l) (gp_Rb (gp_eW T l) j) p (x + 1) with
          | none =>
            rw [if_pos (show (none : Option Nat).isNone = true from rfl), y5]
            refine nxt M1 y1 y2 ?_ ?_
            · rw [gp_mn, if_pos hc, hRx, hmq, y3]; rfl
            · rw [gp_ft, if_pos hc, hRx, hmq]
              exact fun _ => y4
          | some a =>
            have hab := hmb a hmq
            rw [if_neg (by simp), gp_oS]
            by_cases hlt : r + 1 < a
            · rw [if_pos (nI_lt hlt hab), y5]
              refine nxt M1 y1 y2 ?_ ?_
              · rw [gp_mn, if_pos hc, hRx, hmq, y3]
                show nI (r + 1) = gp_o (if r + 1 < a then some (r + 1) else some a)
                rw [if_pos hlt]; rfl
              · rw [gp_ft, if_pos hc, hRx, hmq]
                dsimp only
                rw [if_pos hlt]
                exact fun _ => y4
            · rw [if_neg (nI_nlt (by omega) (by omega))]
              refine nxt M (gp_yL.refl M) (fun q _ => ⟨rfl, rfl⟩) ?_ ?_
              · rw [gp_mn, if_pos hc, hRx, hmq, h31, hmq]
                show gp_o (some a) = gp_o (if r + 1 < a then some (r + 1) else some a)
                rw [if_neg hlt]
              · rw [gp_ft, if_pos hc, hRx, hmq]
                dsimp only
                rw [if_neg hlt]
                exact fun _ => h32 (by rw [hmq]; simp)
    rw [f12_fewest_45, if_neg (nI_ge (by omega) (by omega))]
    by_cases hx0 : x = p
    · rw [if_pos (by rw [hx0]), st]
      exact go
    · rw [if_neg (fun e => hx0 ((nI_eq (by omega) (by omega)).mp e))]
      have hb := gp_ss_lt (T := T) (m := 0) (i := p) hw hm (fun p hp => (hl.2.2 p hp).2) (x - p) (by omega)
      have hb10 := gp_lt10 hw hm hb.2
      by_cases hz : (gp_ss T 0 l p (x - p)).2 = 0
      · have hdead : ∀ q, x + 1 ≤ q → gp_eW T l p q = false := fun q hq => by
          obtain ⟨t, e⟩ : ∃ t, x - p = t + 1 := ⟨x - p - 1, by omega⟩
          rw [e] at hz
          have := gp_eW_dead T l p t (q - x) hz
          rwa [show p + (t + 1 + (q - x)) = q by omega] at this
        have hd := gp_mn_dead (R := gp_Rb (gp_eW T l) j) hdead (j - x)
        rw [show x + 1 + (j - x) = j + 1 by omega] at hd
        refine ⟨M, ?_, gp_yL.refl M, fin x M h24 hS (by rw [hd.1]; exact h31) (by rw [hd.1, hd.2]; exact h32)⟩
        rw [if_pos (by rw [hz]; rfl), gp_eL]
      · rw [if_neg (show ¬ nI (gp_ss T 0 l p (x - p)).2 = (0 : Int32) from fun e => hz ((nI_eq (b := 0) (by omega) (by omega)).mp e)), st]
        exact go
theorem gp_few198 (hj : j ≤ 24) (hij : i ≤ j) {ri : Nat} (hri : gp_Rb (gp_eW T l) j i = some ri) (tot : List Nat) (htot : tot.length ≤ 24) : ∀ (f n p r : Nat) (pre : List Nat) (M : gz_M), j ≤ p + f → f < n → i ≤ p → p ≤ j → gp_Rb (gp_eW T l) j p = some r → pre ++ gp_chn (gp_eW T l) j f p = tot → gp_fwS M T l j i → gp_wR M (gp_crow pre) → ∃ M', f12_fewest_198 n (nI i) (nI j) (nI p) M = some (nI ri, M') ∧ gp_fR M M' ∧ gp_wR M' (gp_crow tot) := by
  intro f
  induction f with
  | zero =>
    intro n p r pre M hpf hn hip hpj hr htt hS hw
    obtain ⟨n, rfl⟩ : ∃ q, n = q + 1 := ⟨n - 1, by omega⟩
    have : p = j := by omega
    subst this
    rw [show gp_chn (gp_eW T l) p 0 p = [] from rfl, List.append_nil] at htt
    subst htt
    refine ⟨M, ?_, gp_fR.refl M, hw⟩
    rw [f12_fewest_198, if_pos (nI_le (Nat.le_refl _) (by omega)), gp_ckb (by omega) (by omega), nI_clamp (by omega), (hS i (Nat.le_refl _) hij).1, hri]
    rfl
  | succ f ih =>
    intro n p r pre M hpf hn hip hpj hr htt hS hw
    obtain ⟨n, rfl⟩ : ∃ q, n = q + 1 := ⟨n - 1, by omega⟩
    rw [gp_chn] at htt
    by_cases hp : p < j
    · obtain ⟨a1, a2, a3, a4, a5, a6⟩ := gp_ftF hj hp hr
      rw [if_pos hp] at htt
      have hv := (hS p hip hpj).2 hp (by rw [hr]; simp)
      have hpre : pre.length < 24 := by
        have := congrArg List.length htt
        simp at this
        omega
      obtain ⟨M1, g1, g2, g3⟩ := gp_tellR (nI (gp_ft (gp_eW T l) (gp_Rb (gp_eW T l) j) p (j + 1))).toInt64 hw (by unfold gp_crow; rw [List.length_map]; omega)
      rw [f12_fewest_198, if_neg (nI_ge hp (by omega)), gp_ckb (by omega) (by omega), nI_clamp (by omega), hv, g1, gp_eB, gp_ckb (by omega) (by omega), gp_eL, g2.1 _ (by omega), hv]
      obtain ⟨M', f1, f2, f3⟩ := ih n (gp_ft (gp_eW T l) (gp_Rb (gp_eW T l) j) p (j + 1)) (r - 1) (pre ++ [gp_ft (gp_eW T l) (gp_Rb (gp_eW T l) j) p (j + 1)]) M1 (by omega) (by omega) (by omega) a3 a5 (by rw [List.append_assoc]; exact htt) (fun y h1 h2 => by
        rw [g2.1 _ (by omega), g2.1 _ (by omega)]
        exact hS y h1 h2) (by
        unfold gp_crow at g3 ⊢
        rw [List.map_append]
        exact g3)
      exact ⟨M', f1, g2.trans f2, f3⟩
    · have : p = j := by omega
      subst this
      rw [if_neg hp, List.append_nil] at htt
      subst htt
      refine ⟨M, ?_, gp_fR.refl M, hw⟩
      rw [f12_fewest_198, if_pos (nI_le (Nat.le_refl _) (by omega)), gp_ckb (by omega) (by omega), nI_clamp (by omega), (hS i (Nat.le_refl _) hij).1, hri]
      rfl
theorem gp_a28 (h : gp_Q B cu Mc Mr T l) (a b : Int32) : gp_ans B cu Mc Mr (f11_fewest a b Mc) (f12_fewest a b Mr) := by
  have hq := h
  obtain ⟨h1, h2, h3, h4, h5, h6, h7, h8⟩ := h
  have hcu := h6.1
  have h24 := h4.1
  have ht : gp_tR (gz_w Mr 0 5 0) T := h3.fr (fun c c1 c2 => gp_wc _ (by omega)) (gp_gn (by omega))
  have hl : gp_lR (gz_w Mr 0 5 0) l := h5.fr (gp_wc _ (by omega))
  rcases gp_strE h4 hl a b with ⟨e1, e2⟩ | ⟨i, j, hij, hj, rfl, rfl, e1, e2⟩
  · refine gp_ansN hq (-1) ?_ ?_
    · unfold f11_fewest; rw [e1]; rfl
    · unfold f12_fewest; rw [gp_eL, e2]; rfl
  · have hj24 : j ≤ 24 := by omega
    obtain ⟨M1, c1, c2, c3⟩ := gp_make9 h1 hij hj h2 h4
    obtain ⟨_, v1, v2⟩ := c3 i (Nat.le_refl _) hij
    -- the end of the reference
    have ende : ∀ (n : Nat) (x : Int32) (M : gz_M), gp_yL (gz_w Mr 0 5 0) M → gp_fwS M T l j i → x = nI i - 1 → f12_fewest_18 (n + 1) (nI i) (nI j) x M = (if gp_o (gp_Rb (gp_eW T l) j i) = -1 then (some ((-2), M)) else f12_fewest_198 gz_FU (nI i) (nI j) (nI i) (gz_w M 0 4 0)) := by
      intro n x M hy hS hx
      subst hx
      rw [f12_fewest_18, if_pos, gp_ckb (by omega) (by omega), nI_clamp (by omega), (hS i (Nat.le_refl _) hij).1]
      · rfl
      · apply Int32.lt_iff_toInt_lt.mpr
        rw [gp_pI (by omega), nI_toInt (by omega)]
        omega
    have run : ∀ (d n t : Nat) (M : gz_M), t + d = j + 1 - i → d < n → gp_yL (gz_w Mr 0 5 0) M → gp_fwS M T l j (j + 1 - t) → ∃ M', gp_yL (gz_w Mr 0 5 0) M' ∧ gp_fwS M' T l j i ∧ f12_fewest_18 n (nI i) (nI j) (gp_dn (j + 1) t) M = (if gp_o (gp_Rb (gp_eW T l) j i) = -1 then (some ((-2), M')) else f12_fewest_198 gz_FU (nI i) (nI j) (nI i) (gz_w M' 0 4 0)) := by
      intro d
      induction d with
      | zero =>
        intro n t M htt hn hy hS
        obtain ⟨n, rfl⟩ : ∃ q, n = q + 1 := ⟨n - 1, by omega⟩
        rw [show j + 1 - t = i by omega] at hS
        refine ⟨M, hy, hS, ende n _ M hy hS ?_⟩
        unfold gp_dn
        rw [show j + 1 - t = i by omega]
      | succ d ih =>
        intro n t M htt hn hy hS
        obtain ⟨n, rfl⟩ : ∃ q, n = q + 1 := ⟨n - 1, by omega⟩
        obtain ⟨p, hp⟩ : ∃ p, p = j - t := ⟨_, rfl⟩
        have hdn : gp_dn (j + 1) t = nI p := by rw [gp_dn_s (by omega)]; congr 1; omega
        have hdn2 : nI p + (-1) = gp_dn (j + 1) (t + 1) := by rw [← hdn, gp_dn_n (by omega)]
        rw [show j + 1 - t = p + 1 by omega] at hS
        rw [f12_fewest_18, hdn, if_neg (nI_nlt (by omega) (by omega)), gp_ckb (by omega) (by omega), gp_ckb (by omega) (by omega), gp_eL, gp_eL, nI_clamp (by omega)]
        by_cases hpj : p = j
        · subst hpj
          rw [if_pos rfl]
          have e45 : f12_fewest_45 (f12_fewest_18 n) gz_FU (nI i) (nI p) (nI p) 0 (nI p) (gz_w M 31 p 0) = f12_fewest_18 n (nI i) (nI p) (nI p + (-1)) (gz_w M 31 p 0) := by
            show f12_fewest_45 _ (999999 + 1) _ _ _ _ _ _ = _
            rw [f12_fewest_45, if_pos (nI_le (Nat.le_refl _) (by omega)), gp_eL]
          rw [e45, hdn2]
          have y0 : gp_yL M (gz_w M 31 p 0) := ⟨rfl, fun c hc => gp_wc _ (by omega)⟩
          refine ih n (t + 1) _ (by omega) (by omega) (hy.trans y0) (fun y h1 h2 => ?_)
          have : y = p := by omega
          subst this
          rw [gp_gs, gp_Rb_j]
          exact ⟨rfl, fun h => absurd h (by omega)⟩
        · rw [if_neg (fun e => hpj ((nI_eq (by omega) (by omega)).mp e))]
          have y0 : gp_yL M (gz_w M 31 p (-1)) := ⟨rfl, fun c hc => gp_wc _ (by omega)⟩
          have yy := hy.trans y0
          obtain ⟨M2, g1, g2, g3⟩ := gp_few45 (T := T) (l := l) (p := p) h1 hij hj (by omega) (by omega) (f12_fewest_18 n) (j - p) gz_FU p (gz_w M 31 p (-1)) (by omega) (by unfold gz_FU; omega) (Nat.le_refl _) (yy.t ht) (yy.ln hl) (fun y a1 a2 => by
            rw [gp_gn (by omega), gp_gn (by omega)]
            exact hS y a1 a2) (by rw [gp_gs, gp_mn_0 _ (by omega)]; rfl) (fun h => absurd (gp_mn_0 _ (by omega)) h)
          rw [Nat.sub_self] at g1
          have g1' : f12_fewest_45 (f12_fewest_18 n) gz_FU (nI i) (nI j) (nI p) 0 (nI p) (gz_w M 31 p (-1)) = _ := g1
          rw [g1', hdn2]
          exact ih n (t + 1) M2 (by omega) (by omega) (yy.trans g2) (by rw [show j + 1 - (t + 1) = p by omega]; exact g3)
    obtain ⟨N1, n1, n2, n3⟩ := run (j + 1 - i) gz_FU 0 (gz_w Mr 0 5 0) (by omega) (by unfold gz_FU; omega) (gp_yL.refl _) (fun y a1 a2 => absurd a1 (by omega))
    rw [gp_dn_0] at n3
    have cc : f11_fewest (nI i) (nI j) Mc = (if gp_o (gp_Rb (gp_eW T l) j i) = -1 then (some ((-2), M1)) else f11_fewest_59 gz_FU (nI i) (nI j) (nI i) (nI (i + 1)) (gz_w M1 0 15 0)) := by
      unfold f11_fewest
      rw [e1, gp_eB2, if_neg (by decide), c1, gp_eB, gp_ckb (by omega) (by omega), nI_clamp (by omega), v2, gp_eL, gp_eL, nI_1]
    have rc : f12_fewest (nI i) (nI j) Mr = (if gp_o (gp_Rb (gp_eW T l) j i) = -1 then (some ((-2), N1)) else f12_fewest_198 gz_FU (nI i) (nI j) (nI i) (gz_w N1 0 4 0)) := by
      unfold f12_fewest
      rw [gp_eL, e2, gp_eB2, if_neg (by decide), n3]
    rw [gp_itO (fun n hn => by have := gp_Rb_b hn; omega)] at cc rc
    cases hR : gp_Rb (gp_eW T l) j i with
    | none =>
      rw [hR, if_pos (show (none : Option Nat).isNone = true from rfl)] at cc rc
      exact gp_ansK (v := -2) cc rc (c2.qq hcu) ((gp_thr 0).1.trans n1.qq) h8 c2.1 (by rw [c2.2 0 (by omega)]) n1.1 (by rw [n1.2 0 (by omega), gp_gn (by omega)])
    | some r =>
      rw [hR, if_neg (by simp)] at cc rc
      have hlen : (gp_chn (gp_eW T l) j 25 i).length ≤ 24 := by
        rcases gp_chn_len hj24 25 i r hR with h | h
        · omega
        · rw [h]; simp
      obtain ⟨Mc', f1, f2, f3⟩ := gp_few59 hij hj24 (gp_chn (gp_eW T l) j 25 i) hlen hR (j - i) gz_FU i (i + 1) r [] (gz_w M1 0 15 0) (by omega) (by unfold gz_FU; omega) (Nat.le_refl _) (by omega) hR (fun hlt => by have := (gp_ftF hj24 hlt hR).2.1; omega) (List.nil_append _) (fun y a1 a2 => by
        rw [gp_gn (by omega), gp_gn (by omega), gp_gn (by omega)]
        exact c3 y a1 a2) (gp_wC0 M1).2
      obtain ⟨Mr', r1, r2, r3⟩ := gp_few198 hj24 hij hR (gp_chn (gp_eW T l) j 25 i) hlen 25 gz_FU i r [] (gz_w N1 0 4 0) (by omega) (by unfold gz_FU; omega) (Nat.le_refl _) hij hR (List.nil_append _) (fun y a1 a2 => by
        rw [gp_gn (by omega), gp_gn (by omega)]
        exact n2 y a1 a2) (gp_wR0 N1).2
      exact gp_ansI (v := nI r) (cc.trans f1) (rc.trans r1) ((c2.qq hcu).trans (((gp_wC0 M1).1.trans f2).qq (by omega))) ((gp_thr 0).1.trans (n1.qq.trans ((gp_wR0 N1).1.trans r2).qq)) f3 r3 (by unfold gp_crow; rw [List.length_map]; omega)
end
