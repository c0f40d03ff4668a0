/-! promise 27: ways -/
theorem gp_Ww_b {E : Nat → Nat → Bool} {i : Nat} : ∀ p q n, gp_Ww E i p q = some n → n ≤ p
  | 0, q, n, h => by
    rw [gp_Ww] at h
    split at h <;> simp at h
    omega
  | p + 1, q, n, h => by
    rw [gp_Ww] at h
    split at h
    · exact gp_mrg_b (fun n h => by have := gp_Ww_b p q n h; omega) (fun n h => gp_Ww_b p p n h) h
    · have := gp_Ww_b p q n h
      omega
section
variable {B : Prop} {k k0 k1 m S s x p cu i j nx : Nat} {M M' Mc Mr Mc' Mr' : gz_M} {T : gp_T} {l : List Nat}
/-- what the reference's ways leave -/
def gp_yL (M M' : gz_M) : Prop := M'.2 = M.2 ∧ ∀ c, c < 29 ∨ 33 ≤ c → M'.1 c = M.1 c
theorem gp_yL.refl (M : gz_M) : gp_yL M M := ⟨rfl, fun _ _ => rfl⟩
theorem gp_yL.trans {M1 M2 M3 : gz_M} (a : gp_yL M1 M2) (b : gp_yL M2 M3) : gp_yL M1 M3 := ⟨b.1.trans a.1, fun c hc => (b.2 c hc).trans (a.2 c hc)⟩
theorem gp_yL.t (h : gp_yL M M') (ht : gp_tR M T) : gp_tR M' T := ht.fr (fun c c1 c2 => h.2 c (by omega)) (by rw [h.2 0 (by omega)])
theorem gp_yL.ln (h : gp_yL M M') (hl : gp_lR M l) : gp_lR M' l := hl.fr (h.2 1 (by omega))
def gp_wyS (M : gz_M) (T : gp_T) (l : List Nat) (i j p x : Nat) : Prop := ∀ q, i ≤ q → q ≤ j → M.1 29 q = nI (min 1000000 (if q ≤ x then gp_Aw (gp_eW T l) i (p + 1) q else gp_Aw (gp_eW T l) i p q)) ∧ M.1 30 q = gp_o (if q ≤ x then gp_Ww (gp_eW T l) i (p + 1) q else gp_Ww (gp_eW T l) i p q)
theorem gp_wy_st (hp : i ≤ p) (q : Nat) (hc : ¬ (p < q ∧ gp_eW T l p q = true)) : gp_Aw (gp_eW T l) i (p + 1) q = gp_Aw (gp_eW T l) i p q ∧ gp_Ww (gp_eW T l) i (p + 1) q = gp_Ww (gp_eW T l) i p q := by
  constructor
  · rw [gp_Aw, if_neg (fun h => hc h.2), Nat.add_zero]
  · rw [gp_Ww, if_neg (fun h => hc h.2)]
theorem gp_ways74 (hw : gp_wT T) (hij : i ≤ j) (hj : j ≤ l.length) (hip : i ≤ p) (hpj : p < j) (c63 : Int32 → Int32 → gz_M → Option (Int32 × gz_M)) : ∀ (d n x : Nat) (M : gz_M), x + d = j → d < n → p ≤ x → gp_tR M T → gp_lR M l → gp_wyS M T l i j p x → ∃ M', f12_ways_74 c63 n (nI j) (nI p) (nI (gp_ss T 0 l p (x - p)).2) (nI x) M = c63 (nI j) (nI (p + 1)) M' ∧ gp_yL M M' ∧ gp_wyS M' T l i j p j := by
  have hm : 0 < 4 := by decide
  intro d
  induction d with
  | zero =>
    intro n x M hx hn hpx ht hl hS
    have h24 := hl.1
    obtain ⟨n, rfl⟩ : ∃ q, n = q + 1 := ⟨n - 1, by omega⟩
    have : x = j := by omega
    subst this
    refine ⟨M, ?_, gp_yL.refl M, hS⟩
    rw [f12_ways_74, if_pos (nI_le (Nat.le_refl _) (by omega)), gp_eL, nI_1]
  | succ d ih =>
    intro n x M hx hn hpx ht hl hS
    have h24 := hl.1
    obtain ⟨n, rfl⟩ : ∃ q, n = q + 1 := ⟨n - 1, by omega⟩
    obtain ⟨p29, p30⟩ := hS p hip (by omega)
    rw [if_pos hpx, (gp_wy_st hip p (fun h => by omega)).1] at p29
    rw [if_pos hpx, (gp_wy_st hip p (fun h => by omega)).2] at p30
    rw [f12_ways_74, if_neg (nI_ge (by omega) (by omega)), gp_ckb (by omega) (by omega), nI_clamp (by omega), p29]
    -- an early end
    have early : (∀ q, x < q → q ≤ j → gp_Aw (gp_eW T l) i (p + 1) q = gp_Aw (gp_eW T l) i p q ∧ gp_Ww (gp_eW T l) i (p + 1) q = gp_Ww (gp_eW T l) i p q) → gp_wyS M T l i j p j := by
      intro he q h1 h2
      have := hS q h1 h2
      rw [if_pos h2, if_pos h2]
      by_cases hq : q ≤ x
      · rw [if_pos hq, if_pos hq] at this
        exact this
      · rw [if_neg hq, if_neg hq, ← (he q (by omega) h2).1, ← (he q (by omega) h2).2] at this
        exact this
    by_cases hA : gp_Aw (gp_eW T l) i p p = 0
    · refine ⟨M, ?_, gp_yL.refl M, early (fun q h1 h2 => ?_)⟩
      · rw [hA, if_pos (by decide), gp_eL, nI_1]
      · have hW := (gp_AW p p).mp hA
        constructor
        · rw [gp_Aw, hA]
          simp
        · rw [gp_Ww, hW]
          split
          · cases gp_Ww (gp_eW T l) i p q <;> rfl
          · rfl
    · rw [if_neg (by exact nI_nle (show 0 < min 1000000 (gp_Aw (gp_eW T l) i p p) by omega) (by omega))]
      -- the step
      have st : f12_ways_100 c63 (f12_ways_74 c63 n) (nI j) (nI p) (nI (gp_ss T 0 l p (x - p)).2) (nI x) M = f12_ways_115 c63 (f12_ways_74 c63 n) (nI j) (nI p) (nI x) (if x - p = 0 then 1 else 0) (nI (gp_ss T 0 l p (x - p)).2) 0 M := by
        unfold f12_ways_100
        by_cases hx0 : x = p
        · rw [if_pos (by rw [hx0]), if_pos (by omega)]
        · rw [if_neg (fun e => hx0 ((nI_eq (by omega) (by omega)).mp e)), if_neg (by omega)]
      have hb1 := gp_ss_lt (T := T) (m := 0) (i := p) hw hm (fun p hp => (hl.2.2 p hp).2) (x - p + 1) (by omega)
      have hx11 := gp_lt10 hw hm hb1.2
      have go : ∃ M', f12_ways_115 c63 (f12_ways_74 c63 n) (nI j) (nI p) (nI x) (if x - p = 0 then 1 else 0) (nI (gp_ss T 0 l p (x - p)).2) 0 M = c63 (nI j) (nI (p + 1)) M' ∧ gp_yL M M' ∧ gp_wyS M' T l i j p j := by
        have e := gp_stepS (i := p) (m := 0) hw ht hl hm (x - p) (by omega) (if x - p = 0 then 1 else 0) rfl
        rw [show p + (x - p) = x by omega] at e
        unfold f12_ways_115
        have hck : gz_inb (82 + nI x) 106 = true := by rw [show (82 : Int32) = nI 82 from rfl, nI_add]; exact gp_inb (by omega) (by omega)
        rw [hck, gp_eC] at e ⊢
        have e' : f12_step 0 (nI (gp_ss T 0 l p (x - p)).2) (if x - p = 0 then 1 else 0) (M.1 1 (82 + nI x).toNatClampNeg) M = some (nI (gp_ss T 0 l p (x - p + 1)).2, M) := e
        have ew : f12_winner 0 (nI (gp_ss T 0 l p (x - p + 1)).2) M = _ := gp_winR hw ht hm hx11
        rw [e', gp_eB2, ew, gp_eB2, gp_itW hw]
        have hEW : gp_eW T l p (x + 1) = (gp_win T 0 (gp_ss T 0 l p (x - p + 1)).2).isSome := by
          unfold gp_eW
          rw [show x + 1 - p = x - p + 1 by omega]
        obtain ⟨q29, q30⟩ := hS (x + 1) (by omega) (by omega)
        rw [if_neg (by omega)] at q29 q30
        have fin : ∀ M1 : gz_M, gp_yL M M1 → gp_wyS M1 T l i j p (x + 1) → ∃ M', f12_ways_74 c63 n (nI j) (nI p) (nI (gp_ss T 0 l p (x - p + 1)).2) (nI (x + 1)) M1 = c63 (nI j) (nI (p + 1)) M' ∧ gp_yL M M' ∧ gp_wyS M' T l i j p j := by
          intro M1 y1 s1
          have := ih n (x + 1) M1 (by omega) (by omega) (by omega) (y1.t ht) (y1.ln hl) s1
          rw [show x + 1 - p = x - p + 1 by omega] at this
          obtain ⟨M', f1, f2, f3⟩ := this
          exact ⟨M', f1, y1.trans f2, f3⟩
        cases hwin : gp_win T 0 (gp_ss T 0 l p (x - p + 1)).2 with
        | none =>
          rw [if_pos (show (none : Option Nat).isNone = true from rfl), gp_eL, nI_1]
          refine fin M (gp_yL.refl M) (fun q h1 h2 => ?_)
          have hq := hS q h1 h2
          by_cases hqx : q = x + 1
          · subst hqx
            have hne : ¬ (p < x + 1 ∧ gp_eW T l p (x + 1) = true) := fun h => by rw [hEW, hwin] at h; simp at h
            rw [if_pos (Nat.le_refl _), if_pos (Nat.le_refl _), (gp_wy_st hip _ hne).1, (gp_wy_st hip _ hne).2]
            exact ⟨q29, q30⟩
          · by_cases hq1 : q ≤ x
            · rw [if_pos hq1, if_pos hq1] at hq
              rw [if_pos (by omega), if_pos (by omega)]
              exact hq
            · rw [if_neg hq1, if_neg hq1] at hq
              rw [if_neg (by omega), if_neg (by omega)]
              exact hq
        | some w =>
          have hc : i ≤ p ∧ p < x + 1 ∧ gp_eW T l p (x + 1) = true := ⟨hip, by omega, by rw [hEW, hwin]; rfl⟩
          have hAs : gp_Aw (gp_eW T l) i (p + 1) (x + 1) = gp_Aw (gp_eW T l) i p (x + 1) + gp_Aw (gp_eW T l) i p p := by rw [gp_Aw, if_pos hc]
          have hWs : gp_Ww (gp_eW T l) i (p + 1) (x + 1) = gp_mrg (gp_Ww (gp_eW T l) i p (x + 1)) (gp_Ww (gp_eW T l) i p p) := by rw [gp_Ww, if_pos hc]
          obtain ⟨v, hv⟩ : ∃ v, gp_Ww (gp_eW T l) i p p = some v := by
            cases hWp : gp_Ww (gp_eW T l) i p p with
            | none => exact absurd ((gp_AW p p).mpr hWp) hA
            | some v => exact ⟨v, rfl⟩
          have hvb := gp_Ww_b p p v hv
          rw [hv] at p30 hWs
          have hmin : gz_min 1000000 (nI (min 1000000 (gp_Aw (gp_eW T l) i p (x + 1))) + nI (min 1000000 (gp_Aw (gp_eW T l) i p p))) = nI (min 1000000 (gp_Aw (gp_eW T l) i (p + 1) (x + 1))) := by
            rw [show (1000000 : Int32) = nI 1000000 from rfl, nI_add, gp_min (by omega) (by omega), hAs]
            congr 1
            omega
          rw [if_neg (by simp), show nI x + 1 = nI (x + 1) from nI_1 x, gp_ckb (by omega) (by omega), gp_ckb (by omega) (by omega), gp_ckb (by omega) (by omega), gp_eL, nI_clamp (by omega), nI_clamp (by omega), q29, p29, hmin, gp_ckb (by omega) (by omega), gp_gn (by omega), q30, gp_itO (fun n hn => by have := gp_Ww_b p (x + 1) n hn; omega), gp_ckb (by omega) (by omega), gp_ckb (by omega) (by omega), gp_gn (by omega), p30]
          -- the memory behind it
          have s29 : ∀ M1 : gz_M, (∀ q, q ≠ x + 1 → M1.1 29 q = M.1 29 q ∧ M1.1 30 q = M.1 30 q) → M1.1 29 (x + 1) = nI (min 1000000 (gp_Aw (gp_eW T l) i (p + 1) (x + 1))) → M1.1 30 (x + 1) = gp_o (gp_Ww (gp_eW T l) i (p + 1) (x + 1)) → gp_wyS M1 T l i j p (x + 1) := by
            intro M1 u1 u2 u3 q h1 h2
            have hq := hS q h1 h2
            by_cases hqx : q = x + 1
            · subst hqx
              rw [if_pos (Nat.le_refl _), if_pos (Nat.le_refl _)]
              exact ⟨u2, u3⟩
            · rw [(u1 q hqx).1, (u1 q hqx).2]
              by_cases hq1 : q ≤ x
              · rw [if_pos hq1, if_pos hq1] at hq
                rw [if_pos (by omega), if_pos (by omega)]
                exact hq
              · rw [if_neg hq1, if_neg hq1] at hq
                rw [if_neg (by omega), if_neg (by omega)]
                exact hq
          have e208 : (gp_mrg (gp_Ww (gp_eW T l) i p (x + 1)) (some v)) = some (v + 1) → ∃ M', f12_ways_208 c63 (f12_ways_74 c63 n) (nI j) (nI p) (nI (gp_ss T 0 l p (x - p + 1)).2) (nI x) (gz_w M 29 (x + 1) (nI (min 1000000 (gp_Aw (gp_eW T l) i (p + 1) (x + 1))))) = c63 (nI j) (nI (p + 1)) M' ∧ gp_yL M M' ∧ gp_wyS M' T l i j p j := by
            intro hmr
            unfold f12_ways_208
            rw [gp_ckb (by omega) (by omega), show nI x + 1 = nI (x + 1) from nI_1 x, gp_ckb (by omega) (by omega), gp_eL, nI_clamp (by omega), nI_clamp (by omega), gp_gn (by omega), p30, gp_oS, nI_1, gp_eL]
            refine fin _ ⟨rfl, fun c hc => by rw [gp_wc _ (by omega), gp_wc _ (by omega)]⟩ (s29 _ (fun q hq => ⟨?_, ?_⟩) ?_ ?_)
            · rw [gp_gn (by omega), gp_gn (by omega)]
            · rw [gp_gn (by omega), gp_gn (by omega)]
            · rw [gp_gn (by omega), gp_gs]
            · rw [gp_gs, hWs, hmr]; rfl
          cases hWx : gp_Ww (gp_eW T l) i p (x + 1) with
          | none =>
            rw [if_pos (show (none : Option Nat).isNone = true from rfl)]
            exact e208 (by rw [hWx]; rfl)
          | some u =>
            have hub := gp_Ww_b p (x + 1) u hWx
            rw [if_neg (by simp), gp_oS, gp_oS, nI_1]
            by_cases hlt : v + 1 < u
            · rw [if_neg (nI_ge hlt (by omega))]
              exact e208 (by rw [hWx]; show (if v + 1 < u then some (v + 1) else some u) = _; rw [if_pos hlt])
            · rw [if_pos (nI_le (by omega) (by omega)), gp_eL]
              refine fin _ ⟨rfl, fun c hc => by rw [gp_wc _ (by omega)]⟩ (s29 _ (fun q hq => ⟨?_, ?_⟩) ?_ ?_)
              · rw [gp_gn (by omega)]
              · rw [gp_gn (by omega)]
              · rw [gp_gs]
              · rw [gp_gn (by omega), q30, hWs, hWx]
                show gp_o (some u) = gp_o (if v + 1 < u then some (v + 1) else some u)
                rw [if_neg hlt]
      by_cases hx0 : x = p
      · rw [if_pos (by rw [hx0]), st]
        exact go
      · rw [if_neg (fun e => hx0 ((nI_eq (by omega) (by omega)).mp e))]
        have hb := gp_ss_lt (T := T) (m := 0) (i := p) hw hm (fun p hp => (hl.2.2 p hp).2) (x - p) (by omega)
        have hb10 := gp_lt10 hw hm hb.2
        by_cases hz : (gp_ss T 0 l p (x - p)).2 = 0
        · refine ⟨M, ?_, gp_yL.refl M, early (fun q h1 h2 => gp_wy_st hip q (fun h => ?_))⟩
          · rw [if_pos (by rw [hz]; rfl), gp_eL, nI_1]
          · obtain ⟨t, e⟩ : ∃ t, x - p = t + 1 := ⟨x - p - 1, by omega⟩
            rw [e] at hz
            have := gp_eW_dead T l p t (q - x) hz
            rw [show p + (t + 1 + (q - x)) = q by omega] at this
            rw [this] at h
            exact absurd h.2 (by simp)
        · rw [if_neg (show ¬ nI (gp_ss T 0 l p (x - p)).2 = (0 : Int32) from fun e => hz ((nI_eq (b := 0) (by omega) (by omega)).mp e)), st]
          exact go
end
