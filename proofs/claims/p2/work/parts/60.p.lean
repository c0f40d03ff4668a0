/-! questions about stretches: 20 longest, 21 matches, 22 stands -/
section
variable {B : Prop} {k k0 k1 m S s x p cu i j : Nat} {M M' Mc Mr Mc' Mr' : gz_M} {T : gp_T} {l : List Nat} {ts : List gp_K} {r : List Int64}
/-! promise 22: stands -/
def gp_tkB (T : gp_T) (m A : Nat) (x : Nat) : Nat := gp_orN (fun s => if A &&& T.2.2 (15 + m) s ≠ 0 then 1 <<< s else 0) x
theorem gp_signsTaken (hw : gp_wT T) (h : gp_tC k0 M T) (hm : m < 4) (A : Nat) (hA : A < 2 ^ 10) : f7_signsTakenBy k0 (nI m) (nI A) M = some (nI (gp_tkB T m A 8), M) := by
  unfold f7_signsTakenBy
  refine gp_forE (fun n x (a : Int32) => f7_signsTakenBy_5 k0 n (nI m) (nI A) a (nI x) M) 8 (fun x a => a = nI (gp_tkB T m A x)) _ (fun n a hI => ?_) (fun n x a hx hI => Or.inr ?_) gz_FU 0 (nI 0) (by omega) (by unfold gz_FU; omega) rfl
  · subst hI
    show f7_signsTakenBy_5 k0 (n + 1) (nI m) (nI A) _ (nI 8) M = _
    rw [f7_signsTakenBy_5, if_pos (by decide)]
  · subst hI
    refine ⟨_, ?_, rfl⟩
    show f7_signsTakenBy_5 k0 (n + 1) (nI m) (nI A) _ (nI x) M = f7_signsTakenBy_5 k0 n (nI m) (nI A) _ (nI (x + 1)) M
    have hlt : A &&& T.2.2 (15 + m) x < 2 ^ 10 := Nat.lt_of_le_of_lt Nat.and_le_left hA
    rw [f7_signsTakenBy_5, if_neg (by exact nI_ge hx (by decide)), gp_takersOf h hm hx, gp_eB2, gp_and]
    by_cases hz : A &&& T.2.2 (15 + m) x = 0
    · have e : gp_tkB T m A (x + 1) = gp_tkB T m A x ||| 0 := by unfold gp_tkB; rw [gp_orN, if_neg (by simp [hz])]
      rw [if_pos (by rw [hz]; rfl), gp_eL, gp_eL, nI_1, e, ← gp_or]
      rfl
    · have e : gp_tkB T m A (x + 1) = gp_tkB T m A x ||| 1 <<< x := by unfold gp_tkB; rw [gp_orN, if_pos hz]
      rw [if_neg (show ¬ nI (A &&& T.2.2 (15 + m) x) = (0 : Int32) from fun e => hz ((nI_eq (b := 0) (by omega) (by omega)).mp e)), gp_eL, gp_eL, nI_1, e, ← gp_or, show (1 : Int32) = nI 1 from rfl, gp_shl1 (by omega)]
theorem gp_a22 (h : gp_Q B cu Mc Mr T l) (a b c : Int32) : gp_ans B cu Mc Mr (f11_stands a b c Mc) (f12_stands a b c Mr) := by
  have hq := h
  obtain ⟨h1, h2, h3, h4, h5, h6, h7, h8⟩ := h
  have hcu := h6.1
  have ht : gp_tR (gz_w Mr 0 5 0) T := h3.fr (fun c c1 c2 => gp_wc _ (by omega)) (gp_gn (by omega))
  have hl : gp_lR (gz_w Mr 0 5 0) l := h5.fr (gp_wc _ (by omega))
  have no : f11_stands a b c Mc = some (-1, Mc) → f12_stands a b c Mr = some (-1, gz_w Mr 0 5 0) → gp_ans B cu Mc Mr (f11_stands a b c Mc) (f12_stands a b c Mr) := gp_ansN hq (-1)
  rcases gp_isModeE a with ⟨_, _, m, hm, rfl⟩ | ⟨_, hE⟩
  · rcases gp_strE h4 hl b c with ⟨e1, e2⟩ | ⟨i, j, hij, hj, rfl, rfl, e1, e2⟩
    · refine no ?_ ?_
      · unfold f11_stands; rw [gp_isMode hm, gp_eB2, if_neg (by decide), e1]; rfl
      · unfold f12_stands; rw [gp_eL, gp_isModeR hm, gp_eB2, if_neg (by decide), e2]; rfl
    · by_cases hz1 : nI i = nI j
      · refine no ?_ ?_
        · unfold f11_stands
          rw [gp_isMode hm, gp_eB2, if_neg (by decide), e1, gp_eB2, if_neg (by decide), if_pos hz1]
        · unfold f12_stands; rw [gp_eL, gp_isModeR hm, gp_eB2, if_neg (by decide), e2, gp_eB2, if_neg (by decide), if_pos hz1]
      · have hS := (gp_ss_lt (T := T) (i := i) h1 hm (fun p hp => (h4.2.2 p hp).2) (j - i) (by omega)).2
        have hS' := gp_lt10 h1 hm hS
        generalize hSe : (gp_ss T m l i (j - i)).2 = S at hS hS'
        have hA := gp_lt10 h1 hm (gp_aft_lt h1 hm S)
        obtain ⟨M2, g1, g2, g3⟩ := gp_tellC (nI (gp_tkB T m (gp_aft T m S) 8)).toInt64 (gp_wC0 Mc).2 (by simp)
        obtain ⟨N2, n1, n2, n3⟩ := gp_tellR (nI (gp_tkB T m (gp_aft T m S) 8)).toInt64 (gp_wR0 (gz_w Mr 0 5 0)).2 (by simp)
        refine gp_ansI (v := gp_bc (nI S)) ?_ ?_ (((gp_wC0 Mc).1.trans g2).qq (by omega)) ((gp_thr 0).1.trans ((gp_wR0 _).1.trans n2).qq) g3 n3 (by simp)
        · have h2' : gp_tC 11 (gz_w Mc 0 15 0) T := h2.fr (fun c c1 c2 => gp_wc _ (by omega))
          unfold f11_stands
          rw [gp_isMode hm, gp_eB2, if_neg (by decide), e1, gp_eB2, if_neg (by decide), if_neg hz1, gp_standing h1 h2 h4 hm hij hj, gp_eB2, hSe, gp_eL, gp_after h2' hm hS', gp_eB2, gp_signsTaken h1 h2' hm _ hA, gp_eB2, g1, gp_eB, gp_bitCount]
          rfl
        · have e87 : ∀ v : Nat, v = gp_tkB T m (gp_aft T m S) 8 → f12_stands_87 (nI S) (nI v) (gz_w Mr 0 5 0) = some (gp_bc (nI S), N2) := by
            intro v hv
            unfold f12_stands_87
            rw [gp_eL, hv, n1, gp_eB, gp_bitCount]
            rfl
          unfold f12_stands
          rw [gp_eL, gp_isModeR hm, gp_eB2, if_neg (by decide), e2, gp_eB2, if_neg (by decide), if_neg hz1, gp_standR h1 ht hl hm hij hj, gp_eB2, hSe]
          refine gp_forE (fun n x (a : Int32) => f12_stands_43 n (nI m) (nI S) a (nI x) (gz_w Mr 0 5 0)) 8 (fun x a => a = nI (gp_tkB T m (gp_aft T m S) x)) _ (fun n a hI => ?_) (fun n x a hx hI => ?_) gz_FU 0 (nI 0) (by omega) (by unfold gz_FU; omega) rfl
          · subst hI
            show f12_stands_43 (n + 1) (nI m) (nI S) _ (nI 8) _ = _
            rw [f12_stands_43, if_pos (by decide), e87 _ rfl]
          · subst hI
            show f12_stands_43 (n + 1) (nI m) (nI S) _ (nI x) _ = _ ∨ ∃ s', f12_stands_43 (n + 1) (nI m) (nI S) _ (nI x) _ = f12_stands_43 n (nI m) (nI S) s' (nI (x + 1)) _ ∧ s' = nI (gp_tkB T m (gp_aft T m S) (x + 1))
            rw [f12_stands_43, if_neg (by exact nI_ge hx (by decide))]
            by_cases hz : S = 0
            · left
              subst hz
              rw [if_pos nI_0]
              refine e87 _ ?_
              have : ∀ n, gp_tkB T m (gp_aft T m 0) n = 0 := by
                intro n
                induction n with
                | zero => rfl
                | succ n ih =>
                  unfold gp_tkB at ih ⊢
                  rw [gp_orN, ih, gp_aft0]
                  simp
              rw [this, this]
            · right
              rw [if_neg (show ¬ nI S = (0 : Int32) from fun e => hz ((nI_eq (b := 0) (by omega) (by omega)).mp e)), gp_stepR h1 ht hm hx hS, gp_eB2]
              have hlt : gp_st T m S x < 2 ^ 10 := gp_lt10 h1 hm (gp_st_lt h1 hm S x)
              by_cases hz : gp_st T m S x = 0
              · have e : gp_tkB T m (gp_aft T m S) (x + 1) = gp_tkB T m (gp_aft T m S) x ||| 0 := by unfold gp_tkB; rw [gp_orN, if_neg (by simpa [gp_st] using hz)]
                refine ⟨_, ?_, rfl⟩
                rw [if_pos (by rw [hz]; rfl), gp_eL, gp_eL, nI_1, e, ← gp_or]
                rfl
              · have e : gp_tkB T m (gp_aft T m S) (x + 1) = gp_tkB T m (gp_aft T m S) x ||| 1 <<< x := by unfold gp_tkB; rw [gp_orN, if_pos (show gp_aft T m S &&& T.2.2 (15 + m) x ≠ 0 from hz)]
                refine ⟨_, ?_, rfl⟩
                rw [if_neg (show ¬ nI (gp_st T m S x) = (0 : Int32) from fun e => hz ((nI_eq (b := 0) (by omega) (by omega)).mp e)), gp_eL, gp_eL, nI_1, e, ← gp_or, show (1 : Int32) = nI 1 from rfl, gp_shl1 (by omega)]
  · refine no ?_ ?_
    · unfold f11_stands; rw [(hE _).1]; rfl
    · unfold f12_stands; rw [gp_eL, (hE _).2]; rfl
end
