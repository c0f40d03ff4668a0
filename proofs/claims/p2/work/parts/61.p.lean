/-! questions about stretches: 20 longest -/
def gp_best (p : Nat) (r : Option Nat) (b : Nat) : Int32 := if r.isSome = true then nI (b - p) else -2
section
variable {B : Prop} {k k0 k1 m S s x p cu i j : Nat} {M M' Mc Mr Mc' Mr' : gz_M} {T : gp_T} {l : List Nat} {ts : List gp_K} {r : List Int64}
theorem gp_win0 (T : gp_T) (m : Nat) : gp_win T m 0 = none := by
  cases e : gp_win T m 0 with
  | none => rfl
  | some j => exact absurd (Nat.and_zero _) (gp_win_some e).2.2
theorem gp_longR (hw : gp_wT T) (h : gp_tR M T) (hl : gp_lR M l) (hm : m < 4) (hp : p ≤ l.length) : ∀ (d n x b : Nat) (r : Option Nat), x + d = l.length → d < n → p ≤ x →
    f12_longest_41 n (nI m) (nI p) (nI (gp_ss T m l p (x - p)).2) (gp_best p r b) (gp_o r) (nI x) M = f12_longest_126 (gp_best p (gp_rm T m gp_F0 (l.drop x) x (gp_ss T m l p (x - p)).1 r b).1 (gp_rm T m gp_F0 (l.drop x) x (gp_ss T m l p (x - p)).1 r b).2.1) (gp_o (gp_rm T m gp_F0 (l.drop x) x (gp_ss T m l p (x - p)).1 r b).1) M := by
  have hl1 := hl.1
  intro d
  induction d with
  | zero =>
    intro n x b r hx hn hpx
    obtain ⟨n, rfl⟩ : ∃ q, n = q + 1 := ⟨n - 1, by omega⟩
    have : x = l.length := by omega
    subst this
    rw [f12_longest_41, gp_c81, gp_k81, hl.2.1, if_pos (nI_le (Nat.le_refl _) (by omega)), List.drop_length]
    rfl
  | succ d ih =>
    intro n x b r hx hn hpx
    obtain ⟨n, rfl⟩ : ∃ q, n = q + 1 := ⟨n - 1, by omega⟩
    have hs := (hl.2.2 x (by omega)).2
    have hss := gp_ss_lt (T := T) (i := p) hw hm (fun p hp => (hl.2.2 p hp).2) (x - p + 1) (by omega)
    have hS : (gp_ss T m l p (x - p + 1)).2 = (gp_ss T m l p (x - p)).1 &&& T.2.2 (15 + m) (l.getD x 0) := by
      show (gp_ss T m l p (x - p)).1 &&& T.2.2 (15 + m) (l.getD (p + (x - p)) 0) = _
      rw [show p + (x - p) = x by omega]
    have hN : (gp_ss T m l p (x - p + 1)).1 = gp_aft T m (gp_ss T m l p (x - p + 1)).2 := rfl
    have hx1 : x - p + 1 = x + 1 - p := by omega
    have hS10 := gp_lt10 hw hm hss.2
    rw [f12_longest_41, gp_c81, gp_k81, hl.2.1, if_neg (nI_ge (by omega) (by omega)), gp_drop (by omega : x < l.length), gp_rm, ← hS]
    have e63 : f12_longest_63 (f12_longest_41 n) (nI m) (nI p) (nI (gp_ss T m l p (x - p)).2) (gp_best p r b) (gp_o r) (nI x) M = f12_longest_41 n (nI m) (nI p) (nI (gp_ss T m l p (x + 1 - p)).2) (gp_best p ((gp_win T m (gp_ss T m l p (x - p + 1)).2).or r) (if (gp_win T m (gp_ss T m l p (x - p + 1)).2).isSome = true then x + 1 else b)) (gp_o ((gp_win T m (gp_ss T m l p (x - p + 1)).2).or r)) (nI (x + 1)) M := by
      have e77 : ∀ s0 : Int32, (s0 = if x - p = 0 then 1 else 0) → f12_longest_77 (f12_longest_41 n) (nI m) (nI p) (gp_best p r b) (gp_o r) (nI x) s0 (nI (gp_ss T m l p (x - p)).2) (nI m) M = f12_longest_41 n (nI m) (nI p) (nI (gp_ss T m l p (x + 1 - p)).2) (gp_best p ((gp_win T m (gp_ss T m l p (x - p + 1)).2).or r) (if (gp_win T m (gp_ss T m l p (x - p + 1)).2).isSome = true then x + 1 else b)) (gp_o ((gp_win T m (gp_ss T m l p (x - p + 1)).2).or r)) (nI (x + 1)) M := by
        intro s0 hs0
        have e := gp_stepS (i := p) hw h hl hm (x - p) (by omega) s0 hs0
        rw [show p + (x - p) = x by omega] at e
        unfold f12_longest_77
        have hck : gz_inb (82 + nI x) 106 = true := by rw [show (82 : Int32) = nI 82 from rfl, nI_add]; exact gp_inb (by omega) (by omega)
        rw [hck, gp_eC] at e ⊢
        rw [e, gp_eB2, gp_winR hw h hm hS10, gp_eB2, hx1]
        cases hwin : gp_win T m (gp_ss T m l p (x + 1 - p)).2 with
        | none =>
          rw [if_pos (by rfl), gp_eL, nI_1]
          rfl
        | some j =>
          have hj := (gp_win_some hwin).1
          have hw1 := hw.1
          rw [if_neg (by rw [gp_m1, gp_oS, gp_ne1 (by omega)]; exact id), gp_eL, gp_eL, nI_1, pk_sub (by omega)]
          rfl
      unfold f12_longest_63
      by_cases hx0 : x = p
      · rw [if_pos (by rw [hx0]), e77 1 (by rw [if_pos (by omega)])]
      · rw [if_neg (fun e => hx0 ((nI_eq (by omega) (by omega)).mp e)), e77 0 (by rw [if_neg (by omega)])]
    rw [e63]
    have go := ih n (x + 1) (if (gp_win T m (gp_ss T m l p (x - p + 1)).2).isSome = true then x + 1 else b) ((gp_win T m (gp_ss T m l p (x - p + 1)).2).or r) (by omega) (by omega) (by omega)
    -- where it goes on: dead or not
    have goD : (gp_ss T m l p (x - p + 1)).2 = 0 → f12_longest_41 n (nI m) (nI p) (nI (gp_ss T m l p (x + 1 - p)).2) (gp_best p ((gp_win T m (gp_ss T m l p (x - p + 1)).2).or r) (if (gp_win T m (gp_ss T m l p (x - p + 1)).2).isSome = true then x + 1 else b)) (gp_o ((gp_win T m (gp_ss T m l p (x - p + 1)).2).or r)) (nI (x + 1)) M = f12_longest_126 (gp_best p r b) (gp_o r) M := by
      intro hz
      rw [go, ← hx1, hN, hz, gp_win0, gp_aft0]
      have : ∀ (L : List Nat) (q : Nat), (gp_rm T m gp_F0 L q 0 ((none : Option Nat).or r) (if (none : Option Nat).isSome = true then x + 1 else b)).1 = r ∧ (gp_rm T m gp_F0 L q 0 ((none : Option Nat).or r) (if (none : Option Nat).isSome = true then x + 1 else b)).2.1 = b := by
        intro L q
        cases L with
        | nil => exact ⟨rfl, rfl⟩
        | cons s L => rw [gp_rm, Nat.zero_and, if_pos rfl]; exact ⟨rfl, rfl⟩
      rw [(this _ _).1, (this _ _).2]
    have main : (f12_longest_41 n (nI m) (nI p) (nI (gp_ss T m l p (x + 1 - p)).2) (gp_best p ((gp_win T m (gp_ss T m l p (x - p + 1)).2).or r) (if (gp_win T m (gp_ss T m l p (x - p + 1)).2).isSome = true then x + 1 else b)) (gp_o ((gp_win T m (gp_ss T m l p (x - p + 1)).2).or r)) (nI (x + 1)) M) = f12_longest_126 (gp_best p (if (gp_ss T m l p (x - p + 1)).2 = 0 then (r, b, x + 1, some x, ([] : List Nat)) else gp_rm T m gp_F0 (l.getD x 0 :: l.drop (x + 1)) x (gp_ss T m l p (x - p)).1 r b).1 (if (gp_ss T m l p (x - p + 1)).2 = 0 then (r, b, x + 1, some x, ([] : List Nat)) else gp_rm T m gp_F0 (l.getD x 0 :: l.drop (x + 1)) x (gp_ss T m l p (x - p)).1 r b).2.1) (gp_o (if (gp_ss T m l p (x - p + 1)).2 = 0 then (r, b, x + 1, some x, ([] : List Nat)) else gp_rm T m gp_F0 (l.getD x 0 :: l.drop (x + 1)) x (gp_ss T m l p (x - p)).1 r b).1) M := by
      by_cases hz : (gp_ss T m l p (x - p + 1)).2 = 0
      · rw [goD hz]
        simp only [hz, if_true]
      · simp only [hz, if_false]
        rw [go, gp_rm, ← hS, if_neg hz, hx1]
        simp only [gp_F0, Bool.false_eq_true, if_false]
        rw [← hx1, hN, hx1]
    have fin : (if nI x = nI p then (f12_longest_41 n (nI m) (nI p) (nI (gp_ss T m l p (x + 1 - p)).2) (gp_best p ((gp_win T m (gp_ss T m l p (x - p + 1)).2).or r) (if (gp_win T m (gp_ss T m l p (x - p + 1)).2).isSome = true then x + 1 else b)) (gp_o ((gp_win T m (gp_ss T m l p (x - p + 1)).2).or r)) (nI (x + 1)) M) else if nI (gp_ss T m l p (x - p)).2 = 0 then f12_longest_126 (gp_best p r b) (gp_o r) M else (f12_longest_41 n (nI m) (nI p) (nI (gp_ss T m l p (x + 1 - p)).2) (gp_best p ((gp_win T m (gp_ss T m l p (x - p + 1)).2).or r) (if (gp_win T m (gp_ss T m l p (x - p + 1)).2).isSome = true then x + 1 else b)) (gp_o ((gp_win T m (gp_ss T m l p (x - p + 1)).2).or r)) (nI (x + 1)) M)) = (f12_longest_41 n (nI m) (nI p) (nI (gp_ss T m l p (x + 1 - p)).2) (gp_best p ((gp_win T m (gp_ss T m l p (x - p + 1)).2).or r) (if (gp_win T m (gp_ss T m l p (x - p + 1)).2).isSome = true then x + 1 else b)) (gp_o ((gp_win T m (gp_ss T m l p (x - p + 1)).2).or r)) (nI (x + 1)) M) := by
      by_cases hx0 : x = p
      · rw [if_pos (by rw [hx0])]
      · rw [if_neg (fun e => hx0 ((nI_eq (by omega) (by omega)).mp e))]
        by_cases hz : (gp_ss T m l p (x - p)).2 = 0
        · rw [if_pos (by rw [hz]; rfl)]
          obtain ⟨t, e⟩ : ∃ t, x - p = t + 1 := ⟨x - p - 1, by omega⟩
          have hd := (gp_ss_dead T m l p t 1 (by rw [← e]; exact hz)).1
          rw [goD (by rw [e]; exact hd)]
        · have h1 := gp_ss_lt (T := T) (i := p) hw hm (fun p hp => (hl.2.2 p hp).2) (x - p) (by omega)
          have := gp_lt10 hw hm h1.2
          rw [if_neg (show ¬ nI (gp_ss T m l p (x - p)).2 = (0 : Int32) from fun e => hz ((nI_eq (b := 0) (by omega) (by omega)).mp e))]
    rw [fin, main]
    by_cases hz : (gp_ss T m l p (x - p + 1)).2 = 0
    · simp only [hz, if_true]
    · simp only [hz, if_false]
      rw [gp_rm, ← hS, if_neg hz]
theorem gp_a20 (h : gp_Q B cu Mc Mr T l) (a b : Int32) : gp_ans B cu Mc Mr (f11_longest a b Mc) (f12_longest a b Mr) := by
  have hq := h
  obtain ⟨h1, h2, h3, h4, h5, h6, h7, h8⟩ := h
  have hcu := h6.1
  have h24 := h4.1
  have ht : gp_tR (gz_w Mr 0 5 0) T := h3.fr (fun c c1 c2 => gp_wc _ (by omega)) (gp_gn (by omega))
  have hl : gp_lR (gz_w Mr 0 5 0) l := h5.fr (gp_wc _ (by omega))
  have no : f11_longest a b Mc = some (-1, Mc) → f12_longest a b Mr = some (-1, gz_w Mr 0 5 0) → gp_ans B cu Mc Mr (f11_longest a b Mc) (f12_longest a b Mr) := gp_ansN hq (-1)
  have hin : nI l.length = nI (l.length + 1) - 1 := (nI_pred _).symm
  rcases gp_isModeE a with ⟨_, _, m, hm, rfl⟩ | ⟨_, hE⟩
  · have cc : f11_longest (nI m) b Mc = (if b < 0 then (some ((-1), Mc)) else (if b ≤ nI l.length then (gz_bd (f2_readFrom (90 - cu) 11 9 (nI m) b Mc) fun M7 => if (M7.1 (gz_cIx (M7.1 0 8)) 12) = (-1) then (some ((-2), M7)) else (gz_lt (gz_w M7 0 15 0) fun M10 => gz_bd (f11_tell ((M10.1 (gz_cIx (M10.1 0 8)) 12).toInt64) M10) fun M11 => some ((M11.1 (gz_cIx (M11.1 0 8)) 13) - b, M11))) else (some ((-1), Mc)))) := by
      unfold f11_longest
      rw [gp_isMode hm, gp_eB2, if_neg (by decide), h7, show (7 + 2 : Nat) = 9 from rfl, h4.2.1]
    have rc : f12_longest (nI m) b Mr = (gz_bd2 (f12_in b 0 (nI (l.length + 1) - 1) (gz_w Mr 0 5 0)) fun v7 M8 => if v7 = 0 then (some ((-1), M8)) else (f12_longest_41 gz_FU (nI m) b 0 (-2) (-1) b M8)) := by
      unfold f12_longest
      rw [gp_eL, gp_isModeR hm, gp_eB2, if_neg (by decide), gp_c81, gp_k81, hl.2.1, hin]
    rcases pk_ix b (n := l.length + 1) (by omega) with hb | hb | ⟨p, hp, rfl⟩
    · refine no ?_ ?_
      · rw [cc, if_pos hb]
      · rw [rc, gp_in0 _ _ hb]; rfl
    · have h0 : ¬ b < 0 := by
        intro hlt
        have a1 := Int32.le_iff_toInt_le.mp hb
        have a2 := Int32.lt_iff_toInt_lt.mp hlt
        rw [nI_toInt (by omega)] at a1
        rw [show ((0 : Int32)).toInt = 0 by decide] at a2
        omega
      refine no ?_ ?_
      · rw [cc, if_neg h0, if_neg (fun hh => by
          have a1 := Int32.le_iff_toInt_le.mp hb
          have a2 := Int32.le_iff_toInt_le.mp hh
          rw [nI_toInt (by omega)] at a1
          rw [nI_toInt (by omega)] at a2
          omega)]
      · rw [rc, gp_in0b _ (by omega) h0 hb]; rfl
    · have hpl : p ≤ l.length := by omega
      obtain ⟨M1, e1, e2, e3, e4, e5, e6, _⟩ := gp_readFrom (k := 90 - cu) (p := p) h1 hm (by omega) (by omega) h2 h4 hpl
      have rr := gp_longR h1 ht hl hm hpl (l.length - p) gz_FU p p none (by omega) (by unfold gz_FU; omega) (Nat.le_refl _)
      rw [Nat.sub_self] at rr
      have hss0 : (gp_ss T m l p 0).1 = T.2.2 8 m := rfl
      rw [hss0] at rr
      obtain ⟨a1, a2, a3, a4, a5, a6, a7, a8, a9⟩ := gp_rm_f (T := T) (m := m) (F := gp_F0) (l.drop p) p (T.2.2 8 m) none p (by simp) (by simp)
      have hdl : (l.drop p).length = l.length - p := List.length_drop
      generalize gp_rm T m gp_F0 (l.drop p) p (T.2.2 8 m) none p = R at *
      have rr' : f12_longest_41 gz_FU (nI m) (nI p) 0 (-2) (-1) (nI p) (gz_w Mr 0 5 0) = f12_longest_126 (gp_best p R.1 R.2.1) (gp_o R.1) (gz_w Mr 0 5 0) := rr
      rw [if_neg (nI_pos (by omega)), if_pos (nI_le hpl (by omega)), e1, gp_eB, e3 0 (by omega), h7, e5] at cc
      rw [gp_in1 _ (by omega) hp, gp_eB2, if_neg (by decide), rr'] at rc
      have q1 : gp_qC cu Mc M1 := ⟨fun c hc => e3 c (by omega), by rw [e3 0 (by omega)], by rw [e3 0 (by omega)]⟩
      cases hR : R.1 with
      | none =>
        rw [hR] at cc rc
        refine gp_ansK (v := -2) ?_ ?_ q1 (gp_thr 0).1 h8 e2 (by rw [e3 0 (by omega)]) rfl (gp_gn (by omega))
        · rw [cc, if_pos (by rfl)]
        · rw [rc]
          unfold gp_best f12_longest_126
          rw [if_neg (by simp), if_neg (by decide)]
      | some j =>
        rw [hR] at cc rc a4 a5 a6
        have hj := a6 j rfl
        have hw1 := h1.1
        have hb1 := a4 rfl
        have hb2 := a5 rfl rfl
        have b0 : (gz_w M1 0 15 0).1 0 8 = Mc.1 0 8 := by rw [gp_gn (by omega), e3 0 (by omega)]
        have b12 : (gz_w M1 0 15 0).1 (90 - cu) 12 = gp_o (some j) := by rw [gp_gn (by omega), e5, hR]
        obtain ⟨M2, g1, g2, g3⟩ := gp_tellC (gp_o (some j)).toInt64 (gp_wC0 M1).2 (by simp)
        obtain ⟨N2, n1, n2, n3⟩ := gp_tellR (gp_o (some j)).toInt64 (gp_wR0 (gz_w Mr 0 5 0)).2 (by simp)
        have b8 : M2.1 0 8 = Mc.1 0 8 := by rw [g2.2 _ (by omega), b0]
        have b13 : M2.1 (90 - cu) 13 = nI R.2.1 := by rw [g2.1 _ (by omega), gp_gn (by omega), e6]
        refine gp_ansI (v := nI (R.2.1 - p)) ?_ ?_ (q1.trans (((gp_wC0 M1).1.trans g2).qq (by omega))) ((gp_thr 0).1.trans ((gp_wR0 _).1.trans n2).qq) g3 n3 (by simp)
        · rw [cc, if_neg (by rw [gp_m1, gp_oS, gp_ne1 (by omega)]; exact id), gp_eL, b0, h7, b12, g1, gp_eB, b8, h7, b13, pk_sub (by omega)]
        · rw [rc]
          have eb : gp_best p (some j) R.2.1 = nI (R.2.1 - p) := rfl
          rw [eb]
          unfold f12_longest_126
          rw [if_pos (nI_pos' (by omega)), gp_eL, n1, gp_eB]
  · refine no ?_ ?_
    · unfold f11_longest; rw [(hE _).1]; rfl
    · unfold f12_longest; rw [gp_eL, (hE _).2]; rfl
end
