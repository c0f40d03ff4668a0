/-! promises 18 and 19: read, twice -/
section
variable {B : Prop} {M M' Mc Mr : gz_M} {T : gp_T} {l mks : List Nat} {ts : List gp_K} {cu k m : Nat}
theorem gq_codes_lt (hm : m < 4) : ∀ (L : List Nat) (q : Nat), (∀ S, S ∈ L → S < 2 ^ 10) → q + L.length ≤ 24 → ∀ y, y ∈ gp_codes m L q → y < 102400
  | [], q, _, _, y, h => by cases h
  | S :: L, q, hS, hq, y, h => by
    rw [List.length_cons] at hq
    rcases List.mem_cons.mp h with e | e
    · rw [e]
      exact gp_code_lt hm (hS S List.mem_cons_self) (by omega)
    · exact gq_codes_lt hm L (q + 1) (fun S g => hS S (List.mem_cons_of_mem _ g)) (by omega) y e
theorem gq_coms_b (hw : gp_wT T) (hl : l.length ≤ 24) (h8 : ∀ p, p < l.length → l.getD p 0 < 8) : ∀ ts : List gp_K, (∀ t, t ∈ ts → gp_tkOk T l.length t) → (gp_coms T l ts).length ≤ 24 * ts.length ∧ ∀ y, y ∈ gp_coms T l ts → y < 102400
  | [], _ => ⟨Nat.le_refl _, fun y h => by cases h⟩
  | t :: ts, hok => by
    have o := hok t List.mem_cons_self
    have hm := o.2.2.2.2.2.2.1
    have hp : t.2.1 < l.length := by
      have := o.1
      have := o.2.1
      have := o.2.2.1
      omega
    obtain ⟨a1, a2, a3, a4, a5, a6, a7, a8, a9⟩ := gp_rm_f (T := T) (m := t.2.2.2.2.2.1) (F := gp_F0) (l.drop t.2.1) t.2.1 (T.2.2 8 t.2.2.2.2.2.1) none t.2.1 (by simp) (by simp)
    have hlen : (l.drop t.2.1).length = l.length - t.2.1 := List.length_drop
    have hmet := gp_rm_mets (T := T) (F := gp_F0) hw hm (l.drop t.2.1) t.2.1 (T.2.2 8 t.2.2.2.2.2.1) none t.2.1 (fun s hs => by
      obtain ⟨i, hi, e⟩ := List.mem_iff_getElem.mp (List.mem_of_mem_drop hs)
      have := h8 i hi
      simp [List.getD, hi] at this
      rw [← e]
      exact this)
    obtain ⟨i1, i2⟩ := gq_coms_b hw hl h8 ts (fun t h => hok t (List.mem_cons_of_mem _ h))
    rw [gp_coms, List.length_append, gp_codes_len, List.length_cons]
    refine ⟨by omega, fun y hy => ?_⟩
    rcases List.mem_append.mp hy with g | g
    · exact gq_codes_lt hm _ _ (fun S hS => gp_lt10 hw hm (hmet S hS)) (by omega) y g
    · exact i2 y g
theorem gq_reads_snoc (t : gp_K) : ∀ ts : List gp_K, gp_reads (ts ++ [t]) = gp_reads ts + (t.2.2.2.1 - t.2.1)
  | [] => by show (t.2.2.2.1 - t.2.1) + 0 = 0 + (t.2.2.2.1 - t.2.1); omega
  | s :: ts => by
    show (s.2.2.2.1 - s.2.1) + gp_reads (ts ++ [t]) = (s.2.2.2.1 - s.2.1) + gp_reads ts + (t.2.2.2.1 - t.2.1)
    rw [gq_reads_snoc t ts]; omega
theorem gq_readsC {n : Nat} (h : gp_cC k M ts) (hok : ∀ t, t ∈ ts → gp_tkOk T n t) (hlen : ts.length ≤ 24) : f2_signsRead k M = some (nI (gp_reads ts), M) := by
  have c : ∃ b, f2_signsRead_4 k gz_FU (nI 0) (nI 0) M = some b ∧ b = (nI (gp_reads ts), M) := by
    refine gp_for (fun n x (a : Int32) => f2_signsRead_4 k n a (nI x) M) ts.length (fun x a => a = nI (gp_reads (ts.take x))) _ (fun n a hI => ?_) (fun n x a hx hI => Or.inr ?_) gz_FU 0 _ (by omega) (by unfold gz_FU; omega) rfl
    · refine ⟨_, ?_, rfl⟩
      show f2_signsRead_4 k (n + 1) a (nI ts.length) M = _
      rw [f2_signsRead_4, h.1, if_pos (nI_le (Nat.le_refl _) (by omega)), hI, List.take_length]
    · refine ⟨_, ?_, rfl⟩
      have v := h.2.2 x hx
      have o := hok _ (gp_getD_mem (d := gp_k0) hx)
      have o1 := o.1
      have o2 := o.2.1
      show f2_signsRead_4 k (n + 1) a (nI x) M = f2_signsRead_4 k n _ (nI (x + 1)) M
      rw [f2_signsRead_4, h.1, if_neg (nI_ge hx (by omega)), gp_ckb (show x < 24 by omega) (by omega), gp_ckb (show x < 24 by omega) (by omega), nI_clamp (by omega), v.2.2.2.1, v.2.1, gp_subI (by omega), hI, nI_add, gp_eL, gp_eL, nI_1, gp_take (d := gp_k0) hx, gq_reads_snoc]
  obtain ⟨_, c1, rfl⟩ := c
  exact c1
theorem gq_pL.qq (hcu : cu = 30 ∨ cu = 60) (h : gq_pL M M') : gp_qC cu M M' := ⟨fun c hc => h.2 c (by omega), by rw [h.2 0 (by omega)], by rw [h.2 0 (by omega)]⟩
theorem gp_Q.bs (h : gp_Q B cu Mc Mr T l) : gq_bs 9 cu Mc T l (gp_cut T l) := ⟨h.2.1, h.2.2.2.1, h.2.2.2.2.2.1.2.2.1⟩
theorem gq_readR (n : Nat) (x : Nat) (a : Int32) (x1 : Int32) (hx : x < 102400) : f12_read_14 (n + 1) x1 a (nI x) M = f12_read_14 n x1 (a + nI (if M.1 19 x ≠ 0 then 1 else 0)) (nI (x + 1)) M := by
  rw [f12_read_14, if_neg (show ¬ (102400 : Int32) ≤ nI x from nI_ge (b := 102400) hx (by omega)), gp_ckb (show x < 102400 by omega) (by omega), nI_clamp (by omega)]
  by_cases g : M.1 19 x = 0
  · rw [if_pos g, if_neg (show ¬ (M.1 19 x ≠ 0) from fun e => e g), gp_eL, gp_eL, nI_1]; rfl
  · rw [if_neg g, if_pos g, gp_eL, gp_eL, nI_1]; rfl
theorem gp_a18 (h : gp_Q B cu Mc Mr T l) : gp_ans B cu Mc Mr (f11_read Mc) (f12_read Mr) := by
  have hq := h
  obtain ⟨h1, h2, h3, h4, h5, h6, h7, h8⟩ := h
  have hlen := h6.2.2.2
  have hcu := h6.1
  have hok := gp_cut_ok (l := l) h1
  obtain ⟨C1, cs, K1, a1, a2, a3, a4⟩ := gq_rem h1 (by omega) (by omega) hok (gq_tkR_cut (T := T) (l := l)) hlen hq.bs
  obtain ⟨C2, C3, t1, t2, t3, t4, t5⟩ := gp_tell2C C1 (nI (gq_mem T l (gp_cut T l) []).2).toInt64 (nI (gq_cnt (fun y => decide (y ∈ cs)) 102400)).toInt64
  have hW3 : gp_cW cu C3 (gp_cut T l) := by
    have : gp_cW cu C1 (gp_cut T l) := ⟨hcu, by rw [a2.2 0 (by omega)]; exact h6.2.1, h6.2.2.1.fr (fun c c1 c2 => a2.2 c (by omega)), hlen⟩
    exact this.fr t4
  have hT0 : gp_tR (gz_w Mr 0 5 0) T := h3.fr (fun c c1 c2 => gp_wc _ (by omega)) (gp_gn (by omega))
  have hL0 : gp_lR (gz_w Mr 0 5 0) l := h5.fr (gp_wc _ (by omega))
  obtain ⟨R1, r1, r2, r3, r4, r5, r6⟩ := gq_cutAll1 (l := l) h1 hT0 hL0
  have hT1 : gp_tR R1 T := hT0.fr (fun c c1 c2 => r2.2.1 c (by omega) (by omega)) (r2.2.2 10 (by omega) (by omega) (by omega) (by omega) (by omega))
  have hL1 : gp_lR R1 l := hL0.fr (r2.2.1 1 (by omega) (by omega))
  obtain ⟨R2, s1, s2, s3, s4, s5, s6⟩ := gp_cutAll0 h1 hT1 hL1
  obtain ⟨R3, R4, u1, u2, u3, u4, u5⟩ := gp_tell2R R2 (nI (gq_mem T l (gp_cut T l) []).2).toInt64 (nI (gq_cnt (fun y => decide (y ∈ cs)) 102400)).toInt64
  refine gp_ansI (v := nI (gp_reads (gp_cut T l))) (Mc' := C3) (Mr' := R4) ?_ ?_ ?_ ?_ t5 u5 (by simp)
  · unfold f11_read
    have e3 : (gz_w C1 0 15 0).1 69 4 = nI (gq_mem T l (gp_cut T l) []).2 := by rw [gp_wc _ (by omega)]; exact a3.2.2
    have e4 : C2.1 69 3 = nI (gq_cnt (fun y => decide (y ∈ cs)) 102400) := by rw [t2.1 69 (by omega), a3.2.1, gq_total a3]
    rw [h6.2.1, show (7 + 2 : Nat) = 9 from rfl, a1, gp_eB, gp_eL, e3, t1, gp_eB, e4, t3, gp_eB, hW3.2.1, gq_readsC hW3.2.2.1 hok hlen, gp_eB2]
  · unfold f12_read
    have c : ∃ b, f12_read_14 gz_FU (nI (gq_mem T l (gp_cut T l) []).2) (nI 0) (nI 0) R1 = some b ∧ b = (nI (gp_reads (gp_cut T l)), R4) := by
      refine gp_for (fun n x (a : Int32) => f12_read_14 n (nI (gq_mem T l (gp_cut T l) []).2) a (nI x) R1) 102400 (fun x a => a = nI (gq_cnt (fun y => decide (y ∈ cs)) x)) _ (fun n a hI => ?_) (fun n x a hx hI => Or.inr ?_) gz_FU 0 _ (by omega) (by unfold gz_FU; omega) rfl
      · refine ⟨_, ?_, rfl⟩
        show f12_read_14 (n + 1) _ a (nI 102400) R1 = _
        have e32 : R4.1 0 32 = nI (gp_reads (gp_cut T l)) := by rw [u4.2 32 (by omega), s5]
        rw [f12_read_14, if_pos (show (102400 : Int32) ≤ nI 102400 by decide), s1, gp_eB, gp_eL, u1, gp_eB, hI, u3, gp_eB, e32]
      · refine ⟨_, gq_readR n x a _ hx, ?_⟩
        show a + nI _ = _
        rw [hI, nI_add, gq_cnt]
        have := (r5 x hx).trans (a4 x).symm
        by_cases g : x ∈ cs
        · rw [if_pos (this.mpr g), if_pos (decide_eq_true g)]
        · rw [if_neg (fun e => g (this.mp e)), if_neg (by simp [g])]
    obtain ⟨_, c1, rfl⟩ := c
    unfold f12_readWithMemory
    rw [gp_eL, r1, gp_eB, gp_eB2, r4]
    exact c1
  · exact (a2.qq hcu).trans (t4.qq (by omega))
  · exact ((gp_thr 0).1.trans r2.qq).trans (s2.qq.trans u4.qq)
theorem gp_a19 (h : gp_Q B cu Mc Mr T l) : gp_ans B cu Mc Mr (f11_twice Mc) (f12_twice Mr) := by
  have hq := h
  obtain ⟨h1, h2, h3, h4, h5, h6, h7, h8⟩ := h
  have hlen := h6.2.2.2
  have hcu := h6.1
  have hok := gp_cut_ok (l := l) h1
  obtain ⟨b1, b2⟩ := gq_coms_b h1 h4.1 (fun p hp => (h4.2.2 p hp).2) (gp_cut T l) hok
  obtain ⟨C1, K1, a1, a2, a3⟩ := gq_walk h1 (by omega) (by omega) hok (gq_tkR_cut (T := T) (l := l)) hlen hq.bs
  obtain ⟨cs, hcs⟩ : ∃ cs, cs = gp_coms T l (gp_cut T l) := ⟨_, rfl⟩
  rw [← hcs] at a3 b1 b2
  have hpl : gq_pL C1 C1 := gq_pL.refl _
  have h30 : cs.length < 2 ^ 30 := by omega
  have a3' : gq_pC (gz_w C1 0 15 0) cs 0 (fun _ => (gp_cut T l).length) K1 := by
    refine ⟨fun p hp => ⟨?_, (a3.1 p hp).2⟩, by rw [gp_wc _ (by omega)]; exact a3.2.1, by rw [gp_wc _ (by omega)]; exact a3.2.2⟩
    have := (a3.1 p hp).1
    unfold gq_pK at this ⊢
    rw [gp_wc _ (by omega), gp_wc _ (by omega), gp_wc _ (by omega)]
    exact this
  have hE := gq_mostE a3' b2
  have hM := gq_most a3' h30
  have hmx : gq_mx (fun p => gq_pm cs (K1 p) p) 25 < 2 ^ 30 := by
    refine Nat.lt_of_le_of_lt ((gq_mx_le _ cs.length _).mpr (fun p _ => (gq_mx_le _ _ _).mpr (fun x _ => List.count_le_length))) h30
  obtain ⟨mx, hmxe⟩ : ∃ mx, mx = gq_mx (fun y => if 2 ≤ cs.count y then cs.count y else 0) 102400 := ⟨_, rfl⟩
  rw [← hmxe] at hE
  obtain ⟨C2, t1, t2, t3⟩ := gp_tell1C C1 (nI mx).toInt64
  have a4 : gq_pC C2 cs 0 (fun _ => (gp_cut T l).length) K1 := by
    refine ⟨fun p hp => ⟨?_, (a3.1 p hp).2⟩, by rw [t2.1 69 (by omega)]; exact a3.2.1, by rw [t2.1 69 (by omega)]; exact a3.2.2⟩
    have := (a3.1 p hp).1
    unfold gq_pK at this ⊢
    rw [t2.1 _ (by omega), t2.1 _ (by omega), t2.1 _ (by omega)]
    exact this
  obtain ⟨R1, d1, d2, d3, d4⟩ := gq_forget (gz_w Mr 0 5 0)
  have hT0 : gp_tR R1 T := h3.fr (fun c c1 c2 => by rw [d3 c (by omega) (by omega), gp_wc _ (by omega)]) (by rw [d3 0 (by omega) (by omega), gp_gn (by omega)])
  have hL0 : gp_lR R1 l := h5.fr (by rw [d3 1 (by omega) (by omega), gp_wc _ (by omega)])
  have l1 : gp_cutL (gz_w Mr 0 5 0) R1 := ⟨d2, fun c c1 c2 => d3 c (by omega) (by omega), fun i _ _ _ _ _ => by rw [d3 0 (by omega) (by omega)]⟩
  obtain ⟨R2, s1, s2, s3, s4, s5, s6⟩ := gp_cutAll0 h1 hT0 hL0
  obtain ⟨R3, u1, u2, u3⟩ := gp_tell1R R2 (nI mx).toInt64
  have h18 : ∀ y, y < 102400 → R2.1 18 y = nI (cs.count y) := fun y hy => by
    rw [s6, (d4 y hy).1, ← hcs, show (0 : Int32) = nI 0 from rfl, nI_add, Nat.zero_add]
  refine gp_ansI (v := nI (gq_cnt (fun y => decide (1 < cs.count y)) 102400)) (Mc' := C2) (Mr' := R3) ?_ ?_ ?_ ?_ t3 u3 (by simp)
  · unfold f11_twice
    rw [h6.2.1, show (7 + 2 : Nat) = 9 from rfl, a1, gp_eB, gp_eL, hM, gp_eB2]
    have e47 : f11_twice_47 (nI mx).toInt64 (gz_w C1 0 15 0) = some (nI (gq_cnt (fun y => decide (1 < cs.count y)) 102400), C2) := by
      unfold f11_twice_47
      rw [t1, gp_eB, gq_rep a4 h30, gp_eB2]
    by_cases g : gq_mx (fun p => gq_pm cs (K1 p) p) 25 ≤ 1
    · rw [if_pos g] at hE
      rw [if_pos (show nI _ ≤ (1 : Int32) from nI_le (b := 1) g (by omega)), ← e47, hE]
      rfl
    · rw [if_neg g] at hE
      rw [if_neg (show ¬ nI _ ≤ (1 : Int32) from nI_ge (a := 1) (by omega) (by omega)), ← e47, hE]
  · unfold f12_twice
    have c : ∃ b, f12_twice_20 gz_FU (nI 0) (nI 0) (nI 0) R2 = some b ∧ b = (nI (gq_cnt (fun y => decide (1 < cs.count y)) 102400), R3) := by
      refine gp_for (fun n x (a : Int32 × Int32) => f12_twice_20 n a.1 a.2 (nI x) R2) 102400 (fun x a => a = (nI (gq_cnt (fun y => decide (1 < cs.count y)) x), nI (gq_mx (fun y => if 2 ≤ cs.count y then cs.count y else 0) x))) _ (fun n a hI => ?_) (fun n x a hx hI => Or.inr ?_) gz_FU 0 (nI 0, nI 0) (by omega) (by unfold gz_FU; omega) rfl
      · refine ⟨_, ?_, rfl⟩
        show f12_twice_20 (n + 1) a.1 a.2 (nI 102400) R2 = _
        rw [f12_twice_20, if_pos (show (102400 : Int32) ≤ nI 102400 by decide), gp_eL, hI, ← hmxe, u1, gp_eB]
      · have hc : cs.count x < 2 ^ 30 := Nat.lt_of_le_of_lt List.count_le_length h30
        have hm2 : gq_mx (fun y => if 2 ≤ cs.count y then cs.count y else 0) x < 2 ^ 31 := by
          refine Nat.lt_of_le_of_lt ((gq_mx_le _ cs.length _).mpr (fun y _ => ?_)) (Nat.lt_trans h30 (by omega))
          split
          · exact List.count_le_length
          · omega
        refine ⟨_, ?_, rfl⟩
        show f12_twice_20 (n + 1) a.1 a.2 (nI x) R2 = f12_twice_20 n (nI (gq_cnt (fun y => decide (1 < cs.count y)) (x + 1))) (nI (gq_mx (fun y => if 2 ≤ cs.count y then cs.count y else 0) (x + 1))) (nI (x + 1)) R2
        rw [f12_twice_20, if_neg (show ¬ (102400 : Int32) ≤ nI x from nI_ge (b := 102400) hx (by omega)), gp_ckb (show x < 102400 by omega) (by omega), nI_clamp (by omega), h18 x hx, hI, gq_cnt, gq_mx]
        by_cases g : 2 ≤ cs.count x
        · rw [if_pos (show (2 : Int32) ≤ nI _ from nI_le (a := 2) g (by omega)), gp_eL, gp_ckb (show x < 102400 by omega) (by omega), gp_max hm2 (by omega), gp_eL, gp_eL, nI_1, nI_1, if_pos (decide_eq_true (show 1 < cs.count x from g)), if_pos g]
        · rw [if_neg (show ¬ (2 : Int32) ≤ nI _ from nI_ge (b := 2) (by omega) (by omega)), gp_eL, nI_1, if_neg (by simp; omega), if_neg g, Nat.max_zero]
          rfl
    obtain ⟨_, c1, rfl⟩ := c
    rw [gp_eL, d1, gp_eB, s1, gp_eB]
    exact c1
  · exact (a2.qq hcu).trans (t2.qq (by omega))
  · exact ((gp_thr 0).1.trans l1.qq).trans (s2.qq.trans u2.qq)
end
