section GA3
variable {x : gz_X} {cc : ByteArray} {own : String} {nL d pc u : Nat} {pf : Nat → Bool} {l : Launch} {lv lv' : List (Nat × Value)} {st : List Value} {M M' : gz_M}
def gz_pfs (pf : Nat → Bool) (j : Nat) : Nat → Bool := fun t => if t = j then true else pf t
def gz_nb (M : gz_M) (j : Nat) : gz_M := (fun a => if 135 + 4 * j ≤ a ∧ a < 135 + 4 * j + 4 then fun _ => 0 else M.1 a, M.2)
theorem gz_prsW {pf : Nat → Bool} {j k : Nat} (hj : j < 12) : gz_cfC.1 (gz_pfs pf j) k = true ↔ gz_cfC.1 pf k = true ∨ (135 + 4 * j ≤ k ∧ k < 135 + 4 * j + 4) := by
  constructor
  · intro h
    rcases gz_prs h with q | ⟨t, d, ht, hd, hp, rfl⟩
    · exact Or.inl (gz_prsS q)
    · by_cases e : t = j
      · subst e; exact Or.inr ⟨by omega, by omega⟩
      · refine Or.inl (gz_prsB ht hd ?_)
        have h2 : (if t = j then true else pf t) = true := hp
        rwa [if_neg e] at h2
  · rintro (h | ⟨h1, h2⟩)
    · rcases gz_prs h with q | ⟨t, d, ht, hd, hp, rfl⟩
      · exact gz_prsS q
      · refine gz_prsB ht hd ?_
        show (if t = j then true else pf t) = true
        split
        · rfl
        · exact hp
    · have e : k = 135 + 4 * j + (k - 135 - 4 * j) := by omega
      rw [e]
      refine gz_prsB hj (by omega) ?_
      show (if j = j then true else pf j) = true
      rw [if_pos rfl]
theorem gz_prsN {pf : Nat → Bool} {j k : Nat} (hp : pf j = false) (h : gz_cfC.1 pf k = true) : ¬ (135 + 4 * j ≤ k ∧ k < 135 + 4 * j + 4) := by
  rintro ⟨h1, h2⟩
  rcases gz_prs h with q | ⟨t, d, ht, hd, hpt, rfl⟩
  · omega
  · rw [show t = j by omega, hp] at hpt
    cases hpt
theorem gr_newB {iN iI j : Nat} (X : gz_Ok x cc own nL d gz_cfC pf l) (hAO : gc_AO (gx_s x)) (hu : gz_U x u) (hu1 : u + 1 ≤ 1) (hd : 2 < d) (hcl : Cond.classLink own iN "LongestTokens$Book" ∈ gz_TB) (hinst : Cond.instantiable "LongestTokens$Book" 3 ∈ gz_TB) (hini : Cond.initialized "LongestTokens$Book" ∈ gz_TB) (hl : gz_ML own iI yX0_init) (hinm : Cond.instanceMethod yX0_init ∈ gz_TB) (hcode : Cond.code yX0_init cX0_init 1 none ∈ gz_TB) (hj : j < 12) (hp : pf j = false) (hp2 : pf (100 + j) = false) (hM : M' = gz_nb M j) (hW : ((Value.ref 0 :: st).map fun v => v.category).sum ≤ 8) (dg1 : decode cc pc = .ok (.new iN, 3)) (dg2 : decode cc (pc + 3) = .ok (.dup, 1)) (dg3 : decode cc (pc + 3 + 1) = .ok (.invokespecial iI, 3)) (kk : ∀ x', gz_St x x' → gz_Ok x' cc own nL d gz_cfC (gz_pfs pf j) l → gz_U x' (u + 1) → gz_At x' (pc + 3 + 1 + 3) lv (.ref (gx_ad x' (135 + 4 * j)) :: st) M') : gz_At x pc lv st M := by
  intro H locs ls h1 h2 h3
  obtain ⟨u1, u2, u3, u4, u5⟩ := id hu
  have hc : (gx_cl x)[0]? = some (RX0, TX0, 3) := by rw [X.hcl]; rfl
  have hKn := X.hK.1 0 _ hc
  refine W.newcK X.hx X.hb X.hown (X.hts _ hcl) (X.hts _ hinst) (X.hts _ hini) rfl dg1 (by omega) (by omega) hKn.2.1 rfl fun H1 kC hkC e1 z1 o1 => ?_
  refine lv_dup X.hx X.hb dg2 rfl ?_
  have hnew : va_at (gx_D x) gz_cls (H.size, .inr (0, [.null, .int 0, .null])) H1 := ⟨_, rfl, (u_born tyX0 X.hts gw_X0 hKn hkC e1 tyX0_ok).to gc_dflt0⟩
  have f1 := X.hfr
  have f2 := X.hlo
  have hR : (gz_rm 2 3 106).frames + 1 ≤ (gx_R x).frames ∧ 8 + (1 + 11) + (gz_rm 2 3 106).locals ≤ (gx_R x).locals := ⟨Nat.le_trans hd f1, by show 8 + (1 + 11) + 40 * 2 ≤ _; omega⟩
  have hp3 : PreS (gx_s x) H1 (va_Pc [.ref H.size] (fun U => U.heap.size = H.size + 1 ∧ va_at (gx_D x) gz_cls (H.size, .inr (0, [.null, .int 0, .null])) U.heap ∧ va_K (gx_D x) gz_cls (gz_tys (gx_aC x)) U ∧ gz_Nst U ∧ gc_AO U)) [.ref H.size] := ⟨gc_blind, fun U hU hW2 => ⟨rfl, by rw [hU]; exact z1, by rw [hU]; exact hnew, by have h := va_K.moved hW2.alike X.hK; rwa [X.hcl] at h, X.hN.warm hW2, hAO.warm hW2⟩⟩
  have hM1 := gc_init0 (l := l) (gx_D x) (gx_aC x) H.size
  rw [← X.hl] at hM1
  have hW2 : ((Value.ref H.size :: st).map fun v => v.category).sum ≤ 8 := hW
  have hfree : ∀ a, H.size ≤ a → gx_A x a := fun a h => X.hA2 a (Nat.le_trans h2.1 h)
  have hrun : va_Run (gx_p x) (gx_l x) (gx_e x) (gx_R x) (gx_s x) (gx_m x) (gx_args x) (gx_below x) (gx_meth x) (gx_c x) H1 locs (gx_cells x + 1) (gx_slots x + 3) 3 106 (F0 (gx_m x) (pc + 3 + 1) ls (.ref H.size :: .ref H.size :: st)) (.ref H.size :: st) (va_Qv (fun (_ : Unit) => True) (fun _ t => t.heap.size = H.size + gc_codes0.length ∧ ∀ i, i < gc_codes0.length → va_at (gx_D x) gz_cls (H.size + i, gc_ct (gx_aC x) gc_codes0 H.size i) t.heap) (fun a => H.size ≤ a) (Value.ref H.size :: []).toArray) (fun a => H.size ≤ a) := by
    rcases hl with hl | ⟨host, hl⟩
    · exact va_runI (As := []) X.1 hM1 (cwI 0 X.hts (gz_goodIn hcode) rfl rfl rfl (X.hts _ hini) (X.hts _ hl) (X.hts _ hinm) rfl (by decide +kernel) hR) hp3 rfl rfl (h3.1.trans X.hnL) rfl (lv_room hW2) dg3 ⟨by omega, by omega⟩
    · exact va_runIN (As := []) X.1 hM1 ⟨va_cnB 0 X.hts (gz_goodIn hcode) rfl rfl rfl (X.hN _ hl) (X.hts _ hini) (by decide +kernel) hR, rfl, X.hts _ hinm⟩ hp3 rfl rfl (h3.1.trans X.hnL) rfl (lv_room hW2) dg3 ⟨by omega, by omega⟩
  have hS1 : va_S (gx_A x) (gx_s x).heap H1 locs := ⟨by have := h2.1; omega, fun y a b => (o1 y (by have := h2.1; omega)).trans (h2.2.1 y a b), h2.2.2⟩
  refine va_callv hrun hS1 (fun a _ h => hfree a h) hfree (fun _ t H2 locs1 ht hvm hw hB hz hk hS => ?_)
  obtain ⟨b1, b2⟩ := hB
  rw [ht] at b1 b2
  have b1 : H2.size = H.size + 4 := b1
  have old : ∀ a, a < H.size → H2[a]? = H[a]? := fun a ha => (hk a (by omega) (by omega)).trans (o1 a ha)
  have hpres : ∀ k, gz_cfC.1 pf k = true → gx_ad x k < H.size := fun k hk => (h1 k (by rw [X.hcf, X.hpf]; exact hk)).lt
  let ad' : Nat → Nat := fun k => if 135 + 4 * j ≤ k ∧ k < 135 + 4 * j + 4 then H.size + (k - (135 + 4 * j)) else gx_ad x k
  have hadO : ∀ k, gz_cfC.1 pf k = true → ad' k = gx_ad x k := fun k hk => if_neg (gz_prsN hp hk)
  have hadN : ∀ i, i < 4 → ad' (135 + 4 * j + i) = H.size + i := fun i hi => by
    show (if 135 + 4 * j ≤ 135 + 4 * j + i ∧ 135 + 4 * j + i < 135 + 4 * j + 4 then H.size + (135 + 4 * j + i - (135 + 4 * j)) else gx_ad x _) = _
    rw [if_pos ⟨by omega, by omega⟩]
    omega
  have hinj : gz_inj gz_cfC ad' (gz_pfs pf j) := by
    intro a b ha hb e
    rcases (gz_prsW hj).mp ha with ha | ha <;> rcases (gz_prsW hj).mp hb with hb | hb
    · rw [hadO a ha, hadO b hb] at e
      exact X.hinj a b (by rw [X.hcf, X.hpf]; exact ha) (by rw [X.hcf, X.hpf]; exact hb) e
    · have h8 := hpres a ha
      rw [hadO a ha, show b = 135 + 4 * j + (b - (135 + 4 * j)) by omega, hadN _ (by omega)] at e
      omega
    · have h8 := hpres b hb
      rw [hadO b hb, show a = 135 + 4 * j + (a - (135 + 4 * j)) by omega, hadN _ (by omega)] at e
      omega
    · rw [show b = 135 + 4 * j + (b - (135 + 4 * j)) by omega, show a = 135 + 4 * j + (a - (135 + 4 * j)) by omega, hadN _ (by omega), hadN _ (by omega)] at e
      omega
  have hA' : ∀ k, gz_cfC.1 (gz_pfs pf j) k = true → gx_A x (ad' k) := by
    intro k hk
    rcases (gz_prsW hj).mp hk with h | h
    · rw [hadO k h]; exact X.hA k (by rw [X.hcf, X.hpf]; exact h)
    · rw [show k = 135 + 4 * j + (k - (135 + 4 * j)) by omega, hadN _ (by omega)]
      exact hfree _ (by omega)
  have hst : gz_St x (gz_set x ad' (gz_pfs pf j) (gx_cells x + 1 + 3) (gx_slots x + 3 + 106)) := ⟨⟨_, _, _, _, rfl⟩, fun k hk => by rw [X.hpf] at hk; exact ⟨(gz_prsW hj).mpr (Or.inl hk), hadO k hk⟩⟩
  have hmw : gz_mw (gx_D x) (gx_cl x) (gx_cf x) (gx_aC x) ad' (gz_pfs pf j) M' H2 := by
    intro k hk
    rw [X.hcf] at hk ⊢
    subst hM
    rcases (gz_prsW hj).mp hk with h | h
    · have h9 := h1 k (by rw [X.hcf, X.hpf]; exact h)
      rw [X.hcf, X.hpf] at h9
      have h10 := h9.kept (old _ (hpres k h))
      have e : (gz_nb M j).1 k = M.1 k := if_neg (gz_prsN hp h)
      rw [e, hadO k h]
      refine gz_atX (ad := gx_ad x) (pf := pf) (fun c0 => gz_main h c0) (fun c0 => ?_) (fun o ho => hadO _ (gz_refs h ho)) (fun t => ⟨?_, fun ht => ?_⟩) (fun v _ => hadO _ (gz_prsS (by unfold gz_cIx; split <;> decide))) h10
      · have hk3 : k < 183 := by rcases gz_prs h with q | ⟨t, d, ht, hd, hpt, rfl⟩ <;> omega
        exact (by decide +kernel : ∀ k, k < 183 → gz_tC.getD k 0 ≠ 27) k hk3 c0
      · show (if 100 + t = j then true else pf (100 + t)) = pf (100 + t)
        rw [if_neg (by omega)]
      · have hne : t ≠ j := fun e => by rw [e, hp2] at ht; cases ht
        show (if 135 + 4 * j ≤ 135 + 4 * t ∧ 135 + 4 * t < 135 + 4 * j + 4 then H.size + (135 + 4 * t - (135 + 4 * j)) else gx_ad x (135 + 4 * t)) = gx_ad x (135 + 4 * t)
        rw [if_neg (by omega)]
    · obtain ⟨i, hi, rfl⟩ : ∃ i, i < 4 ∧ k = 135 + 4 * j + i := ⟨k - (135 + 4 * j), by omega, by omega⟩
      have e : (gz_nb M j).1 (135 + 4 * j + i) = fun _ => 0 := if_pos h
      rw [hadN i hi, X.hcl, e]
      have h9 := b2 i hi
      have hcd : ∀ i, i < 4 → gc_codes0.getD i 0 = gz_tC.getD (135 + 4 * j + i) 0 := fun i hi => ((by decide +kernel : ∀ j, j < 12 → ∀ i, i < 4 → gc_codes0.getD i 0 = gz_tC.getD (135 + 4 * j + i) 0) j hj i hi)
      show va_at (gx_D x) gz_cls (H.size + i, gz_kc (gz_tC.getD (135 + 4 * j + i) 0) (gx_aC x) ad' (gz_pfs pf j) (135 + 4 * j + i) (fun _ => 0) (gz_nb M j).2) H2
      have h0 := hadN 0 (by omega)
      have h11 := hadN 1 (by omega)
      have h12 := hadN 2 (by omega)
      have h13 := hadN 3 (by omega)
      rw [← hcd i hi]
      match i, hi with
      | 0, _ =>
        have e2 : gz_kc (gc_codes0.getD 0 0) (gx_aC x) ad' (gz_pfs pf j) (135 + 4 * j + 0) (fun _ => 0) (gz_nb M j).2 = gc_ct (gx_aC x) gc_codes0 H.size 0 := by
          show (Sum.inr (0, [Value.ref (ad' (135 + 4 * j + 0 + 1)), Value.int 0, Value.ref (ad' (135 + 4 * j + 0 + 2))]) : va_E) = Sum.inr (0, [Value.ref (H.size + (0 + 1)), Value.int 0, Value.ref (H.size + (0 + 2))])
          rw [show 135 + 4 * j + 0 + 1 = 135 + 4 * j + 1 by omega, show 135 + 4 * j + 0 + 2 = 135 + 4 * j + 2 by omega, h11, h12]
        rw [e2]; exact h9
      | 1, _ => exact h9
      | 2, _ =>
        have e2 : gz_kc (gc_codes0.getD 2 0) (gx_aC x) ad' (gz_pfs pf j) (135 + 4 * j + 2) (fun _ => 0) (gz_nb M j).2 = gc_ct (gx_aC x) gc_codes0 H.size 2 := by
          show (Sum.inr (5, [Value.ref (ad' (135 + 4 * j + 2 + 1)), Value.int 0]) : va_E) = Sum.inr (5, [Value.ref (H.size + (2 + 1)), Value.int 0])
          rw [show 135 + 4 * j + 2 + 1 = 135 + 4 * j + 3 by omega, h13]
        rw [e2]; exact h9
      | 3, _ => exact h9
  have hgo := kk _ hst (gz_okSet X hinj hA') ⟨by show gx_cells x + 1 + 3 = 4 * (u + 1); omega, by show gx_slots x + 3 + 106 = 109 * (u + 1); omega, hu1, u4, u5⟩ H2 locs1 ls hmw hS h3
  have h0 : gx_ad (gz_set x ad' (gz_pfs pf j) (gx_cells x + 1 + 3) (gx_slots x + 3 + 106)) (135 + 4 * j) = H.size := hadN 0 (by omega)
  rw [h0] at hgo
  exact hgo
theorem gr_aastK {k n b e : Nat} {i : Int32} (X : gz_Ok x cc own nL d gz_cfC pf l) (hu : gz_U x u) (hk0 : gz_KD gz_cfC pf k (gz_oK n b)) (hkb : (k = 132 ∧ n = 10 ∧ b = 0) ∨ (k = 133 ∧ n = 2 ∧ b = 10)) (hin : vp_in i n) (he : e = 135 + 4 * (b + i.toNatClampNeg)) (hi : gz_IsX0 pf e) (hp : pf (b + i.toNatClampNeg) = true) (dg : decode cc pc = .ok (.aastore, 1)) (kk : ∀ x', gz_St x x' → gz_Ok x' cc own nL d gz_cfC (gz_pfs pf (100 + (b + i.toNatClampNeg))) l → gz_U x' u → gz_At x' (pc + 1) lv st M) : gz_At x pc lv (.ref (gx_ad x e) :: .int i :: .ref (gx_ad x k) :: st) M := by
  intro H locs ls h1 h2 h3
  have hk := X.kd hk0
  have hP := gz_one h1 hk.1 (hk.2 _ _ _ _)
  have hcell : H[gx_ad x k]? = some (vp_cell (gx_aC x 5) (n, .inr (.inr (.inr (.inr (fun j => if gx_pf x (100 + (b + j)) = true then some (gx_ad x (135 + 4 * (b + j))) else none)))))) := hP 0 _ rfl
  have hko := X.kd (gk_X0o hi)
  have hlt := gz_inl hin
  have hob := h1 e (hko.1)
  rw [show (gx_cf x).2 (gx_aC x) (gx_ad x) (gx_pf x) e (M.1 e) M.2 = gz_oX0 (gx_aC x) (gx_ad x) (gx_pf x) e (M.1 e) M.2 from hko.2 _ _ _ _] at hob
  obtain ⟨r, e1, cv, q1, q2, q3, q4⟩ := hob
  have hr : r = (RX0, TX0, 3) := Option.some.inj (e1.symm.trans (by rw [X.hcl]; rfl))
  subst hr
  obtain ⟨hS0, hfc, kC, hkC, hkind⟩ := X.hK.1 0 _ (by rw [X.hcl]; rfl : (gx_cl x)[0]? = some (RX0, TX0, 3))
  obtain ⟨kA, comp, g1, g2, g3, g4⟩ := (X.hK.2 5 _ rfl).2
  have hcomp : comp = (gx_D x).1 0 := Option.some.inj (g3.symm.trans hfc)
  refine W.aast X.hx X.hb hcell (fun q h => by cases h) (fun h => by cases h) g1 g2 rfl (hcomp ▸ hkC) ⟨fun h => hin (Or.inl h), by show _ < (arrV _ _ _).slots.size; rw [arrV_size]; exact hlt⟩ q1 (fun q h => by rw [q3] at h; cases h) (by rw [q2]; exact hkC) (by rw [q2, hcomp]; exact va_assign ⟨hfc, kC, hkC, hkind⟩) rfl rfl dg fun H1 a1 a2 a3 => ?_
  have hpm : ∀ t, gz_cfC.1 (gz_pfs pf (100 + (b + i.toNatClampNeg))) t = gz_cfC.1 pf t := by
    intro t
    show (if t < 135 then true else if t < 183 then gz_pfs pf (100 + (b + i.toNatClampNeg)) ((t - 135) / 4) else false) = (if t < 135 then true else if t < 183 then pf ((t - 135) / 4) else false)
    by_cases h5 : t < 135
    · rw [if_pos h5, if_pos h5]
    · rw [if_neg h5, if_neg h5]
      by_cases h6 : t < 183
      · rw [if_pos h6, if_pos h6]
        show (if (t - 135) / 4 = 100 + (b + i.toNatClampNeg) then true else pf ((t - 135) / 4)) = _
        rw [if_neg (by omega)]
      · rw [if_neg h6, if_neg h6]
  have hmw : gz_mw (gx_D x) (gx_cl x) (gx_cf x) (gx_aC x) (gx_ad x) (gz_pfs pf (100 + (b + i.toNatClampNeg))) M H1 := by
    intro t ht
    rw [X.hcf] at ht ⊢
    rw [hpm] at ht
    have h9 := h1 t (by rw [X.hcf, X.hpf]; exact ht)
    rw [X.hcf, X.hpf] at h9
    by_cases htk : t = k
    · subst htk
      have hk2 : gz_KD gz_cfC (gz_pfs pf (100 + (b + i.toNatClampNeg))) t (gz_oK n b) := by
        rcases hkb with ⟨rfl, rfl, rfl⟩ | ⟨rfl, rfl, rfl⟩
        · exact gk_C132
        · exact gk_C133
      rw [hk2.2]
      show H1[gx_ad x t]? = some (vp_cell _ _)
      rw [a1, vp_cell_q, vp_cell_q, arrV_store]
      refine congrArg some (gc_arrExt fun j hj => ?_)
      by_cases hji : j = i.toNatClampNeg
      · subst hji
        simp [updV, gz_pfs, he, va_rf]
      · show updV _ _ _ j = va_rf (if (if 100 + (b + j) = 100 + (b + i.toNatClampNeg) then true else pf (100 + (b + j))) = true then _ else none)
        rw [if_neg (show ¬ 100 + (b + j) = 100 + (b + i.toNatClampNeg) by omega)]
        simp only [updV, if_neg hji, X.hpf]
    · have h10 := h9.kept (a3 _ (fun q => htk (X.hinj _ _ (by rw [X.hcf, X.hpf]; exact ht) hk.1 q)))
      by_cases hbk : gz_tC.getD t 0 = gz_tC.getD 132 0 ∨ gz_tC.getD t 0 = gz_tC.getD 133 0
      · have ht3 : t < 183 := by rcases gz_prs ht with q | ⟨t, d, ht, hd, hpt, rfl⟩ <;> omega
        have ht4 := (by decide +kernel : ∀ t, t < 183 → (gz_tC.getD t 0 = gz_tC.getD 132 0 ∨ gz_tC.getD t 0 = gz_tC.getD 133 0) → (t = 132 ∨ t = 133)) t ht3 hbk
        have key : ∀ n2 b2 : Nat, (∀ j, j < n2 → b2 + j ≠ b + i.toNatClampNeg) → gz_KD gz_cfC pf t (gz_oK n2 b2) → gz_KD gz_cfC (gz_pfs pf (100 + (b + i.toNatClampNeg))) t (gz_oK n2 b2) → va_at (gx_D x) (gx_cl x) (gx_ad x t, gz_cfC.2 (gx_aC x) (gx_ad x) (gz_pfs pf (100 + (b + i.toNatClampNeg))) t (M.1 t) M.2) H1 := by
          intro n2 b2 hne k1 k2
          rw [k2.2]
          rw [k1.2] at h10
          have h11 : H1[gx_ad x t]? = some (vp_cell (gx_aC x 5) (n2, .inr (.inr (.inr (.inr (fun j => if pf (100 + (b2 + j)) = true then some (gx_ad x (135 + 4 * (b2 + j))) else none)))))) := h10
          show H1[gx_ad x t]? = some (vp_cell (gx_aC x 5) (n2, .inr (.inr (.inr (.inr (fun j => if gz_pfs pf (100 + (b + i.toNatClampNeg)) (100 + (b2 + j)) = true then some (gx_ad x (135 + 4 * (b2 + j))) else none))))))
          rw [h11, vp_cell_q, vp_cell_q]
          refine congrArg some (gc_arrExt fun j hj => ?_)
          have := hne j hj
          show va_rf (if pf (100 + (b2 + j)) = true then _ else none) = va_rf (if (if 100 + (b2 + j) = 100 + (b + i.toNatClampNeg) then true else pf (100 + (b2 + j))) = true then _ else none)
          rw [if_neg (show ¬ 100 + (b2 + j) = 100 + (b + i.toNatClampNeg) by omega)]
        rcases hkb with ⟨rfl, rfl, rfl⟩ | ⟨rfl, rfl, rfl⟩ <;> rcases ht4 with rfl | rfl
        · exact absurd rfl htk
        · exact key 2 10 (fun j _ => by omega) gk_C133 gk_C133
        · exact key 10 0 (fun j _ => by omega) gk_C132 gk_C132
        · exact absurd rfl htk
      · have e5 : ∀ (c : Nat) (g : Nat → Int32) (gl : Nat → Int64), ¬ (c = gz_tC.getD 132 0 ∨ c = gz_tC.getD 133 0) → gz_kc c (gx_aC x) (gx_ad x) (gz_pfs pf (100 + (b + i.toNatClampNeg))) t g gl = gz_kc c (gx_aC x) (gx_ad x) pf t g gl := by
          intro c g gl hc
          unfold gz_kc
          split <;> first | rfl | exact absurd (Or.inl rfl) hc | exact absurd (Or.inr rfl) hc
        show va_at (gx_D x) (gx_cl x) (gx_ad x t, gz_kc (gz_tC.getD t 0) (gx_aC x) (gx_ad x) (gz_pfs pf (100 + (b + i.toNatClampNeg))) t (M.1 t) M.2) H1
        rw [e5 _ _ _ hbk]
        exact h10
  have hst : gz_St x (gz_set x (gx_ad x) (gz_pfs pf (100 + (b + i.toNatClampNeg))) (gx_cells x) (gx_slots x)) := ⟨⟨_, _, _, _, rfl⟩, fun t ht => by rw [X.hpf] at ht; exact ⟨by show gz_cfC.1 (gz_pfs pf (100 + (b + i.toNatClampNeg))) t = true; rw [hpm]; exact ht, rfl⟩⟩
  have hinj : gz_inj gz_cfC (gx_ad x) (gz_pfs pf (100 + (b + i.toNatClampNeg))) := fun a c ha hc => X.hinj a c (by rw [X.hcf, X.hpf, ← hpm]; exact ha) (by rw [X.hcf, X.hpf, ← hpm]; exact hc)
  exact kk _ hst (gz_okSet X hinj (fun t ht => X.hA t (by rw [X.hcf, X.hpf, ← hpm]; exact ht))) hu H1 _ ls hmw (h2.put a2 a3 (X.hA k hk.1)) h3
end GA3
