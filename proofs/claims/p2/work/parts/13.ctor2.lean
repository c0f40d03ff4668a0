section GK2
variable {x : gz_X} {cc : ByteArray} {own : String} {nL d q ci pc n c s : Nat} {codes : List Nat} {l : Launch} {lv : List (Nat × Value)} {st fs : List Value}
theorem gc_arrExt {cA : ClassId} {N : Nat} {f g : Nat → Value} (h : ∀ j, j < N → f j = g j) : arrV cA N f = arrV cA N g := by
  unfold arrV
  congr 1
  congr 1
  funext j
  exact h j.val j.isLt
theorem gc_anew {index N b : Nat} {v : Int32} (X : gc_Ok x cc own nL d q l) (hn1 : 1 ≤ n) (hcl : Cond.classLink own index "LongestTokens$Book" ∈ gz_TB) (hn : ¬ v < 0) (hN : v.toNatClampNeg = N) (hbytes : N * 4 ≤ 536870912) (hcells : c + 1 ≤ (gx_R x).cells) (hslots : s + N ≤ (gx_R x).slots) (hct : ∀ aC, gc_ct aC codes q n = gz_oK N b aC (fun k => q + k) (fun _ => false) n (fun _ => 0) (fun _ => 0)) (dg : decode cc pc = .ok (.anewarray index, 3)) (kk : gc_At x ci codes q (pc + 3) lv (.ref (q + n) :: st) fs (n + 1) (c + 1) (s + N)) : gc_At x ci codes q pc lv (.int v :: st) fs n c s := by
  intro H locs ls h0 h1 h2 h3 h4
  subst hN
  refine W.anew X.1.1 X.1.2.1 X.1.2.2.2.1 (X.1.2.2.2.2 _ hcl) X.2.2.2.2.2.2.2.2.2.2.2.2 rfl dg rfl hn hbytes hcells hslots fun cA kA comp f1 f2 f3 f4 => ?_
  rw [h0]
  generalize hH1 : H.push ({ cls := cA, slots := Array.replicate v.toNatClampNeg .null, vm := .none } : Cell) = H1
  have z1 : H1.size = H.size + 1 := by rw [← hH1, Array.size_push]
  have e1 : H1[H.size]? = some (arrV cA v.toNatClampNeg (fun _ => .null)) := by rw [← hH1, Array.getElem?_push_size, ← arrV_new]
  have o1 : ∀ a : Nat, a < H.size → H1[a]? = H[a]? := fun a ha => by rw [← hH1, Array.getElem?_push, if_neg (Nat.ne_of_lt ha)]
  have hra := (X.2.2.1.2 5 _ rfl).2
  obtain ⟨kA', comp', -, -, -, g4⟩ := hra
  have hc : gx_aC x 5 = cA := Option.some.inj (g4.symm.trans f1)
  obtain ⟨k1, k2⟩ := gc_keep h0 hn1 h1 h2 o1
  refine kk H1 locs ls (by omega) k1 (fun i a b => ?_) ⟨Nat.le_trans h3.1 (by omega), fun y e2 e3 => (o1 y (Nat.lt_of_lt_of_le e2 h3.1)).trans (h3.2.1 y e2 e3), h3.2.2⟩ h4
  rcases Nat.lt_or_ge i n with g | g
  · exact k2 i a g
  · rw [show i = n by omega, hct]
    show H1[q + n]? = some (vp_cell _ _)
    rw [← h0, e1, vp_cell_q, hc]
    exact congrArg some (gc_arrExt fun j _ => rfl)
theorem gc_outer (c : ClassId) (N h0 : Nat) : ∀ i : Nat, Jvm.Free.Multi.outerC c N h0 i = arrV c N (fun j => va_rf (if j < i then some (h0 + 1 + j) else none))
  | 0 => by
    show ({ cls := c, slots := Array.replicate N .null, vm := .none } : Cell) = _
    rw [arrV_new]
    refine congrArg (arrV c N) (funext fun j => ?_)
    simp [va_rf]
  | i + 1 => by
    show (Jvm.Free.Multi.outerC c N h0 i).setSlot i (.ref (h0 + 1 + i)) = _
    rw [gc_outer c N h0 i, arrV_store]
    refine congrArg (arrV c N) (funext fun j => ?_)
    by_cases e : j = i
    · subst e
      simp [updV, va_rf]
    · by_cases h : j < i
      · simp [updV, e, h, Nat.lt_succ_of_lt h]
      · simp [updV, e, h, show ¬ j < i + 1 by omega]
theorem gc_multi {index N K : Nat} {v w : Int32} (X : gc_Ok x cc own nL d q l) (hn1 : 1 ≤ n) (hcl : Cond.classLink own index "[[I" ∈ gz_TB) (harr : Cond.arrayClass .int ∈ gz_TB) (hn : ¬ v < 0) (hk : ¬ w < 0) (hN : v.toNatClampNeg = N) (hK : w.toNatClampNeg = K) (hb1 : N * 4 ≤ 536870912) (hb2 : K * 4 ≤ 536870912) (hcells : c + (1 + N) ≤ (gx_R x).cells) (hslots : s + (N + N * K) ≤ (gx_R x).slots) (hct : ∀ aC, gc_ct aC codes q n = gz_oG N aC (fun k => q + k) (fun _ => false) n (fun _ => 0) (fun _ => 0)) (hct2 : ∀ aC j, j < N → gc_ct aC codes q (n + 1 + j) = gz_oI K aC (fun k => q + k) (fun _ => false) (n + 1 + j) (fun _ => 0) (fun _ => 0)) (dg : decode cc pc = .ok (.multianewarray index 2, 4)) (kk : gc_At x ci codes q (pc + 4) lv (.ref (q + n) :: st) fs (n + 1 + N) (c + 1 + N) (s + N + N * K)) : gc_At x ci codes q pc lv (.int w :: .int v :: st) fs n c s := by
  intro H locs ls h0 h1 h2 h3 h4 T hT Xs
  subst hN
  subst hK
  obtain ⟨vm₁, cA, comp, -, fA, fC, hO, -, X', step⟩ := Xs.multianewarray2F X.1.1 X.1.2.2.2.1 (ty := .int) (X.1.2.2.2.2 _ hcl) X.2.2.2.2.2.2.2.2.2.2.2.1 (X.1.2.2.2.2 _ harr) (g := F0 (gx_m x) pc ls (.int w :: .int v :: st)) rfl (by rw [X.1.2.1]; exact dg) rfl hn hk hb1 hb2 (by omega) rfl rfl hcells hslots
  have hcA : gx_aC x 4 = cA := Option.some.inj ((X.2.2.1.2 4 _ rfl).2.symm.trans fA)
  have hcI : gx_aC x 0 = comp := Option.some.inj ((X.2.2.1.2 0 _ rfl).2.symm.trans fC)
  generalize hF : Jvm.Free.Multi.fill (T.setVm vm₁) cA comp v.toNatClampNeg w.toNatClampNeg (defaultValue .int) v.toNatClampNeg = F at X' step
  have hTh : (T.setVm vm₁).heap = H := hT
  obtain ⟨f1, f2, -, -⟩ := Jvm.Free.Multi.fill_facts (T.setVm vm₁) cA comp v.toNatClampNeg w.toNatClampNeg (defaultValue .int) v.toNatClampNeg
  rw [hF, hTh] at f1 f2
  have hold : ∀ y : Nat, y < H.size → F.heap[y]? = H[y]? := fun y hy => by
    have := Jvm.Free.Multi.fill_old (T.setVm vm₁) cA comp v.toNatClampNeg w.toNatClampNeg (defaultValue .int) (a := y) (by rw [hTh]; exact hy) v.toNatClampNeg
    rw [hF, hTh] at this
    exact this
  have hrow : ∀ j : Nat, j < v.toNatClampNeg → F.heap[H.size + 1 + j]? = some (Jvm.Free.Multi.innerC comp w.toNatClampNeg (defaultValue .int)) := fun j hj => by
    have := Jvm.Free.Multi.fill_inner (T.setVm vm₁) cA comp v.toNatClampNeg w.toNatClampNeg (defaultValue .int) v.toNatClampNeg j hj
    rw [hF, hTh] at this
    exact this
  obtain ⟨k1, k2⟩ := gc_keep h0 hn1 h1 h2 hold
  obtain ⟨t, a1, b1⟩ := kk F.heap locs ls (by omega) k1 (fun i a b => by
    rcases Nat.lt_or_ge i n with g | g
    · exact k2 i a g
    · rcases Nat.eq_or_lt_of_le g with rfl | g
      · rw [hct]
        show F.heap[q + n]? = some (vp_cell _ _)
        rw [← h0, f2, gc_outer, vp_cell_q, hcA]
        refine congrArg some (gc_arrExt fun j hj => ?_)
        show va_rf (if j < v.toNatClampNeg then some (H.size + 1 + j) else none) = va_rf (some (q + (n + 1 + j)))
        rw [if_pos hj, h0, show q + n + 1 + j = q + (n + 1 + j) by omega]
      · obtain ⟨j, rfl⟩ : ∃ j, i = n + 1 + j := ⟨i - (n + 1), by omega⟩
        rw [hct2 _ j (by omega)]
        show F.heap[q + (n + 1 + j)]? = some (vp_cell _ _)
        rw [show q + (n + 1 + j) = H.size + 1 + j by omega, hrow j (by omega), vp_cell_i, hcI]
        exact congrArg some (arrV_new comp w.toNatClampNeg (.int 0))) ⟨by rw [f1]; have := h3.1; omega, fun y e2 e3 => (hold y (Nat.lt_of_lt_of_le e2 h3.1)).trans (h3.2.1 y e2 e3), h3.2.2⟩ h4 F rfl X'
  refine ⟨t, step t ?_, b1⟩
  rw [show T.heap.size = q + n by rw [hT]; exact h0]
  exact a1
end GK2
