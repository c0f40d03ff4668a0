/-! the law's start: what the tables say of it -/
section
variable {s : State} {args : Array Value}
theorem gq_kn (hts : ∀ w ∈ gz_TB, w.before args s = true) : ∃ D : va_G, ∀ (c : Nat) (q : vw_C), gz_cls[c]? = some q → u_Kn s q.1 q.2.1 q.2.2 (D.1 c) (D.2 c) := by
  have h : ∀ c : Nat, ∃ (cC : ClassId) (iS : Nat → Nat), ∀ q : vw_C, gz_cls[c]? = some q → u_Kn s q.1 q.2.1 q.2.2 cC iS := by
    have one : ∀ {C : String} {T : u_T} {N c : Nat}, (∀ w ∈ u_ws C T N, w ∈ gz_TB) → Cond.instantiable C N ∈ gz_TB → gz_cls[c]? = some (C, T, N) → ∃ (cC : ClassId) (iS : Nat → Nat), ∀ q : vw_C, gz_cls[c]? = some q → u_Kn s q.1 q.2.1 q.2.2 cC iS := by
      intro C T N c h1 h2 h3
      obtain ⟨cC, iS, h4⟩ := u_known hts h1 (hts _ h2)
      refine ⟨cC, iS, fun q hq => ?_⟩
      rw [h3] at hq
      cases hq
      exact h4
    intro c
    match c with
    | 0 => exact one gw_X0 (gz_in 172 (by decide +kernel) rfl) rfl
    | 1 => exact one gw_X1 (gz_in 147 (by decide +kernel) rfl) rfl
    | 2 => exact one gw_X2 (gz_in 271 (by decide +kernel) rfl) rfl
    | 3 => exact one gw_X3 (gz_in 134 (by decide +kernel) rfl) rfl
    | 4 => exact one gw_X4 (gz_in 411 (by decide +kernel) rfl) rfl
    | 5 => exact one gw_X5 (gz_in 178 (by decide +kernel) rfl) rfl
    | 6 => exact one gw_X6 (gz_in 346 (by decide +kernel) rfl) rfl
    | 7 => exact one gw_X7 (gz_in 207 (by decide +kernel) rfl) rfl
    | 8 => exact one gw_X8 (gz_in 371 (by decide +kernel) rfl) rfl
    | 9 => exact one gw_X9 (gz_in 393 (by decide +kernel) rfl) rfl
    | 10 => exact one gw_X10 (gz_in 115 (by decide +kernel) rfl) rfl
    | 11 => exact one gw_X11 (gz_in 107 (by decide +kernel) rfl) rfl
    | 12 => exact one gw_X12 (gz_in 1155 (by decide +kernel) rfl) rfl
    | c + 13 => exact ⟨0, fun _ => 0, fun q hq => by simp at hq⟩
  exact ⟨(fun c => Classical.choose (h c), fun c => Classical.choose (Classical.choose_spec (h c))), fun c q hq => Classical.choose_spec (Classical.choose_spec (h c)) q hq⟩
theorem gq_ar1 {ty : FieldType} (h : (Cond.arrayClass ty).before args s = true) : ∃ cA : ClassId, ArrOfT s cA ty ∧ s.vm.findClass ("[" ++ ty.toString) = some cA := by
  obtain ⟨cA, kA, comp, h1, h2, h3⟩ := Cond.arrayClass_spec h
  exact ⟨cA, fun n z => ⟨fun k h => (by cases h), kA, h2, comp, h3⟩, h1⟩
theorem gq_tys (h0 : (Cond.arrayClass .int).before args s = true) (h1 : (Cond.arrayClass .boolean).before args s = true) (h2 : (Cond.arrayClass .long).before args s = true) (h3 : (Cond.arrayClass .byte).before args s = true) (h4 : gc_AO s) : ∃ aC : Nat → ClassId, ∀ (k : Nat) (q : ClassId × FieldType), (gz_tys aC)[k]? = some q → ArrOfT s q.1 q.2 ∧ va_RA s q.1 q.2 := by
  obtain ⟨c0, a0, b0⟩ := gq_ar1 h0
  obtain ⟨c1, a1, b1⟩ := gq_ar1 h1
  obtain ⟨c2, a2, b2⟩ := gq_ar1 h2
  obtain ⟨c3, a3, b3⟩ := gq_ar1 h3
  obtain ⟨p4, c4, k4, _, f4, g4, e4⟩ := Cond.arrayOver_specA h4.1
  obtain ⟨p5, c5, k5, d5, _, f5, g5, e5⟩ := Cond.arrayOver_spec h4.2
  refine ⟨fun j => if j = 0 then c0 else if j = 1 then c1 else if j = 2 then c2 else if j = 3 then c3 else if j = 4 then c4 else c5, fun k q hq => ?_⟩
  match k, hq with
  | 0, hq => cases hq; exact ⟨a0, b0⟩
  | 1, hq => cases hq; exact ⟨a1, b1⟩
  | 2, hq => cases hq; exact ⟨a2, b2⟩
  | 3, hq => cases hq; exact ⟨a3, b3⟩
  | 4, hq => cases hq; exact ⟨fun n z => ⟨fun k h => (by cases h), k4, f4, p4, g4⟩, e4⟩
  | 5, hq => cases hq; exact ⟨fun n z => ⟨fun k h => (by cases h), k5, f5, p5, g5⟩, k5, p5, f5, g5, d5, e5⟩
  | k + 6, hq => simp [gz_tys] at hq
theorem gq_NBt {w : Cond} (hw : w ∈ gz_NB) : w.onTables = true := by
  have h := (List.mem_filter.mp hw).2
  cases w <;> first | rfl | cases h
theorem gq_Nst (hts : ∀ w ∈ lw_tbl, w.before args s = true) : gz_Nst s := fun w hw => va_Nw.of (gq_NBt hw) (hts w (List.mem_filter.mp hw).1)
theorem gq_XBin : gz_XB.all (fun w => decide (w ∈ lw_tbl)) = true := by decide +kernel
theorem gq_Xst (hts : ∀ w ∈ lw_tbl, w.before args s = true) : gz_Xst s := fun w hw => va_Nw.of (gz_XBot hw) (hts w (of_decide_eq_true (List.all_eq_true.mp gq_XBin w hw)))
theorem gq_in {w : Cond} (i : Nat) (h : lw_tbl[i]? = some w) : w ∈ lw_tbl := List.mem_of_getElem? h
theorem gq_AO (hts : ∀ w ∈ lw_tbl, w.before args s = true) : gc_AO s := ⟨hts (Cond.arrayOver (.array .int)) (gq_in 213 (by decide +kernel)), hts (Cond.arrayOver (.object "LongestTokens$Book")) (gq_in 417 (by decide +kernel))⟩
theorem gq_Th (hts : ∀ w ∈ lw_tbl, w.before args s = true) (h1 : (Cond.isRef (.static "java/lang/Throwable" "UNASSIGNED_STACK" "[Ljava/lang/StackTraceElement;")).before args s = true) (h2 : (Cond.isRef (.static "java/lang/Throwable" "SUPPRESSED_SENTINEL" "Ljava/util/List;")).before args s = true) : gz_Th (fun q => s.heap.size ≤ q) s s.heap := ⟨vx_Zqof (hts _ (gq_in 1097 (by decide +kernel))) (hts _ (gq_in 101 (by decide +kernel))) h1 (fun a h g => absurd g (Nat.not_le.mpr h)), vx_Zqof (hts _ (gq_in 1099 (by decide +kernel))) (hts _ (gq_in 101 (by decide +kernel))) h2 (fun a h g => absurd g (Nat.not_le.mpr h))⟩
end
