section GL7
variable {x : gz_X} {cc : ByteArray} {own : String} {nL d pc : Nat} {pf : Nat → Bool} {l : Launch} {lv : List (Nat × Value)} {st : List Value} {M M' : gz_M} {hh : List (Nat × Nat × Nat × Nat)}
/-- what a helper's frame stands on beside gz_Ok -/
def gz_OkH (x : gz_X) (hh : List (Nat × Nat × Nat × Nat)) : Prop := gz_Xst (gx_s x) ∧ gz_Th (gx_A x) (gx_s x) (gx_s x).heap ∧ (gx_c x).exceptionTable.toList = tableOf hh
def gz_CH (l : Launch) (y : MethodName) (cc : ByteArray) (nL d : Nat) (hh : List (Nat × Nat × Nat × Nat)) (asF : (Nat → Nat) → List Value) (pf : Nat → Bool) (M : gz_M) (v : Int32) (M' : gz_M) : Prop := ∀ D aC ad sz, Met l y (Cond.codeWith y cc nL (some .int) hh :: gz_TB) (gz_rm d 1 6) (va_Pc (asF ad) (gz_BX D gz_cfL aC ad pf M sz)) (va_Qi (fun r' (_ : Unit) => r' = v) (fun _ t => gz_mw D gz_cls gz_cfL aC ad pf M' t.heap) (gz_A gz_cfL ad pf sz)) 1 6 (gz_A gz_cfL ad pf sz)
theorem gz_ofH {y : MethodName} {v : Int32} {asF : (Nat → Nat) → List Value} (hy : plainName y.cls = true) (hlen : ∀ ad, (lg_sl (asF ad)).length ≤ nL) (body : ∀ x, gz_Ok x cc y.cls nL d gz_cfL pf l → gz_OkH x hh → (gx_cells x = 0 ∧ gx_slots x = 0 ∧ (gx_R x).cells = 1 ∧ (gx_R x).slots = 6) → (∀ x', (x' = x ∨ x' = gz_set x (gx_ad x) (gx_pf x) 1 6) → gz_EI x' cc .int v M') → gz_At x 0 (lv_args 0 (asF (gx_ad x))) [] M) : gz_CH l y cc nL d hh asF pf M v M' := by
  intro D aC ad sz
  refine va_MetW (cc := cc) (maxL := nL) (ret := some .int) (hh := hh) hy rfl ?_
  intro p e s m args below meth c s₁ B hml hv
  obtain ⟨rfl, ⟨hsz, hP, hK, hI, hN⟩, hXs, hTh⟩ := hv
  subst hsz
  have hl := lv_entry (asF ad) (n := nL) (hlen ad)
  rw [lg_entry_eq]
  generalize (lg_sl (asF ad) ++ List.replicate (nL - (lg_sl (asF ad)).length) Slot.unset).toArray = ls at hl ⊢
  let x : gz_X := (p, l, e, (gz_rm d 1 6), s, m, (asF ad).toArray, below, meth, c, MQ below (va_Qi (fun r' (_ : Unit) => r' = v) (fun _ t => gz_mw D gz_cls gz_cfL aC ad pf M' t.heap) (gz_A gz_cfL ad pf s.heap.size)) (asF ad).toArray s 1 6 (gz_A gz_cfL ad pf s.heap.size), gz_A gz_cfL ad pf s.heap.size, D, aC, gz_cfL, ad, pf, nL, 0, 0, gz_cls)
  have hts : ∀ w ∈ gz_TB, w.before (asF ad).toArray s = true := fun w hw => atoms_spec (ws := Cond.codeWith y cc nL (some .int) hh :: gz_TB) B.pre w (List.mem_cons_of_mem _ hw)
  have htb : c.exceptionTable.toList = tableOf hh := vx_table (x := y) B (atoms_spec (ws := Cond.codeWith y cc nL (some .int) hh :: gz_TB) B.pre _ List.mem_cons_self)
  have X : gz_Ok x cc y.cls nL d gz_cfL pf l := ⟨⟨B.exec, B.bytes, hml, findClass_of_methodNamed B.named, hts⟩, rfl, hK, hI, fun k hk => Or.inl ⟨k, hk, rfl⟩, fun q hq => Or.inr hq, B.notSynchronized, Nat.le_refl _, Nat.le_refl _, hN, rfl, rfl, rfl, rfl⟩
  refine body x X ⟨hXs, hTh, htb⟩ ⟨rfl, rfl, rfl, rfl⟩ (fun x' hx' pc lv hnr dg H locs ls h1 h2 h3 => ?_) s.heap [] ls hP va_S.rf hl
  rcases hx' with h9 | h9 <;> rw [h9] at h1 h2 h3 ⊢
  · exact W.widen (k := 1) (n := 6) (Nat.zero_le _) (Nat.zero_le _) (W.zret B.exec B.bytes B.returns hnr (fun t ht hW => ⟨⟨v, (), rfl, rfl, by dsimp only; rw [ht]; exact h1⟩, h2.F ht⟩) h2.2.2 dg)
  · exact W.zret B.exec B.bytes B.returns hnr (fun t ht hW => ⟨⟨v, (), rfl, rfl, by dsimp only; rw [ht]; exact h1⟩, h2.F ht⟩) h2.2.2 dg
end GL7
