section GL8
variable {x : gz_X} {cc : ByteArray} {own : String} {nL d pc : Nat} {pf : Nat → Bool} {l : Launch} {lv : List (Nat × Value)} {st : List Value} {M M' : gz_M} {hh : List (Nat × Nat × Nat × Nat)}
theorem gz_BXblind {av : List Value} {D : va_G} {cf : gz_CF} {aC : Nat → ClassId} {ad : Nat → Nat} {sz : Nat} : FrameBlind (va_Pc av (gz_BX D cf aC ad pf M sz)) := by
  intro a U g mk q
  obtain ⟨q0, ⟨q1, q2, q3, q4, q5⟩, q6, q7, q8⟩ := q
  exact ⟨q0, ⟨q1, q2, va_K.moved (u := U) (U := U.calling g mk a) (Vm.Alike.refl U.vm) q3, q4, gz_Nst.same (u := U) (U := U.calling g mk a) rfl q5⟩, gz_Xst.same (u := U) (U := U.calling g mk a) rfl q6, vx_Zq.moved (u := U) (U := U.calling g mk a) (Vm.Alike.refl U.vm) q7, vx_Zq.moved (u := U) (U := U.calling g mk a) (Vm.Alike.refl U.vm) q8⟩
end GL8
