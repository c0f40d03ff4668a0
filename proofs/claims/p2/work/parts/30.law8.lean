section GL8
variable {x : gz_X} {cc : ByteArray} {own : String} {nL d pc : Nat} {pf : Nat → Bool} {l : Launch} {lv : List (Nat × Value)} {st : List Value} {M M' : gz_M} {hh : List (Nat × Nat × Nat × Nat)}
theorem gz_BXblind {av : List Value} {D : va_G} {cf : gz_CF} {aC : Nat → ClassId} {ad : Nat → Nat} {sz : Nat} : FrameBlind (va_Pc av (gz_BX D cf aC ad pf M sz)) := by
  intro a U g mk q
  obtain ⟨q0, ⟨q1, q2, q3, q4, q5⟩, q6, q7, q8⟩ := q
  exact ⟨q0, ⟨q1, q2, va_K.moved (u := U) (U := U.calling g mk a) (Vm.Alike.refl U.vm) q3, q4, gz_Nst.same (u := U) (U := U.calling g mk a) rfl q5⟩, gz_Xst.same (u := U) (U := U.calling g mk a) rfl q6, vx_Zq.moved (u := U) (U := U.calling g mk a) (Vm.Alike.refl U.vm) q7, vx_Zq.moved (u := U) (U := U.calling g mk a) (Vm.Alike.refl U.vm) q8⟩
theorem gz_BXat {cf : gz_CF} (X : gz_Ok x cc own nL d cf pf l) (hX : gz_OkH x hh) {H : Heap} {locs : List Loc} (h1 : gz_mw (gx_D x) (gx_cl x) (gx_cf x) (gx_aC x) (gx_ad x) (gx_pf x) M H) (h2 : va_S (gx_A x) (gx_s x).heap H locs) {av : List Value} {U : State} (hU : U.heap = H) (hW : (gx_s x).WarmedH U.vm) : va_Pc av (gz_BX (gx_D x) cf (gx_aC x) (gx_ad x) pf M H.size) av.toArray U := by
  have h9 := gz_Bat X h1 (av := av) hU hW
  refine ⟨h9.1, h9.2, hX.1.warm hW, ?_, ?_⟩
  · rw [hU]; exact ((hX.2.1.1.moved hW.alike).kept h2.2.1).narrow (gz_free X h2)
  · rw [hU]; exact ((hX.2.1.2.moved hW.alike).kept h2.2.1).narrow (gz_free X h2)
end GL8
