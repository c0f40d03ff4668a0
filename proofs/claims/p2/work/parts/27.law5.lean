section GL5
variable {l : Launch} {y : MethodName} {cc : ByteArray} {nL d : Nat} {rt : FieldType} {asF : (Nat → Nat) → List Value} {pf : Nat → Bool} {M N : gz_M}
theorem gz_BXC {D : va_G} {aC : Nat → ClassId} {ad : Nat → Nat} {sz : Nat} {U : State} (h : gz_BX D gz_cfL aC ad pf M sz U) : gz_BX D gz_cfC aC (gz_aC ad) pf (gz_sC M) sz U := ⟨gz_BC h.1, h.2.1, h.2.2.1.narrow fun _ => gz_AC, h.2.2.2.narrow fun _ => gz_AC⟩
theorem gz_liftXI {r : Option Int32} (h : gz_CIX l gz_cfC y cc nL d rt asF pf (gz_sC M) r N) : gz_CIX l gz_cfL y cc nL d rt (fun ad => asF (gz_aC ad)) pf M r (gz_pC M N) := by
  intro D aC ad sz
  refine MetFree.mono (h D aC (gz_aC ad) sz) (fun a s hp => ⟨hp.1, gz_BXC hp.2⟩) (fun _ _ _ _ _ h => h) (fun a s o s' hp hq => ?_)
  obtain ⟨hp1, ⟨hp2, hp3, hp4, hp5, hp6⟩, hp7⟩ := hp
  subst hp2
  rcases hq with ⟨⟨⟨r', u, ho, hr, hB⟩, hF⟩, L, hL, hf⟩ | ⟨q, ho, E, ce, L, ⟨u, hu, ⟨hE, hB⟩, hF⟩, h1, h2, h3, h4, h5, hf⟩
  · exact Or.inl ⟨⟨⟨r', u, ho, hr, gz_joinC hp3 hp5 hB hF.2⟩, va_Fmono hF fun q h => gz_AC h⟩, L, hL, fun q hq => gz_AC (hf q hq)⟩
  · exact Or.inr ⟨q, ho, E, ce, L, ⟨u, hu, ⟨hE, gz_joinC hp3 hp5 hB hF.2⟩, va_Fmono hF fun q h => gz_AC h⟩, h1, h2, h3, h4, h5, fun q hq => gz_AC (hf q hq)⟩
theorem gz_liftXL {r : Option Int64} (h : gz_CLX l gz_cfC y cc nL d rt asF pf (gz_sC M) r N) : gz_CLX l gz_cfL y cc nL d rt (fun ad => asF (gz_aC ad)) pf M r (gz_pC M N) := by
  intro D aC ad sz
  refine MetFree.mono (h D aC (gz_aC ad) sz) (fun a s hp => ⟨hp.1, gz_BXC hp.2⟩) (fun _ _ _ _ _ h => h) (fun a s o s' hp hq => ?_)
  obtain ⟨hp1, ⟨hp2, hp3, hp4, hp5, hp6⟩, hp7⟩ := hp
  subst hp2
  rcases hq with ⟨⟨⟨r', u, ho, hr, hB⟩, hF⟩, L, hL, hf⟩ | ⟨q, ho, E, ce, L, ⟨u, hu, ⟨hE, hB⟩, hF⟩, h1, h2, h3, h4, h5, hf⟩
  · exact Or.inl ⟨⟨⟨r', u, ho, hr, gz_joinC hp3 hp5 hB hF.2⟩, va_Fmono hF fun q h => gz_AC h⟩, L, hL, fun q hq => gz_AC (hf q hq)⟩
  · exact Or.inr ⟨q, ho, E, ce, L, ⟨u, hu, ⟨hE, gz_joinC hp3 hp5 hB hF.2⟩, va_Fmono hF fun q h => gz_AC h⟩, h1, h2, h3, h4, h5, fun q hq => gz_AC (hf q hq)⟩
end GL5
