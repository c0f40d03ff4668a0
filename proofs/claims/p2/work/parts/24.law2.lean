theorem va_Fmono {A B : Nat → Prop} {s t : State} (h : va_F A s t) (hAB : ∀ q, A q → B q) : va_F B s t := ⟨h.1, fun q hq hB => h.2 q hq fun hA => hB (hAB q hA)⟩
section GL
variable {l : Launch} {y : MethodName} {cc : ByteArray} {nL d : Nat} {rt : FieldType} {asF : (Nat → Nat) → List Value} {pf : Nat → Bool} {M N : gz_M}
theorem gz_liftCI {r : Int32} (h : gz_CI l gz_cfC y cc nL d rt asF pf (gz_sC M) r N) : gz_CI l gz_cfL y cc nL d rt (fun ad => asF (gz_aC ad)) pf M r (gz_pC M N) := by
  intro D aC ad sz
  refine MetFree.mono (h D aC (gz_aC ad) sz) (fun a s hp => ⟨hp.1, gz_BC hp.2⟩) (fun _ _ _ _ _ h => h) (fun a s o s' hp hq => ?_)
  obtain ⟨⟨⟨r', u, ho, hr, hB⟩, hF⟩, L, hL, hf⟩ := hq
  obtain ⟨hp1, hp2, hp3, hp4, hp5, hp6⟩ := hp
  subst hp2
  refine ⟨⟨⟨r', u, ho, hr, ?_⟩, va_Fmono hF fun q h => gz_AC h⟩, L, hL, fun q hq => gz_AC (hf q hq)⟩
  exact gz_joinC hp3 hp5 hB hF.2
theorem gz_liftRI {r : Int32} (h : gz_CI l gz_cfR y cc nL d rt asF pf (gz_sR M) r N) : gz_CI l gz_cfL y cc nL d rt (fun ad => asF (gz_aR ad)) pf M r (gz_pR M N) := by
  intro D aC ad sz
  refine MetFree.mono (h D aC (gz_aR ad) sz) (fun a s hp => ⟨hp.1, gz_BR hp.2⟩) (fun _ _ _ _ _ h => h) (fun a s o s' hp hq => ?_)
  obtain ⟨⟨⟨r', u, ho, hr, hB⟩, hF⟩, L, hL, hf⟩ := hq
  obtain ⟨hp1, hp2, hp3, hp4, hp5, hp6⟩ := hp
  subst hp2
  refine ⟨⟨⟨r', u, ho, hr, ?_⟩, va_Fmono hF fun q h => gz_AR h⟩, L, hL, fun q hq => gz_AR (hf q hq)⟩
  exact gz_joinR hp3 hp5 hB hF.2
theorem gz_liftCL {r : Int64} (h : gz_CL l gz_cfC y cc nL d rt asF pf (gz_sC M) r N) : gz_CL l gz_cfL y cc nL d rt (fun ad => asF (gz_aC ad)) pf M r (gz_pC M N) := by
  intro D aC ad sz
  refine MetFree.mono (h D aC (gz_aC ad) sz) (fun a s hp => ⟨hp.1, gz_BC hp.2⟩) (fun _ _ _ _ _ h => h) (fun a s o s' hp hq => ?_)
  obtain ⟨⟨⟨r', u, ho, hr, hB⟩, hF⟩, L, hL, hf⟩ := hq
  obtain ⟨hp1, hp2, hp3, hp4, hp5, hp6⟩ := hp
  subst hp2
  refine ⟨⟨⟨r', u, ho, hr, ?_⟩, va_Fmono hF fun q h => gz_AC h⟩, L, hL, fun q hq => gz_AC (hf q hq)⟩
  exact gz_joinC hp3 hp5 hB hF.2
theorem gz_liftRL {r : Int64} (h : gz_CL l gz_cfR y cc nL d rt asF pf (gz_sR M) r N) : gz_CL l gz_cfL y cc nL d rt (fun ad => asF (gz_aR ad)) pf M r (gz_pR M N) := by
  intro D aC ad sz
  refine MetFree.mono (h D aC (gz_aR ad) sz) (fun a s hp => ⟨hp.1, gz_BR hp.2⟩) (fun _ _ _ _ _ h => h) (fun a s o s' hp hq => ?_)
  obtain ⟨⟨⟨r', u, ho, hr, hB⟩, hF⟩, L, hL, hf⟩ := hq
  obtain ⟨hp1, hp2, hp3, hp4, hp5, hp6⟩ := hp
  subst hp2
  refine ⟨⟨⟨r', u, ho, hr, ?_⟩, va_Fmono hF fun q h => gz_AR h⟩, L, hL, fun q hq => gz_AR (hf q hq)⟩
  exact gz_joinR hp3 hp5 hB hF.2
theorem gz_liftCV (h : gz_CV l gz_cfC y cc nL d asF pf (gz_sC M) N) : gz_CV l gz_cfL y cc nL d (fun ad => asF (gz_aC ad)) pf M (gz_pC M N) := by
  intro D aC ad sz
  refine MetFree.mono (h D aC (gz_aC ad) sz) (fun a s hp => ⟨hp.1, gz_BC hp.2⟩) (fun _ _ _ _ _ h => h) (fun a s o s' hp hq => ?_)
  obtain ⟨⟨⟨u, ho, hr, hB⟩, hF⟩, L, hL, hf⟩ := hq
  obtain ⟨hp1, hp2, hp3, hp4, hp5, hp6⟩ := hp
  subst hp2
  refine ⟨⟨⟨u, ho, hr, ?_⟩, va_Fmono hF fun q h => gz_AC h⟩, L, hL, fun q hq => gz_AC (hf q hq)⟩
  exact gz_joinC hp3 hp5 hB hF.2
theorem gz_liftRV (h : gz_CV l gz_cfR y cc nL d asF pf (gz_sR M) N) : gz_CV l gz_cfL y cc nL d (fun ad => asF (gz_aR ad)) pf M (gz_pR M N) := by
  intro D aC ad sz
  refine MetFree.mono (h D aC (gz_aR ad) sz) (fun a s hp => ⟨hp.1, gz_BR hp.2⟩) (fun _ _ _ _ _ h => h) (fun a s o s' hp hq => ?_)
  obtain ⟨⟨⟨u, ho, hr, hB⟩, hF⟩, L, hL, hf⟩ := hq
  obtain ⟨hp1, hp2, hp3, hp4, hp5, hp6⟩ := hp
  subst hp2
  refine ⟨⟨⟨u, ho, hr, ?_⟩, va_Fmono hF fun q h => gz_AR h⟩, L, hL, fun q hq => gz_AR (hf q hq)⟩
  exact gz_joinR hp3 hp5 hB hF.2
end GL
