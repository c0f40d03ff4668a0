section GL6
variable {x : gz_X} {cc : ByteArray} {own : String} {nL d pc : Nat} {pf : Nat → Bool} {l : Launch} {lv : List (Nat × Value)} {st : List Value} {M : gz_M}
theorem gz_kdO (pf : Nat → Bool) : gz_KD gz_cfL pf 2 (fun aC ad pf k g gl => gz_oJ 1 aC ad pf k g (fun i => gl (3 * i + 2))) := ⟨rfl, fun _ _ _ _ => rfl⟩
theorem gz_wl2 (aC : Nat → ClassId) (ad : Nat → Nat) (pf : Nat → Bool) (k : Nat) (hk : gz_cfL.1 pf k = true) (h : k ≠ 2) (v : Int64) : gz_cfL.2 aC ad pf k (M.1 k) (gz_wl M 2 v).2 = gz_cfL.2 aC ad pf k (M.1 k) M.2 := by
  rcases gz_L3 hk with ⟨j, rfl, hj⟩ | ⟨j, rfl, hj⟩ | rfl
  · have h1 := gz_Lc2 aC ad pf j (gz_wl M 2 v)
    have h2 := gz_Lc2 aC ad pf j M
    have e : gz_sC (gz_wl M 2 v) = gz_sC M := Prod.ext rfl (funext fun i => by
      show (if 3 * i = 2 then v else M.2 (3 * i)) = M.2 (3 * i)
      rw [if_neg (by omega)])
    rw [e] at h1
    exact h1.trans h2.symm
  · have h1 := gz_Lr2 aC ad pf j (gz_wl M 2 v)
    have h2 := gz_Lr2 aC ad pf j M
    have e : gz_sR (gz_wl M 2 v) = gz_sR M := Prod.ext rfl (funext fun i => by
      show (if 3 * i + 1 = 2 then v else M.2 (3 * i + 1)) = M.2 (3 * i + 1)
      rw [if_neg (by omega)])
    rw [e] at h1
    exact h1.trans h2.symm
  · exact absurd rfl h
theorem gr_outst {v : Int64} (X : gz_Ok x cc own nL d gz_cfL pf l) (dg : decode cc pc = .ok (.lastore, 1)) (kk : gz_At x (pc + 1) lv st (gz_wl M 2 v)) : gz_At x pc lv (.long v :: .int 0 :: .ref (gx_ad x 2) :: st) M := by
  have hk := X.kd (gz_kdO pf)
  intro H locs ls h1 h2 h3
  have hP := gz_one h1 hk.1 (hk.2 _ _ _ _)
  refine W.last X.hx X.hb (hP 0 _ rfl) ((X.hK.2 2 _ rfl).1 1 (fun j => .long (M.2 (3 * j + 2)))) (fun q => by cases q) (by show ¬ ((0 : Int32) < 0 ∨ (arrV _ _ _).slots.size ≤ _); rw [arrV_size]; show ¬ ((0 : Int32) < 0 ∨ 1 ≤ (0 : Int32).toNatClampNeg); decide) rfl rfl dg fun H1 e z oq => ?_
  refine kk H1 _ ls (fun k' hk' => ?_) (h2.put z oq (X.hA 2 hk.1)) h3
  by_cases h : k' = 2
  · subst h
    rw [hk.2]
    show H1[gx_ad x 2]? = some (vp_cell _ _)
    rw [e]
    rw [vp_cell_l, vp_cell_l, arrV_store]
    congr 2
    funext q
    by_cases hq : q = 0
    · subst hq
      simp [updV, vp_updL, gz_wl]
    · have h9 : 3 * q + 2 ≠ 2 := by omega
      simp [updV, vp_updL, gz_wl, hq]
      try (intro h8; omega)
  · have h0 := (h1 k' hk').kept (oq _ (fun q => h (X.hinj _ _ hk' hk.1 q)))
    have e9 : (gx_cf x).2 (gx_aC x) (gx_ad x) (gx_pf x) k' (M.1 k') (gz_wl M 2 v).2 = (gx_cf x).2 (gx_aC x) (gx_ad x) (gx_pf x) k' (M.1 k') M.2 := by
      rw [X.hcf]; rw [X.hcf] at hk'; exact gz_wl2 _ _ _ k' hk' h v
    show va_at _ _ (gx_ad x k', (gx_cf x).2 (gx_aC x) (gx_ad x) (gx_pf x) k' (M.1 k') (gz_wl M 2 v).2) H1
    rw [e9]; exact h0
end GL6
