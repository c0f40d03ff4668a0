section GA
def gz_bnd : Nat → Nat := fun c => match c with
  | 0 => 134
  | 1 => 1
  | 4 => 2
  | 6 => 2
  | 7 => 1
  | 9 => 14
  | 13 => 4
  | 15 => 4
  | 16 => 8
  | 17 => 53
  | 18 => 25
  | 20 => 3
  | 22 => 3
  | 23 => 1
  | 27 => 35
  | _ => 0
theorem gz_prs {pf : Nat → Bool} {k : Nat} (h : gz_cfC.1 pf k = true) : k < 135 ∨ ∃ t d, t < 12 ∧ d < 4 ∧ pf t = true ∧ k = 135 + 4 * t + d := by
  rcases Nat.lt_or_ge k 135 with q | q
  · exact Or.inl q
  · refine Or.inr ⟨(k - 135) / 4, (k - 135) % 4, ?_⟩
    have h2 : (if k < 135 then true else if k < 183 then pf ((k - 135) / 4) else false) = true := h
    rw [if_neg (by omega)] at h2
    by_cases h3 : k < 183
    · rw [if_pos h3] at h2
      exact ⟨by omega, by omega, h2, by omega⟩
    · rw [if_neg h3] at h2
      cases h2
theorem gz_prsS {pf : Nat → Bool} {k : Nat} (h : k < 135) : gz_cfC.1 pf k = true := by
  show (if k < 135 then true else if k < 183 then pf ((k - 135) / 4) else false) = true
  rw [if_pos h]
theorem gz_prsB {pf : Nat → Bool} {t d : Nat} (ht : t < 12) (hd : d < 4) (hp : pf t = true) : gz_cfC.1 pf (135 + 4 * t + d) = true := by
  show (if 135 + 4 * t + d < 135 then true else if 135 + 4 * t + d < 183 then pf ((135 + 4 * t + d - 135) / 4) else false) = true
  rw [if_neg (by omega), if_pos (by omega), show (135 + 4 * t + d - 135) / 4 = t by omega]
  exact hp
theorem gz_refs {pf : Nat → Bool} {k o : Nat} (h : gz_cfC.1 pf k = true) (ho : o ≤ gz_bnd (gz_tC.getD k 0)) : gz_cfC.1 pf (k + o) = true := by
  rcases gz_prs h with q | ⟨t, d, ht, hd, hp, rfl⟩
  · refine gz_prsS (Nat.lt_of_le_of_lt (Nat.add_le_add_left ho k) ?_)
    exact (by decide +kernel : ∀ k, k < 135 → k + gz_bnd (gz_tC.getD k 0) < 135) k q
  · have h2 := (by decide +kernel : ∀ t, t < 12 → ∀ d, d < 4 → d + gz_bnd (gz_tC.getD (135 + 4 * t + d) 0) < 4) t ht d hd
    rw [show 135 + 4 * t + d + o = 135 + 4 * t + (d + o) by omega]
    exact gz_prsB ht (by omega) hp
theorem gz_main {pf : Nat → Bool} {k : Nat} (hk : gz_cfC.1 pf k = true) (h : gz_tC.getD k 0 = 0) : k = 0 := by
  have q : k < 183 := by
    rcases gz_prs hk with q | ⟨t, d, ht, hd, hp, rfl⟩ <;> omega
  exact (by decide +kernel : ∀ k, k < 183 → gz_tC.getD k 0 = 0 → k = 0) k q h
theorem gz_atX {D : va_G} {cl : List vw_C} {aC : Nat → ClassId} {ad ad' : Nat → Nat} {pf pf' : Nat → Bool} {c k a : Nat} {g : Nat → Int32} {gl : Nat → Int64} {H : Heap} (hm : c = 0 → k = 0) (hmod : c ≠ 27) (h : ∀ o, o ≤ gz_bnd c → ad' (k + o) = ad (k + o)) (hK : ∀ j, pf' (100 + j) = pf (100 + j) ∧ (pf (100 + j) = true → ad' (135 + 4 * j) = ad (135 + 4 * j))) (hC : ∀ v : Int32, c = 0 → ad' (gz_cIx v) = ad (gz_cIx v)) (hv : va_at D cl (a, gz_kc c aC ad pf k g gl) H) : va_at D cl (a, gz_kc c aC ad' pf' k g gl) H := by
  have hKf : ∀ j, (if pf' (100 + j) = true then some (ad' (135 + 4 * j)) else none) = (if pf (100 + j) = true then some (ad (135 + 4 * j)) else none) := by
    intro j
    obtain ⟨h1, h2⟩ := hK j
    rw [h1]
    split
    · rename_i h3; rw [h2 h3]
    · rfl
  revert hm hmod h hC hv
  unfold gz_kc
  split
  · intro hm hmod h hC hv
    have hk := hm rfl
    subst hk
    have e : gz_oX11 aC ad' pf' 0 g gl = gz_oX11 aC ad pf 0 g gl := by
      have h1 : ad' 1 = ad 1 := by have := h 1 (by decide); rwa [Nat.zero_add] at this
      have h3 : ad' 3 = ad 3 := by have := h 3 (by decide); rwa [Nat.zero_add] at this
      have h4 : ad' 4 = ad 4 := by have := h 4 (by decide); rwa [Nat.zero_add] at this
      have h7 : ad' 7 = ad 7 := by have := h 7 (by decide); rwa [Nat.zero_add] at this
      have h11 : ad' 11 = ad 11 := by have := h 11 (by decide); rwa [Nat.zero_add] at this
      have h39 : ad' 39 = ad 39 := by have := h 39 (by decide); rwa [Nat.zero_add] at this
      have h58 : ad' 58 = ad 58 := by have := h 58 (by decide); rwa [Nat.zero_add] at this
      have h69 : ad' 69 = ad 69 := by have := h 69 (by decide); rwa [Nat.zero_add] at this
      have h123 : ad' 123 = ad 123 := by have := h 123 (by decide); rwa [Nat.zero_add] at this
      have h127 : ad' 127 = ad 127 := by have := h 127 (by decide); rwa [Nat.zero_add] at this
      have h131 : ad' 131 = ad 131 := by have := h 131 (by decide); rwa [Nat.zero_add] at this
      have h133 : ad' 133 = ad 133 := by have := h 133 (by decide); rwa [Nat.zero_add] at this
      have h134 : ad' 134 = ad 134 := by have := h 134 (by decide); rwa [Nat.zero_add] at this
      simp only [gz_oX11, hC _ rfl, h1, h3, h4, h7, h11, h39, h58, h69, h123, h127, h131, h133, h134]
    rw [e]
    exact hv
  · intro hm hmod h hC hv
    have e : gz_oX10 aC ad' pf' k g gl = gz_oX10 aC ad pf k g gl := by
      simp only [gz_oX10, h 1 (by decide)]
    rw [e]
    exact hv
  · intro hm hmod h hC hv
    exact hv
  · intro hm hmod h hC hv
    exact hv
  · intro hm hmod h hC hv
    have e : gz_oX1 aC ad' pf' k g gl = gz_oX1 aC ad pf k g gl := by
      simp only [gz_oX1, h 1 (by decide), h 2 (by decide)]
    rw [e]
    exact hv
  · intro hm hmod h hC hv
    exact hv
  · intro hm hmod h hC hv
    have e : gz_oX0 aC ad' pf' k g gl = gz_oX0 aC ad pf k g gl := by
      simp only [gz_oX0, h 1 (by decide), h 2 (by decide)]
    rw [e]
    exact hv
  · intro hm hmod h hC hv
    have e : gz_oX5 aC ad' pf' k g gl = gz_oX5 aC ad pf k g gl := by
      simp only [gz_oX5, h 1 (by decide)]
    rw [e]
    exact hv
  · intro hm hmod h hC hv
    exact hv
  · intro hm hmod h hC hv
    have e : gz_oX7 aC ad' pf' k g gl = gz_oX7 aC ad pf k g gl := by
      simp only [gz_oX7, h 1 (by decide), h 2 (by decide), h 3 (by decide), h 4 (by decide), h 5 (by decide), h 6 (by decide), h 7 (by decide), h 8 (by decide), h 9 (by decide), h 14 (by decide)]
    rw [e]
    exact hv
  · intro hm hmod h hC hv
    exact hv
  · intro hm hmod h hC hv
    exact hv
  · intro hm hmod h hC hv
    exact hv
  · intro hm hmod h hC hv
    have hv2 : H[a]? = some (vp_cell (aC 4) (4, .inr (.inr (.inr (.inr (fun j => some (ad (k + 1 + j)))))))) := hv
    show H[a]? = some (vp_cell (aC 4) (4, .inr (.inr (.inr (.inr (fun j => some (ad' (k + 1 + j))))))))
    rw [hv2, vp_cell_q, vp_cell_q]
    exact congrArg some (gc_arrExt fun j hj => by
      show va_rf (some (ad (k + 1 + j))) = va_rf (some (ad' (k + 1 + j)))
      rw [Nat.add_assoc, h (1 + j) (by show 1 + j ≤ 4; omega)])
  · intro hm hmod h hC hv
    exact hv
  · intro hm hmod h hC hv
    have hv2 : H[a]? = some (vp_cell (aC 4) (4, .inr (.inr (.inr (.inr (fun j => some (ad (k + 1 + j)))))))) := hv
    show H[a]? = some (vp_cell (aC 4) (4, .inr (.inr (.inr (.inr (fun j => some (ad' (k + 1 + j))))))))
    rw [hv2, vp_cell_q, vp_cell_q]
    exact congrArg some (gc_arrExt fun j hj => by
      show va_rf (some (ad (k + 1 + j))) = va_rf (some (ad' (k + 1 + j)))
      rw [Nat.add_assoc, h (1 + j) (by show 1 + j ≤ 4; omega)])
  · intro hm hmod h hC hv
    have e : gz_oX2 aC ad' pf' k g gl = gz_oX2 aC ad pf k g gl := by
      simp only [gz_oX2, h 1 (by decide), h 2 (by decide), h 3 (by decide), h 4 (by decide), h 5 (by decide), h 6 (by decide), h 7 (by decide), h 8 (by decide)]
    rw [e]
    exact hv
  · intro hm hmod h hC hv
    have e : gz_oX6 aC ad' pf' k g gl = gz_oX6 aC ad pf k g gl := by
      simp only [gz_oX6, h 1 (by decide), h 27 (by decide), h 53 (by decide)]
    rw [e]
    exact hv
  · intro hm hmod h hC hv
    have hv2 : H[a]? = some (vp_cell (aC 4) (25, .inr (.inr (.inr (.inr (fun j => some (ad (k + 1 + j)))))))) := hv
    show H[a]? = some (vp_cell (aC 4) (25, .inr (.inr (.inr (.inr (fun j => some (ad' (k + 1 + j))))))))
    rw [hv2, vp_cell_q, vp_cell_q]
    exact congrArg some (gc_arrExt fun j hj => by
      show va_rf (some (ad (k + 1 + j))) = va_rf (some (ad' (k + 1 + j)))
      rw [Nat.add_assoc, h (1 + j) (by show 1 + j ≤ 25; omega)])
  · intro hm hmod h hC hv
    exact hv
  · intro hm hmod h hC hv
    have e : gz_oX8 aC ad' pf' k g gl = gz_oX8 aC ad pf k g gl := by
      simp only [gz_oX8, h 1 (by decide), h 2 (by decide), h 3 (by decide)]
    rw [e]
    exact hv
  · intro hm hmod h hC hv
    exact hv
  · intro hm hmod h hC hv
    have e : gz_oX9 aC ad' pf' k g gl = gz_oX9 aC ad pf k g gl := by
      simp only [gz_oX9, h 1 (by decide), h 2 (by decide), h 3 (by decide)]
    rw [e]
    exact hv
  · intro hm hmod h hC hv
    have e : gz_oX4 aC ad' pf' k g gl = gz_oX4 aC ad pf k g gl := by
      simp only [gz_oX4, h 1 (by decide)]
    rw [e]
    exact hv
  · intro hm hmod h hC hv
    have e : gz_oK 10 0 aC ad' pf' k g gl = gz_oK 10 0 aC ad pf k g gl := by
      simp only [gz_oK, hKf]
    rw [e]
    exact hv
  · intro hm hmod h hC hv
    have e : gz_oK 2 10 aC ad' pf' k g gl = gz_oK 2 10 aC ad pf k g gl := by
      simp only [gz_oK, hKf]
    rw [e]
    exact hv
  · intro hm hmod h hC hv
    exact hv
  · intro hm hmod h hC hv
    exact absurd rfl hmod
  · intro hm hmod h hC hv
    exact hv
  · intro hm hmod h hC hv
    exact hv
  · intro hm hmod h hC hv
    exact hv
  · intro hm hmod h hC hv
    exact hv
  · intro hm hmod h hC hv
    exact hv
  · intro hm hmod h hC hv
    exact hv
  · intro hm hmod h hC hv
    exact hv
  · intro hm hmod h hC hv
    exact hv
  · intro hm hmod h hC hv
    exact hv
  · intro hm hmod h hC hv
    exact hv
  · intro hm hmod h hC hv
    exact hv
  · intro hm hmod h hC hv
    exact hv
  · intro hm hmod h hC hv
    exact hv
end GA
