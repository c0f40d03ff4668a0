/-! layouts: what the cells of each kind hold, by their index k; refs go to cells at places of their own -/
def gz_oK (n b : Nat) : gz_Lay := fun aC ad pf _ _ _ => .inl (aC 5, n, .inr (.inr (.inr (.inr (fun j => if pf (100 + (b + j)) = true then some (ad (135 + 4 * (b + j))) else none)))))
def gz_cIx (v : Int32) : Nat := if v = 0 then 30 else 60
def gz_cOf (k : Nat) : Int32 := if k = 30 then 0 else 1
def gz_oX0 : gz_Lay := fun _ ad _ k g _ => .inr (0, [.ref (ad (k + 1)), .int (g 1), .ref (ad (k + 2))])
def gz_oX1 : gz_Lay := fun _ ad _ k g _ => .inr (1, [.ref (ad (k + 1)), .ref (ad (k + 2)), .int (g 2), .int (g 3), .int (g 4), .int (g 5)])
def gz_oX2 : gz_Lay := fun _ ad _ k g _ => .inr (2, [.int (g 0), .int (g 1), .ref (ad (k + 1)), .ref (ad (k + 2)), .ref (ad (k + 3)), .ref (ad (k + 4)), .ref (ad (k + 5)), .ref (ad (k + 6)), .ref (ad (k + 7)), .ref (ad (k + 8)), .int (g 10), .int (g 11), .int (g 12), .int (g 13), .int (g 14), .int (g 15)])
def gz_oX3 : gz_Lay := fun _ ad _ k g _ => .inr (3, [.int (g 0), .int (g 1)])
def gz_oX4 : gz_Lay := fun _ ad _ k g _ => .inr (4, [.ref (ad (k + 1)), .int (g 1), .int (g 2)])
def gz_oX5 : gz_Lay := fun _ ad _ k g _ => .inr (5, [.ref (ad (k + 1)), .int (g 1)])
def gz_oX6 : gz_Lay := fun _ ad _ k g _ => .inr (6, [.ref (ad (k + 1)), .ref (ad (k + 27)), .ref (ad (k + 53)), .int (g 3), .int (g 4)])
def gz_oX7 : gz_Lay := fun _ ad _ k g _ => .inr (7, [.int (g 0), .ref (ad (k + 1)), .ref (ad (k + 2)), .ref (ad (k + 3)), .ref (ad (k + 4)), .ref (ad (k + 5)), .ref (ad (k + 6)), .ref (ad (k + 7)), .ref (ad (k + 8)), .ref (ad (k + 9)), .ref (ad (k + 14))])
def gz_oX8 : gz_Lay := fun _ ad _ k g _ => .inr (8, [.ref (ad (k + 1)), .ref (ad (k + 2)), .ref (ad (k + 3)), .int (g 3)])
def gz_oX9 : gz_Lay := fun _ ad _ k g _ => .inr (9, [.ref (ad (k + 1)), .ref (ad (k + 2)), .ref (ad (k + 3))])
def gz_oX10 : gz_Lay := fun _ ad _ k g _ => .inr (10, [.ref (ad (k + 1)), .int (g 1)])
def gz_oX11 : gz_Lay := fun _ ad _ k g _ => .inr (11, [.ref (ad 1), .ref (ad 3), .ref (ad 4), .ref (ad 7), .ref (ad 11), .ref (ad (gz_cIx (g 5))), .ref (ad 39), .ref (ad 58), .ref (ad (gz_cIx (g 8))), .ref (ad 69), .ref (ad 123), .ref (ad 127), .ref (ad 131), .ref (ad 133), .ref (ad 134), .int (g 15)])
def gz_oX12 : gz_Lay := fun _ ad _ k g _ => .inr (12, [.ref (ad 1), .ref (ad 2), .int (g 2), .ref (ad 3), .int (g 4), .int (g 5), .ref (ad 4), .int (g 7), .int (g 8), .int (g 9), .int (g 10), .ref (ad 5), .ref (ad 6), .ref (ad 7), .ref (ad 8), .ref (ad 9), .ref (ad 10), .ref (ad 11), .ref (ad 12), .ref (ad 13), .ref (ad 14), .int (g 21), .int (g 22), .int (g 23), .int (g 24), .ref (ad 15), .int (g 26), .ref (ad 16), .int (g 28), .int (g 29), .ref (ad 17), .int (g 31), .int (g 32), .ref (ad 18), .ref (ad 19), .ref (ad 20), .ref (ad 21), .ref (ad 22), .ref (ad 23), .int (g 39), .ref (ad 24), .ref (ad 25), .ref (ad 26), .ref (ad 27), .int (g 44), .ref (ad 28), .ref (ad 29), .ref (ad 30), .ref (ad 31), .ref (ad 32), .ref (ad 33), .int (g 51), .ref (ad 34), .ref (ad 35), .int (g 54)])
def gz_kc : Nat → gz_Lay := fun c => match c with
  | 0 => gz_oX11
  | 1 => gz_oX10
  | 2 => gz_oI 80
  | 3 => gz_oX3
  | 4 => gz_oX1
  | 5 => gz_oI 7
  | 6 => gz_oX0
  | 7 => gz_oX5
  | 8 => gz_oI 24
  | 9 => gz_oX7
  | 10 => gz_oI 8
  | 11 => gz_oZ 8
  | 12 => gz_oI 4
  | 13 => gz_oG 4
  | 14 => gz_oI 10
  | 15 => gz_oG 4
  | 16 => gz_oX2
  | 17 => gz_oX6
  | 18 => gz_oG 25
  | 19 => gz_oI 25
  | 20 => gz_oX8
  | 21 => gz_oI 1024
  | 22 => gz_oX9
  | 23 => gz_oX4
  | 24 => gz_oK 10 0
  | 25 => gz_oK 2 10
  | 26 => gz_oJ 1024
  | 27 => gz_oX12
  | 28 => gz_oI 106
  | 29 => gz_oB 80
  | 30 => gz_oJ 64
  | 31 => gz_oI 40
  | 32 => gz_oI 5
  | 33 => gz_oI 300
  | 34 => gz_oI 102400
  | 35 => gz_oZ 102400
  | 36 => gz_oI 212
  | 37 => gz_oZ 2
  | 38 => gz_oZ 1024
  | 39 => gz_oI 1060
  | _ => gz_oI 240
def gz_tC : List Nat := [0, 1, 2, 3, 4, 5, 5, 6, 2, 7, 8, 9, 10, 10, 10, 10, 10, 11, 12, 12, 13, 14, 14, 14, 14, 15, 10, 10, 10, 10, 16, 8, 8, 8, 8, 8, 8, 8, 8, 9, 10, 10, 10, 10, 10, 11, 12, 12, 13, 14, 14, 14, 14, 15, 10, 10, 10, 10, 7, 8, 16, 8, 8, 8, 8, 8, 8, 8, 8, 17, 18, 8, 8, 8, 8, 8, 8, 8, 8, 8, 8, 8, 8, 8, 8, 8, 8, 8, 8, 8, 8, 8, 8, 8, 8, 8, 18, 8, 8, 8, 8, 8, 8, 8, 8, 8, 8, 8, 8, 8, 8, 8, 8, 8, 8, 8, 8, 8, 8, 8, 8, 8, 19, 20, 21, 21, 21, 22, 19, 19, 19, 23, 24, 25, 26, 6, 2, 7, 8, 6, 2, 7, 8, 6, 2, 7, 8, 6, 2, 7, 8, 6, 2, 7, 8, 6, 2, 7, 8, 6, 2, 7, 8, 6, 2, 7, 8, 6, 2, 7, 8, 6, 2, 7, 8, 6, 2, 7, 8, 6, 2, 7, 8]
def gz_tR : List Nat := [27, 28, 29, 30, 2, 10, 10, 10, 10, 11, 10, 10, 12, 31, 31, 8, 32, 33, 34, 35, 8, 36, 37, 33, 21, 21, 21, 38, 21, 19, 19, 19, 19, 39, 28, 40]
def gz_cfC : gz_CF := (fun pf k => if k < 135 then true else if k < 183 then pf ((k - 135) / 4) else false, fun aC ad pf k g gl => gz_kc (gz_tC.getD k 0) aC ad pf k g gl)
def gz_cfR : gz_CF := (fun _ k => decide (k < 36), fun aC ad pf k g gl => gz_kc (gz_tR.getD k 0) aC ad pf k g gl)
theorem gz_LCC : gz_LC gz_cfC 134 := by
  intro aC ad pf k g gl gl' h
  have e : ∀ k, gz_tC.getD k 0 = 26 ∨ gz_tC.getD k 0 = 30 → k = 134 := by
    intro k
    rcases Nat.lt_or_ge k 183 with q | q
    · exact (by decide +kernel : ∀ k, k < 183 → (gz_tC.getD k 0 = 26 ∨ gz_tC.getD k 0 = 30 → k = 134)) k q
    · intro h2
      rw [List.getD, List.getElem?_eq_none q] at h2
      rcases h2 with h2 | h2 <;> cases h2
  show gz_kc (gz_tC.getD k 0) aC ad pf k g gl = gz_kc (gz_tC.getD k 0) aC ad pf k g gl'
  have h1 := mt (e k) h
  generalize gz_tC.getD k 0 = c at h1
  unfold gz_kc
  split <;> first | rfl | exact absurd (Or.inl rfl) h1 | exact absurd (Or.inr rfl) h1
theorem gz_LCR : gz_LC gz_cfR 3 := by
  intro aC ad pf k g gl gl' h
  have e : ∀ k, gz_tR.getD k 0 = 26 ∨ gz_tR.getD k 0 = 30 → k = 3 := by
    intro k
    rcases Nat.lt_or_ge k 36 with q | q
    · exact (by decide +kernel : ∀ k, k < 36 → (gz_tR.getD k 0 = 26 ∨ gz_tR.getD k 0 = 30 → k = 3)) k q
    · intro h2
      rw [List.getD, List.getElem?_eq_none q] at h2
      rcases h2 with h2 | h2 <;> cases h2
  show gz_kc (gz_tR.getD k 0) aC ad pf k g gl = gz_kc (gz_tR.getD k 0) aC ad pf k g gl'
  have h1 := mt (e k) h
  generalize gz_tR.getD k 0 = c at h1
  unfold gz_kc
  split <;> first | rfl | exact absurd (Or.inl rfl) h1 | exact absurd (Or.inr rfl) h1
theorem gk_C0 {pf : Nat → Bool} : gz_KD gz_cfC pf 0 (gz_oX11) := ⟨rfl, fun _ _ _ _ => rfl⟩
theorem gk_C1 {pf : Nat → Bool} : gz_KD gz_cfC pf 1 (gz_oX10) := ⟨rfl, fun _ _ _ _ => rfl⟩
theorem gk_C2 {pf : Nat → Bool} : gz_KD gz_cfC pf 2 (gz_oI 80) := ⟨rfl, fun _ _ _ _ => rfl⟩
theorem gk_C3 {pf : Nat → Bool} : gz_KD gz_cfC pf 3 (gz_oX3) := ⟨rfl, fun _ _ _ _ => rfl⟩
theorem gk_C4 {pf : Nat → Bool} : gz_KD gz_cfC pf 4 (gz_oX1) := ⟨rfl, fun _ _ _ _ => rfl⟩
theorem gk_C5 {pf : Nat → Bool} : gz_KD gz_cfC pf 5 (gz_oI 7) := ⟨rfl, fun _ _ _ _ => rfl⟩
theorem gk_C6 {pf : Nat → Bool} : gz_KD gz_cfC pf 6 (gz_oI 7) := ⟨rfl, fun _ _ _ _ => rfl⟩
theorem gk_C7 {pf : Nat → Bool} : gz_KD gz_cfC pf 7 (gz_oX0) := ⟨rfl, fun _ _ _ _ => rfl⟩
theorem gk_C8 {pf : Nat → Bool} : gz_KD gz_cfC pf 8 (gz_oI 80) := ⟨rfl, fun _ _ _ _ => rfl⟩
theorem gk_C9 {pf : Nat → Bool} : gz_KD gz_cfC pf 9 (gz_oX5) := ⟨rfl, fun _ _ _ _ => rfl⟩
theorem gk_C10 {pf : Nat → Bool} : gz_KD gz_cfC pf 10 (gz_oI 24) := ⟨rfl, fun _ _ _ _ => rfl⟩
theorem gk_C11 {pf : Nat → Bool} : gz_KD gz_cfC pf 11 (gz_oX7) := ⟨rfl, fun _ _ _ _ => rfl⟩
theorem gk_C12 {pf : Nat → Bool} : gz_KD gz_cfC pf 12 (gz_oI 8) := ⟨rfl, fun _ _ _ _ => rfl⟩
theorem gk_C13 {pf : Nat → Bool} : gz_KD gz_cfC pf 13 (gz_oI 8) := ⟨rfl, fun _ _ _ _ => rfl⟩
theorem gk_C14 {pf : Nat → Bool} : gz_KD gz_cfC pf 14 (gz_oI 8) := ⟨rfl, fun _ _ _ _ => rfl⟩
theorem gk_C15 {pf : Nat → Bool} : gz_KD gz_cfC pf 15 (gz_oI 8) := ⟨rfl, fun _ _ _ _ => rfl⟩
theorem gk_C16 {pf : Nat → Bool} : gz_KD gz_cfC pf 16 (gz_oI 8) := ⟨rfl, fun _ _ _ _ => rfl⟩
theorem gk_C17 {pf : Nat → Bool} : gz_KD gz_cfC pf 17 (gz_oZ 8) := ⟨rfl, fun _ _ _ _ => rfl⟩
theorem gk_C18 {pf : Nat → Bool} : gz_KD gz_cfC pf 18 (gz_oI 4) := ⟨rfl, fun _ _ _ _ => rfl⟩
theorem gk_C19 {pf : Nat → Bool} : gz_KD gz_cfC pf 19 (gz_oI 4) := ⟨rfl, fun _ _ _ _ => rfl⟩
theorem gk_C20 {pf : Nat → Bool} : gz_KD gz_cfC pf 20 (gz_oG 4) := ⟨rfl, fun _ _ _ _ => rfl⟩
theorem gk_C21 {pf : Nat → Bool} : gz_KD gz_cfC pf 21 (gz_oI 10) := ⟨rfl, fun _ _ _ _ => rfl⟩
theorem gk_C22 {pf : Nat → Bool} : gz_KD gz_cfC pf 22 (gz_oI 10) := ⟨rfl, fun _ _ _ _ => rfl⟩
theorem gk_C23 {pf : Nat → Bool} : gz_KD gz_cfC pf 23 (gz_oI 10) := ⟨rfl, fun _ _ _ _ => rfl⟩
theorem gk_C24 {pf : Nat → Bool} : gz_KD gz_cfC pf 24 (gz_oI 10) := ⟨rfl, fun _ _ _ _ => rfl⟩
theorem gk_C25 {pf : Nat → Bool} : gz_KD gz_cfC pf 25 (gz_oG 4) := ⟨rfl, fun _ _ _ _ => rfl⟩
theorem gk_C26 {pf : Nat → Bool} : gz_KD gz_cfC pf 26 (gz_oI 8) := ⟨rfl, fun _ _ _ _ => rfl⟩
theorem gk_C27 {pf : Nat → Bool} : gz_KD gz_cfC pf 27 (gz_oI 8) := ⟨rfl, fun _ _ _ _ => rfl⟩
theorem gk_C28 {pf : Nat → Bool} : gz_KD gz_cfC pf 28 (gz_oI 8) := ⟨rfl, fun _ _ _ _ => rfl⟩
theorem gk_C29 {pf : Nat → Bool} : gz_KD gz_cfC pf 29 (gz_oI 8) := ⟨rfl, fun _ _ _ _ => rfl⟩
theorem gk_C30 {pf : Nat → Bool} : gz_KD gz_cfC pf 30 (gz_oX2) := ⟨rfl, fun _ _ _ _ => rfl⟩
theorem gk_C31 {pf : Nat → Bool} : gz_KD gz_cfC pf 31 (gz_oI 24) := ⟨rfl, fun _ _ _ _ => rfl⟩
theorem gk_C32 {pf : Nat → Bool} : gz_KD gz_cfC pf 32 (gz_oI 24) := ⟨rfl, fun _ _ _ _ => rfl⟩
theorem gk_C33 {pf : Nat → Bool} : gz_KD gz_cfC pf 33 (gz_oI 24) := ⟨rfl, fun _ _ _ _ => rfl⟩
theorem gk_C34 {pf : Nat → Bool} : gz_KD gz_cfC pf 34 (gz_oI 24) := ⟨rfl, fun _ _ _ _ => rfl⟩
theorem gk_C35 {pf : Nat → Bool} : gz_KD gz_cfC pf 35 (gz_oI 24) := ⟨rfl, fun _ _ _ _ => rfl⟩
theorem gk_C36 {pf : Nat → Bool} : gz_KD gz_cfC pf 36 (gz_oI 24) := ⟨rfl, fun _ _ _ _ => rfl⟩
theorem gk_C37 {pf : Nat → Bool} : gz_KD gz_cfC pf 37 (gz_oI 24) := ⟨rfl, fun _ _ _ _ => rfl⟩
theorem gk_C38 {pf : Nat → Bool} : gz_KD gz_cfC pf 38 (gz_oI 24) := ⟨rfl, fun _ _ _ _ => rfl⟩
theorem gk_C39 {pf : Nat → Bool} : gz_KD gz_cfC pf 39 (gz_oX7) := ⟨rfl, fun _ _ _ _ => rfl⟩
theorem gk_C40 {pf : Nat → Bool} : gz_KD gz_cfC pf 40 (gz_oI 8) := ⟨rfl, fun _ _ _ _ => rfl⟩
theorem gk_C41 {pf : Nat → Bool} : gz_KD gz_cfC pf 41 (gz_oI 8) := ⟨rfl, fun _ _ _ _ => rfl⟩
theorem gk_C42 {pf : Nat → Bool} : gz_KD gz_cfC pf 42 (gz_oI 8) := ⟨rfl, fun _ _ _ _ => rfl⟩
theorem gk_C43 {pf : Nat → Bool} : gz_KD gz_cfC pf 43 (gz_oI 8) := ⟨rfl, fun _ _ _ _ => rfl⟩
theorem gk_C44 {pf : Nat → Bool} : gz_KD gz_cfC pf 44 (gz_oI 8) := ⟨rfl, fun _ _ _ _ => rfl⟩
theorem gk_C45 {pf : Nat → Bool} : gz_KD gz_cfC pf 45 (gz_oZ 8) := ⟨rfl, fun _ _ _ _ => rfl⟩
theorem gk_C46 {pf : Nat → Bool} : gz_KD gz_cfC pf 46 (gz_oI 4) := ⟨rfl, fun _ _ _ _ => rfl⟩
theorem gk_C47 {pf : Nat → Bool} : gz_KD gz_cfC pf 47 (gz_oI 4) := ⟨rfl, fun _ _ _ _ => rfl⟩
theorem gk_C48 {pf : Nat → Bool} : gz_KD gz_cfC pf 48 (gz_oG 4) := ⟨rfl, fun _ _ _ _ => rfl⟩
theorem gk_C49 {pf : Nat → Bool} : gz_KD gz_cfC pf 49 (gz_oI 10) := ⟨rfl, fun _ _ _ _ => rfl⟩
theorem gk_C50 {pf : Nat → Bool} : gz_KD gz_cfC pf 50 (gz_oI 10) := ⟨rfl, fun _ _ _ _ => rfl⟩
theorem gk_C51 {pf : Nat → Bool} : gz_KD gz_cfC pf 51 (gz_oI 10) := ⟨rfl, fun _ _ _ _ => rfl⟩
theorem gk_C52 {pf : Nat → Bool} : gz_KD gz_cfC pf 52 (gz_oI 10) := ⟨rfl, fun _ _ _ _ => rfl⟩
theorem gk_C53 {pf : Nat → Bool} : gz_KD gz_cfC pf 53 (gz_oG 4) := ⟨rfl, fun _ _ _ _ => rfl⟩
theorem gk_C54 {pf : Nat → Bool} : gz_KD gz_cfC pf 54 (gz_oI 8) := ⟨rfl, fun _ _ _ _ => rfl⟩
theorem gk_C55 {pf : Nat → Bool} : gz_KD gz_cfC pf 55 (gz_oI 8) := ⟨rfl, fun _ _ _ _ => rfl⟩
theorem gk_C56 {pf : Nat → Bool} : gz_KD gz_cfC pf 56 (gz_oI 8) := ⟨rfl, fun _ _ _ _ => rfl⟩
theorem gk_C57 {pf : Nat → Bool} : gz_KD gz_cfC pf 57 (gz_oI 8) := ⟨rfl, fun _ _ _ _ => rfl⟩
theorem gk_C58 {pf : Nat → Bool} : gz_KD gz_cfC pf 58 (gz_oX5) := ⟨rfl, fun _ _ _ _ => rfl⟩
theorem gk_C59 {pf : Nat → Bool} : gz_KD gz_cfC pf 59 (gz_oI 24) := ⟨rfl, fun _ _ _ _ => rfl⟩
theorem gk_C60 {pf : Nat → Bool} : gz_KD gz_cfC pf 60 (gz_oX2) := ⟨rfl, fun _ _ _ _ => rfl⟩
theorem gk_C61 {pf : Nat → Bool} : gz_KD gz_cfC pf 61 (gz_oI 24) := ⟨rfl, fun _ _ _ _ => rfl⟩
theorem gk_C62 {pf : Nat → Bool} : gz_KD gz_cfC pf 62 (gz_oI 24) := ⟨rfl, fun _ _ _ _ => rfl⟩
theorem gk_C63 {pf : Nat → Bool} : gz_KD gz_cfC pf 63 (gz_oI 24) := ⟨rfl, fun _ _ _ _ => rfl⟩
theorem gk_C64 {pf : Nat → Bool} : gz_KD gz_cfC pf 64 (gz_oI 24) := ⟨rfl, fun _ _ _ _ => rfl⟩
theorem gk_C65 {pf : Nat → Bool} : gz_KD gz_cfC pf 65 (gz_oI 24) := ⟨rfl, fun _ _ _ _ => rfl⟩
theorem gk_C66 {pf : Nat → Bool} : gz_KD gz_cfC pf 66 (gz_oI 24) := ⟨rfl, fun _ _ _ _ => rfl⟩
theorem gk_C67 {pf : Nat → Bool} : gz_KD gz_cfC pf 67 (gz_oI 24) := ⟨rfl, fun _ _ _ _ => rfl⟩
theorem gk_C68 {pf : Nat → Bool} : gz_KD gz_cfC pf 68 (gz_oI 24) := ⟨rfl, fun _ _ _ _ => rfl⟩
theorem gk_C69 {pf : Nat → Bool} : gz_KD gz_cfC pf 69 (gz_oX6) := ⟨rfl, fun _ _ _ _ => rfl⟩
theorem gk_C70 {pf : Nat → Bool} : gz_KD gz_cfC pf 70 (gz_oG 25) := ⟨rfl, fun _ _ _ _ => rfl⟩
theorem gk_C71 {pf : Nat → Bool} : gz_KD gz_cfC pf 71 (gz_oI 24) := ⟨rfl, fun _ _ _ _ => rfl⟩
theorem gk_C72 {pf : Nat → Bool} : gz_KD gz_cfC pf 72 (gz_oI 24) := ⟨rfl, fun _ _ _ _ => rfl⟩
theorem gk_C73 {pf : Nat → Bool} : gz_KD gz_cfC pf 73 (gz_oI 24) := ⟨rfl, fun _ _ _ _ => rfl⟩
theorem gk_C74 {pf : Nat → Bool} : gz_KD gz_cfC pf 74 (gz_oI 24) := ⟨rfl, fun _ _ _ _ => rfl⟩
theorem gk_C75 {pf : Nat → Bool} : gz_KD gz_cfC pf 75 (gz_oI 24) := ⟨rfl, fun _ _ _ _ => rfl⟩
theorem gk_C76 {pf : Nat → Bool} : gz_KD gz_cfC pf 76 (gz_oI 24) := ⟨rfl, fun _ _ _ _ => rfl⟩
theorem gk_C77 {pf : Nat → Bool} : gz_KD gz_cfC pf 77 (gz_oI 24) := ⟨rfl, fun _ _ _ _ => rfl⟩
theorem gk_C78 {pf : Nat → Bool} : gz_KD gz_cfC pf 78 (gz_oI 24) := ⟨rfl, fun _ _ _ _ => rfl⟩
theorem gk_C79 {pf : Nat → Bool} : gz_KD gz_cfC pf 79 (gz_oI 24) := ⟨rfl, fun _ _ _ _ => rfl⟩
theorem gk_C80 {pf : Nat → Bool} : gz_KD gz_cfC pf 80 (gz_oI 24) := ⟨rfl, fun _ _ _ _ => rfl⟩
theorem gk_C81 {pf : Nat → Bool} : gz_KD gz_cfC pf 81 (gz_oI 24) := ⟨rfl, fun _ _ _ _ => rfl⟩
theorem gk_C82 {pf : Nat → Bool} : gz_KD gz_cfC pf 82 (gz_oI 24) := ⟨rfl, fun _ _ _ _ => rfl⟩
theorem gk_C83 {pf : Nat → Bool} : gz_KD gz_cfC pf 83 (gz_oI 24) := ⟨rfl, fun _ _ _ _ => rfl⟩
theorem gk_C84 {pf : Nat → Bool} : gz_KD gz_cfC pf 84 (gz_oI 24) := ⟨rfl, fun _ _ _ _ => rfl⟩
theorem gk_C85 {pf : Nat → Bool} : gz_KD gz_cfC pf 85 (gz_oI 24) := ⟨rfl, fun _ _ _ _ => rfl⟩
theorem gk_C86 {pf : Nat → Bool} : gz_KD gz_cfC pf 86 (gz_oI 24) := ⟨rfl, fun _ _ _ _ => rfl⟩
theorem gk_C87 {pf : Nat → Bool} : gz_KD gz_cfC pf 87 (gz_oI 24) := ⟨rfl, fun _ _ _ _ => rfl⟩
theorem gk_C88 {pf : Nat → Bool} : gz_KD gz_cfC pf 88 (gz_oI 24) := ⟨rfl, fun _ _ _ _ => rfl⟩
theorem gk_C89 {pf : Nat → Bool} : gz_KD gz_cfC pf 89 (gz_oI 24) := ⟨rfl, fun _ _ _ _ => rfl⟩
theorem gk_C90 {pf : Nat → Bool} : gz_KD gz_cfC pf 90 (gz_oI 24) := ⟨rfl, fun _ _ _ _ => rfl⟩
theorem gk_C91 {pf : Nat → Bool} : gz_KD gz_cfC pf 91 (gz_oI 24) := ⟨rfl, fun _ _ _ _ => rfl⟩
theorem gk_C92 {pf : Nat → Bool} : gz_KD gz_cfC pf 92 (gz_oI 24) := ⟨rfl, fun _ _ _ _ => rfl⟩
theorem gk_C93 {pf : Nat → Bool} : gz_KD gz_cfC pf 93 (gz_oI 24) := ⟨rfl, fun _ _ _ _ => rfl⟩
theorem gk_C94 {pf : Nat → Bool} : gz_KD gz_cfC pf 94 (gz_oI 24) := ⟨rfl, fun _ _ _ _ => rfl⟩
theorem gk_C95 {pf : Nat → Bool} : gz_KD gz_cfC pf 95 (gz_oI 24) := ⟨rfl, fun _ _ _ _ => rfl⟩
theorem gk_C96 {pf : Nat → Bool} : gz_KD gz_cfC pf 96 (gz_oG 25) := ⟨rfl, fun _ _ _ _ => rfl⟩
theorem gk_C97 {pf : Nat → Bool} : gz_KD gz_cfC pf 97 (gz_oI 24) := ⟨rfl, fun _ _ _ _ => rfl⟩
theorem gk_C98 {pf : Nat → Bool} : gz_KD gz_cfC pf 98 (gz_oI 24) := ⟨rfl, fun _ _ _ _ => rfl⟩
theorem gk_C99 {pf : Nat → Bool} : gz_KD gz_cfC pf 99 (gz_oI 24) := ⟨rfl, fun _ _ _ _ => rfl⟩
theorem gk_C100 {pf : Nat → Bool} : gz_KD gz_cfC pf 100 (gz_oI 24) := ⟨rfl, fun _ _ _ _ => rfl⟩
theorem gk_C101 {pf : Nat → Bool} : gz_KD gz_cfC pf 101 (gz_oI 24) := ⟨rfl, fun _ _ _ _ => rfl⟩
theorem gk_C102 {pf : Nat → Bool} : gz_KD gz_cfC pf 102 (gz_oI 24) := ⟨rfl, fun _ _ _ _ => rfl⟩
theorem gk_C103 {pf : Nat → Bool} : gz_KD gz_cfC pf 103 (gz_oI 24) := ⟨rfl, fun _ _ _ _ => rfl⟩
theorem gk_C104 {pf : Nat → Bool} : gz_KD gz_cfC pf 104 (gz_oI 24) := ⟨rfl, fun _ _ _ _ => rfl⟩
theorem gk_C105 {pf : Nat → Bool} : gz_KD gz_cfC pf 105 (gz_oI 24) := ⟨rfl, fun _ _ _ _ => rfl⟩
theorem gk_C106 {pf : Nat → Bool} : gz_KD gz_cfC pf 106 (gz_oI 24) := ⟨rfl, fun _ _ _ _ => rfl⟩
theorem gk_C107 {pf : Nat → Bool} : gz_KD gz_cfC pf 107 (gz_oI 24) := ⟨rfl, fun _ _ _ _ => rfl⟩
theorem gk_C108 {pf : Nat → Bool} : gz_KD gz_cfC pf 108 (gz_oI 24) := ⟨rfl, fun _ _ _ _ => rfl⟩
theorem gk_C109 {pf : Nat → Bool} : gz_KD gz_cfC pf 109 (gz_oI 24) := ⟨rfl, fun _ _ _ _ => rfl⟩
theorem gk_C110 {pf : Nat → Bool} : gz_KD gz_cfC pf 110 (gz_oI 24) := ⟨rfl, fun _ _ _ _ => rfl⟩
theorem gk_C111 {pf : Nat → Bool} : gz_KD gz_cfC pf 111 (gz_oI 24) := ⟨rfl, fun _ _ _ _ => rfl⟩
theorem gk_C112 {pf : Nat → Bool} : gz_KD gz_cfC pf 112 (gz_oI 24) := ⟨rfl, fun _ _ _ _ => rfl⟩
theorem gk_C113 {pf : Nat → Bool} : gz_KD gz_cfC pf 113 (gz_oI 24) := ⟨rfl, fun _ _ _ _ => rfl⟩
theorem gk_C114 {pf : Nat → Bool} : gz_KD gz_cfC pf 114 (gz_oI 24) := ⟨rfl, fun _ _ _ _ => rfl⟩
theorem gk_C115 {pf : Nat → Bool} : gz_KD gz_cfC pf 115 (gz_oI 24) := ⟨rfl, fun _ _ _ _ => rfl⟩
theorem gk_C116 {pf : Nat → Bool} : gz_KD gz_cfC pf 116 (gz_oI 24) := ⟨rfl, fun _ _ _ _ => rfl⟩
theorem gk_C117 {pf : Nat → Bool} : gz_KD gz_cfC pf 117 (gz_oI 24) := ⟨rfl, fun _ _ _ _ => rfl⟩
theorem gk_C118 {pf : Nat → Bool} : gz_KD gz_cfC pf 118 (gz_oI 24) := ⟨rfl, fun _ _ _ _ => rfl⟩
theorem gk_C119 {pf : Nat → Bool} : gz_KD gz_cfC pf 119 (gz_oI 24) := ⟨rfl, fun _ _ _ _ => rfl⟩
theorem gk_C120 {pf : Nat → Bool} : gz_KD gz_cfC pf 120 (gz_oI 24) := ⟨rfl, fun _ _ _ _ => rfl⟩
theorem gk_C121 {pf : Nat → Bool} : gz_KD gz_cfC pf 121 (gz_oI 24) := ⟨rfl, fun _ _ _ _ => rfl⟩
theorem gk_C122 {pf : Nat → Bool} : gz_KD gz_cfC pf 122 (gz_oI 25) := ⟨rfl, fun _ _ _ _ => rfl⟩
theorem gk_C123 {pf : Nat → Bool} : gz_KD gz_cfC pf 123 (gz_oX8) := ⟨rfl, fun _ _ _ _ => rfl⟩
theorem gk_C124 {pf : Nat → Bool} : gz_KD gz_cfC pf 124 (gz_oI 1024) := ⟨rfl, fun _ _ _ _ => rfl⟩
theorem gk_C125 {pf : Nat → Bool} : gz_KD gz_cfC pf 125 (gz_oI 1024) := ⟨rfl, fun _ _ _ _ => rfl⟩
theorem gk_C126 {pf : Nat → Bool} : gz_KD gz_cfC pf 126 (gz_oI 1024) := ⟨rfl, fun _ _ _ _ => rfl⟩
theorem gk_C127 {pf : Nat → Bool} : gz_KD gz_cfC pf 127 (gz_oX9) := ⟨rfl, fun _ _ _ _ => rfl⟩
theorem gk_C128 {pf : Nat → Bool} : gz_KD gz_cfC pf 128 (gz_oI 25) := ⟨rfl, fun _ _ _ _ => rfl⟩
theorem gk_C129 {pf : Nat → Bool} : gz_KD gz_cfC pf 129 (gz_oI 25) := ⟨rfl, fun _ _ _ _ => rfl⟩
theorem gk_C130 {pf : Nat → Bool} : gz_KD gz_cfC pf 130 (gz_oI 25) := ⟨rfl, fun _ _ _ _ => rfl⟩
theorem gk_C131 {pf : Nat → Bool} : gz_KD gz_cfC pf 131 (gz_oX4) := ⟨rfl, fun _ _ _ _ => rfl⟩
theorem gk_C132 {pf : Nat → Bool} : gz_KD gz_cfC pf 132 (gz_oK 10 0) := ⟨rfl, fun _ _ _ _ => rfl⟩
theorem gk_C133 {pf : Nat → Bool} : gz_KD gz_cfC pf 133 (gz_oK 2 10) := ⟨rfl, fun _ _ _ _ => rfl⟩
theorem gk_C134 {pf : Nat → Bool} : gz_KD gz_cfC pf 134 (gz_oJ 1024) := ⟨rfl, fun _ _ _ _ => rfl⟩
theorem gk_R0 {pf : Nat → Bool} : gz_KD gz_cfR pf 0 (gz_oX12) := ⟨rfl, fun _ _ _ _ => rfl⟩
theorem gk_R1 {pf : Nat → Bool} : gz_KD gz_cfR pf 1 (gz_oI 106) := ⟨rfl, fun _ _ _ _ => rfl⟩
theorem gk_R2 {pf : Nat → Bool} : gz_KD gz_cfR pf 2 (gz_oB 80) := ⟨rfl, fun _ _ _ _ => rfl⟩
theorem gk_R3 {pf : Nat → Bool} : gz_KD gz_cfR pf 3 (gz_oJ 64) := ⟨rfl, fun _ _ _ _ => rfl⟩
theorem gk_R4 {pf : Nat → Bool} : gz_KD gz_cfR pf 4 (gz_oI 80) := ⟨rfl, fun _ _ _ _ => rfl⟩
theorem gk_R5 {pf : Nat → Bool} : gz_KD gz_cfR pf 5 (gz_oI 8) := ⟨rfl, fun _ _ _ _ => rfl⟩
theorem gk_R6 {pf : Nat → Bool} : gz_KD gz_cfR pf 6 (gz_oI 8) := ⟨rfl, fun _ _ _ _ => rfl⟩
theorem gk_R7 {pf : Nat → Bool} : gz_KD gz_cfR pf 7 (gz_oI 8) := ⟨rfl, fun _ _ _ _ => rfl⟩
theorem gk_R8 {pf : Nat → Bool} : gz_KD gz_cfR pf 8 (gz_oI 8) := ⟨rfl, fun _ _ _ _ => rfl⟩
theorem gk_R9 {pf : Nat → Bool} : gz_KD gz_cfR pf 9 (gz_oZ 8) := ⟨rfl, fun _ _ _ _ => rfl⟩
theorem gk_R10 {pf : Nat → Bool} : gz_KD gz_cfR pf 10 (gz_oI 8) := ⟨rfl, fun _ _ _ _ => rfl⟩
theorem gk_R11 {pf : Nat → Bool} : gz_KD gz_cfR pf 11 (gz_oI 8) := ⟨rfl, fun _ _ _ _ => rfl⟩
theorem gk_R12 {pf : Nat → Bool} : gz_KD gz_cfR pf 12 (gz_oI 4) := ⟨rfl, fun _ _ _ _ => rfl⟩
theorem gk_R13 {pf : Nat → Bool} : gz_KD gz_cfR pf 13 (gz_oI 40) := ⟨rfl, fun _ _ _ _ => rfl⟩
theorem gk_R14 {pf : Nat → Bool} : gz_KD gz_cfR pf 14 (gz_oI 40) := ⟨rfl, fun _ _ _ _ => rfl⟩
theorem gk_R15 {pf : Nat → Bool} : gz_KD gz_cfR pf 15 (gz_oI 24) := ⟨rfl, fun _ _ _ _ => rfl⟩
theorem gk_R16 {pf : Nat → Bool} : gz_KD gz_cfR pf 16 (gz_oI 5) := ⟨rfl, fun _ _ _ _ => rfl⟩
theorem gk_R17 {pf : Nat → Bool} : gz_KD gz_cfR pf 17 (gz_oI 300) := ⟨rfl, fun _ _ _ _ => rfl⟩
theorem gk_R18 {pf : Nat → Bool} : gz_KD gz_cfR pf 18 (gz_oI 102400) := ⟨rfl, fun _ _ _ _ => rfl⟩
theorem gk_R19 {pf : Nat → Bool} : gz_KD gz_cfR pf 19 (gz_oZ 102400) := ⟨rfl, fun _ _ _ _ => rfl⟩
theorem gk_R20 {pf : Nat → Bool} : gz_KD gz_cfR pf 20 (gz_oI 24) := ⟨rfl, fun _ _ _ _ => rfl⟩
theorem gk_R21 {pf : Nat → Bool} : gz_KD gz_cfR pf 21 (gz_oI 212) := ⟨rfl, fun _ _ _ _ => rfl⟩
theorem gk_R22 {pf : Nat → Bool} : gz_KD gz_cfR pf 22 (gz_oZ 2) := ⟨rfl, fun _ _ _ _ => rfl⟩
theorem gk_R23 {pf : Nat → Bool} : gz_KD gz_cfR pf 23 (gz_oI 300) := ⟨rfl, fun _ _ _ _ => rfl⟩
theorem gk_R24 {pf : Nat → Bool} : gz_KD gz_cfR pf 24 (gz_oI 1024) := ⟨rfl, fun _ _ _ _ => rfl⟩
theorem gk_R25 {pf : Nat → Bool} : gz_KD gz_cfR pf 25 (gz_oI 1024) := ⟨rfl, fun _ _ _ _ => rfl⟩
theorem gk_R26 {pf : Nat → Bool} : gz_KD gz_cfR pf 26 (gz_oI 1024) := ⟨rfl, fun _ _ _ _ => rfl⟩
theorem gk_R27 {pf : Nat → Bool} : gz_KD gz_cfR pf 27 (gz_oZ 1024) := ⟨rfl, fun _ _ _ _ => rfl⟩
theorem gk_R28 {pf : Nat → Bool} : gz_KD gz_cfR pf 28 (gz_oI 1024) := ⟨rfl, fun _ _ _ _ => rfl⟩
theorem gk_R29 {pf : Nat → Bool} : gz_KD gz_cfR pf 29 (gz_oI 25) := ⟨rfl, fun _ _ _ _ => rfl⟩
theorem gk_R30 {pf : Nat → Bool} : gz_KD gz_cfR pf 30 (gz_oI 25) := ⟨rfl, fun _ _ _ _ => rfl⟩
theorem gk_R31 {pf : Nat → Bool} : gz_KD gz_cfR pf 31 (gz_oI 25) := ⟨rfl, fun _ _ _ _ => rfl⟩
theorem gk_R32 {pf : Nat → Bool} : gz_KD gz_cfR pf 32 (gz_oI 25) := ⟨rfl, fun _ _ _ _ => rfl⟩
theorem gk_R33 {pf : Nat → Bool} : gz_KD gz_cfR pf 33 (gz_oI 1060) := ⟨rfl, fun _ _ _ _ => rfl⟩
theorem gk_R34 {pf : Nat → Bool} : gz_KD gz_cfR pf 34 (gz_oI 106) := ⟨rfl, fun _ _ _ _ => rfl⟩
theorem gk_R35 {pf : Nat → Bool} : gz_KD gz_cfR pf 35 (gz_oI 240) := ⟨rfl, fun _ _ _ _ => rfl⟩
def gz_IsX7 (_ : Nat → Bool) (k : Nat) : Prop := k = 11 ∨ k = 39
def gz_IsX2 (_ : Nat → Bool) (k : Nat) : Prop := k = 30 ∨ k = 60
def gz_IsX0 (pf : Nat → Bool) (k : Nat) : Prop := k = 7 ∨ ∃ j, j < 12 ∧ pf j = true ∧ k = 135 + 4 * j
def gz_IsX5 (pf : Nat → Bool) (k : Nat) : Prop := k = 58 ∨ ∃ b, gz_IsX0 pf b ∧ k = b + 2
theorem gz_bkK {pf : Nat → Bool} {j d c : Nat} (hj : j < 12) (hd : d < 4) (hp : pf j = true) (o : gz_Lay) (ho : gz_kc c = o) (hc : ∀ j, j < 12 → gz_tC.getD (135 + 4 * j + d) 0 = c) : gz_KD gz_cfC pf (135 + 4 * j + d) o := by
  refine ⟨?_, fun aC ad g gl => ?_⟩
  · show (if _ then true else if _ then pf _ else false) = true
    rw [if_neg (by omega), if_pos (by omega), show (135 + 4 * j + d - 135) / 4 = j by omega]
    exact hp
  · show gz_kc (gz_tC.getD _ 0) aC ad pf _ g gl = _
    rw [hc j hj, ho]
theorem gk_X0o {pf : Nat → Bool} {k : Nat} (h : gz_IsX0 pf k) : gz_KD gz_cfC pf (k + 0) (gz_oX0) := by
  rcases h with rfl | ⟨j, hj, hp, rfl⟩
  · exact gk_C7
  · exact gz_bkK (c := 6) hj (by decide) hp _ rfl (by decide +kernel)
theorem gk_X01 {pf : Nat → Bool} {k : Nat} (h : gz_IsX0 pf k) : gz_KD gz_cfC pf (k + 1) (gz_oI 80) := by
  rcases h with rfl | ⟨j, hj, hp, rfl⟩
  · exact gk_C8
  · exact gz_bkK (c := 2) hj (by decide) hp _ rfl (by decide +kernel)
theorem gk_X02 {pf : Nat → Bool} {k : Nat} (h : gz_IsX0 pf k) : gz_KD gz_cfC pf (k + 2) (gz_oX5) := by
  rcases h with rfl | ⟨j, hj, hp, rfl⟩
  · exact gk_C9
  · exact gz_bkK (c := 7) hj (by decide) hp _ rfl (by decide +kernel)
theorem gk_X03 {pf : Nat → Bool} {k : Nat} (h : gz_IsX0 pf k) : gz_KD gz_cfC pf (k + 3) (gz_oI 24) := by
  rcases h with rfl | ⟨j, hj, hp, rfl⟩
  · exact gk_C10
  · exact gz_bkK (c := 8) hj (by decide) hp _ rfl (by decide +kernel)
theorem gi_X0line {pf : Nat → Bool} {k : Nat} (h : gz_IsX0 pf k) : gz_IsX5 pf (k + 2) := Or.inr ⟨k, h, rfl⟩
theorem gk_X5o {pf : Nat → Bool} {k : Nat} (h : gz_IsX5 pf k) : gz_KD gz_cfC pf k gz_oX5 := by
  rcases h with rfl | ⟨b, hb, rfl⟩
  · exact gk_C58
  · exact gk_X02 hb
theorem gk_X51 {pf : Nat → Bool} {k : Nat} (h : gz_IsX5 pf k) : gz_KD gz_cfC pf (k + 1) (gz_oI 24) := by
  rcases h with rfl | ⟨b, hb, rfl⟩
  · exact gk_C59
  · exact gk_X03 hb
theorem gk_X7o {pf : Nat → Bool} {k : Nat} (h : gz_IsX7 pf k) : gz_KD gz_cfC pf k (gz_oX7) := by
  rcases h with rfl | rfl
  · exact gk_C11
  · exact gk_C39
theorem gk_X71 {pf : Nat → Bool} {k : Nat} (h : gz_IsX7 pf k) : gz_KD gz_cfC pf (k + 1) (gz_oI 8) := by
  rcases h with rfl | rfl
  · exact gk_C12
  · exact gk_C40
theorem gk_X72 {pf : Nat → Bool} {k : Nat} (h : gz_IsX7 pf k) : gz_KD gz_cfC pf (k + 2) (gz_oI 8) := by
  rcases h with rfl | rfl
  · exact gk_C13
  · exact gk_C41
theorem gk_X73 {pf : Nat → Bool} {k : Nat} (h : gz_IsX7 pf k) : gz_KD gz_cfC pf (k + 3) (gz_oI 8) := by
  rcases h with rfl | rfl
  · exact gk_C14
  · exact gk_C42
theorem gk_X74 {pf : Nat → Bool} {k : Nat} (h : gz_IsX7 pf k) : gz_KD gz_cfC pf (k + 4) (gz_oI 8) := by
  rcases h with rfl | rfl
  · exact gk_C15
  · exact gk_C43
theorem gk_X75 {pf : Nat → Bool} {k : Nat} (h : gz_IsX7 pf k) : gz_KD gz_cfC pf (k + 5) (gz_oI 8) := by
  rcases h with rfl | rfl
  · exact gk_C16
  · exact gk_C44
theorem gk_X76 {pf : Nat → Bool} {k : Nat} (h : gz_IsX7 pf k) : gz_KD gz_cfC pf (k + 6) (gz_oZ 8) := by
  rcases h with rfl | rfl
  · exact gk_C17
  · exact gk_C45
theorem gk_X77 {pf : Nat → Bool} {k : Nat} (h : gz_IsX7 pf k) : gz_KD gz_cfC pf (k + 7) (gz_oI 4) := by
  rcases h with rfl | rfl
  · exact gk_C18
  · exact gk_C46
theorem gk_X78 {pf : Nat → Bool} {k : Nat} (h : gz_IsX7 pf k) : gz_KD gz_cfC pf (k + 8) (gz_oI 4) := by
  rcases h with rfl | rfl
  · exact gk_C19
  · exact gk_C47
theorem gk_X79 {pf : Nat → Bool} {k : Nat} (h : gz_IsX7 pf k) : gz_KD gz_cfC pf (k + 9) (gz_oG 4) := by
  rcases h with rfl | rfl
  · exact gk_C20
  · exact gk_C48
theorem gk_X714 {pf : Nat → Bool} {k : Nat} (h : gz_IsX7 pf k) : gz_KD gz_cfC pf (k + 14) (gz_oG 4) := by
  rcases h with rfl | rfl
  · exact gk_C25
  · exact gk_C53
theorem gk_X2o {pf : Nat → Bool} {k : Nat} (h : gz_IsX2 pf k) : gz_KD gz_cfC pf k (gz_oX2) := by
  rcases h with rfl | rfl
  · exact gk_C30
  · exact gk_C60
theorem gk_X21 {pf : Nat → Bool} {k : Nat} (h : gz_IsX2 pf k) : gz_KD gz_cfC pf (k + 1) (gz_oI 24) := by
  rcases h with rfl | rfl
  · exact gk_C31
  · exact gk_C61
theorem gk_X22 {pf : Nat → Bool} {k : Nat} (h : gz_IsX2 pf k) : gz_KD gz_cfC pf (k + 2) (gz_oI 24) := by
  rcases h with rfl | rfl
  · exact gk_C32
  · exact gk_C62
theorem gk_X23 {pf : Nat → Bool} {k : Nat} (h : gz_IsX2 pf k) : gz_KD gz_cfC pf (k + 3) (gz_oI 24) := by
  rcases h with rfl | rfl
  · exact gk_C33
  · exact gk_C63
theorem gk_X24 {pf : Nat → Bool} {k : Nat} (h : gz_IsX2 pf k) : gz_KD gz_cfC pf (k + 4) (gz_oI 24) := by
  rcases h with rfl | rfl
  · exact gk_C34
  · exact gk_C64
theorem gk_X25 {pf : Nat → Bool} {k : Nat} (h : gz_IsX2 pf k) : gz_KD gz_cfC pf (k + 5) (gz_oI 24) := by
  rcases h with rfl | rfl
  · exact gk_C35
  · exact gk_C65
theorem gk_X26 {pf : Nat → Bool} {k : Nat} (h : gz_IsX2 pf k) : gz_KD gz_cfC pf (k + 6) (gz_oI 24) := by
  rcases h with rfl | rfl
  · exact gk_C36
  · exact gk_C66
theorem gk_X27 {pf : Nat → Bool} {k : Nat} (h : gz_IsX2 pf k) : gz_KD gz_cfC pf (k + 7) (gz_oI 24) := by
  rcases h with rfl | rfl
  · exact gk_C37
  · exact gk_C67
theorem gk_X28 {pf : Nat → Bool} {k : Nat} (h : gz_IsX2 pf k) : gz_KD gz_cfC pf (k + 8) (gz_oI 24) := by
  rcases h with rfl | rfl
  · exact gk_C38
  · exact gk_C68
theorem gz_litK {pf : Nat → Bool} {b n c j : Nat} (o : gz_Lay) (ho : gz_kc c = o) (hb : b + n ≤ 135) (hc : ∀ j, j < n → gz_tC.getD (b + j) 0 = c) (hj : j < n) : gz_KD gz_cfC pf (b + j) o := by
  refine ⟨?_, fun aC ad g gl => ?_⟩
  · show (if _ then true else if _ then pf _ else false) = true
    rw [if_pos (by omega)]
  · show gz_kc (gz_tC.getD _ 0) aC ad pf _ g gl = _
    rw [hc j hj, ho]
theorem gk_X79r {pf : Nat → Bool} {k j : Nat} (h : gz_IsX7 pf k) (hj : j < 4) : gz_KD gz_cfC pf (k + 9 + 1 + j) (gz_oI 10) := by
  rcases h with rfl | rfl
  · exact gz_litK (b := 21) (n := 4) _ (c := 14) rfl (by decide) (by decide +kernel) hj
  · exact gz_litK (b := 49) (n := 4) _ (c := 14) rfl (by decide) (by decide +kernel) hj
theorem gk_X714r {pf : Nat → Bool} {k j : Nat} (h : gz_IsX7 pf k) (hj : j < 4) : gz_KD gz_cfC pf (k + 14 + 1 + j) (gz_oI 8) := by
  rcases h with rfl | rfl
  · exact gz_litK (b := 26) (n := 4) _ (c := 10) rfl (by decide) (by decide +kernel) hj
  · exact gz_litK (b := 54) (n := 4) _ (c := 10) rfl (by decide) (by decide +kernel) hj
theorem gk_X61r {pf : Nat → Bool} {j : Nat} (hj : j < 25) : gz_KD gz_cfC pf (70 + 1 + j) (gz_oI 24) := gz_litK (b := 71) (n := 25) _ (c := 8) rfl (by decide) (by decide +kernel) hj
theorem gk_X627r {pf : Nat → Bool} {j : Nat} (hj : j < 25) : gz_KD gz_cfC pf (96 + 1 + j) (gz_oI 24) := gz_litK (b := 97) (n := 25) _ (c := 8) rfl (by decide) (by decide +kernel) hj
theorem gi_now {pf : Nat → Bool} : gz_IsX0 pf 7 := Or.inl rfl
theorem gi_table {pf : Nat → Bool} : gz_IsX7 pf 11 := Or.inl rfl
theorem gi_otherTable {pf : Nat → Bool} : gz_IsX7 pf 39 := Or.inr rfl
theorem gi_otherLine {pf : Nat → Bool} : gz_IsX5 pf 58 := Or.inl rfl
theorem gi_cut {pf : Nat → Bool} (v : Int32) : gz_IsX2 pf (gz_cIx v) := by
  unfold gz_cIx
  split
  · exact Or.inl rfl
  · exact Or.inr rfl
theorem gz_cIxOf {pf : Nat → Bool} {k : Nat} (h : gz_IsX2 pf k) : gz_cIx (gz_cOf k) = k := by
  rcases h with rfl | rfl <;> rfl
theorem gw_X0 : ∀ w ∈ u_ws RX0 TX0 3, w ∈ gz_TB := by
  have h : (u_ws RX0 TX0 3).all (fun w => decide (w ∈ lw_tbl) && goodWord w) = true := by decide +kernel
  intro w hw
  have h1 := List.all_eq_true.mp h w hw
  simp only [Bool.and_eq_true, decide_eq_true_eq] at h1
  exact List.mem_filter.mpr h1
theorem gw_X1 : ∀ w ∈ u_ws RX1 TX1 6, w ∈ gz_TB := by
  have h : (u_ws RX1 TX1 6).all (fun w => decide (w ∈ lw_tbl) && goodWord w) = true := by decide +kernel
  intro w hw
  have h1 := List.all_eq_true.mp h w hw
  simp only [Bool.and_eq_true, decide_eq_true_eq] at h1
  exact List.mem_filter.mpr h1
theorem gw_X2 : ∀ w ∈ u_ws RX2 TX2 16, w ∈ gz_TB := by
  have h : (u_ws RX2 TX2 16).all (fun w => decide (w ∈ lw_tbl) && goodWord w) = true := by decide +kernel
  intro w hw
  have h1 := List.all_eq_true.mp h w hw
  simp only [Bool.and_eq_true, decide_eq_true_eq] at h1
  exact List.mem_filter.mpr h1
theorem gw_X3 : ∀ w ∈ u_ws RX3 TX3 2, w ∈ gz_TB := by
  have h : (u_ws RX3 TX3 2).all (fun w => decide (w ∈ lw_tbl) && goodWord w) = true := by decide +kernel
  intro w hw
  have h1 := List.all_eq_true.mp h w hw
  simp only [Bool.and_eq_true, decide_eq_true_eq] at h1
  exact List.mem_filter.mpr h1
theorem gw_X4 : ∀ w ∈ u_ws RX4 TX4 3, w ∈ gz_TB := by
  have h : (u_ws RX4 TX4 3).all (fun w => decide (w ∈ lw_tbl) && goodWord w) = true := by decide +kernel
  intro w hw
  have h1 := List.all_eq_true.mp h w hw
  simp only [Bool.and_eq_true, decide_eq_true_eq] at h1
  exact List.mem_filter.mpr h1
theorem gw_X5 : ∀ w ∈ u_ws RX5 TX5 2, w ∈ gz_TB := by
  have h : (u_ws RX5 TX5 2).all (fun w => decide (w ∈ lw_tbl) && goodWord w) = true := by decide +kernel
  intro w hw
  have h1 := List.all_eq_true.mp h w hw
  simp only [Bool.and_eq_true, decide_eq_true_eq] at h1
  exact List.mem_filter.mpr h1
theorem gw_X6 : ∀ w ∈ u_ws RX6 TX6 5, w ∈ gz_TB := by
  have h : (u_ws RX6 TX6 5).all (fun w => decide (w ∈ lw_tbl) && goodWord w) = true := by decide +kernel
  intro w hw
  have h1 := List.all_eq_true.mp h w hw
  simp only [Bool.and_eq_true, decide_eq_true_eq] at h1
  exact List.mem_filter.mpr h1
theorem gw_X7 : ∀ w ∈ u_ws RX7 TX7 11, w ∈ gz_TB := by
  have h : (u_ws RX7 TX7 11).all (fun w => decide (w ∈ lw_tbl) && goodWord w) = true := by decide +kernel
  intro w hw
  have h1 := List.all_eq_true.mp h w hw
  simp only [Bool.and_eq_true, decide_eq_true_eq] at h1
  exact List.mem_filter.mpr h1
theorem gw_X8 : ∀ w ∈ u_ws RX8 TX8 4, w ∈ gz_TB := by
  have h : (u_ws RX8 TX8 4).all (fun w => decide (w ∈ lw_tbl) && goodWord w) = true := by decide +kernel
  intro w hw
  have h1 := List.all_eq_true.mp h w hw
  simp only [Bool.and_eq_true, decide_eq_true_eq] at h1
  exact List.mem_filter.mpr h1
theorem gw_X9 : ∀ w ∈ u_ws RX9 TX9 3, w ∈ gz_TB := by
  have h : (u_ws RX9 TX9 3).all (fun w => decide (w ∈ lw_tbl) && goodWord w) = true := by decide +kernel
  intro w hw
  have h1 := List.all_eq_true.mp h w hw
  simp only [Bool.and_eq_true, decide_eq_true_eq] at h1
  exact List.mem_filter.mpr h1
theorem gw_X10 : ∀ w ∈ u_ws RX10 TX10 2, w ∈ gz_TB := by
  have h : (u_ws RX10 TX10 2).all (fun w => decide (w ∈ lw_tbl) && goodWord w) = true := by decide +kernel
  intro w hw
  have h1 := List.all_eq_true.mp h w hw
  simp only [Bool.and_eq_true, decide_eq_true_eq] at h1
  exact List.mem_filter.mpr h1
theorem gw_X11 : ∀ w ∈ u_ws RX11 TX11 16, w ∈ gz_TB := by
  have h : (u_ws RX11 TX11 16).all (fun w => decide (w ∈ lw_tbl) && goodWord w) = true := by decide +kernel
  intro w hw
  have h1 := List.all_eq_true.mp h w hw
  simp only [Bool.and_eq_true, decide_eq_true_eq] at h1
  exact List.mem_filter.mpr h1
theorem gw_X12 : ∀ w ∈ u_ws RX12 TX12 55, w ∈ gz_TB := by
  have h : (u_ws RX12 TX12 55).all (fun w => decide (w ∈ lw_tbl) && goodWord w) = true := by decide +kernel
  intro w hw
  have h1 := List.all_eq_true.mp h w hw
  simp only [Bool.and_eq_true, decide_eq_true_eq] at h1
  exact List.mem_filter.mpr h1
section GF
variable {x : gz_X} {cc : ByteArray} {own : String} {nL d pc : Nat} {pf : Nat → Bool} {l : Launch} {lv : List (Nat × Value)} {st : List Value} {M M' : gz_M}
theorem gf0_0 {k : Nat} {index : Nat} (X : gz_Ok x cc own nL d gz_cfC pf l) (hk : gz_KD gz_cfC pf k gz_oX0) (hl : gz_FL own index RX0 "text" "[I") (dg : decode cc pc = .ok (.getfield index, 3)) (kk : gz_At x (pc + 3) lv (.ref (gx_ad x (k + 1)) :: st) M) : gz_At x pc lv (.ref (gx_ad x k) :: st) M := gr_getB X (X.kd hk).1 ((X.kd hk).2 _ _ _ _) (by rw [X.hcl]; rfl) gw_X0 (j := 0) (by decide) rfl hl rfl dg kk
theorem gf0_1 {k : Nat} {index : Nat} (X : gz_Ok x cc own nL d gz_cfC pf l) (hk : gz_KD gz_cfC pf k gz_oX0) (hl : gz_FL own index RX0 "textLength" "I") (dg : decode cc pc = .ok (.getfield index, 3)) (kk : gz_At x (pc + 3) lv (.int (M.1 k 1) :: st) M) : gz_At x pc lv (.ref (gx_ad x k) :: st) M := gr_getB X (X.kd hk).1 ((X.kd hk).2 _ _ _ _) (by rw [X.hcl]; rfl) gw_X0 (j := 1) (by decide) rfl hl rfl dg kk
theorem gp0_1 {k : Nat} {index : Nat} {v : Int32} (X : gz_Ok x cc own nL d gz_cfC pf l) (hk : gz_KD gz_cfC pf k gz_oX0) (hl : gz_FL own index RX0 "textLength" "I") (hM : M' = gz_w M k 1 v) (dg : decode cc pc = .ok (.putfield index, 3)) (kk : gz_At x (pc + 3) lv st M') : gz_At x pc lv (.int v :: .ref (gx_ad x k) :: st) M := gr_putB X (X.kd hk).1 ((X.kd hk).2 _ _ _ _) (.int v) ((X.kd hk).2 _ _ _ _) (by rw [X.hcl]; rfl) gw_X0 tyX0 tyX0_ok nmX0 (j := 1) (by decide) rfl hl rfl (ty := .int) (by decide +kernel) rfl rfl (Nat.le_of_ble_eq_true rfl) hM dg kk
theorem gf0_2 {k : Nat} {index : Nat} (X : gz_Ok x cc own nL d gz_cfC pf l) (hk : gz_KD gz_cfC pf k gz_oX0) (hl : gz_FL own index RX0 "line" "LLongestTokens$Line;") (dg : decode cc pc = .ok (.getfield index, 3)) (kk : gz_At x (pc + 3) lv (.ref (gx_ad x (k + 2)) :: st) M) : gz_At x pc lv (.ref (gx_ad x k) :: st) M := gr_getB X (X.kd hk).1 ((X.kd hk).2 _ _ _ _) (by rw [X.hcl]; rfl) gw_X0 (j := 2) (by decide) rfl hl rfl dg kk
theorem gf1_0 {index : Nat} (X : gz_Ok x cc own nL d gz_cfC pf l) (hl : gz_FL own index RX1 "chains" "[I") (dg : decode cc pc = .ok (.getfield index, 3)) (kk : gz_At x (pc + 3) lv (.ref (gx_ad x 5) :: st) M) : gz_At x pc lv (.ref (gx_ad x 4) :: st) M := gr_getB X (X.kd gk_C4).1 ((X.kd gk_C4).2 _ _ _ _) (by rw [X.hcl]; rfl) gw_X1 (j := 0) (by decide) rfl hl rfl dg kk
theorem gf1_1 {index : Nat} (X : gz_Ok x cc own nL d gz_cfC pf l) (hl : gz_FL own index RX1 "wholes" "[I") (dg : decode cc pc = .ok (.getfield index, 3)) (kk : gz_At x (pc + 3) lv (.ref (gx_ad x 6) :: st) M) : gz_At x pc lv (.ref (gx_ad x 4) :: st) M := gr_getB X (X.kd gk_C4).1 ((X.kd gk_C4).2 _ _ _ _) (by rw [X.hcl]; rfl) gw_X1 (j := 1) (by decide) rfl hl rfl dg kk
theorem gf1_2 {index : Nat} (X : gz_Ok x cc own nL d gz_cfC pf l) (hl : gz_FL own index RX1 "open" "I") (dg : decode cc pc = .ok (.getfield index, 3)) (kk : gz_At x (pc + 3) lv (.int (M.1 4 2) :: st) M) : gz_At x pc lv (.ref (gx_ad x 4) :: st) M := gr_getB X (X.kd gk_C4).1 ((X.kd gk_C4).2 _ _ _ _) (by rw [X.hcl]; rfl) gw_X1 (j := 2) (by decide) rfl hl rfl dg kk
theorem gp1_2 {index : Nat} {v : Int32} (X : gz_Ok x cc own nL d gz_cfC pf l) (hl : gz_FL own index RX1 "open" "I") (hM : M' = gz_w M 4 2 v) (dg : decode cc pc = .ok (.putfield index, 3)) (kk : gz_At x (pc + 3) lv st M') : gz_At x pc lv (.int v :: .ref (gx_ad x 4) :: st) M := gr_putB X (X.kd gk_C4).1 ((X.kd gk_C4).2 _ _ _ _) (.int v) ((X.kd gk_C4).2 _ _ _ _) (by rw [X.hcl]; rfl) gw_X1 tyX1 tyX1_ok nmX1 (j := 2) (by decide) rfl hl rfl (ty := .int) (by decide +kernel) rfl rfl (Nat.le_of_ble_eq_true rfl) hM dg kk
theorem gf1_3 {index : Nat} (X : gz_Ok x cc own nL d gz_cfC pf l) (hl : gz_FL own index RX1 "part" "I") (dg : decode cc pc = .ok (.getfield index, 3)) (kk : gz_At x (pc + 3) lv (.int (M.1 4 3) :: st) M) : gz_At x pc lv (.ref (gx_ad x 4) :: st) M := gr_getB X (X.kd gk_C4).1 ((X.kd gk_C4).2 _ _ _ _) (by rw [X.hcl]; rfl) gw_X1 (j := 3) (by decide) rfl hl rfl dg kk
theorem gp1_3 {index : Nat} {v : Int32} (X : gz_Ok x cc own nL d gz_cfC pf l) (hl : gz_FL own index RX1 "part" "I") (hM : M' = gz_w M 4 3 v) (dg : decode cc pc = .ok (.putfield index, 3)) (kk : gz_At x (pc + 3) lv st M') : gz_At x pc lv (.int v :: .ref (gx_ad x 4) :: st) M := gr_putB X (X.kd gk_C4).1 ((X.kd gk_C4).2 _ _ _ _) (.int v) ((X.kd gk_C4).2 _ _ _ _) (by rw [X.hcl]; rfl) gw_X1 tyX1 tyX1_ok nmX1 (j := 3) (by decide) rfl hl rfl (ty := .int) (by decide +kernel) rfl rfl (Nat.le_of_ble_eq_true rfl) hM dg kk
theorem gf1_4 {index : Nat} (X : gz_Ok x cc own nL d gz_cfC pf l) (hl : gz_FL own index RX1 "rule" "I") (dg : decode cc pc = .ok (.getfield index, 3)) (kk : gz_At x (pc + 3) lv (.int (M.1 4 4) :: st) M) : gz_At x pc lv (.ref (gx_ad x 4) :: st) M := gr_getB X (X.kd gk_C4).1 ((X.kd gk_C4).2 _ _ _ _) (by rw [X.hcl]; rfl) gw_X1 (j := 4) (by decide) rfl hl rfl dg kk
theorem gp1_4 {index : Nat} {v : Int32} (X : gz_Ok x cc own nL d gz_cfC pf l) (hl : gz_FL own index RX1 "rule" "I") (hM : M' = gz_w M 4 4 v) (dg : decode cc pc = .ok (.putfield index, 3)) (kk : gz_At x (pc + 3) lv st M') : gz_At x pc lv (.int v :: .ref (gx_ad x 4) :: st) M := gr_putB X (X.kd gk_C4).1 ((X.kd gk_C4).2 _ _ _ _) (.int v) ((X.kd gk_C4).2 _ _ _ _) (by rw [X.hcl]; rfl) gw_X1 tyX1 tyX1_ok nmX1 (j := 4) (by decide) rfl hl rfl (ty := .int) (by decide +kernel) rfl rfl (Nat.le_of_ble_eq_true rfl) hM dg kk
theorem gf1_5 {index : Nat} (X : gz_Ok x cc own nL d gz_cfC pf l) (hl : gz_FL own index RX1 "mode" "I") (dg : decode cc pc = .ok (.getfield index, 3)) (kk : gz_At x (pc + 3) lv (.int (M.1 4 5) :: st) M) : gz_At x pc lv (.ref (gx_ad x 4) :: st) M := gr_getB X (X.kd gk_C4).1 ((X.kd gk_C4).2 _ _ _ _) (by rw [X.hcl]; rfl) gw_X1 (j := 5) (by decide) rfl hl rfl dg kk
theorem gp1_5 {index : Nat} {v : Int32} (X : gz_Ok x cc own nL d gz_cfC pf l) (hl : gz_FL own index RX1 "mode" "I") (hM : M' = gz_w M 4 5 v) (dg : decode cc pc = .ok (.putfield index, 3)) (kk : gz_At x (pc + 3) lv st M') : gz_At x pc lv (.int v :: .ref (gx_ad x 4) :: st) M := gr_putB X (X.kd gk_C4).1 ((X.kd gk_C4).2 _ _ _ _) (.int v) ((X.kd gk_C4).2 _ _ _ _) (by rw [X.hcl]; rfl) gw_X1 tyX1 tyX1_ok nmX1 (j := 5) (by decide) rfl hl rfl (ty := .int) (by decide +kernel) rfl rfl (Nat.le_of_ble_eq_true rfl) hM dg kk
theorem gf2_0 {k : Nat} {index : Nat} (X : gz_Ok x cc own nL d gz_cfC pf l) (hk : gz_KD gz_cfC pf k gz_oX2) (hl : gz_FL own index RX2 "size" "I") (dg : decode cc pc = .ok (.getfield index, 3)) (kk : gz_At x (pc + 3) lv (.int (M.1 k 0) :: st) M) : gz_At x pc lv (.ref (gx_ad x k) :: st) M := gr_getB X (X.kd hk).1 ((X.kd hk).2 _ _ _ _) (by rw [X.hcl]; rfl) gw_X2 (j := 0) (by decide) rfl hl rfl dg kk
theorem gp2_0 {k : Nat} {index : Nat} {v : Int32} (X : gz_Ok x cc own nL d gz_cfC pf l) (hk : gz_KD gz_cfC pf k gz_oX2) (hl : gz_FL own index RX2 "size" "I") (hM : M' = gz_w M k 0 v) (dg : decode cc pc = .ok (.putfield index, 3)) (kk : gz_At x (pc + 3) lv st M') : gz_At x pc lv (.int v :: .ref (gx_ad x k) :: st) M := gr_putB X (X.kd hk).1 ((X.kd hk).2 _ _ _ _) (.int v) ((X.kd hk).2 _ _ _ _) (by rw [X.hcl]; rfl) gw_X2 tyX2 tyX2_ok nmX2 (j := 0) (by decide) rfl hl rfl (ty := .int) (by decide +kernel) rfl rfl (Nat.le_of_ble_eq_true rfl) hM dg kk
theorem gf2_1 {k : Nat} {index : Nat} (X : gz_Ok x cc own nL d gz_cfC pf l) (hk : gz_KD gz_cfC pf k gz_oX2) (hl : gz_FL own index RX2 "most" "I") (dg : decode cc pc = .ok (.getfield index, 3)) (kk : gz_At x (pc + 3) lv (.int (M.1 k 1) :: st) M) : gz_At x pc lv (.ref (gx_ad x k) :: st) M := gr_getB X (X.kd hk).1 ((X.kd hk).2 _ _ _ _) (by rw [X.hcl]; rfl) gw_X2 (j := 1) (by decide) rfl hl rfl dg kk
theorem gp2_1 {k : Nat} {index : Nat} {v : Int32} (X : gz_Ok x cc own nL d gz_cfC pf l) (hk : gz_KD gz_cfC pf k gz_oX2) (hl : gz_FL own index RX2 "most" "I") (hM : M' = gz_w M k 1 v) (dg : decode cc pc = .ok (.putfield index, 3)) (kk : gz_At x (pc + 3) lv st M') : gz_At x pc lv (.int v :: .ref (gx_ad x k) :: st) M := gr_putB X (X.kd hk).1 ((X.kd hk).2 _ _ _ _) (.int v) ((X.kd hk).2 _ _ _ _) (by rw [X.hcl]; rfl) gw_X2 tyX2 tyX2_ok nmX2 (j := 1) (by decide) rfl hl rfl (ty := .int) (by decide +kernel) rfl rfl (Nat.le_of_ble_eq_true rfl) hM dg kk
theorem gf2_2 {k : Nat} {index : Nat} (X : gz_Ok x cc own nL d gz_cfC pf l) (hk : gz_KD gz_cfC pf k gz_oX2) (hl : gz_FL own index RX2 "rule" "[I") (dg : decode cc pc = .ok (.getfield index, 3)) (kk : gz_At x (pc + 3) lv (.ref (gx_ad x (k + 1)) :: st) M) : gz_At x pc lv (.ref (gx_ad x k) :: st) M := gr_getB X (X.kd hk).1 ((X.kd hk).2 _ _ _ _) (by rw [X.hcl]; rfl) gw_X2 (j := 2) (by decide) rfl hl rfl dg kk
theorem gf2_3 {k : Nat} {index : Nat} (X : gz_Ok x cc own nL d gz_cfC pf l) (hk : gz_KD gz_cfC pf k gz_oX2) (hl : gz_FL own index RX2 "first" "[I") (dg : decode cc pc = .ok (.getfield index, 3)) (kk : gz_At x (pc + 3) lv (.ref (gx_ad x (k + 2)) :: st) M) : gz_At x pc lv (.ref (gx_ad x k) :: st) M := gr_getB X (X.kd hk).1 ((X.kd hk).2 _ _ _ _) (by rw [X.hcl]; rfl) gw_X2 (j := 3) (by decide) rfl hl rfl dg kk
theorem gf2_4 {k : Nat} {index : Nat} (X : gz_Ok x cc own nL d gz_cfC pf l) (hk : gz_KD gz_cfC pf k gz_oX2) (hl : gz_FL own index RX2 "behind" "[I") (dg : decode cc pc = .ok (.getfield index, 3)) (kk : gz_At x (pc + 3) lv (.ref (gx_ad x (k + 3)) :: st) M) : gz_At x pc lv (.ref (gx_ad x k) :: st) M := gr_getB X (X.kd hk).1 ((X.kd hk).2 _ _ _ _) (by rw [X.hcl]; rfl) gw_X2 (j := 4) (by decide) rfl hl rfl dg kk
theorem gf2_5 {k : Nat} {index : Nat} (X : gz_Ok x cc own nL d gz_cfC pf l) (hk : gz_KD gz_cfC pf k gz_oX2) (hl : gz_FL own index RX2 "readTo" "[I") (dg : decode cc pc = .ok (.getfield index, 3)) (kk : gz_At x (pc + 3) lv (.ref (gx_ad x (k + 4)) :: st) M) : gz_At x pc lv (.ref (gx_ad x k) :: st) M := gr_getB X (X.kd hk).1 ((X.kd hk).2 _ _ _ _) (by rw [X.hcl]; rfl) gw_X2 (j := 5) (by decide) rfl hl rfl dg kk
theorem gf2_6 {k : Nat} {index : Nat} (X : gz_Ok x cc own nL d gz_cfC pf l) (hk : gz_KD gz_cfC pf k gz_oX2) (hl : gz_FL own index RX2 "dead" "[I") (dg : decode cc pc = .ok (.getfield index, 3)) (kk : gz_At x (pc + 3) lv (.ref (gx_ad x (k + 5)) :: st) M) : gz_At x pc lv (.ref (gx_ad x k) :: st) M := gr_getB X (X.kd hk).1 ((X.kd hk).2 _ _ _ _) (by rw [X.hcl]; rfl) gw_X2 (j := 6) (by decide) rfl hl rfl dg kk
theorem gf2_7 {k : Nat} {index : Nat} (X : gz_Ok x cc own nL d gz_cfC pf l) (hk : gz_KD gz_cfC pf k gz_oX2) (hl : gz_FL own index RX2 "mode" "[I") (dg : decode cc pc = .ok (.getfield index, 3)) (kk : gz_At x (pc + 3) lv (.ref (gx_ad x (k + 6)) :: st) M) : gz_At x pc lv (.ref (gx_ad x k) :: st) M := gr_getB X (X.kd hk).1 ((X.kd hk).2 _ _ _ _) (by rw [X.hcl]; rfl) gw_X2 (j := 7) (by decide) rfl hl rfl dg kk
theorem gf2_8 {k : Nat} {index : Nat} (X : gz_Ok x cc own nL d gz_cfC pf l) (hk : gz_KD gz_cfC pf k gz_oX2) (hl : gz_FL own index RX2 "depth" "[I") (dg : decode cc pc = .ok (.getfield index, 3)) (kk : gz_At x (pc + 3) lv (.ref (gx_ad x (k + 7)) :: st) M) : gz_At x pc lv (.ref (gx_ad x k) :: st) M := gr_getB X (X.kd hk).1 ((X.kd hk).2 _ _ _ _) (by rw [X.hcl]; rfl) gw_X2 (j := 8) (by decide) rfl hl rfl dg kk
theorem gf2_9 {k : Nat} {index : Nat} (X : gz_Ok x cc own nL d gz_cfC pf l) (hk : gz_KD gz_cfC pf k gz_oX2) (hl : gz_FL own index RX2 "pile" "[I") (dg : decode cc pc = .ok (.getfield index, 3)) (kk : gz_At x (pc + 3) lv (.ref (gx_ad x (k + 8)) :: st) M) : gz_At x pc lv (.ref (gx_ad x k) :: st) M := gr_getB X (X.kd hk).1 ((X.kd hk).2 _ _ _ _) (by rw [X.hcl]; rfl) gw_X2 (j := 9) (by decide) rfl hl rfl dg kk
theorem gf2_10 {k : Nat} {index : Nat} (X : gz_Ok x cc own nL d gz_cfC pf l) (hk : gz_KD gz_cfC pf k gz_oX2) (hl : gz_FL own index RX2 "depthNow" "I") (dg : decode cc pc = .ok (.getfield index, 3)) (kk : gz_At x (pc + 3) lv (.int (M.1 k 10) :: st) M) : gz_At x pc lv (.ref (gx_ad x k) :: st) M := gr_getB X (X.kd hk).1 ((X.kd hk).2 _ _ _ _) (by rw [X.hcl]; rfl) gw_X2 (j := 10) (by decide) rfl hl rfl dg kk
theorem gp2_10 {k : Nat} {index : Nat} {v : Int32} (X : gz_Ok x cc own nL d gz_cfC pf l) (hk : gz_KD gz_cfC pf k gz_oX2) (hl : gz_FL own index RX2 "depthNow" "I") (hM : M' = gz_w M k 10 v) (dg : decode cc pc = .ok (.putfield index, 3)) (kk : gz_At x (pc + 3) lv st M') : gz_At x pc lv (.int v :: .ref (gx_ad x k) :: st) M := gr_putB X (X.kd hk).1 ((X.kd hk).2 _ _ _ _) (.int v) ((X.kd hk).2 _ _ _ _) (by rw [X.hcl]; rfl) gw_X2 tyX2 tyX2_ok nmX2 (j := 10) (by decide) rfl hl rfl (ty := .int) (by decide +kernel) rfl rfl (Nat.le_of_ble_eq_true rfl) hM dg kk
theorem gf2_11 {k : Nat} {index : Nat} (X : gz_Ok x cc own nL d gz_cfC pf l) (hk : gz_KD gz_cfC pf k gz_oX2) (hl : gz_FL own index RX2 "pileNow" "I") (dg : decode cc pc = .ok (.getfield index, 3)) (kk : gz_At x (pc + 3) lv (.int (M.1 k 11) :: st) M) : gz_At x pc lv (.ref (gx_ad x k) :: st) M := gr_getB X (X.kd hk).1 ((X.kd hk).2 _ _ _ _) (by rw [X.hcl]; rfl) gw_X2 (j := 11) (by decide) rfl hl rfl dg kk
theorem gp2_11 {k : Nat} {index : Nat} {v : Int32} (X : gz_Ok x cc own nL d gz_cfC pf l) (hk : gz_KD gz_cfC pf k gz_oX2) (hl : gz_FL own index RX2 "pileNow" "I") (hM : M' = gz_w M k 11 v) (dg : decode cc pc = .ok (.putfield index, 3)) (kk : gz_At x (pc + 3) lv st M') : gz_At x pc lv (.int v :: .ref (gx_ad x k) :: st) M := gr_putB X (X.kd hk).1 ((X.kd hk).2 _ _ _ _) (.int v) ((X.kd hk).2 _ _ _ _) (by rw [X.hcl]; rfl) gw_X2 tyX2 tyX2_ok nmX2 (j := 11) (by decide) rfl hl rfl (ty := .int) (by decide +kernel) rfl rfl (Nat.le_of_ble_eq_true rfl) hM dg kk
theorem gf2_12 {k : Nat} {index : Nat} (X : gz_Ok x cc own nL d gz_cfC pf l) (hk : gz_KD gz_cfC pf k gz_oX2) (hl : gz_FL own index RX2 "foundRule" "I") (dg : decode cc pc = .ok (.getfield index, 3)) (kk : gz_At x (pc + 3) lv (.int (M.1 k 12) :: st) M) : gz_At x pc lv (.ref (gx_ad x k) :: st) M := gr_getB X (X.kd hk).1 ((X.kd hk).2 _ _ _ _) (by rw [X.hcl]; rfl) gw_X2 (j := 12) (by decide) rfl hl rfl dg kk
theorem gp2_12 {k : Nat} {index : Nat} {v : Int32} (X : gz_Ok x cc own nL d gz_cfC pf l) (hk : gz_KD gz_cfC pf k gz_oX2) (hl : gz_FL own index RX2 "foundRule" "I") (hM : M' = gz_w M k 12 v) (dg : decode cc pc = .ok (.putfield index, 3)) (kk : gz_At x (pc + 3) lv st M') : gz_At x pc lv (.int v :: .ref (gx_ad x k) :: st) M := gr_putB X (X.kd hk).1 ((X.kd hk).2 _ _ _ _) (.int v) ((X.kd hk).2 _ _ _ _) (by rw [X.hcl]; rfl) gw_X2 tyX2 tyX2_ok nmX2 (j := 12) (by decide) rfl hl rfl (ty := .int) (by decide +kernel) rfl rfl (Nat.le_of_ble_eq_true rfl) hM dg kk
theorem gf2_13 {k : Nat} {index : Nat} (X : gz_Ok x cc own nL d gz_cfC pf l) (hk : gz_KD gz_cfC pf k gz_oX2) (hl : gz_FL own index RX2 "foundBehind" "I") (dg : decode cc pc = .ok (.getfield index, 3)) (kk : gz_At x (pc + 3) lv (.int (M.1 k 13) :: st) M) : gz_At x pc lv (.ref (gx_ad x k) :: st) M := gr_getB X (X.kd hk).1 ((X.kd hk).2 _ _ _ _) (by rw [X.hcl]; rfl) gw_X2 (j := 13) (by decide) rfl hl rfl dg kk
theorem gp2_13 {k : Nat} {index : Nat} {v : Int32} (X : gz_Ok x cc own nL d gz_cfC pf l) (hk : gz_KD gz_cfC pf k gz_oX2) (hl : gz_FL own index RX2 "foundBehind" "I") (hM : M' = gz_w M k 13 v) (dg : decode cc pc = .ok (.putfield index, 3)) (kk : gz_At x (pc + 3) lv st M') : gz_At x pc lv (.int v :: .ref (gx_ad x k) :: st) M := gr_putB X (X.kd hk).1 ((X.kd hk).2 _ _ _ _) (.int v) ((X.kd hk).2 _ _ _ _) (by rw [X.hcl]; rfl) gw_X2 tyX2 tyX2_ok nmX2 (j := 13) (by decide) rfl hl rfl (ty := .int) (by decide +kernel) rfl rfl (Nat.le_of_ble_eq_true rfl) hM dg kk
theorem gf2_14 {k : Nat} {index : Nat} (X : gz_Ok x cc own nL d gz_cfC pf l) (hk : gz_KD gz_cfC pf k gz_oX2) (hl : gz_FL own index RX2 "foundReadTo" "I") (dg : decode cc pc = .ok (.getfield index, 3)) (kk : gz_At x (pc + 3) lv (.int (M.1 k 14) :: st) M) : gz_At x pc lv (.ref (gx_ad x k) :: st) M := gr_getB X (X.kd hk).1 ((X.kd hk).2 _ _ _ _) (by rw [X.hcl]; rfl) gw_X2 (j := 14) (by decide) rfl hl rfl dg kk
theorem gp2_14 {k : Nat} {index : Nat} {v : Int32} (X : gz_Ok x cc own nL d gz_cfC pf l) (hk : gz_KD gz_cfC pf k gz_oX2) (hl : gz_FL own index RX2 "foundReadTo" "I") (hM : M' = gz_w M k 14 v) (dg : decode cc pc = .ok (.putfield index, 3)) (kk : gz_At x (pc + 3) lv st M') : gz_At x pc lv (.int v :: .ref (gx_ad x k) :: st) M := gr_putB X (X.kd hk).1 ((X.kd hk).2 _ _ _ _) (.int v) ((X.kd hk).2 _ _ _ _) (by rw [X.hcl]; rfl) gw_X2 tyX2 tyX2_ok nmX2 (j := 14) (by decide) rfl hl rfl (ty := .int) (by decide +kernel) rfl rfl (Nat.le_of_ble_eq_true rfl) hM dg kk
theorem gf2_15 {k : Nat} {index : Nat} (X : gz_Ok x cc own nL d gz_cfC pf l) (hk : gz_KD gz_cfC pf k gz_oX2) (hl : gz_FL own index RX2 "foundDead" "I") (dg : decode cc pc = .ok (.getfield index, 3)) (kk : gz_At x (pc + 3) lv (.int (M.1 k 15) :: st) M) : gz_At x pc lv (.ref (gx_ad x k) :: st) M := gr_getB X (X.kd hk).1 ((X.kd hk).2 _ _ _ _) (by rw [X.hcl]; rfl) gw_X2 (j := 15) (by decide) rfl hl rfl dg kk
theorem gp2_15 {k : Nat} {index : Nat} {v : Int32} (X : gz_Ok x cc own nL d gz_cfC pf l) (hk : gz_KD gz_cfC pf k gz_oX2) (hl : gz_FL own index RX2 "foundDead" "I") (hM : M' = gz_w M k 15 v) (dg : decode cc pc = .ok (.putfield index, 3)) (kk : gz_At x (pc + 3) lv st M') : gz_At x pc lv (.int v :: .ref (gx_ad x k) :: st) M := gr_putB X (X.kd hk).1 ((X.kd hk).2 _ _ _ _) (.int v) ((X.kd hk).2 _ _ _ _) (by rw [X.hcl]; rfl) gw_X2 tyX2 tyX2_ok nmX2 (j := 15) (by decide) rfl hl rfl (ty := .int) (by decide +kernel) rfl rfl (Nat.le_of_ble_eq_true rfl) hM dg kk
theorem gf3_0 {index : Nat} (X : gz_Ok x cc own nL d gz_cfC pf l) (hl : gz_FL own index RX3 "open" "I") (dg : decode cc pc = .ok (.getfield index, 3)) (kk : gz_At x (pc + 3) lv (.int (M.1 3 0) :: st) M) : gz_At x pc lv (.ref (gx_ad x 3) :: st) M := gr_getB X (X.kd gk_C3).1 ((X.kd gk_C3).2 _ _ _ _) (by rw [X.hcl]; rfl) gw_X3 (j := 0) (by decide) rfl hl rfl dg kk
theorem gp3_0 {index : Nat} {v : Int32} (X : gz_Ok x cc own nL d gz_cfC pf l) (hl : gz_FL own index RX3 "open" "I") (hM : M' = gz_w M 3 0 v) (dg : decode cc pc = .ok (.putfield index, 3)) (kk : gz_At x (pc + 3) lv st M') : gz_At x pc lv (.int v :: .ref (gx_ad x 3) :: st) M := gr_putB X (X.kd gk_C3).1 ((X.kd gk_C3).2 _ _ _ _) (.int v) ((X.kd gk_C3).2 _ _ _ _) (by rw [X.hcl]; rfl) gw_X3 tyX3 tyX3_ok nmX3 (j := 0) (by decide) rfl hl rfl (ty := .int) (by decide +kernel) rfl rfl (Nat.le_of_ble_eq_true rfl) hM dg kk
theorem gf3_1 {index : Nat} (X : gz_Ok x cc own nL d gz_cfC pf l) (hl : gz_FL own index RX3 "ruleNumber" "I") (dg : decode cc pc = .ok (.getfield index, 3)) (kk : gz_At x (pc + 3) lv (.int (M.1 3 1) :: st) M) : gz_At x pc lv (.ref (gx_ad x 3) :: st) M := gr_getB X (X.kd gk_C3).1 ((X.kd gk_C3).2 _ _ _ _) (by rw [X.hcl]; rfl) gw_X3 (j := 1) (by decide) rfl hl rfl dg kk
theorem gp3_1 {index : Nat} {v : Int32} (X : gz_Ok x cc own nL d gz_cfC pf l) (hl : gz_FL own index RX3 "ruleNumber" "I") (hM : M' = gz_w M 3 1 v) (dg : decode cc pc = .ok (.putfield index, 3)) (kk : gz_At x (pc + 3) lv st M') : gz_At x pc lv (.int v :: .ref (gx_ad x 3) :: st) M := gr_putB X (X.kd gk_C3).1 ((X.kd gk_C3).2 _ _ _ _) (.int v) ((X.kd gk_C3).2 _ _ _ _) (by rw [X.hcl]; rfl) gw_X3 tyX3 tyX3_ok nmX3 (j := 1) (by decide) rfl hl rfl (ty := .int) (by decide +kernel) rfl rfl (Nat.le_of_ble_eq_true rfl) hM dg kk
theorem gf4_0 {index : Nat} (X : gz_Ok x cc own nL d gz_cfC pf l) (hl : gz_FL own index RX4 "books" "[LLongestTokens$Book;") (dg : decode cc pc = .ok (.getfield index, 3)) (kk : gz_At x (pc + 3) lv (.ref (gx_ad x 132) :: st) M) : gz_At x pc lv (.ref (gx_ad x 131) :: st) M := gr_getB X (X.kd gk_C131).1 ((X.kd gk_C131).2 _ _ _ _) (by rw [X.hcl]; rfl) gw_X4 (j := 0) (by decide) rfl hl rfl dg kk
theorem gf4_1 {index : Nat} (X : gz_Ok x cc own nL d gz_cfC pf l) (hl : gz_FL own index RX4 "oldest" "I") (dg : decode cc pc = .ok (.getfield index, 3)) (kk : gz_At x (pc + 3) lv (.int (M.1 131 1) :: st) M) : gz_At x pc lv (.ref (gx_ad x 131) :: st) M := gr_getB X (X.kd gk_C131).1 ((X.kd gk_C131).2 _ _ _ _) (by rw [X.hcl]; rfl) gw_X4 (j := 1) (by decide) rfl hl rfl dg kk
theorem gp4_1 {index : Nat} {v : Int32} (X : gz_Ok x cc own nL d gz_cfC pf l) (hl : gz_FL own index RX4 "oldest" "I") (hM : M' = gz_w M 131 1 v) (dg : decode cc pc = .ok (.putfield index, 3)) (kk : gz_At x (pc + 3) lv st M') : gz_At x pc lv (.int v :: .ref (gx_ad x 131) :: st) M := gr_putB X (X.kd gk_C131).1 ((X.kd gk_C131).2 _ _ _ _) (.int v) ((X.kd gk_C131).2 _ _ _ _) (by rw [X.hcl]; rfl) gw_X4 tyX4 tyX4_ok nmX4 (j := 1) (by decide) rfl hl rfl (ty := .int) (by decide +kernel) rfl rfl (Nat.le_of_ble_eq_true rfl) hM dg kk
theorem gf4_2 {index : Nat} (X : gz_Ok x cc own nL d gz_cfC pf l) (hl : gz_FL own index RX4 "size" "I") (dg : decode cc pc = .ok (.getfield index, 3)) (kk : gz_At x (pc + 3) lv (.int (M.1 131 2) :: st) M) : gz_At x pc lv (.ref (gx_ad x 131) :: st) M := gr_getB X (X.kd gk_C131).1 ((X.kd gk_C131).2 _ _ _ _) (by rw [X.hcl]; rfl) gw_X4 (j := 2) (by decide) rfl hl rfl dg kk
theorem gp4_2 {index : Nat} {v : Int32} (X : gz_Ok x cc own nL d gz_cfC pf l) (hl : gz_FL own index RX4 "size" "I") (hM : M' = gz_w M 131 2 v) (dg : decode cc pc = .ok (.putfield index, 3)) (kk : gz_At x (pc + 3) lv st M') : gz_At x pc lv (.int v :: .ref (gx_ad x 131) :: st) M := gr_putB X (X.kd gk_C131).1 ((X.kd gk_C131).2 _ _ _ _) (.int v) ((X.kd gk_C131).2 _ _ _ _) (by rw [X.hcl]; rfl) gw_X4 tyX4 tyX4_ok nmX4 (j := 2) (by decide) rfl hl rfl (ty := .int) (by decide +kernel) rfl rfl (Nat.le_of_ble_eq_true rfl) hM dg kk
theorem gf5_0 {k : Nat} {index : Nat} (X : gz_Ok x cc own nL d gz_cfC pf l) (hk : gz_KD gz_cfC pf k gz_oX5) (hl : gz_FL own index RX5 "signs" "[I") (dg : decode cc pc = .ok (.getfield index, 3)) (kk : gz_At x (pc + 3) lv (.ref (gx_ad x (k + 1)) :: st) M) : gz_At x pc lv (.ref (gx_ad x k) :: st) M := gr_getB X (X.kd hk).1 ((X.kd hk).2 _ _ _ _) (by rw [X.hcl]; rfl) gw_X5 (j := 0) (by decide) rfl hl rfl dg kk
theorem gf5_1 {k : Nat} {index : Nat} (X : gz_Ok x cc own nL d gz_cfC pf l) (hk : gz_KD gz_cfC pf k gz_oX5) (hl : gz_FL own index RX5 "length" "I") (dg : decode cc pc = .ok (.getfield index, 3)) (kk : gz_At x (pc + 3) lv (.int (M.1 k 1) :: st) M) : gz_At x pc lv (.ref (gx_ad x k) :: st) M := gr_getB X (X.kd hk).1 ((X.kd hk).2 _ _ _ _) (by rw [X.hcl]; rfl) gw_X5 (j := 1) (by decide) rfl hl rfl dg kk
theorem gp5_1 {k : Nat} {index : Nat} {v : Int32} (X : gz_Ok x cc own nL d gz_cfC pf l) (hk : gz_KD gz_cfC pf k gz_oX5) (hl : gz_FL own index RX5 "length" "I") (hM : M' = gz_w M k 1 v) (dg : decode cc pc = .ok (.putfield index, 3)) (kk : gz_At x (pc + 3) lv st M') : gz_At x pc lv (.int v :: .ref (gx_ad x k) :: st) M := gr_putB X (X.kd hk).1 ((X.kd hk).2 _ _ _ _) (.int v) ((X.kd hk).2 _ _ _ _) (by rw [X.hcl]; rfl) gw_X5 tyX5 tyX5_ok nmX5 (j := 1) (by decide) rfl hl rfl (ty := .int) (by decide +kernel) rfl rfl (Nat.le_of_ble_eq_true rfl) hM dg kk
theorem gf6_0 {index : Nat} (X : gz_Ok x cc own nL d gz_cfC pf l) (hl : gz_FL own index RX6 "keys" "[[I") (dg : decode cc pc = .ok (.getfield index, 3)) (kk : gz_At x (pc + 3) lv (.ref (gx_ad x 70) :: st) M) : gz_At x pc lv (.ref (gx_ad x 69) :: st) M := gr_getB X (X.kd gk_C69).1 ((X.kd gk_C69).2 _ _ _ _) (by rw [X.hcl]; rfl) gw_X6 (j := 0) (by decide) rfl hl rfl dg kk
theorem gf6_1 {index : Nat} (X : gz_Ok x cc own nL d gz_cfC pf l) (hl : gz_FL own index RX6 "times" "[[I") (dg : decode cc pc = .ok (.getfield index, 3)) (kk : gz_At x (pc + 3) lv (.ref (gx_ad x 96) :: st) M) : gz_At x pc lv (.ref (gx_ad x 69) :: st) M := gr_getB X (X.kd gk_C69).1 ((X.kd gk_C69).2 _ _ _ _) (by rw [X.hcl]; rfl) gw_X6 (j := 1) (by decide) rfl hl rfl dg kk
theorem gf6_2 {index : Nat} (X : gz_Ok x cc own nL d gz_cfC pf l) (hl : gz_FL own index RX6 "sizes" "[I") (dg : decode cc pc = .ok (.getfield index, 3)) (kk : gz_At x (pc + 3) lv (.ref (gx_ad x 122) :: st) M) : gz_At x pc lv (.ref (gx_ad x 69) :: st) M := gr_getB X (X.kd gk_C69).1 ((X.kd gk_C69).2 _ _ _ _) (by rw [X.hcl]; rfl) gw_X6 (j := 2) (by decide) rfl hl rfl dg kk
theorem gf6_3 {index : Nat} (X : gz_Ok x cc own nL d gz_cfC pf l) (hl : gz_FL own index RX6 "total" "I") (dg : decode cc pc = .ok (.getfield index, 3)) (kk : gz_At x (pc + 3) lv (.int (M.1 69 3) :: st) M) : gz_At x pc lv (.ref (gx_ad x 69) :: st) M := gr_getB X (X.kd gk_C69).1 ((X.kd gk_C69).2 _ _ _ _) (by rw [X.hcl]; rfl) gw_X6 (j := 3) (by decide) rfl hl rfl dg kk
theorem gp6_3 {index : Nat} {v : Int32} (X : gz_Ok x cc own nL d gz_cfC pf l) (hl : gz_FL own index RX6 "total" "I") (hM : M' = gz_w M 69 3 v) (dg : decode cc pc = .ok (.putfield index, 3)) (kk : gz_At x (pc + 3) lv st M') : gz_At x pc lv (.int v :: .ref (gx_ad x 69) :: st) M := gr_putB X (X.kd gk_C69).1 ((X.kd gk_C69).2 _ _ _ _) (.int v) ((X.kd gk_C69).2 _ _ _ _) (by rw [X.hcl]; rfl) gw_X6 tyX6 tyX6_ok nmX6 (j := 3) (by decide) rfl hl rfl (ty := .int) (by decide +kernel) rfl rfl (Nat.le_of_ble_eq_true rfl) hM dg kk
theorem gf6_4 {index : Nat} (X : gz_Ok x cc own nL d gz_cfC pf l) (hl : gz_FL own index RX6 "signsRead" "I") (dg : decode cc pc = .ok (.getfield index, 3)) (kk : gz_At x (pc + 3) lv (.int (M.1 69 4) :: st) M) : gz_At x pc lv (.ref (gx_ad x 69) :: st) M := gr_getB X (X.kd gk_C69).1 ((X.kd gk_C69).2 _ _ _ _) (by rw [X.hcl]; rfl) gw_X6 (j := 4) (by decide) rfl hl rfl dg kk
theorem gp6_4 {index : Nat} {v : Int32} (X : gz_Ok x cc own nL d gz_cfC pf l) (hl : gz_FL own index RX6 "signsRead" "I") (hM : M' = gz_w M 69 4 v) (dg : decode cc pc = .ok (.putfield index, 3)) (kk : gz_At x (pc + 3) lv st M') : gz_At x pc lv (.int v :: .ref (gx_ad x 69) :: st) M := gr_putB X (X.kd gk_C69).1 ((X.kd gk_C69).2 _ _ _ _) (.int v) ((X.kd gk_C69).2 _ _ _ _) (by rw [X.hcl]; rfl) gw_X6 tyX6 tyX6_ok nmX6 (j := 4) (by decide) rfl hl rfl (ty := .int) (by decide +kernel) rfl rfl (Nat.le_of_ble_eq_true rfl) hM dg kk
theorem gf7_0 {k : Nat} {index : Nat} (X : gz_Ok x cc own nL d gz_cfC pf l) (hk : gz_KD gz_cfC pf k gz_oX7) (hl : gz_FL own index RX7 "total" "I") (dg : decode cc pc = .ok (.getfield index, 3)) (kk : gz_At x (pc + 3) lv (.int (M.1 k 0) :: st) M) : gz_At x pc lv (.ref (gx_ad x k) :: st) M := gr_getB X (X.kd hk).1 ((X.kd hk).2 _ _ _ _) (by rw [X.hcl]; rfl) gw_X7 (j := 0) (by decide) rfl hl rfl dg kk
theorem gp7_0 {k : Nat} {index : Nat} {v : Int32} (X : gz_Ok x cc own nL d gz_cfC pf l) (hk : gz_KD gz_cfC pf k gz_oX7) (hl : gz_FL own index RX7 "total" "I") (hM : M' = gz_w M k 0 v) (dg : decode cc pc = .ok (.putfield index, 3)) (kk : gz_At x (pc + 3) lv st M') : gz_At x pc lv (.int v :: .ref (gx_ad x k) :: st) M := gr_putB X (X.kd hk).1 ((X.kd hk).2 _ _ _ _) (.int v) ((X.kd hk).2 _ _ _ _) (by rw [X.hcl]; rfl) gw_X7 tyX7 tyX7_ok nmX7 (j := 0) (by decide) rfl hl rfl (ty := .int) (by decide +kernel) rfl rfl (Nat.le_of_ble_eq_true rfl) hM dg kk
theorem gf7_1 {k : Nat} {index : Nat} (X : gz_Ok x cc own nL d gz_cfC pf l) (hk : gz_KD gz_cfC pf k gz_oX7) (hl : gz_FL own index RX7 "mode" "[I") (dg : decode cc pc = .ok (.getfield index, 3)) (kk : gz_At x (pc + 3) lv (.ref (gx_ad x (k + 1)) :: st) M) : gz_At x pc lv (.ref (gx_ad x k) :: st) M := gr_getB X (X.kd hk).1 ((X.kd hk).2 _ _ _ _) (by rw [X.hcl]; rfl) gw_X7 (j := 1) (by decide) rfl hl rfl dg kk
theorem gf7_2 {k : Nat} {index : Nat} (X : gz_Ok x cc own nL d gz_cfC pf l) (hk : gz_KD gz_cfC pf k gz_oX7) (hl : gz_FL own index RX7 "letters" "[I") (dg : decode cc pc = .ok (.getfield index, 3)) (kk : gz_At x (pc + 3) lv (.ref (gx_ad x (k + 2)) :: st) M) : gz_At x pc lv (.ref (gx_ad x k) :: st) M := gr_getB X (X.kd hk).1 ((X.kd hk).2 _ _ _ _) (by rw [X.hcl]; rfl) gw_X7 (j := 2) (by decide) rfl hl rfl dg kk
theorem gf7_3 {k : Nat} {index : Nat} (X : gz_Ok x cc own nL d gz_cfC pf l) (hk : gz_KD gz_cfC pf k gz_oX7) (hl : gz_FL own index RX7 "act" "[I") (dg : decode cc pc = .ok (.getfield index, 3)) (kk : gz_At x (pc + 3) lv (.ref (gx_ad x (k + 3)) :: st) M) : gz_At x pc lv (.ref (gx_ad x k) :: st) M := gr_getB X (X.kd hk).1 ((X.kd hk).2 _ _ _ _) (by rw [X.hcl]; rfl) gw_X7 (j := 3) (by decide) rfl hl rfl dg kk
theorem gf7_4 {k : Nat} {index : Nat} (X : gz_Ok x cc own nL d gz_cfC pf l) (hk : gz_KD gz_cfC pf k gz_oX7) (hl : gz_FL own index RX7 "digit" "[I") (dg : decode cc pc = .ok (.getfield index, 3)) (kk : gz_At x (pc + 3) lv (.ref (gx_ad x (k + 4)) :: st) M) : gz_At x pc lv (.ref (gx_ad x k) :: st) M := gr_getB X (X.kd hk).1 ((X.kd hk).2 _ _ _ _) (by rw [X.hcl]; rfl) gw_X7 (j := 4) (by decide) rfl hl rfl dg kk
theorem gf7_5 {k : Nat} {index : Nat} (X : gz_Ok x cc own nL d gz_cfC pf l) (hk : gz_KD gz_cfC pf k gz_oX7) (hl : gz_FL own index RX7 "last" "[I") (dg : decode cc pc = .ok (.getfield index, 3)) (kk : gz_At x (pc + 3) lv (.ref (gx_ad x (k + 5)) :: st) M) : gz_At x pc lv (.ref (gx_ad x k) :: st) M := gr_getB X (X.kd hk).1 ((X.kd hk).2 _ _ _ _) (by rw [X.hcl]; rfl) gw_X7 (j := 5) (by decide) rfl hl rfl dg kk
theorem gf7_6 {k : Nat} {index : Nat} (X : gz_Ok x cc own nL d gz_cfC pf l) (hk : gz_KD gz_cfC pf k gz_oX7) (hl : gz_FL own index RX7 "empty" "[Z") (dg : decode cc pc = .ok (.getfield index, 3)) (kk : gz_At x (pc + 3) lv (.ref (gx_ad x (k + 6)) :: st) M) : gz_At x pc lv (.ref (gx_ad x k) :: st) M := gr_getB X (X.kd hk).1 ((X.kd hk).2 _ _ _ _) (by rw [X.hcl]; rfl) gw_X7 (j := 6) (by decide) rfl hl rfl dg kk
theorem gf7_7 {k : Nat} {index : Nat} (X : gz_Ok x cc own nL d gz_cfC pf l) (hk : gz_KD gz_cfC pf k gz_oX7) (hl : gz_FL own index RX7 "used" "[I") (dg : decode cc pc = .ok (.getfield index, 3)) (kk : gz_At x (pc + 3) lv (.ref (gx_ad x (k + 7)) :: st) M) : gz_At x pc lv (.ref (gx_ad x k) :: st) M := gr_getB X (X.kd hk).1 ((X.kd hk).2 _ _ _ _) (by rw [X.hcl]; rfl) gw_X7 (j := 7) (by decide) rfl hl rfl dg kk
theorem gf7_8 {k : Nat} {index : Nat} (X : gz_Ok x cc own nL d gz_cfC pf l) (hk : gz_KD gz_cfC pf k gz_oX7) (hl : gz_FL own index RX7 "opening" "[I") (dg : decode cc pc = .ok (.getfield index, 3)) (kk : gz_At x (pc + 3) lv (.ref (gx_ad x (k + 8)) :: st) M) : gz_At x pc lv (.ref (gx_ad x k) :: st) M := gr_getB X (X.kd hk).1 ((X.kd hk).2 _ _ _ _) (by rw [X.hcl]; rfl) gw_X7 (j := 8) (by decide) rfl hl rfl dg kk
theorem gf7_9 {k : Nat} {index : Nat} (X : gz_Ok x cc own nL d gz_cfC pf l) (hk : gz_KD gz_cfC pf k gz_oX7) (hl : gz_FL own index RX7 "follow" "[[I") (dg : decode cc pc = .ok (.getfield index, 3)) (kk : gz_At x (pc + 3) lv (.ref (gx_ad x (k + 9)) :: st) M) : gz_At x pc lv (.ref (gx_ad x k) :: st) M := gr_getB X (X.kd hk).1 ((X.kd hk).2 _ _ _ _) (by rw [X.hcl]; rfl) gw_X7 (j := 9) (by decide) rfl hl rfl dg kk
theorem gf7_10 {k : Nat} {index : Nat} (X : gz_Ok x cc own nL d gz_cfC pf l) (hk : gz_KD gz_cfC pf k gz_oX7) (hl : gz_FL own index RX7 "takers" "[[I") (dg : decode cc pc = .ok (.getfield index, 3)) (kk : gz_At x (pc + 3) lv (.ref (gx_ad x (k + 14)) :: st) M) : gz_At x pc lv (.ref (gx_ad x k) :: st) M := gr_getB X (X.kd hk).1 ((X.kd hk).2 _ _ _ _) (by rw [X.hcl]; rfl) gw_X7 (j := 10) (by decide) rfl hl rfl dg kk
theorem gf8_0 {index : Nat} (X : gz_Ok x cc own nL d gz_cfC pf l) (hl : gz_FL own index RX8 "queue" "[I") (dg : decode cc pc = .ok (.getfield index, 3)) (kk : gz_At x (pc + 3) lv (.ref (gx_ad x 124) :: st) M) : gz_At x pc lv (.ref (gx_ad x 123) :: st) M := gr_getB X (X.kd gk_C123).1 ((X.kd gk_C123).2 _ _ _ _) (by rw [X.hcl]; rfl) gw_X8 (j := 0) (by decide) rfl hl rfl dg kk
theorem gf8_1 {index : Nat} (X : gz_Ok x cc own nL d gz_cfC pf l) (hl : gz_FL own index RX8 "cameBy" "[I") (dg : decode cc pc = .ok (.getfield index, 3)) (kk : gz_At x (pc + 3) lv (.ref (gx_ad x 125) :: st) M) : gz_At x pc lv (.ref (gx_ad x 123) :: st) M := gr_getB X (X.kd gk_C123).1 ((X.kd gk_C123).2 _ _ _ _) (by rw [X.hcl]; rfl) gw_X8 (j := 1) (by decide) rfl hl rfl dg kk
theorem gf8_2 {index : Nat} (X : gz_Ok x cc own nL d gz_cfC pf l) (hl : gz_FL own index RX8 "path" "[I") (dg : decode cc pc = .ok (.getfield index, 3)) (kk : gz_At x (pc + 3) lv (.ref (gx_ad x 126) :: st) M) : gz_At x pc lv (.ref (gx_ad x 123) :: st) M := gr_getB X (X.kd gk_C123).1 ((X.kd gk_C123).2 _ _ _ _) (by rw [X.hcl]; rfl) gw_X8 (j := 2) (by decide) rfl hl rfl dg kk
theorem gf8_3 {index : Nat} (X : gz_Ok x cc own nL d gz_cfC pf l) (hl : gz_FL own index RX8 "size" "I") (dg : decode cc pc = .ok (.getfield index, 3)) (kk : gz_At x (pc + 3) lv (.int (M.1 123 3) :: st) M) : gz_At x pc lv (.ref (gx_ad x 123) :: st) M := gr_getB X (X.kd gk_C123).1 ((X.kd gk_C123).2 _ _ _ _) (by rw [X.hcl]; rfl) gw_X8 (j := 3) (by decide) rfl hl rfl dg kk
theorem gp8_3 {index : Nat} {v : Int32} (X : gz_Ok x cc own nL d gz_cfC pf l) (hl : gz_FL own index RX8 "size" "I") (hM : M' = gz_w M 123 3 v) (dg : decode cc pc = .ok (.putfield index, 3)) (kk : gz_At x (pc + 3) lv st M') : gz_At x pc lv (.int v :: .ref (gx_ad x 123) :: st) M := gr_putB X (X.kd gk_C123).1 ((X.kd gk_C123).2 _ _ _ _) (.int v) ((X.kd gk_C123).2 _ _ _ _) (by rw [X.hcl]; rfl) gw_X8 tyX8 tyX8_ok nmX8 (j := 3) (by decide) rfl hl rfl (ty := .int) (by decide +kernel) rfl rfl (Nat.le_of_ble_eq_true rfl) hM dg kk
theorem gf9_0 {index : Nat} (X : gz_Ok x cc own nL d gz_cfC pf l) (hl : gz_FL own index RX9 "ends" "[I") (dg : decode cc pc = .ok (.getfield index, 3)) (kk : gz_At x (pc + 3) lv (.ref (gx_ad x 128) :: st) M) : gz_At x pc lv (.ref (gx_ad x 127) :: st) M := gr_getB X (X.kd gk_C127).1 ((X.kd gk_C127).2 _ _ _ _) (by rw [X.hcl]; rfl) gw_X9 (j := 0) (by decide) rfl hl rfl dg kk
theorem gf9_1 {index : Nat} (X : gz_Ok x cc own nL d gz_cfC pf l) (hl : gz_FL own index RX9 "cuts" "[I") (dg : decode cc pc = .ok (.getfield index, 3)) (kk : gz_At x (pc + 3) lv (.ref (gx_ad x 129) :: st) M) : gz_At x pc lv (.ref (gx_ad x 127) :: st) M := gr_getB X (X.kd gk_C127).1 ((X.kd gk_C127).2 _ _ _ _) (by rw [X.hcl]; rfl) gw_X9 (j := 1) (by decide) rfl hl rfl dg kk
theorem gf9_2 {index : Nat} (X : gz_Ok x cc own nL d gz_cfC pf l) (hl : gz_FL own index RX9 "rows" "[I") (dg : decode cc pc = .ok (.getfield index, 3)) (kk : gz_At x (pc + 3) lv (.ref (gx_ad x 130) :: st) M) : gz_At x pc lv (.ref (gx_ad x 127) :: st) M := gr_getB X (X.kd gk_C127).1 ((X.kd gk_C127).2 _ _ _ _) (by rw [X.hcl]; rfl) gw_X9 (j := 2) (by decide) rfl hl rfl dg kk
theorem gf10_0 {index : Nat} (X : gz_Ok x cc own nL d gz_cfC pf l) (hl : gz_FL own index RX10 "signs" "[I") (dg : decode cc pc = .ok (.getfield index, 3)) (kk : gz_At x (pc + 3) lv (.ref (gx_ad x 2) :: st) M) : gz_At x pc lv (.ref (gx_ad x 1) :: st) M := gr_getB X (X.kd gk_C1).1 ((X.kd gk_C1).2 _ _ _ _) (by rw [X.hcl]; rfl) gw_X10 (j := 0) (by decide) rfl hl rfl dg kk
theorem gf10_1 {index : Nat} (X : gz_Ok x cc own nL d gz_cfC pf l) (hl : gz_FL own index RX10 "length" "I") (dg : decode cc pc = .ok (.getfield index, 3)) (kk : gz_At x (pc + 3) lv (.int (M.1 1 1) :: st) M) : gz_At x pc lv (.ref (gx_ad x 1) :: st) M := gr_getB X (X.kd gk_C1).1 ((X.kd gk_C1).2 _ _ _ _) (by rw [X.hcl]; rfl) gw_X10 (j := 1) (by decide) rfl hl rfl dg kk
theorem gp10_1 {index : Nat} {v : Int32} (X : gz_Ok x cc own nL d gz_cfC pf l) (hl : gz_FL own index RX10 "length" "I") (hM : M' = gz_w M 1 1 v) (dg : decode cc pc = .ok (.putfield index, 3)) (kk : gz_At x (pc + 3) lv st M') : gz_At x pc lv (.int v :: .ref (gx_ad x 1) :: st) M := gr_putB X (X.kd gk_C1).1 ((X.kd gk_C1).2 _ _ _ _) (.int v) ((X.kd gk_C1).2 _ _ _ _) (by rw [X.hcl]; rfl) gw_X10 tyX10 tyX10_ok nmX10 (j := 1) (by decide) rfl hl rfl (ty := .int) (by decide +kernel) rfl rfl (Nat.le_of_ble_eq_true rfl) hM dg kk
theorem gf11_0 {index : Nat} (X : gz_Ok x cc own nL d gz_cfC pf l) (hl : gz_FL own index RX11 "text" "LLongestTokens$Text;") (dg : decode cc pc = .ok (.getfield index, 3)) (kk : gz_At x (pc + 3) lv (.ref (gx_ad x 1) :: st) M) : gz_At x pc lv (.ref (gx_ad x 0) :: st) M := gr_getB X (X.kd gk_C0).1 ((X.kd gk_C0).2 _ _ _ _) (by rw [X.hcl]; rfl) gw_X11 (j := 0) (by decide) rfl hl rfl dg kk
theorem gf11_1 {index : Nat} (X : gz_Ok x cc own nL d gz_cfC pf l) (hl : gz_FL own index RX11 "grammar" "LLongestTokens$Grammar;") (dg : decode cc pc = .ok (.getfield index, 3)) (kk : gz_At x (pc + 3) lv (.ref (gx_ad x 3) :: st) M) : gz_At x pc lv (.ref (gx_ad x 0) :: st) M := gr_getB X (X.kd gk_C0).1 ((X.kd gk_C0).2 _ _ _ _) (by rw [X.hcl]; rfl) gw_X11 (j := 1) (by decide) rfl hl rfl dg kk
theorem gf11_2 {index : Nat} (X : gz_Ok x cc own nL d gz_cfC pf l) (hl : gz_FL own index RX11 "builder" "LLongestTokens$Builder;") (dg : decode cc pc = .ok (.getfield index, 3)) (kk : gz_At x (pc + 3) lv (.ref (gx_ad x 4) :: st) M) : gz_At x pc lv (.ref (gx_ad x 0) :: st) M := gr_getB X (X.kd gk_C0).1 ((X.kd gk_C0).2 _ _ _ _) (by rw [X.hcl]; rfl) gw_X11 (j := 2) (by decide) rfl hl rfl dg kk
theorem gf11_3 {index : Nat} (X : gz_Ok x cc own nL d gz_cfC pf l) (hl : gz_FL own index RX11 "now" "LLongestTokens$Book;") (dg : decode cc pc = .ok (.getfield index, 3)) (kk : gz_At x (pc + 3) lv (.ref (gx_ad x 7) :: st) M) : gz_At x pc lv (.ref (gx_ad x 0) :: st) M := gr_getB X (X.kd gk_C0).1 ((X.kd gk_C0).2 _ _ _ _) (by rw [X.hcl]; rfl) gw_X11 (j := 3) (by decide) rfl hl rfl dg kk
theorem gf11_4 {index : Nat} (X : gz_Ok x cc own nL d gz_cfC pf l) (hl : gz_FL own index RX11 "table" "LLongestTokens$Rules;") (dg : decode cc pc = .ok (.getfield index, 3)) (kk : gz_At x (pc + 3) lv (.ref (gx_ad x 11) :: st) M) : gz_At x pc lv (.ref (gx_ad x 0) :: st) M := gr_getB X (X.kd gk_C0).1 ((X.kd gk_C0).2 _ _ _ _) (by rw [X.hcl]; rfl) gw_X11 (j := 4) (by decide) rfl hl rfl dg kk
theorem gf11_5 {index : Nat} (X : gz_Ok x cc own nL d gz_cfC pf l) (hl : gz_FL own index RX11 "cutting" "LLongestTokens$Cutting;") (dg : decode cc pc = .ok (.getfield index, 3)) (kk : gz_At x (pc + 3) lv (.ref (gx_ad x (gz_cIx (M.1 0 5))) :: st) M) : gz_At x pc lv (.ref (gx_ad x 0) :: st) M := gr_getB X (X.kd gk_C0).1 ((X.kd gk_C0).2 _ _ _ _) (by rw [X.hcl]; rfl) gw_X11 (j := 5) (by decide) rfl hl rfl dg kk
theorem gp11_5 {index e : Nat} (X : gz_Ok x cc own nL d gz_cfC pf l) (he : gz_IsX2 pf e) (hl : gz_FL own index RX11 "cutting" "LLongestTokens$Cutting;") (hM : M' = gz_w M 0 5 (gz_cOf e)) (dg : decode cc pc = .ok (.putfield index, 3)) (kk : gz_At x (pc + 3) lv st M') : gz_At x pc lv (.ref (gx_ad x e) :: .ref (gx_ad x 0) :: st) M := gr_putB X (X.kd gk_C0).1 ((X.kd gk_C0).2 _ _ _ _) (.ref (gx_ad x e)) (by rw [(X.kd gk_C0).2]; simp [gz_oX11, upd, gz_cIxOf he]) (by rw [X.hcl]; rfl) gw_X11 tyX11 tyX11_ok nmX11 (j := 5) (by decide) rfl hl rfl (ty := .object "LongestTokens$Cutting") (by decide +kernel) rfl rfl (Nat.le_of_ble_eq_true rfl) hM dg kk
theorem gf11_6 {index : Nat} (X : gz_Ok x cc own nL d gz_cfC pf l) (hl : gz_FL own index RX11 "otherTable" "LLongestTokens$Rules;") (dg : decode cc pc = .ok (.getfield index, 3)) (kk : gz_At x (pc + 3) lv (.ref (gx_ad x 39) :: st) M) : gz_At x pc lv (.ref (gx_ad x 0) :: st) M := gr_getB X (X.kd gk_C0).1 ((X.kd gk_C0).2 _ _ _ _) (by rw [X.hcl]; rfl) gw_X11 (j := 6) (by decide) rfl hl rfl dg kk
theorem gf11_7 {index : Nat} (X : gz_Ok x cc own nL d gz_cfC pf l) (hl : gz_FL own index RX11 "otherLine" "LLongestTokens$Line;") (dg : decode cc pc = .ok (.getfield index, 3)) (kk : gz_At x (pc + 3) lv (.ref (gx_ad x 58) :: st) M) : gz_At x pc lv (.ref (gx_ad x 0) :: st) M := gr_getB X (X.kd gk_C0).1 ((X.kd gk_C0).2 _ _ _ _) (by rw [X.hcl]; rfl) gw_X11 (j := 7) (by decide) rfl hl rfl dg kk
theorem gf11_8 {index : Nat} (X : gz_Ok x cc own nL d gz_cfC pf l) (hl : gz_FL own index RX11 "otherCutting" "LLongestTokens$Cutting;") (dg : decode cc pc = .ok (.getfield index, 3)) (kk : gz_At x (pc + 3) lv (.ref (gx_ad x (gz_cIx (M.1 0 8))) :: st) M) : gz_At x pc lv (.ref (gx_ad x 0) :: st) M := gr_getB X (X.kd gk_C0).1 ((X.kd gk_C0).2 _ _ _ _) (by rw [X.hcl]; rfl) gw_X11 (j := 8) (by decide) rfl hl rfl dg kk
theorem gp11_8 {index e : Nat} (X : gz_Ok x cc own nL d gz_cfC pf l) (he : gz_IsX2 pf e) (hl : gz_FL own index RX11 "otherCutting" "LLongestTokens$Cutting;") (hM : M' = gz_w M 0 8 (gz_cOf e)) (dg : decode cc pc = .ok (.putfield index, 3)) (kk : gz_At x (pc + 3) lv st M') : gz_At x pc lv (.ref (gx_ad x e) :: .ref (gx_ad x 0) :: st) M := gr_putB X (X.kd gk_C0).1 ((X.kd gk_C0).2 _ _ _ _) (.ref (gx_ad x e)) (by rw [(X.kd gk_C0).2]; simp [gz_oX11, upd, gz_cIxOf he]) (by rw [X.hcl]; rfl) gw_X11 tyX11 tyX11_ok nmX11 (j := 8) (by decide) rfl hl rfl (ty := .object "LongestTokens$Cutting") (by decide +kernel) rfl rfl (Nat.le_of_ble_eq_true rfl) hM dg kk
theorem gf11_9 {index : Nat} (X : gz_Ok x cc own nL d gz_cfC pf l) (hl : gz_FL own index RX11 "pairs" "LLongestTokens$Pairs;") (dg : decode cc pc = .ok (.getfield index, 3)) (kk : gz_At x (pc + 3) lv (.ref (gx_ad x 69) :: st) M) : gz_At x pc lv (.ref (gx_ad x 0) :: st) M := gr_getB X (X.kd gk_C0).1 ((X.kd gk_C0).2 _ _ _ _) (by rw [X.hcl]; rfl) gw_X11 (j := 9) (by decide) rfl hl rfl dg kk
theorem gf11_10 {index : Nat} (X : gz_Ok x cc own nL d gz_cfC pf l) (hl : gz_FL own index RX11 "search" "LLongestTokens$Search;") (dg : decode cc pc = .ok (.getfield index, 3)) (kk : gz_At x (pc + 3) lv (.ref (gx_ad x 123) :: st) M) : gz_At x pc lv (.ref (gx_ad x 0) :: st) M := gr_getB X (X.kd gk_C0).1 ((X.kd gk_C0).2 _ _ _ _) (by rw [X.hcl]; rfl) gw_X11 (j := 10) (by decide) rfl hl rfl dg kk
theorem gf11_11 {index : Nat} (X : gz_Ok x cc own nL d gz_cfC pf l) (hl : gz_FL own index RX11 "splits" "LLongestTokens$Splits;") (dg : decode cc pc = .ok (.getfield index, 3)) (kk : gz_At x (pc + 3) lv (.ref (gx_ad x 127) :: st) M) : gz_At x pc lv (.ref (gx_ad x 0) :: st) M := gr_getB X (X.kd gk_C0).1 ((X.kd gk_C0).2 _ _ _ _) (by rw [X.hcl]; rfl) gw_X11 (j := 11) (by decide) rfl hl rfl dg kk
theorem gf11_12 {index : Nat} (X : gz_Ok x cc own nL d gz_cfC pf l) (hl : gz_FL own index RX11 "history" "LLongestTokens$History;") (dg : decode cc pc = .ok (.getfield index, 3)) (kk : gz_At x (pc + 3) lv (.ref (gx_ad x 131) :: st) M) : gz_At x pc lv (.ref (gx_ad x 0) :: st) M := gr_getB X (X.kd gk_C0).1 ((X.kd gk_C0).2 _ _ _ _) (by rw [X.hcl]; rfl) gw_X11 (j := 12) (by decide) rfl hl rfl dg kk
theorem gf11_13 {index : Nat} (X : gz_Ok x cc own nL d gz_cfC pf l) (hl : gz_FL own index RX11 "kept" "[LLongestTokens$Book;") (dg : decode cc pc = .ok (.getfield index, 3)) (kk : gz_At x (pc + 3) lv (.ref (gx_ad x 133) :: st) M) : gz_At x pc lv (.ref (gx_ad x 0) :: st) M := gr_getB X (X.kd gk_C0).1 ((X.kd gk_C0).2 _ _ _ _) (by rw [X.hcl]; rfl) gw_X11 (j := 13) (by decide) rfl hl rfl dg kk
theorem gf11_14 {index : Nat} (X : gz_Ok x cc own nL d gz_cfC pf l) (hl : gz_FL own index RX11 "numbers" "[J") (dg : decode cc pc = .ok (.getfield index, 3)) (kk : gz_At x (pc + 3) lv (.ref (gx_ad x 134) :: st) M) : gz_At x pc lv (.ref (gx_ad x 0) :: st) M := gr_getB X (X.kd gk_C0).1 ((X.kd gk_C0).2 _ _ _ _) (by rw [X.hcl]; rfl) gw_X11 (j := 14) (by decide) rfl hl rfl dg kk
theorem gf11_15 {index : Nat} (X : gz_Ok x cc own nL d gz_cfC pf l) (hl : gz_FL own index RX11 "told" "I") (dg : decode cc pc = .ok (.getfield index, 3)) (kk : gz_At x (pc + 3) lv (.int (M.1 0 15) :: st) M) : gz_At x pc lv (.ref (gx_ad x 0) :: st) M := gr_getB X (X.kd gk_C0).1 ((X.kd gk_C0).2 _ _ _ _) (by rw [X.hcl]; rfl) gw_X11 (j := 15) (by decide) rfl hl rfl dg kk
theorem gp11_15 {index : Nat} {v : Int32} (X : gz_Ok x cc own nL d gz_cfC pf l) (hl : gz_FL own index RX11 "told" "I") (hM : M' = gz_w M 0 15 v) (dg : decode cc pc = .ok (.putfield index, 3)) (kk : gz_At x (pc + 3) lv st M') : gz_At x pc lv (.int v :: .ref (gx_ad x 0) :: st) M := gr_putB X (X.kd gk_C0).1 ((X.kd gk_C0).2 _ _ _ _) (.int v) ((X.kd gk_C0).2 _ _ _ _) (by rw [X.hcl]; rfl) gw_X11 tyX11 tyX11_ok nmX11 (j := 15) (by decide) rfl hl rfl (ty := .int) (by decide +kernel) rfl rfl (Nat.le_of_ble_eq_true rfl) hM dg kk
theorem gf12_0 {index : Nat} (X : gz_Ok x cc own nL d gz_cfR pf l) (hl : gz_FL own index RX12 "now" "[I") (dg : decode cc pc = .ok (.getfield index, 3)) (kk : gz_At x (pc + 3) lv (.ref (gx_ad x 1) :: st) M) : gz_At x pc lv (.ref (gx_ad x 0) :: st) M := gr_getB X (X.kd gk_R0).1 ((X.kd gk_R0).2 _ _ _ _) (by rw [X.hcl]; rfl) gw_X12 (j := 0) (by decide) rfl hl rfl dg kk
theorem gf12_1 {index : Nat} (X : gz_Ok x cc own nL d gz_cfR pf l) (hl : gz_FL own index RX12 "text" "[B") (dg : decode cc pc = .ok (.getfield index, 3)) (kk : gz_At x (pc + 3) lv (.ref (gx_ad x 2) :: st) M) : gz_At x pc lv (.ref (gx_ad x 0) :: st) M := gr_getB X (X.kd gk_R0).1 ((X.kd gk_R0).2 _ _ _ _) (by rw [X.hcl]; rfl) gw_X12 (j := 1) (by decide) rfl hl rfl dg kk
theorem gf12_2 {index : Nat} (X : gz_Ok x cc own nL d gz_cfR pf l) (hl : gz_FL own index RX12 "typed" "I") (dg : decode cc pc = .ok (.getfield index, 3)) (kk : gz_At x (pc + 3) lv (.int (M.1 0 2) :: st) M) : gz_At x pc lv (.ref (gx_ad x 0) :: st) M := gr_getB X (X.kd gk_R0).1 ((X.kd gk_R0).2 _ _ _ _) (by rw [X.hcl]; rfl) gw_X12 (j := 2) (by decide) rfl hl rfl dg kk
theorem gp12_2 {index : Nat} {v : Int32} (X : gz_Ok x cc own nL d gz_cfR pf l) (hl : gz_FL own index RX12 "typed" "I") (hM : M' = gz_w M 0 2 v) (dg : decode cc pc = .ok (.putfield index, 3)) (kk : gz_At x (pc + 3) lv st M') : gz_At x pc lv (.int v :: .ref (gx_ad x 0) :: st) M := gr_putB X (X.kd gk_R0).1 ((X.kd gk_R0).2 _ _ _ _) (.int v) ((X.kd gk_R0).2 _ _ _ _) (by rw [X.hcl]; rfl) gw_X12 tyX12 tyX12_ok nmX12 (j := 2) (by decide) rfl hl rfl (ty := .int) (by decide +kernel) rfl rfl (Nat.le_of_ble_eq_true rfl) hM dg kk
theorem gf12_3 {index : Nat} (X : gz_Ok x cc own nL d gz_cfR pf l) (hl : gz_FL own index RX12 "row" "[J") (dg : decode cc pc = .ok (.getfield index, 3)) (kk : gz_At x (pc + 3) lv (.ref (gx_ad x 3) :: st) M) : gz_At x pc lv (.ref (gx_ad x 0) :: st) M := gr_getB X (X.kd gk_R0).1 ((X.kd gk_R0).2 _ _ _ _) (by rw [X.hcl]; rfl) gw_X12 (j := 3) (by decide) rfl hl rfl dg kk
theorem gf12_4 {index : Nat} (X : gz_Ok x cc own nL d gz_cfR pf l) (hl : gz_FL own index RX12 "rowMany" "I") (dg : decode cc pc = .ok (.getfield index, 3)) (kk : gz_At x (pc + 3) lv (.int (M.1 0 4) :: st) M) : gz_At x pc lv (.ref (gx_ad x 0) :: st) M := gr_getB X (X.kd gk_R0).1 ((X.kd gk_R0).2 _ _ _ _) (by rw [X.hcl]; rfl) gw_X12 (j := 4) (by decide) rfl hl rfl dg kk
theorem gp12_4 {index : Nat} {v : Int32} (X : gz_Ok x cc own nL d gz_cfR pf l) (hl : gz_FL own index RX12 "rowMany" "I") (hM : M' = gz_w M 0 4 v) (dg : decode cc pc = .ok (.putfield index, 3)) (kk : gz_At x (pc + 3) lv st M') : gz_At x pc lv (.int v :: .ref (gx_ad x 0) :: st) M := gr_putB X (X.kd gk_R0).1 ((X.kd gk_R0).2 _ _ _ _) (.int v) ((X.kd gk_R0).2 _ _ _ _) (by rw [X.hcl]; rfl) gw_X12 tyX12 tyX12_ok nmX12 (j := 4) (by decide) rfl hl rfl (ty := .int) (by decide +kernel) rfl rfl (Nat.le_of_ble_eq_true rfl) hM dg kk
theorem gf12_5 {index : Nat} (X : gz_Ok x cc own nL d gz_cfR pf l) (hl : gz_FL own index RX12 "thrown" "I") (dg : decode cc pc = .ok (.getfield index, 3)) (kk : gz_At x (pc + 3) lv (.int (M.1 0 5) :: st) M) : gz_At x pc lv (.ref (gx_ad x 0) :: st) M := gr_getB X (X.kd gk_R0).1 ((X.kd gk_R0).2 _ _ _ _) (by rw [X.hcl]; rfl) gw_X12 (j := 5) (by decide) rfl hl rfl dg kk
theorem gp12_5 {index : Nat} {v : Int32} (X : gz_Ok x cc own nL d gz_cfR pf l) (hl : gz_FL own index RX12 "thrown" "I") (hM : M' = gz_w M 0 5 v) (dg : decode cc pc = .ok (.putfield index, 3)) (kk : gz_At x (pc + 3) lv st M') : gz_At x pc lv (.int v :: .ref (gx_ad x 0) :: st) M := gr_putB X (X.kd gk_R0).1 ((X.kd gk_R0).2 _ _ _ _) (.int v) ((X.kd gk_R0).2 _ _ _ _) (by rw [X.hcl]; rfl) gw_X12 tyX12 tyX12_ok nmX12 (j := 5) (by decide) rfl hl rfl (ty := .int) (by decide +kernel) rfl rfl (Nat.le_of_ble_eq_true rfl) hM dg kk
theorem gf12_6 {index : Nat} (X : gz_Ok x cc own nL d gz_cfR pf l) (hl : gz_FL own index RX12 "signs" "[I") (dg : decode cc pc = .ok (.getfield index, 3)) (kk : gz_At x (pc + 3) lv (.ref (gx_ad x 4) :: st) M) : gz_At x pc lv (.ref (gx_ad x 0) :: st) M := gr_getB X (X.kd gk_R0).1 ((X.kd gk_R0).2 _ _ _ _) (by rw [X.hcl]; rfl) gw_X12 (j := 6) (by decide) rfl hl rfl dg kk
theorem gf12_7 {index : Nat} (X : gz_Ok x cc own nL d gz_cfR pf l) (hl : gz_FL own index RX12 "length" "I") (dg : decode cc pc = .ok (.getfield index, 3)) (kk : gz_At x (pc + 3) lv (.int (M.1 0 7) :: st) M) : gz_At x pc lv (.ref (gx_ad x 0) :: st) M := gr_getB X (X.kd gk_R0).1 ((X.kd gk_R0).2 _ _ _ _) (by rw [X.hcl]; rfl) gw_X12 (j := 7) (by decide) rfl hl rfl dg kk
theorem gp12_7 {index : Nat} {v : Int32} (X : gz_Ok x cc own nL d gz_cfR pf l) (hl : gz_FL own index RX12 "length" "I") (hM : M' = gz_w M 0 7 v) (dg : decode cc pc = .ok (.putfield index, 3)) (kk : gz_At x (pc + 3) lv st M') : gz_At x pc lv (.int v :: .ref (gx_ad x 0) :: st) M := gr_putB X (X.kd gk_R0).1 ((X.kd gk_R0).2 _ _ _ _) (.int v) ((X.kd gk_R0).2 _ _ _ _) (by rw [X.hcl]; rfl) gw_X12 tyX12 tyX12_ok nmX12 (j := 7) (by decide) rfl hl rfl (ty := .int) (by decide +kernel) rfl rfl (Nat.le_of_ble_eq_true rfl) hM dg kk
theorem gf12_8 {index : Nat} (X : gz_Ok x cc own nL d gz_cfR pf l) (hl : gz_FL own index RX12 "at" "I") (dg : decode cc pc = .ok (.getfield index, 3)) (kk : gz_At x (pc + 3) lv (.int (M.1 0 8) :: st) M) : gz_At x pc lv (.ref (gx_ad x 0) :: st) M := gr_getB X (X.kd gk_R0).1 ((X.kd gk_R0).2 _ _ _ _) (by rw [X.hcl]; rfl) gw_X12 (j := 8) (by decide) rfl hl rfl dg kk
theorem gp12_8 {index : Nat} {v : Int32} (X : gz_Ok x cc own nL d gz_cfR pf l) (hl : gz_FL own index RX12 "at" "I") (hM : M' = gz_w M 0 8 v) (dg : decode cc pc = .ok (.putfield index, 3)) (kk : gz_At x (pc + 3) lv st M') : gz_At x pc lv (.int v :: .ref (gx_ad x 0) :: st) M := gr_putB X (X.kd gk_R0).1 ((X.kd gk_R0).2 _ _ _ _) (.int v) ((X.kd gk_R0).2 _ _ _ _) (by rw [X.hcl]; rfl) gw_X12 tyX12 tyX12_ok nmX12 (j := 8) (by decide) rfl hl rfl (ty := .int) (by decide +kernel) rfl rfl (Nat.le_of_ble_eq_true rfl) hM dg kk
theorem gf12_9 {index : Nat} (X : gz_Ok x cc own nL d gz_cfR pf l) (hl : gz_FL own index RX12 "wrong" "I") (dg : decode cc pc = .ok (.getfield index, 3)) (kk : gz_At x (pc + 3) lv (.int (M.1 0 9) :: st) M) : gz_At x pc lv (.ref (gx_ad x 0) :: st) M := gr_getB X (X.kd gk_R0).1 ((X.kd gk_R0).2 _ _ _ _) (by rw [X.hcl]; rfl) gw_X12 (j := 9) (by decide) rfl hl rfl dg kk
theorem gp12_9 {index : Nat} {v : Int32} (X : gz_Ok x cc own nL d gz_cfR pf l) (hl : gz_FL own index RX12 "wrong" "I") (hM : M' = gz_w M 0 9 v) (dg : decode cc pc = .ok (.putfield index, 3)) (kk : gz_At x (pc + 3) lv st M') : gz_At x pc lv (.int v :: .ref (gx_ad x 0) :: st) M := gr_putB X (X.kd gk_R0).1 ((X.kd gk_R0).2 _ _ _ _) (.int v) ((X.kd gk_R0).2 _ _ _ _) (by rw [X.hcl]; rfl) gw_X12 tyX12 tyX12_ok nmX12 (j := 9) (by decide) rfl hl rfl (ty := .int) (by decide +kernel) rfl rfl (Nat.le_of_ble_eq_true rfl) hM dg kk
theorem gf12_10 {index : Nat} (X : gz_Ok x cc own nL d gz_cfR pf l) (hl : gz_FL own index RX12 "ruleMany" "I") (dg : decode cc pc = .ok (.getfield index, 3)) (kk : gz_At x (pc + 3) lv (.int (M.1 0 10) :: st) M) : gz_At x pc lv (.ref (gx_ad x 0) :: st) M := gr_getB X (X.kd gk_R0).1 ((X.kd gk_R0).2 _ _ _ _) (by rw [X.hcl]; rfl) gw_X12 (j := 10) (by decide) rfl hl rfl dg kk
theorem gp12_10 {index : Nat} {v : Int32} (X : gz_Ok x cc own nL d gz_cfR pf l) (hl : gz_FL own index RX12 "ruleMany" "I") (hM : M' = gz_w M 0 10 v) (dg : decode cc pc = .ok (.putfield index, 3)) (kk : gz_At x (pc + 3) lv st M') : gz_At x pc lv (.int v :: .ref (gx_ad x 0) :: st) M := gr_putB X (X.kd gk_R0).1 ((X.kd gk_R0).2 _ _ _ _) (.int v) ((X.kd gk_R0).2 _ _ _ _) (by rw [X.hcl]; rfl) gw_X12 tyX12 tyX12_ok nmX12 (j := 10) (by decide) rfl hl rfl (ty := .int) (by decide +kernel) rfl rfl (Nat.le_of_ble_eq_true rfl) hM dg kk
theorem gf12_11 {index : Nat} (X : gz_Ok x cc own nL d gz_cfR pf l) (hl : gz_FL own index RX12 "mode" "[I") (dg : decode cc pc = .ok (.getfield index, 3)) (kk : gz_At x (pc + 3) lv (.ref (gx_ad x 5) :: st) M) : gz_At x pc lv (.ref (gx_ad x 0) :: st) M := gr_getB X (X.kd gk_R0).1 ((X.kd gk_R0).2 _ _ _ _) (by rw [X.hcl]; rfl) gw_X12 (j := 11) (by decide) rfl hl rfl dg kk
theorem gf12_12 {index : Nat} (X : gz_Ok x cc own nL d gz_cfR pf l) (hl : gz_FL own index RX12 "letterMany" "[I") (dg : decode cc pc = .ok (.getfield index, 3)) (kk : gz_At x (pc + 3) lv (.ref (gx_ad x 6) :: st) M) : gz_At x pc lv (.ref (gx_ad x 0) :: st) M := gr_getB X (X.kd gk_R0).1 ((X.kd gk_R0).2 _ _ _ _) (by rw [X.hcl]; rfl) gw_X12 (j := 12) (by decide) rfl hl rfl dg kk
theorem gf12_13 {index : Nat} (X : gz_Ok x cc own nL d gz_cfR pf l) (hl : gz_FL own index RX12 "act" "[I") (dg : decode cc pc = .ok (.getfield index, 3)) (kk : gz_At x (pc + 3) lv (.ref (gx_ad x 7) :: st) M) : gz_At x pc lv (.ref (gx_ad x 0) :: st) M := gr_getB X (X.kd gk_R0).1 ((X.kd gk_R0).2 _ _ _ _) (by rw [X.hcl]; rfl) gw_X12 (j := 13) (by decide) rfl hl rfl dg kk
theorem gf12_14 {index : Nat} (X : gz_Ok x cc own nL d gz_cfR pf l) (hl : gz_FL own index RX12 "digit" "[I") (dg : decode cc pc = .ok (.getfield index, 3)) (kk : gz_At x (pc + 3) lv (.ref (gx_ad x 8) :: st) M) : gz_At x pc lv (.ref (gx_ad x 0) :: st) M := gr_getB X (X.kd gk_R0).1 ((X.kd gk_R0).2 _ _ _ _) (by rw [X.hcl]; rfl) gw_X12 (j := 14) (by decide) rfl hl rfl dg kk
theorem gf12_15 {index : Nat} (X : gz_Ok x cc own nL d gz_cfR pf l) (hl : gz_FL own index RX12 "empty" "[Z") (dg : decode cc pc = .ok (.getfield index, 3)) (kk : gz_At x (pc + 3) lv (.ref (gx_ad x 9) :: st) M) : gz_At x pc lv (.ref (gx_ad x 0) :: st) M := gr_getB X (X.kd gk_R0).1 ((X.kd gk_R0).2 _ _ _ _) (by rw [X.hcl]; rfl) gw_X12 (j := 15) (by decide) rfl hl rfl dg kk
theorem gf12_16 {index : Nat} (X : gz_Ok x cc own nL d gz_cfR pf l) (hl : gz_FL own index RX12 "begins" "[I") (dg : decode cc pc = .ok (.getfield index, 3)) (kk : gz_At x (pc + 3) lv (.ref (gx_ad x 10) :: st) M) : gz_At x pc lv (.ref (gx_ad x 0) :: st) M := gr_getB X (X.kd gk_R0).1 ((X.kd gk_R0).2 _ _ _ _) (by rw [X.hcl]; rfl) gw_X12 (j := 16) (by decide) rfl hl rfl dg kk
theorem gf12_17 {index : Nat} (X : gz_Ok x cc own nL d gz_cfR pf l) (hl : gz_FL own index RX12 "ends" "[I") (dg : decode cc pc = .ok (.getfield index, 3)) (kk : gz_At x (pc + 3) lv (.ref (gx_ad x 11) :: st) M) : gz_At x pc lv (.ref (gx_ad x 0) :: st) M := gr_getB X (X.kd gk_R0).1 ((X.kd gk_R0).2 _ _ _ _) (by rw [X.hcl]; rfl) gw_X12 (j := 17) (by decide) rfl hl rfl dg kk
theorem gf12_18 {index : Nat} (X : gz_Ok x cc own nL d gz_cfR pf l) (hl : gz_FL own index RX12 "modeLetters" "[I") (dg : decode cc pc = .ok (.getfield index, 3)) (kk : gz_At x (pc + 3) lv (.ref (gx_ad x 12) :: st) M) : gz_At x pc lv (.ref (gx_ad x 0) :: st) M := gr_getB X (X.kd gk_R0).1 ((X.kd gk_R0).2 _ _ _ _) (by rw [X.hcl]; rfl) gw_X12 (j := 18) (by decide) rfl hl rfl dg kk
theorem gf12_19 {index : Nat} (X : gz_Ok x cc own nL d gz_cfR pf l) (hl : gz_FL own index RX12 "taken" "[I") (dg : decode cc pc = .ok (.getfield index, 3)) (kk : gz_At x (pc + 3) lv (.ref (gx_ad x 13) :: st) M) : gz_At x pc lv (.ref (gx_ad x 0) :: st) M := gr_getB X (X.kd gk_R0).1 ((X.kd gk_R0).2 _ _ _ _) (by rw [X.hcl]; rfl) gw_X12 (j := 19) (by decide) rfl hl rfl dg kk
theorem gf12_20 {index : Nat} (X : gz_Ok x cc own nL d gz_cfR pf l) (hl : gz_FL own index RX12 "behind" "[I") (dg : decode cc pc = .ok (.getfield index, 3)) (kk : gz_At x (pc + 3) lv (.ref (gx_ad x 14) :: st) M) : gz_At x pc lv (.ref (gx_ad x 0) :: st) M := gr_getB X (X.kd gk_R0).1 ((X.kd gk_R0).2 _ _ _ _) (by rw [X.hcl]; rfl) gw_X12 (j := 20) (by decide) rfl hl rfl dg kk
theorem gf12_21 {index : Nat} (X : gz_Ok x cc own nL d gz_cfR pf l) (hl : gz_FL own index RX12 "canBeNothing" "Z") (dg : decode cc pc = .ok (.getfield index, 3)) (kk : gz_At x (pc + 3) lv (.int (M.1 0 21) :: st) M) : gz_At x pc lv (.ref (gx_ad x 0) :: st) M := gr_getB X (X.kd gk_R0).1 ((X.kd gk_R0).2 _ _ _ _) (by rw [X.hcl]; rfl) gw_X12 (j := 21) (by decide) rfl hl rfl dg kk
theorem gp12_21 {index : Nat} {v : Int32} (X : gz_Ok x cc own nL d gz_cfR pf l) (hl : gz_FL own index RX12 "canBeNothing" "Z") (hv : gz_b01 v = true) (hM : M' = gz_w M 0 21 v) (dg : decode cc pc = .ok (.putfield index, 3)) (kk : gz_At x (pc + 3) lv st M') : gz_At x pc lv (.int v :: .ref (gx_ad x 0) :: st) M := gr_putB X (X.kd gk_R0).1 ((X.kd gk_R0).2 _ _ _ _) (.int v) ((X.kd gk_R0).2 _ _ _ _) (by rw [X.hcl]; rfl) gw_X12 tyX12 tyX12_ok nmX12 (j := 21) (by decide) rfl hl rfl (ty := .boolean) (by decide +kernel) (gz_nb01 hv).1 (gz_nb01 hv).2 (Nat.le_of_ble_eq_true rfl) hM dg kk
theorem gf12_22 {index : Nat} (X : gz_Ok x cc own nL d gz_cfR pf l) (hl : gz_FL own index RX12 "firsts" "I") (dg : decode cc pc = .ok (.getfield index, 3)) (kk : gz_At x (pc + 3) lv (.int (M.1 0 22) :: st) M) : gz_At x pc lv (.ref (gx_ad x 0) :: st) M := gr_getB X (X.kd gk_R0).1 ((X.kd gk_R0).2 _ _ _ _) (by rw [X.hcl]; rfl) gw_X12 (j := 22) (by decide) rfl hl rfl dg kk
theorem gp12_22 {index : Nat} {v : Int32} (X : gz_Ok x cc own nL d gz_cfR pf l) (hl : gz_FL own index RX12 "firsts" "I") (hM : M' = gz_w M 0 22 v) (dg : decode cc pc = .ok (.putfield index, 3)) (kk : gz_At x (pc + 3) lv st M') : gz_At x pc lv (.int v :: .ref (gx_ad x 0) :: st) M := gr_putB X (X.kd gk_R0).1 ((X.kd gk_R0).2 _ _ _ _) (.int v) ((X.kd gk_R0).2 _ _ _ _) (by rw [X.hcl]; rfl) gw_X12 tyX12 tyX12_ok nmX12 (j := 22) (by decide) rfl hl rfl (ty := .int) (by decide +kernel) rfl rfl (Nat.le_of_ble_eq_true rfl) hM dg kk
theorem gf12_23 {index : Nat} (X : gz_Ok x cc own nL d gz_cfR pf l) (hl : gz_FL own index RX12 "lasts" "I") (dg : decode cc pc = .ok (.getfield index, 3)) (kk : gz_At x (pc + 3) lv (.int (M.1 0 23) :: st) M) : gz_At x pc lv (.ref (gx_ad x 0) :: st) M := gr_getB X (X.kd gk_R0).1 ((X.kd gk_R0).2 _ _ _ _) (by rw [X.hcl]; rfl) gw_X12 (j := 23) (by decide) rfl hl rfl dg kk
theorem gp12_23 {index : Nat} {v : Int32} (X : gz_Ok x cc own nL d gz_cfR pf l) (hl : gz_FL own index RX12 "lasts" "I") (hM : M' = gz_w M 0 23 v) (dg : decode cc pc = .ok (.putfield index, 3)) (kk : gz_At x (pc + 3) lv st M') : gz_At x pc lv (.int v :: .ref (gx_ad x 0) :: st) M := gr_putB X (X.kd gk_R0).1 ((X.kd gk_R0).2 _ _ _ _) (.int v) ((X.kd gk_R0).2 _ _ _ _) (by rw [X.hcl]; rfl) gw_X12 tyX12 tyX12_ok nmX12 (j := 23) (by decide) rfl hl rfl (ty := .int) (by decide +kernel) rfl rfl (Nat.le_of_ble_eq_true rfl) hM dg kk
theorem gf12_24 {index : Nat} (X : gz_Ok x cc own nL d gz_cfR pf l) (hl : gz_FL own index RX12 "open" "I") (dg : decode cc pc = .ok (.getfield index, 3)) (kk : gz_At x (pc + 3) lv (.int (M.1 0 24) :: st) M) : gz_At x pc lv (.ref (gx_ad x 0) :: st) M := gr_getB X (X.kd gk_R0).1 ((X.kd gk_R0).2 _ _ _ _) (by rw [X.hcl]; rfl) gw_X12 (j := 24) (by decide) rfl hl rfl dg kk
theorem gp12_24 {index : Nat} {v : Int32} (X : gz_Ok x cc own nL d gz_cfR pf l) (hl : gz_FL own index RX12 "open" "I") (hM : M' = gz_w M 0 24 v) (dg : decode cc pc = .ok (.putfield index, 3)) (kk : gz_At x (pc + 3) lv st M') : gz_At x pc lv (.int v :: .ref (gx_ad x 0) :: st) M := gr_putB X (X.kd gk_R0).1 ((X.kd gk_R0).2 _ _ _ _) (.int v) ((X.kd gk_R0).2 _ _ _ _) (by rw [X.hcl]; rfl) gw_X12 tyX12 tyX12_ok nmX12 (j := 24) (by decide) rfl hl rfl (ty := .int) (by decide +kernel) rfl rfl (Nat.le_of_ble_eq_true rfl) hM dg kk
theorem gf12_25 {index : Nat} (X : gz_Ok x cc own nL d gz_cfR pf l) (hl : gz_FL own index RX12 "drafted" "[I") (dg : decode cc pc = .ok (.getfield index, 3)) (kk : gz_At x (pc + 3) lv (.ref (gx_ad x 15) :: st) M) : gz_At x pc lv (.ref (gx_ad x 0) :: st) M := gr_getB X (X.kd gk_R0).1 ((X.kd gk_R0).2 _ _ _ _) (by rw [X.hcl]; rfl) gw_X12 (j := 25) (by decide) rfl hl rfl dg kk
theorem gf12_26 {index : Nat} (X : gz_Ok x cc own nL d gz_cfR pf l) (hl : gz_FL own index RX12 "place" "I") (dg : decode cc pc = .ok (.getfield index, 3)) (kk : gz_At x (pc + 3) lv (.int (M.1 0 26) :: st) M) : gz_At x pc lv (.ref (gx_ad x 0) :: st) M := gr_getB X (X.kd gk_R0).1 ((X.kd gk_R0).2 _ _ _ _) (by rw [X.hcl]; rfl) gw_X12 (j := 26) (by decide) rfl hl rfl dg kk
theorem gp12_26 {index : Nat} {v : Int32} (X : gz_Ok x cc own nL d gz_cfR pf l) (hl : gz_FL own index RX12 "place" "I") (hM : M' = gz_w M 0 26 v) (dg : decode cc pc = .ok (.putfield index, 3)) (kk : gz_At x (pc + 3) lv st M') : gz_At x pc lv (.int v :: .ref (gx_ad x 0) :: st) M := gr_putB X (X.kd gk_R0).1 ((X.kd gk_R0).2 _ _ _ _) (.int v) ((X.kd gk_R0).2 _ _ _ _) (by rw [X.hcl]; rfl) gw_X12 tyX12 tyX12_ok nmX12 (j := 26) (by decide) rfl hl rfl (ty := .int) (by decide +kernel) rfl rfl (Nat.le_of_ble_eq_true rfl) hM dg kk
theorem gf12_27 {index : Nat} (X : gz_Ok x cc own nL d gz_cfR pf l) (hl : gz_FL own index RX12 "stack" "[I") (dg : decode cc pc = .ok (.getfield index, 3)) (kk : gz_At x (pc + 3) lv (.ref (gx_ad x 16) :: st) M) : gz_At x pc lv (.ref (gx_ad x 0) :: st) M := gr_getB X (X.kd gk_R0).1 ((X.kd gk_R0).2 _ _ _ _) (by rw [X.hcl]; rfl) gw_X12 (j := 27) (by decide) rfl hl rfl dg kk
theorem gf12_28 {index : Nat} (X : gz_Ok x cc own nL d gz_cfR pf l) (hl : gz_FL own index RX12 "stackMany" "I") (dg : decode cc pc = .ok (.getfield index, 3)) (kk : gz_At x (pc + 3) lv (.int (M.1 0 28) :: st) M) : gz_At x pc lv (.ref (gx_ad x 0) :: st) M := gr_getB X (X.kd gk_R0).1 ((X.kd gk_R0).2 _ _ _ _) (by rw [X.hcl]; rfl) gw_X12 (j := 28) (by decide) rfl hl rfl dg kk
theorem gp12_28 {index : Nat} {v : Int32} (X : gz_Ok x cc own nL d gz_cfR pf l) (hl : gz_FL own index RX12 "stackMany" "I") (hM : M' = gz_w M 0 28 v) (dg : decode cc pc = .ok (.putfield index, 3)) (kk : gz_At x (pc + 3) lv st M') : gz_At x pc lv (.int v :: .ref (gx_ad x 0) :: st) M := gr_putB X (X.kd gk_R0).1 ((X.kd gk_R0).2 _ _ _ _) (.int v) ((X.kd gk_R0).2 _ _ _ _) (by rw [X.hcl]; rfl) gw_X12 tyX12 tyX12_ok nmX12 (j := 28) (by decide) rfl hl rfl (ty := .int) (by decide +kernel) rfl rfl (Nat.le_of_ble_eq_true rfl) hM dg kk
theorem gf12_29 {index : Nat} (X : gz_Ok x cc own nL d gz_cfR pf l) (hl : gz_FL own index RX12 "mostModes" "I") (dg : decode cc pc = .ok (.getfield index, 3)) (kk : gz_At x (pc + 3) lv (.int (M.1 0 29) :: st) M) : gz_At x pc lv (.ref (gx_ad x 0) :: st) M := gr_getB X (X.kd gk_R0).1 ((X.kd gk_R0).2 _ _ _ _) (by rw [X.hcl]; rfl) gw_X12 (j := 29) (by decide) rfl hl rfl dg kk
theorem gp12_29 {index : Nat} {v : Int32} (X : gz_Ok x cc own nL d gz_cfR pf l) (hl : gz_FL own index RX12 "mostModes" "I") (hM : M' = gz_w M 0 29 v) (dg : decode cc pc = .ok (.putfield index, 3)) (kk : gz_At x (pc + 3) lv st M') : gz_At x pc lv (.int v :: .ref (gx_ad x 0) :: st) M := gr_putB X (X.kd gk_R0).1 ((X.kd gk_R0).2 _ _ _ _) (.int v) ((X.kd gk_R0).2 _ _ _ _) (by rw [X.hcl]; rfl) gw_X12 tyX12 tyX12_ok nmX12 (j := 29) (by decide) rfl hl rfl (ty := .int) (by decide +kernel) rfl rfl (Nat.le_of_ble_eq_true rfl) hM dg kk
theorem gf12_30 {index : Nat} (X : gz_Ok x cc own nL d gz_cfR pf l) (hl : gz_FL own index RX12 "tokens" "[I") (dg : decode cc pc = .ok (.getfield index, 3)) (kk : gz_At x (pc + 3) lv (.ref (gx_ad x 17) :: st) M) : gz_At x pc lv (.ref (gx_ad x 0) :: st) M := gr_getB X (X.kd gk_R0).1 ((X.kd gk_R0).2 _ _ _ _) (by rw [X.hcl]; rfl) gw_X12 (j := 30) (by decide) rfl hl rfl dg kk
theorem gf12_31 {index : Nat} (X : gz_Ok x cc own nL d gz_cfR pf l) (hl : gz_FL own index RX12 "tokenMany" "I") (dg : decode cc pc = .ok (.getfield index, 3)) (kk : gz_At x (pc + 3) lv (.int (M.1 0 31) :: st) M) : gz_At x pc lv (.ref (gx_ad x 0) :: st) M := gr_getB X (X.kd gk_R0).1 ((X.kd gk_R0).2 _ _ _ _) (by rw [X.hcl]; rfl) gw_X12 (j := 31) (by decide) rfl hl rfl dg kk
theorem gp12_31 {index : Nat} {v : Int32} (X : gz_Ok x cc own nL d gz_cfR pf l) (hl : gz_FL own index RX12 "tokenMany" "I") (hM : M' = gz_w M 0 31 v) (dg : decode cc pc = .ok (.putfield index, 3)) (kk : gz_At x (pc + 3) lv st M') : gz_At x pc lv (.int v :: .ref (gx_ad x 0) :: st) M := gr_putB X (X.kd gk_R0).1 ((X.kd gk_R0).2 _ _ _ _) (.int v) ((X.kd gk_R0).2 _ _ _ _) (by rw [X.hcl]; rfl) gw_X12 tyX12 tyX12_ok nmX12 (j := 31) (by decide) rfl hl rfl (ty := .int) (by decide +kernel) rfl rfl (Nat.le_of_ble_eq_true rfl) hM dg kk
theorem gf12_32 {index : Nat} (X : gz_Ok x cc own nL d gz_cfR pf l) (hl : gz_FL own index RX12 "readMany" "I") (dg : decode cc pc = .ok (.getfield index, 3)) (kk : gz_At x (pc + 3) lv (.int (M.1 0 32) :: st) M) : gz_At x pc lv (.ref (gx_ad x 0) :: st) M := gr_getB X (X.kd gk_R0).1 ((X.kd gk_R0).2 _ _ _ _) (by rw [X.hcl]; rfl) gw_X12 (j := 32) (by decide) rfl hl rfl dg kk
theorem gp12_32 {index : Nat} {v : Int32} (X : gz_Ok x cc own nL d gz_cfR pf l) (hl : gz_FL own index RX12 "readMany" "I") (hM : M' = gz_w M 0 32 v) (dg : decode cc pc = .ok (.putfield index, 3)) (kk : gz_At x (pc + 3) lv st M') : gz_At x pc lv (.int v :: .ref (gx_ad x 0) :: st) M := gr_putB X (X.kd gk_R0).1 ((X.kd gk_R0).2 _ _ _ _) (.int v) ((X.kd gk_R0).2 _ _ _ _) (by rw [X.hcl]; rfl) gw_X12 tyX12 tyX12_ok nmX12 (j := 32) (by decide) rfl hl rfl (ty := .int) (by decide +kernel) rfl rfl (Nat.le_of_ble_eq_true rfl) hM dg kk
theorem gf12_33 {index : Nat} (X : gz_Ok x cc own nL d gz_cfR pf l) (hl : gz_FL own index RX12 "often" "[I") (dg : decode cc pc = .ok (.getfield index, 3)) (kk : gz_At x (pc + 3) lv (.ref (gx_ad x 18) :: st) M) : gz_At x pc lv (.ref (gx_ad x 0) :: st) M := gr_getB X (X.kd gk_R0).1 ((X.kd gk_R0).2 _ _ _ _) (by rw [X.hcl]; rfl) gw_X12 (j := 33) (by decide) rfl hl rfl dg kk
theorem gf12_34 {index : Nat} (X : gz_Ok x cc own nL d gz_cfR pf l) (hl : gz_FL own index RX12 "failed" "[Z") (dg : decode cc pc = .ok (.getfield index, 3)) (kk : gz_At x (pc + 3) lv (.ref (gx_ad x 19) :: st) M) : gz_At x pc lv (.ref (gx_ad x 0) :: st) M := gr_getB X (X.kd gk_R0).1 ((X.kd gk_R0).2 _ _ _ _) (by rw [X.hcl]; rfl) gw_X12 (j := 34) (by decide) rfl hl rfl dg kk
theorem gf12_35 {index : Nat} (X : gz_Ok x cc own nL d gz_cfR pf l) (hl : gz_FL own index RX12 "met" "[I") (dg : decode cc pc = .ok (.getfield index, 3)) (kk : gz_At x (pc + 3) lv (.ref (gx_ad x 20) :: st) M) : gz_At x pc lv (.ref (gx_ad x 0) :: st) M := gr_getB X (X.kd gk_R0).1 ((X.kd gk_R0).2 _ _ _ _) (by rw [X.hcl]; rfl) gw_X12 (j := 35) (by decide) rfl hl rfl dg kk
theorem gf12_36 {index : Nat} (X : gz_Ok x cc own nL d gz_cfR pf l) (hl : gz_FL own index RX12 "kept" "[I") (dg : decode cc pc = .ok (.getfield index, 3)) (kk : gz_At x (pc + 3) lv (.ref (gx_ad x 21) :: st) M) : gz_At x pc lv (.ref (gx_ad x 0) :: st) M := gr_getB X (X.kd gk_R0).1 ((X.kd gk_R0).2 _ _ _ _) (by rw [X.hcl]; rfl) gw_X12 (j := 36) (by decide) rfl hl rfl dg kk
theorem gf12_37 {index : Nat} (X : gz_Ok x cc own nL d gz_cfR pf l) (hl : gz_FL own index RX12 "isKept" "[Z") (dg : decode cc pc = .ok (.getfield index, 3)) (kk : gz_At x (pc + 3) lv (.ref (gx_ad x 22) :: st) M) : gz_At x pc lv (.ref (gx_ad x 0) :: st) M := gr_getB X (X.kd gk_R0).1 ((X.kd gk_R0).2 _ _ _ _) (by rw [X.hcl]; rfl) gw_X12 (j := 37) (by decide) rfl hl rfl dg kk
theorem gf12_38 {index : Nat} (X : gz_Ok x cc own nL d gz_cfR pf l) (hl : gz_FL own index RX12 "old" "[I") (dg : decode cc pc = .ok (.getfield index, 3)) (kk : gz_At x (pc + 3) lv (.ref (gx_ad x 23) :: st) M) : gz_At x pc lv (.ref (gx_ad x 0) :: st) M := gr_getB X (X.kd gk_R0).1 ((X.kd gk_R0).2 _ _ _ _) (by rw [X.hcl]; rfl) gw_X12 (j := 38) (by decide) rfl hl rfl dg kk
theorem gf12_39 {index : Nat} (X : gz_Ok x cc own nL d gz_cfR pf l) (hl : gz_FL own index RX12 "oldMany" "I") (dg : decode cc pc = .ok (.getfield index, 3)) (kk : gz_At x (pc + 3) lv (.int (M.1 0 39) :: st) M) : gz_At x pc lv (.ref (gx_ad x 0) :: st) M := gr_getB X (X.kd gk_R0).1 ((X.kd gk_R0).2 _ _ _ _) (by rw [X.hcl]; rfl) gw_X12 (j := 39) (by decide) rfl hl rfl dg kk
theorem gp12_39 {index : Nat} {v : Int32} (X : gz_Ok x cc own nL d gz_cfR pf l) (hl : gz_FL own index RX12 "oldMany" "I") (hM : M' = gz_w M 0 39 v) (dg : decode cc pc = .ok (.putfield index, 3)) (kk : gz_At x (pc + 3) lv st M') : gz_At x pc lv (.int v :: .ref (gx_ad x 0) :: st) M := gr_putB X (X.kd gk_R0).1 ((X.kd gk_R0).2 _ _ _ _) (.int v) ((X.kd gk_R0).2 _ _ _ _) (by rw [X.hcl]; rfl) gw_X12 tyX12 tyX12_ok nmX12 (j := 39) (by decide) rfl hl rfl (ty := .int) (by decide +kernel) rfl rfl (Nat.le_of_ble_eq_true rfl) hM dg kk
theorem gf12_40 {index : Nat} (X : gz_Ok x cc own nL d gz_cfR pf l) (hl : gz_FL own index RX12 "found" "[I") (dg : decode cc pc = .ok (.getfield index, 3)) (kk : gz_At x (pc + 3) lv (.ref (gx_ad x 24) :: st) M) : gz_At x pc lv (.ref (gx_ad x 0) :: st) M := gr_getB X (X.kd gk_R0).1 ((X.kd gk_R0).2 _ _ _ _) (by rw [X.hcl]; rfl) gw_X12 (j := 40) (by decide) rfl hl rfl dg kk
theorem gf12_41 {index : Nat} (X : gz_Ok x cc own nL d gz_cfR pf l) (hl : gz_FL own index RX12 "foundFrom" "[I") (dg : decode cc pc = .ok (.getfield index, 3)) (kk : gz_At x (pc + 3) lv (.ref (gx_ad x 25) :: st) M) : gz_At x pc lv (.ref (gx_ad x 0) :: st) M := gr_getB X (X.kd gk_R0).1 ((X.kd gk_R0).2 _ _ _ _) (by rw [X.hcl]; rfl) gw_X12 (j := 41) (by decide) rfl hl rfl dg kk
theorem gf12_42 {index : Nat} (X : gz_Ok x cc own nL d gz_cfR pf l) (hl : gz_FL own index RX12 "foundBy" "[I") (dg : decode cc pc = .ok (.getfield index, 3)) (kk : gz_At x (pc + 3) lv (.ref (gx_ad x 26) :: st) M) : gz_At x pc lv (.ref (gx_ad x 0) :: st) M := gr_getB X (X.kd gk_R0).1 ((X.kd gk_R0).2 _ _ _ _) (by rw [X.hcl]; rfl) gw_X12 (j := 42) (by decide) rfl hl rfl dg kk
theorem gf12_43 {index : Nat} (X : gz_Ok x cc own nL d gz_cfR pf l) (hl : gz_FL own index RX12 "isFound" "[Z") (dg : decode cc pc = .ok (.getfield index, 3)) (kk : gz_At x (pc + 3) lv (.ref (gx_ad x 27) :: st) M) : gz_At x pc lv (.ref (gx_ad x 0) :: st) M := gr_getB X (X.kd gk_R0).1 ((X.kd gk_R0).2 _ _ _ _) (by rw [X.hcl]; rfl) gw_X12 (j := 43) (by decide) rfl hl rfl dg kk
theorem gf12_44 {index : Nat} (X : gz_Ok x cc own nL d gz_cfR pf l) (hl : gz_FL own index RX12 "foundMany" "I") (dg : decode cc pc = .ok (.getfield index, 3)) (kk : gz_At x (pc + 3) lv (.int (M.1 0 44) :: st) M) : gz_At x pc lv (.ref (gx_ad x 0) :: st) M := gr_getB X (X.kd gk_R0).1 ((X.kd gk_R0).2 _ _ _ _) (by rw [X.hcl]; rfl) gw_X12 (j := 44) (by decide) rfl hl rfl dg kk
theorem gp12_44 {index : Nat} {v : Int32} (X : gz_Ok x cc own nL d gz_cfR pf l) (hl : gz_FL own index RX12 "foundMany" "I") (hM : M' = gz_w M 0 44 v) (dg : decode cc pc = .ok (.putfield index, 3)) (kk : gz_At x (pc + 3) lv st M') : gz_At x pc lv (.int v :: .ref (gx_ad x 0) :: st) M := gr_putB X (X.kd gk_R0).1 ((X.kd gk_R0).2 _ _ _ _) (.int v) ((X.kd gk_R0).2 _ _ _ _) (by rw [X.hcl]; rfl) gw_X12 tyX12 tyX12_ok nmX12 (j := 44) (by decide) rfl hl rfl (ty := .int) (by decide +kernel) rfl rfl (Nat.le_of_ble_eq_true rfl) hM dg kk
theorem gf12_45 {index : Nat} (X : gz_Ok x cc own nL d gz_cfR pf l) (hl : gz_FL own index RX12 "spelt" "[I") (dg : decode cc pc = .ok (.getfield index, 3)) (kk : gz_At x (pc + 3) lv (.ref (gx_ad x 28) :: st) M) : gz_At x pc lv (.ref (gx_ad x 0) :: st) M := gr_getB X (X.kd gk_R0).1 ((X.kd gk_R0).2 _ _ _ _) (by rw [X.hcl]; rfl) gw_X12 (j := 45) (by decide) rfl hl rfl dg kk
theorem gf12_46 {index : Nat} (X : gz_Ok x cc own nL d gz_cfR pf l) (hl : gz_FL own index RX12 "wayMany" "[I") (dg : decode cc pc = .ok (.getfield index, 3)) (kk : gz_At x (pc + 3) lv (.ref (gx_ad x 29) :: st) M) : gz_At x pc lv (.ref (gx_ad x 0) :: st) M := gr_getB X (X.kd gk_R0).1 ((X.kd gk_R0).2 _ _ _ _) (by rw [X.hcl]; rfl) gw_X12 (j := 46) (by decide) rfl hl rfl dg kk
theorem gf12_47 {index : Nat} (X : gz_Ok x cc own nL d gz_cfR pf l) (hl : gz_FL own index RX12 "wayFew" "[I") (dg : decode cc pc = .ok (.getfield index, 3)) (kk : gz_At x (pc + 3) lv (.ref (gx_ad x 30) :: st) M) : gz_At x pc lv (.ref (gx_ad x 0) :: st) M := gr_getB X (X.kd gk_R0).1 ((X.kd gk_R0).2 _ _ _ _) (by rw [X.hcl]; rfl) gw_X12 (j := 47) (by decide) rfl hl rfl dg kk
theorem gf12_48 {index : Nat} (X : gz_Ok x cc own nL d gz_cfR pf l) (hl : gz_FL own index RX12 "fewFrom" "[I") (dg : decode cc pc = .ok (.getfield index, 3)) (kk : gz_At x (pc + 3) lv (.ref (gx_ad x 31) :: st) M) : gz_At x pc lv (.ref (gx_ad x 0) :: st) M := gr_getB X (X.kd gk_R0).1 ((X.kd gk_R0).2 _ _ _ _) (by rw [X.hcl]; rfl) gw_X12 (j := 48) (by decide) rfl hl rfl dg kk
theorem gf12_49 {index : Nat} (X : gz_Ok x cc own nL d gz_cfR pf l) (hl : gz_FL own index RX12 "firstTo" "[I") (dg : decode cc pc = .ok (.getfield index, 3)) (kk : gz_At x (pc + 3) lv (.ref (gx_ad x 32) :: st) M) : gz_At x pc lv (.ref (gx_ad x 0) :: st) M := gr_getB X (X.kd gk_R0).1 ((X.kd gk_R0).2 _ _ _ _) (by rw [X.hcl]; rfl) gw_X12 (j := 49) (by decide) rfl hl rfl dg kk
theorem gf12_50 {index : Nat} (X : gz_Ok x cc own nL d gz_cfR pf l) (hl : gz_FL own index RX12 "undos" "[I") (dg : decode cc pc = .ok (.getfield index, 3)) (kk : gz_At x (pc + 3) lv (.ref (gx_ad x 33) :: st) M) : gz_At x pc lv (.ref (gx_ad x 0) :: st) M := gr_getB X (X.kd gk_R0).1 ((X.kd gk_R0).2 _ _ _ _) (by rw [X.hcl]; rfl) gw_X12 (j := 50) (by decide) rfl hl rfl dg kk
theorem gf12_51 {index : Nat} (X : gz_Ok x cc own nL d gz_cfR pf l) (hl : gz_FL own index RX12 "undoMany" "I") (dg : decode cc pc = .ok (.getfield index, 3)) (kk : gz_At x (pc + 3) lv (.int (M.1 0 51) :: st) M) : gz_At x pc lv (.ref (gx_ad x 0) :: st) M := gr_getB X (X.kd gk_R0).1 ((X.kd gk_R0).2 _ _ _ _) (by rw [X.hcl]; rfl) gw_X12 (j := 51) (by decide) rfl hl rfl dg kk
theorem gp12_51 {index : Nat} {v : Int32} (X : gz_Ok x cc own nL d gz_cfR pf l) (hl : gz_FL own index RX12 "undoMany" "I") (hM : M' = gz_w M 0 51 v) (dg : decode cc pc = .ok (.putfield index, 3)) (kk : gz_At x (pc + 3) lv st M') : gz_At x pc lv (.int v :: .ref (gx_ad x 0) :: st) M := gr_putB X (X.kd gk_R0).1 ((X.kd gk_R0).2 _ _ _ _) (.int v) ((X.kd gk_R0).2 _ _ _ _) (by rw [X.hcl]; rfl) gw_X12 tyX12 tyX12_ok nmX12 (j := 51) (by decide) rfl hl rfl (ty := .int) (by decide +kernel) rfl rfl (Nat.le_of_ble_eq_true rfl) hM dg kk
theorem gf12_52 {index : Nat} (X : gz_Ok x cc own nL d gz_cfR pf l) (hl : gz_FL own index RX12 "then" "[I") (dg : decode cc pc = .ok (.getfield index, 3)) (kk : gz_At x (pc + 3) lv (.ref (gx_ad x 34) :: st) M) : gz_At x pc lv (.ref (gx_ad x 0) :: st) M := gr_getB X (X.kd gk_R0).1 ((X.kd gk_R0).2 _ _ _ _) (by rw [X.hcl]; rfl) gw_X12 (j := 52) (by decide) rfl hl rfl dg kk
theorem gf12_53 {index : Nat} (X : gz_Ok x cc own nL d gz_cfR pf l) (hl : gz_FL own index RX12 "acts" "[I") (dg : decode cc pc = .ok (.getfield index, 3)) (kk : gz_At x (pc + 3) lv (.ref (gx_ad x 35) :: st) M) : gz_At x pc lv (.ref (gx_ad x 0) :: st) M := gr_getB X (X.kd gk_R0).1 ((X.kd gk_R0).2 _ _ _ _) (by rw [X.hcl]; rfl) gw_X12 (j := 53) (by decide) rfl hl rfl dg kk
theorem gf12_54 {index : Nat} (X : gz_Ok x cc own nL d gz_cfR pf l) (hl : gz_FL own index RX12 "drawn" "I") (dg : decode cc pc = .ok (.getfield index, 3)) (kk : gz_At x (pc + 3) lv (.int (M.1 0 54) :: st) M) : gz_At x pc lv (.ref (gx_ad x 0) :: st) M := gr_getB X (X.kd gk_R0).1 ((X.kd gk_R0).2 _ _ _ _) (by rw [X.hcl]; rfl) gw_X12 (j := 54) (by decide) rfl hl rfl dg kk
theorem gp12_54 {index : Nat} {v : Int32} (X : gz_Ok x cc own nL d gz_cfR pf l) (hl : gz_FL own index RX12 "drawn" "I") (hM : M' = gz_w M 0 54 v) (dg : decode cc pc = .ok (.putfield index, 3)) (kk : gz_At x (pc + 3) lv st M') : gz_At x pc lv (.int v :: .ref (gx_ad x 0) :: st) M := gr_putB X (X.kd gk_R0).1 ((X.kd gk_R0).2 _ _ _ _) (.int v) ((X.kd gk_R0).2 _ _ _ _) (by rw [X.hcl]; rfl) gw_X12 tyX12 tyX12_ok nmX12 (j := 54) (by decide) rfl hl rfl (ty := .int) (by decide +kernel) rfl rfl (Nat.le_of_ble_eq_true rfl) hM dg kk
end GF
