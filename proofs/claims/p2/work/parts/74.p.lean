/-! rules told as a text: a machine that goes sign by sign. A piece: what can be first, what can be last, whether it can be nothing -/
abbrev gp_P : Type := Nat × Nat × Bool
/-- what is due (0 a mode's digit, 1 :, 2 a part, 3 what stands behind a part, 4 an act's digit, 5 what stands behind an act), the table, chain and whole of what stands open (the innermost first), the part -/
abbrev gp_S : Type := Nat × gp_T × List (Option gp_P × Option gp_P) × Option gp_P
def gp_set (f : Nat → Nat → Nat) (c i v : Nat) : Nat → Nat → Nat := fun a b => if a = c ∧ b = i then v else f a b
def gp_setD (f : Nat → Int32) (i : Nat) (v : Int32) : Nat → Int32 := fun b => if b = i then v else f b
/-- the mode of the rule that is read -/
def gp_md (T : gp_T) : Nat := T.2.2 1 T.1
def gp_lnk (T : gp_T) (last first : Nat) : gp_T := (T.1, T.2.1, fun a b => if a = 10 + gp_md T ∧ b < 10 ∧ last.testBit b = true then T.2.2 a b ||| first else T.2.2 a b)
def gp_mgP (c p : gp_P) : gp_P := (c.1 ||| (if c.2.2 = true then p.1 else 0), p.2.1 ||| (if p.2.2 = true then c.2.1 else 0), c.2.2 && p.2.2)
def gp_mgO : Option gp_P → Option gp_P → Option gp_P
  | none, p => p
  | some c, none => some c
  | some c, some p => some (gp_mgP c p)
def gp_unP (w c : gp_P) : gp_P := (w.1 ||| c.1, w.2.1 ||| c.2.1, w.2.2 || c.2.2)
def gp_unO : Option gp_P → Option gp_P → Option gp_P
  | none, c => c
  | some w, none => some w
  | some w, some c => some (gp_unP w c)
def gp_lnO (T : gp_T) : Option gp_P → Option gp_P → gp_T
  | some c, some p => gp_lnk T c.2.1 p.1
  | _, _ => T
/-- a part ends: it joins its chain -/
def gp_eP (s : gp_S) : gp_S := match s.2.2.1 with
  | [] => s
  | (ch, wh) :: L => (s.1, gp_lnO s.2.1 ch s.2.2.2, (gp_mgO ch s.2.2.2, wh) :: L, none)
/-- a chain ends -/
def gp_eCh (s : gp_S) : gp_S := match (gp_eP s).2.2.1 with
  | [] => gp_eP s
  | (ch, wh) :: L => (s.1, (gp_eP s).2.1, (none, gp_unO wh ch) :: L, none)
/-- a rule ends -/
def gp_eR (s : gp_S) : gp_T := match (gp_eCh s).2.2.1 with
  | (_, some w) :: _ => ((gp_eCh s).2.1.1 + 1, (gp_eCh s).2.1.2.1, gp_set (gp_set (gp_set (gp_eCh s).2.1.2.2 8 (gp_md s.2.1) ((gp_eCh s).2.1.2.2 8 (gp_md s.2.1) ||| w.1)) 5 s.2.1.1 w.2.1) 6 s.2.1.1 (if w.2.2 = true then 1 else 0))
  | _ => ((gp_eCh s).2.1.1 + 1, (gp_eCh s).2.1.2)
def gp_isL (c : Nat) : Bool := c == 46 || (decide (97 ≤ c) && decide (c ≤ 104))
/-- a letter comes -/
def gp_aL (T : gp_T) (c : Nat) : gp_T := (T.1, T.2.1, fun a b => if a = 7 ∧ b = gp_md T then T.2.2 7 (gp_md T) + 1 else if a = 2 ∧ b = T.1 then T.2.2 2 T.1 + 1 else if T.2.2 7 (gp_md T) < 10 ∧ a = 15 + gp_md T ∧ b < 8 ∧ (c = 46 ∨ c = 97 + b) then T.2.2 a b ||| 1 <<< T.2.2 7 (gp_md T) else T.2.2 a b)
def gp_pL (T : gp_T) : gp_P := if T.2.2 7 (gp_md T) < 10 then (1 <<< T.2.2 7 (gp_md T), 1 <<< T.2.2 7 (gp_md T), false) else (0, 0, false)
def gp_let (s : gp_S) (c : Nat) : gp_S := (3, gp_aL (gp_eP s).2.1 c, (gp_eP s).2.2.1, some (gp_pL (gp_eP s).2.1))
def gp_brk (s : gp_S) : gp_S := (2, (gp_eP s).2.1, (none, none) :: (gp_eP s).2.2.1, none)
def gp_beg (s : gp_S) (c : Nat) : gp_S := (1, (s.2.1.1, gp_setD s.2.1.2.1 s.2.1.1 (-1), gp_set (gp_set (gp_set s.2.1.2.2 1 s.2.1.1 (c - 48)) 2 s.2.1.1 0) 3 s.2.1.1 0), [(none, none)], none)
/-- where a part can stand -/
def gp_inP (s : gp_S) (c : Nat) : Option gp_S := if gp_isL c = true then some (gp_let s c) else if c = 40 ∧ s.2.2.1.length ≤ 6 then some (gp_brk s) else none
def gp_nxt (s : gp_S) : Option gp_S := if s.2.1.1 + 1 < 8 then some (0, gp_eR s, [], none) else none
def gp_suf (s : gp_S) (c : Nat) : gp_S := match s.2.2.2 with
  | none => s
  | some p => (3, (if c = 63 then s.2.1 else gp_lnk s.2.1 p.2.1 p.1), s.2.2.1, some (p.1, p.2.1, (if c = 43 then p.2.2 else true)))
def gp_act1 (s : gp_S) (d a : Nat) : gp_S := (d, (s.2.1.1, s.2.1.2.1, gp_set s.2.1.2.2 3 s.2.1.1 a), s.2.2.1, s.2.2.2)
def gp_cls (s : gp_S) : gp_S := match (gp_eCh s).2.2.1 with
  | (_, wh) :: L => (3, (gp_eCh s).2.1, L, wh)
  | [] => s
def gp_stp (s : gp_S) (c : Nat) : Option gp_S :=
  if s.1 = 0 then (if 48 ≤ c ∧ c ≤ 51 then some (gp_beg s c) else none)
  else if s.1 = 1 then (if c = 58 then some (2, s.2.1, s.2.2.1, s.2.2.2) else none)
  else if s.1 = 2 then gp_inP s c
  else if s.1 = 3 then
    (if gp_isL c = true ∨ c = 40 then gp_inP s c
    else if c = 42 ∨ c = 43 ∨ c = 63 then some (gp_suf s c)
    else if c = 124 then some (2, (gp_eCh s).2.1, (gp_eCh s).2.2.1, none)
    else if c = 41 then (if s.2.2.1.length ≤ 1 then none else some (gp_cls s))
    else if s.2.2.1.length ≤ 1 then (if c = 60 then some (gp_act1 s 5 1) else if c = 62 then some (gp_act1 s 4 2) else if c = 61 then some (gp_act1 s 4 3) else if c = 59 then gp_nxt s else none)
    else none)
  else if s.1 = 4 then (if 48 ≤ c ∧ c ≤ 51 then some (5, (s.2.1.1, gp_setD s.2.1.2.1 s.2.1.1 (nI (c - 48)), s.2.1.2.2), s.2.2.1, s.2.2.2) else none)
  else (if c = 59 then gp_nxt s else none)
/-- n signs from place p on; none: one of them can't stand there -/
def gp_itr (t : List Nat) : Nat → Nat → gp_S → Option gp_S
  | 0, _, s => some s
  | n + 1, p, s => (gp_stp s (t.getD p 0)).bind (gp_itr t n (p + 1))
def gp_s0 : gp_S := (0, (0, fun _ => 0, fun _ _ => 0), [], none)
/-- it may end so -/
def gp_mEnd (t : List Nat) (s : gp_S) : Prop := t.length = 0 ∨ s.1 = 5 ∨ (s.1 = 3 ∧ s.2.2.1.length ≤ 1)
/-- a text that is rules -/
def gp_ok (t : List Nat) : Prop := t.length ≤ 80 ∧ ∃ s, gp_itr t t.length 0 gp_s0 = some s ∧ gp_mEnd t s ∧ ∀ m, m < 4 → s.2.1.2.2 7 m ≤ 10
def gp_tab (t : List Nat) : gp_T := match gp_itr t t.length 0 gp_s0 with
  | none => gp_s0.2.1
  | some s => if t.length = 0 then s.2.1 else gp_eR s
theorem gp_itr_add (t : List Nat) : ∀ (n m p : Nat) (s : gp_S), gp_itr t (n + m) p s = (gp_itr t n p s).bind (gp_itr t m (p + n))
  | 0, m, p, s => by rw [Nat.zero_add, Nat.add_zero]; rfl
  | n + 1, m, p, s => by
    rw [show n + 1 + m = (n + m) + 1 by omega, gp_itr, gp_itr]
    cases h : gp_stp s (t.getD p 0) with
    | none => rfl
    | some s' =>
      show gp_itr t (n + m) (p + 1) s' = (gp_itr t n (p + 1) s').bind _
      rw [gp_itr_add t n m (p + 1) s', show p + 1 + n = p + (n + 1) by omega]
theorem gp_itr_1 (t : List Nat) (p : Nat) (s : gp_S) : gp_itr t 1 p s = gp_stp s (t.getD p 0) := by
  rw [gp_itr]
  cases gp_stp s (t.getD p 0) <;> rfl
