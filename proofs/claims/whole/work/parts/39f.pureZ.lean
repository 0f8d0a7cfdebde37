-- orders
def zFK (h : Nat → Nat) : Nat → Option Nat
  | 0 => none
  | c + 1 => if h c ≤ h (c + 1) then some c else zFK h c
def zFGr (h : Nat → Nat) (k : Nat) : Nat → Nat
  | 0 => 0
  | g + 1 => if g + 1 ≤ k then g + 1 else if h k ≤ h (g + 1) then g + 1 else zFGr h k g
def zSwp (h : Nat → Nat) (a b : Nat) : Nat → Nat := fun j => if j = b then h a else if j = a then h b else h j
def zRev (h : Nat → Nat) (a b : Nat) : Nat → Nat := fun j => if a ≤ j ∧ j ≤ b then h (a + b - j) else h j
def zNext (n : Nat) (h : Nat → Nat) : Option (Nat → Nat) :=
  (zFK h (n - 1)).map fun k => zRev (zSwp h k (zFGr h k (n - 1))) (k + 1) (n - 1)
def zLx (n : Nat) (h h2 : Nat → Nat) : Prop := ∃ k, k < n ∧ (∀ j, j < k → h j = h2 j) ∧ h k < h2 k
def zFn (l : List Nat) : Nat → Nat := fun j => l.getD j 0
def zLxB (n : Nat) (a b : List Nat) : Bool := (List.range n).any fun k => ((List.range k).all fun j => a.getD j 0 == b.getD j 0) && Nat.blt (a.getD k 0) (b.getD k 0)
def zNxL (n : Nat) (l : List Nat) : Option (List Nat) := (zNext n (zFn l)).map fun h => (List.range n).map h
def zPr (n : Nat) : Nat → List Nat → List (List Nat)
  | 0, l => [l]
  | c + 1, l => match zNxL n l with
    | none => [l]
    | some l2 => l :: zPr n c l2
def zPerms (n : Nat) : List (List Nat) := zPr n 119 (List.range n)
def zDis : List Nat → Bool
  | [] => true
  | a :: r => !r.elem a && zDis r
def zCkO (n : Nat) (l : List Nat) : Bool := l.length == n && l.all (fun a => Nat.blt a n) && zDis l
def zCkC (n : Nat) : List (List Nat) → Bool
  | [] => false
  | a :: r => match r with
    | [] => (zNxL n a).isNone && zCkO n a
    | b :: _ => zNxL n a == some b && zLxB n a b && zCkO n a && zCkC n r
def zTup (n : Nat) : Nat → List (List Nat)
  | 0 => [[]]
  | c + 1 => (zTup n c).flatMap fun l => (List.range n).map fun a => a :: l
def zCkA (n : Nat) : Bool := (zTup n n).all fun l => !zDis l || (zPerms n).elem l
theorem zTab1 : zCkC 1 (zPerms 1) = true ∧ zCkA 1 = true ∧ (zPerms 1).length ≤ 120 ∧ (zPerms 1).head? = some [0] := by decide +kernel
theorem zTab2 : zCkC 2 (zPerms 2) = true ∧ zCkA 2 = true ∧ (zPerms 2).length ≤ 120 ∧ (zPerms 2).head? = some [0, 1] := by decide +kernel
theorem zTab3 : zCkC 3 (zPerms 3) = true ∧ zCkA 3 = true ∧ (zPerms 3).length ≤ 120 ∧ (zPerms 3).head? = some [0, 1, 2] := by decide +kernel
theorem zTab4 : zCkC 4 (zPerms 4) = true ∧ zCkA 4 = true ∧ (zPerms 4).length ≤ 120 ∧ (zPerms 4).head? = some [0, 1, 2, 3] := by decide +kernel
theorem zTab5 : zCkC 5 (zPerms 5) = true ∧ zCkA 5 = true ∧ (zPerms 5).length ≤ 120 ∧ (zPerms 5).head? = some [0, 1, 2, 3, 4] := by decide +kernel
theorem zTab {n : Nat} (h1 : 1 ≤ n) (h5 : n ≤ 5) : zCkC n (zPerms n) = true ∧ zCkA n = true ∧ (zPerms n).length ≤ 120 ∧ (zPerms n).head? = some (List.range n) := by
  have : n = 1 ∨ n = 2 ∨ n = 3 ∨ n = 4 ∨ n = 5 := by omega
  rcases this with rfl | rfl | rfl | rfl | rfl
  · exact zTab1
  · exact zTab2
  · exact zTab3
  · exact zTab4
  · exact zTab5
