/-! THE SMALL MACHINE: a heap of numbered cells (0 is null, the own cells are 1, 2, ..; cells from 1000000 on lie outside and are only read), its steps as a function of the instruction. A reference is '.ref x' with such a number x; null is '.ref 0'. -/
abbrev AH : Type := (Nat → Nat) × (Nat → Nat) × (Nat → Nat → Int32) × (Nat → Nat → Int64) × (Nat → Nat → Nat) × Nat × Nat
def kdA (h : AH) (a : Nat) : Nat := h.1 a
def lnA (h : AH) (a : Nat) : Nat := h.2.1 a
def ivA (h : AH) (a k : Nat) : Int32 := h.2.2.1 a k
def jvA (h : AH) (a k : Nat) : Int64 := h.2.2.2.1 a k
def rvA (h : AH) (a k : Nat) : Nat := h.2.2.2.2.1 a k
def szA (h : AH) : Nat := h.2.2.2.2.2.1
def usA (h : AH) : Nat := h.2.2.2.2.2.2
def up1 {α : Type} (f : Nat → α) (a : Nat) (x : α) : Nat → α := fun b => if b = a then x else f b
def up2 {α : Type} (f : Nat → Nat → α) (a k : Nat) (x : α) : Nat → Nat → α := fun b j => if b = a ∧ j = k then x else f b j
def stI (h : AH) (a k : Nat) (x : Int32) : AH := (h.1, h.2.1, up2 h.2.2.1 a k x, h.2.2.2.1, h.2.2.2.2.1, h.2.2.2.2.2.1, h.2.2.2.2.2.2)
def stJ (h : AH) (a k : Nat) (x : Int64) : AH := (h.1, h.2.1, h.2.2.1, up2 h.2.2.2.1 a k x, h.2.2.2.2.1, h.2.2.2.2.2.1, h.2.2.2.2.2.2)
def stR (h : AH) (a k : Nat) (x : Nat) : AH := (h.1, h.2.1, h.2.2.1, h.2.2.2.1, up2 h.2.2.2.2.1 a k x, h.2.2.2.2.2.1, h.2.2.2.2.2.2)
/-- a new cell of kind t with n places, all 0 -/
def nwA (h : AH) (t n : Nat) : AH := (up1 h.1 (szA h + 1) t, up1 h.2.1 (szA h + 1) n, up1 h.2.2.1 (szA h + 1) (fun _ => 0), up1 h.2.2.2.1 (szA h + 1) (fun _ => 0), up1 h.2.2.2.2.1 (szA h + 1) (fun _ => 0), szA h + 1, usA h + n)
/-- the first n places of a are copied into b -/
def cpA (h : AH) (a b n : Nat) : AH := (h.1, h.2.1, up1 h.2.2.1 b (fun j => if j < n then ivA h a j else ivA h b j), h.2.2.2.1, h.2.2.2.2.1, h.2.2.2.2.2.1, h.2.2.2.2.2.2)
abbrev kI (z : Int) : Int32 := Int32.ofInt z
abbrev kJ (z : Int) : Int64 := Int64.ofInt z
def inB (i : Int32) (n : Nat) : Bool := !decide (i < 0) && decide (i.toNatClampNeg < n)
abbrev ix (i : Int32) : Nat := i.toNatClampNeg
/-- own cell -/
def oK (h : AH) (a t : Nat) : Bool := decide (kdA h a = t) && decide (1 ≤ a) && decide (a ≤ szA h)
abbrev unV : Value := .retAddr 0
def setL (L : List Value) (i : Nat) (v : Value) : List Value := match i with
  | 0 => L.set 0 v
  | j + 1 => match L[j]? with
    | some (.long _) => (L.set j unV).set (j + 1) v
    | _ => L.set (j + 1) v
def setL2 (L : List Value) (i : Nat) (v : Value) : List Value := (setL L i v).set (i + 1) unV
/-- what a step does: goes on, branches, switches, calls, returns; ahead of it what must hold -/
abbrev MN : Type := Nat × List Value × List Value × AH
abbrev MAct : Type := MN ⊕ ((Bool × Nat × MN) ⊕ ((Int32 × List (Int × Nat) × MN) ⊕ ((Nat × List Value × MN) ⊕ (Option Value × AH))))
abbrev MR : Type := Option (List Bool × MAct)
def nxt (pc : Nat) (L S : List Value) (h : AH) : MR := some ([], .inl (pc, L, S, h))
def nxtG (g : Bool) (pc : Nat) (L S : List Value) (h : AH) : MR := some ([g], .inl (pc, L, S, h))
def brn (b : Bool) (t : Int) (pc : Nat) (L S : List Value) (h : AH) : MR := match t with
  | .ofNat t => some ([], .inr (.inl (b, t, pc, L, S, h)))
  | .negSucc _ => none
def brnG (g : List Bool) (b : Bool) (t : Int) (pc : Nat) (L S : List Value) (h : AH) : MR := match t with
  | .ofNat t => some (g, .inr (.inl (b, t, pc, L, S, h)))
  | .negSucc _ => none
def jmp (t : Int) (L S : List Value) (h : AH) : MR := match t with
  | .ofNat t => some ([], .inl (t, L, S, h))
  | .negSucc _ => none
def cI1 (c : ClassFile.Cond) (x : Int32) : Bool := match c with
  | .eq => decide (x = 0)
  | .ne => !decide (x = 0)
  | .lt => decide (x < 0)
  | .ge => decide (0 ≤ x)
  | .gt => decide (0 < x)
  | .le => decide (x ≤ 0)
def cI2 (c : ClassFile.Cond) (x y : Int32) : Bool := match c with
  | .eq => decide (x = y)
  | .ne => !decide (x = y)
  | .lt => decide (x < y)
  | .ge => decide (y ≤ x)
  | .gt => decide (y < x)
  | .le => decide (x ≤ y)
def cat1 (v : Value) : Bool := v.category == 1
def catS (S : List Value) : Bool := decide ((S.map fun v => v.category).sum ≤ 8)
/-- tables of the program: own class and pool index to what it means -/
abbrev PT : Type := Nat → Nat → Option (Nat × Nat)
def swP (pc : Nat) (lo : Int) : List Int → Option (List (Int × Nat))
  | [] => some []
  | o :: os => match (pc : Int) + o, swP pc (lo + 1) os with
    | .ofNat t, some r => some ((lo, t) :: r)
    | _, _ => none
def swQ (pc : Nat) : List (Int × Int) → Option (List (Int × Nat))
  | [] => some []
  | (k, o) :: os => match (pc : Int) + o, swQ pc os with
    | .ofNat t, some r => some ((k, t) :: r)
    | _, _ => none
def swT (x : Int32) : List (Int × Nat) → Nat → Nat
  | [], d => d
  | (k, t) :: r, d => if decide (x = kI k) = true then t else swT x r d
def swM (x : Int32) (ps : Option (List (Int × Nat))) (d : Int) (L S : List Value) (h : AH) : MR := match ps, d with
  | some r, .ofNat t => some ([], .inr (.inr (.inl (x, r, t, L, S, h))))
  | _, _ => none
