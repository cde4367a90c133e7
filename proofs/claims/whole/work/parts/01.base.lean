/-! THE MACHINE IN SHORT: numbers as whole numbers, cells by their place in the order of making; what a method does is said by rules over this. -/
abbrev zAV : Type := Int ⊕ (Int ⊕ Option Nat)
abbrev zI (x : Int) : zAV := Sum.inl x
abbrev zL (x : Int) : zAV := Sum.inr (Sum.inl x)
abbrev zR (k : Nat) : zAV := Sum.inr (Sum.inr (some k))
abbrev zN : zAV := Sum.inr (Sum.inr none)
/-- what the cells hold: cell, place -/
abbrev zHP : Type := Nat → Nat → Int
/-- the cells that are made: kind (0 int row, 1 long row, 2 short row, 3 byte row, 4 boolean row, 5 row of ladders, 16 + c an object of kind c), length -/
abbrev zSH : Type := List (Nat × Nat)
abbrev zLL : Type := List (Option zAV)
abbrev zPO : Type := Option zAV → zSH → zHP → Prop
abbrev zPT : Type := Nat → Nat → Nat → Nat → zLL → List zAV → zSH → zHP → zPO → Prop
/-- an instruction: place, itself, its length, what it links -/
abbrev zE : Type := Nat × Instr × Nat × Nat × Nat × Int
def zLk (pc : Nat) : List zE → Option (Instr × Nat × Nat × Nat × Int)
  | [] => none
  | e :: l => bif Nat.beq e.1 pc then some e.2 else zLk pc l
def zw (x : Int) : Int := Int.bmod x 4294967296
def zwl (x : Int) : Int := Int.bmod x 18446744073709551616
def zup (h : zHP) (a k : Nat) (x : Int) : zHP := fun b j => if b = a then (if j = k then x else h b j) else h b j
/-- the kinds of the fields: 0 int, 1 long, 2 a cell -/
def zFTl : List (List Nat) := [[2, 2, 2, 0, 1, 1], [2, 2, 0, 0, 0, 0], [2, 2, 0], [2, 2, 2, 2, 2, 2, 2, 2, 2, 0, 0, 0], [2, 2, 2, 2, 2, 0, 0, 0], [2, 2, 2, 2, 2, 2, 0, 0, 0, 0, 0], [2, 0], [2, 2, 2, 2, 2, 2, 0], [2, 2, 2, 2, 2, 2, 2, 2, 0, 0, 0, 0, 0, 0, 0, 0], [2, 2, 2, 2, 2, 2, 0, 0, 0, 0, 1, 0, 0, 2, 0, 0, 0], [2, 2, 2, 2, 2, 0, 0, 0, 0, 0], [2, 2, 2, 2, 2, 2, 2, 2, 2, 2, 2, 2, 0, 0, 0], [0, 2, 2, 2, 2, 2, 2, 0, 2, 2, 2, 2, 0, 2, 0, 2, 2, 2, 2, 0, 0, 0, 0, 2, 2, 2, 2, 2, 2, 2, 2, 0, 2, 2, 0, 0, 2, 2, 0, 0, 2, 2, 2, 2, 2, 2, 2, 2, 0, 2, 2, 2, 2, 2, 2, 2, 2, 2, 2, 2]]
def zft (c k : Nat) : Nat := (zFTl.getD c []).getD k 0
def zborn (h : zHP) (c q : Nat) : zHP := fun b j => if b = q then (if zft c j = 2 then -1 else 0) else h b j
def znul (h : zHP) (q : Nat) (x : Int) : zHP := fun b j => if b = q then x else h b j
def zStr : List (List Int) := [[], [76, 108, 101, 103, 115, 32, 82, 114, 117, 110, 103, 32, 71, 103, 97, 116, 101, 32, 66, 98, 97, 99, 107, 32, 77, 109, 97, 121, 98, 101, 32, 85, 117, 115, 101, 32, 117, 117, 112, 115, 105, 100, 101, 32, 116, 116, 117, 114, 110, 101, 100, 32, 84, 116, 105, 109, 101, 115, 32, 80, 112, 97, 114, 116, 32], [76, 105, 59], [105, 59], [105, 105, 105, 59], [110, 117, 116, 59], [105, 123], [110, 123]]
/-- cells from 1000 on are there from the start, and stay: the tables, the texts, the script -/
def zCs (X : List Int) (a : Nat) : Nat × Nat :=
  bif Nat.beq a 1000 then (0, 8) else bif Nat.beq a 1001 then (1, 7) else bif Nat.beq a 1900 then (0, X.length) else
  bif (Nat.ble 1100 a && Nat.blt a 1108) then (216, 2) else bif (Nat.ble 1200 a && Nat.blt a 1208) then (3, (zStr.getD (a - 1200) []).length) else (99, 0)
def zFac : List Int := [1, 1, 2, 6, 24, 120, 720, 5040]
def zPat : List Int := [-6148914691236517206, -3689348814741910324, -1085102592571150096, -71777214294589696, -281470681808896, -4294967296, 0]
def zCk (X : List Int) (a k : Nat) : Int :=
  bif Nat.beq a 1000 then zFac.getD k 0 else bif Nat.beq a 1001 then zPat.getD k 0 else bif Nat.beq a 1900 then X.getD k 0 else
  bif (Nat.ble 1100 a && Nat.blt a 1108) then (bif Nat.beq k 0 then ((a + 100 : Nat) : Int) else 0) else bif (Nat.ble 1200 a && Nat.blt a 1208) then (zStr.getD (a - 1200) []).getD k 0 else 0
def zsh (X : List Int) (sh : zSH) (a : Nat) : Nat × Nat := bif Nat.blt a 1000 then sh.getD a (99, 0) else zCs X a
def zrd (X : List Int) (h : zHP) (a k : Nat) : Int := bif Nat.blt a 1000 then h a k else zCk X a k
