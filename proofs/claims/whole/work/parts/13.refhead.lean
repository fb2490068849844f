/-! THE REFERENCE: its cells, out of ints by field and rows by cell -/
abbrev MS : Type := (Nat → Int32) × (Nat → Nat → Int32) × (Nat → Nat → Int64)
def gI (σ : MS) (k : Nat) : Int32 := σ.1 k
def sI (σ : MS) (k : Nat) (v : Int32) : MS := (upd σ.1 k v, σ.2.1, σ.2.2)
def gA (σ : MS) (a : Nat) (i : Int32) : Int32 := σ.2.1 a i.toNatClampNeg
def sA (σ : MS) (a : Nat) (i : Int32) (v : Int32) : MS := (σ.1, (fun j => if j = a then upd (σ.2.1 a) i.toNatClampNeg v else σ.2.1 j), σ.2.2)
def gL (σ : MS) (a : Nat) (i : Int32) : Int64 := σ.2.2 a i.toNatClampNeg
def sL (σ : MS) (a : Nat) (i : Int32) (v : Int64) : MS := (σ.1, σ.2.1, (fun j => if j = a then vp_updL (σ.2.2 a) i.toNatClampNeg v else σ.2.2 j))
def hM (σ : MS) : AH := [.inr (11, [.ref 1, .ref 2, .ref 3, .ref 4, .int (σ.1 4), .int (σ.1 5), .ref 5, .ref 6, .ref 7, .ref 8, .int (σ.1 10), .int (σ.1 11), .ref 9, .int (σ.1 13), .ref 10, .ref 11, .int (σ.1 16), .ref 12, .ref 13, .ref 14, .ref 15, .ref 16, .int (σ.1 22), .int (σ.1 23), .ref 17, .int (σ.1 25), .ref 18, .ref 19, .ref 20, .ref 21, .ref 22, .ref 23, .ref 24, .ref 25, .ref 26, .int (σ.1 35), .int (σ.1 36), .int (σ.1 37), .ref 27, .int (σ.1 39), .ref 28, .ref 29, .int (σ.1 42), .int (σ.1 43)]),
  .inl (0, 4, .inl (σ.2.1 1)), .inl (0, 4, .inl (σ.2.1 2)), .inl (0, 4, .inl (σ.2.1 3)), .inl (0, 3, .inl (σ.2.1 4)), .inl (0, 4, .inl (σ.2.1 5)), .inl (0, 4, .inl (σ.2.1 6)), .inl (0, 4, .inl (σ.2.1 7)), .inl (0, 3, .inl (σ.2.1 8)), .inl (0, 16, .inl (σ.2.1 9)), .inl (0, 25, .inl (σ.2.1 10)), .inl (0, 5, .inl (σ.2.1 11)), .inl (0, 65536, .inl (σ.2.1 12)), .inl (0, 65536, .inl (σ.2.1 13)), .inl (0, 65536, .inl (σ.2.1 14)), .inl (1, 65536, .inr (.inl (σ.2.2 15))), .inl (0, 32768, .inl (σ.2.1 16)), .inl (0, 5, .inl (σ.2.1 17)), .inl (0, 720, .inl (σ.2.1 18)), .inl (1, 720, .inr (.inl (σ.2.2 19))), .inl (3, 6, .inl (σ.2.1 20)), .inl (0, 5, .inl (σ.2.1 21)), .inl (0, 5, .inl (σ.2.1 22)), .inl (0, 120, .inl (σ.2.1 23)), .inl (0, 4, .inl (σ.2.1 24)), .inl (0, 4, .inl (σ.2.1 25)), .inl (3, 120, .inl (σ.2.1 26)), .inl (0, 41, .inl (σ.2.1 27)), .inl (0, 200, .inl (σ.2.1 28)), .inl (3, 2, .inl (σ.2.1 29))]
theorem hM_lt (σ : MS) : cellsLt 30 (hM σ) = true := rfl
