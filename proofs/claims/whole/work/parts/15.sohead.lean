/-! THE CLASS: its cells, by objects -/
abbrev PlS : Type := (Nat → Int32) × (Nat → Int32)
def hPl (b : Nat) (s : PlS) : AH := [.inr (4, [.ref (b + 1), .ref (b + 2)]), .inl (0, 6, .inl s.1), .inl (0, 6, .inl s.2)]
abbrev OcS : Type := Int32 × (Nat → Int32) × (Nat → Int64)
def hOc (b : Nat) (s : OcS) : AH := [.inr (2, [.int s.1, .ref (b + 1), .ref (b + 2)]), .inl (0, 153, .inl s.2.1), .inl (1, 153, .inr (.inl s.2.2))]
abbrev YdS : Type := Int32 × Int32 × Int32 × Int32 × (Nat → Int32) × (Nat → Int32) × (Nat → Int32) × (Nat → Int32) × OcS
def hYd (b : Nat) (s : YdS) : AH := [.inr (9, [.int s.1, .int s.2.1, .int s.2.2.1, .int s.2.2.2.1, .ref (b + 1), .ref (b + 2), .ref (b + 3), .ref (b + 4), .ref (b + 5)]), .inl (0, 4, .inl s.2.2.2.2.1), .inl (0, 4, .inl s.2.2.2.2.2.1), .inl (0, 4, .inl s.2.2.2.2.2.2.1), .inl (0, 64, .inl s.2.2.2.2.2.2.2.1)] ++ (hOc (b + 5) s.2.2.2.2.2.2.2.2)
abbrev PdS : Type := (Nat → Int32) × Int32
def hPd (b : Nat) (s : PdS) : AH := [.inr (3, [.ref (b + 1), .int s.2]), .inl (0, 16, .inl s.1)]
abbrev SvS : Type := (Nat → Int32) × (Nat → Int64) × PlS
def hSv (b : Nat) (s : SvS) : AH := [.inr (7, [.ref (b + 1), .ref (b + 2), .ref (b + 3)]), .inl (2, 17046, .inl s.1), .inl (1, 17046, .inr (.inl s.2.1))] ++ (hPl (b + 3) s.2.2)
abbrev SeS : Type := (Nat → Int32) × PlS × Int32 × Int32 × Int32
def hSe (b : Nat) (yr : Nat) (s : SeS) : AH := [.inr (6, [.ref (b + 1), .ref (b + 2), .int s.2.2.1, .ref yr, .int s.2.2.2.1, .int s.2.2.2.2]), .inl (0, 17046, .inl s.1)] ++ (hPl (b + 2) s.2.1)
abbrev NdS : Type := Int32 × Int32 × YdS
def hNd (b : Nat) (s : NdS) : AH := [.inr (1, [.int s.1, .int s.2.1, .ref (b + 1)])] ++ (hYd (b + 1) s.2.2)
abbrev PyS : Type := Int32 × Int32 × Int32 × Int32 × Int32 × (Nat → Int32) × PlS
def hPy (b : Nat) (s : PyS) : AH := [.inr (5, [.int s.1, .int s.2.1, .int s.2.2.1, .int s.2.2.2.1, .int s.2.2.2.2.1, .ref (b + 1), .ref (b + 2)]), .inl (0, 20, .inl s.2.2.2.2.2.1)] ++ (hPl (b + 2) s.2.2.2.2.2.2)
abbrev ImS : Type := Int32 × YdS × YdS × PyS
def hIm (b : Nat) (s : ImS) : AH := [.inr (0, [.int s.1, .ref (b + 1), .ref (b + 9), .ref (b + 17)])] ++ (hYd (b + 1) s.2.1 ++ (hYd (b + 9) s.2.2.1 ++ (hPy (b + 17) s.2.2.2)))
abbrev ThS : Type := PlS
def hTh (b : Nat) (s : ThS) : AH := [.inr (8, [.ref (b + 1)])] ++ (hPl (b + 1) s)
abbrev SoS : Type := PdS × YdS × YdS × PyS × ImS × ImS × SvS × SeS × NdS × ThS
def hSo (yr : Nat) (s : SoS) : AH := [.inr (10, [.ref (1), .ref (3), .ref (11), .ref (19), .ref (24), .ref (46), .ref (68), .ref (74), .ref (79), .ref (88)])] ++ (hPd (1) s.1 ++ (hYd (3) s.2.1 ++ (hYd (11) s.2.2.1 ++ (hPy (19) s.2.2.2.1 ++ (hIm (24) s.2.2.2.2.1 ++ (hIm (46) s.2.2.2.2.2.1 ++ (hSv (68) s.2.2.2.2.2.2.1 ++ (hSe (74) yr s.2.2.2.2.2.2.2.1 ++ (hNd (79) s.2.2.2.2.2.2.2.2.1 ++ (hTh (88) s.2.2.2.2.2.2.2.2.2))))))))))
def cpy (n : Nat) (f g : Nat → Int32) : Nat → Int32 := va_cpy f g 0 0 n
theorem c_copyInts (n : Nat) (hn : Nat.blt n 2147483648 = true) (f g : Nat → Int32) : CT yX11_copyInts cX11_copyInts 2 none 1 26 0 0 [.ref 0, .ref 1] [.inl (0, n, .inl f), .inl (0, n, .inl g)] (fun v h => v = none ∧ h = [.inl (0, n, .inl f), .inl (0, n, .inl (cpy n f g))]) := by
  have hn : n < 2 ^ 31 := by simpa [Nat.blt_eq] using hn
  refine CT_of (by decide +kernel) (vs0 := [some (.ref 0), some (.ref 1)]) rfl rfl (fun X C hq => ?_)
  refine MW_run C okX11_copyInts 0 8 (gs := []) (cf' := (8, [some (.ref 0), some (.ref 1)], [.int (nI n), .int (nI n), .int 0, .ref 1, .int 0, .ref 0], [.inl (0, n, .inl f), .inl (0, n, .inl g)], 0, 0)) rfl trivial ?_
  refine MW_mmin C okX11_copyInts 8 rfl lkX11_283 (by decide) ?_
  have e : imin (nI n) (nI n) = nI n := by simp [imin]
  rw [e]
  refine MW_copyi C okX11_copyInts 9 rfl (a0 := 0) (a := 1) (m0 := n) (m1 := n) (f := f) (g := g) rfl rfl lkX11_288 (by decide) ⟨by decide, by decide, nI_pos hn, ?_, ?_⟩ ?_
  · rw [nI_clamp hn]; show (0 : Int32).toNatClampNeg + n ≤ n; rw [show (0 : Int32).toNatClampNeg = 0 from rfl]; omega
  · rw [nI_clamp hn]; show (0 : Int32).toNatClampNeg + n ≤ n; rw [show (0 : Int32).toNatClampNeg = 0 from rfl]; omega
  · refine MW_eq (cf' := (14, [some (.ref 0), some (.ref 1)], [], [.inl (0, n, .inl f), .inl (0, n, .inl (cpy n f g))], 0, 0)) ?_ ?_
    · rw [nI_clamp hn]; rfl
    · exact MW_vret C okX11_copyInts hq 10 rfl ⟨rfl, rfl⟩

