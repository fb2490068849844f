/-! INTS AS NATURALS -/
def iN (n : Nat) : Int32 := Int32.ofNat n
def lI (n : Nat) : Int64 := Int64.ofNat n
theorem zl_0 : (0 : Int32) = iN 0 := rfl
theorem zl_1 : (1 : Int32) = iN 1 := rfl
theorem zl_2 : (2 : Int32) = iN 2 := rfl
theorem zl_3 : (3 : Int32) = iN 3 := rfl
theorem zl_4 : (4 : Int32) = iN 4 := rfl
theorem zl_5 : (5 : Int32) = iN 5 := rfl
theorem zl_6 : (6 : Int32) = iN 6 := rfl
theorem zl_7 : (7 : Int32) = iN 7 := rfl
theorem zl_8 : (8 : Int32) = iN 8 := rfl
theorem zl_9 : (9 : Int32) = iN 9 := rfl
theorem zl_10 : (10 : Int32) = iN 10 := rfl
theorem zl_11 : (11 : Int32) = iN 11 := rfl
theorem zl_12 : (12 : Int32) = iN 12 := rfl
theorem zl_15 : (15 : Int32) = iN 15 := rfl
theorem zl_16 : (16 : Int32) = iN 16 := rfl
theorem zl_20 : (20 : Int32) = iN 20 := rfl
theorem zl_24 : (24 : Int32) = iN 24 := rfl
theorem zl_25 : (25 : Int32) = iN 25 := rfl
theorem zl_31 : (31 : Int32) = iN 31 := rfl
theorem zl_32 : (32 : Int32) = iN 32 := rfl
theorem zl_33 : (33 : Int32) = iN 33 := rfl
theorem zl_40 : (40 : Int32) = iN 40 := rfl
theorem zl_45 : (45 : Int32) = iN 45 := rfl
theorem zl_48 : (48 : Int32) = iN 48 := rfl
theorem zl_49 : (49 : Int32) = iN 49 := rfl
theorem zl_50 : (50 : Int32) = iN 50 := rfl
theorem zl_53 : (53 : Int32) = iN 53 := rfl
theorem zl_57 : (57 : Int32) = iN 57 := rfl
theorem zl_59 : (59 : Int32) = iN 59 := rfl
theorem zl_62 : (62 : Int32) = iN 62 := rfl
theorem zl_63 : (63 : Int32) = iN 63 := rfl
theorem zl_64 : (64 : Int32) = iN 64 := rfl
theorem zl_74 : (74 : Int32) = iN 74 := rfl
theorem zl_75 : (75 : Int32) = iN 75 := rfl
theorem zl_99 : (99 : Int32) = iN 99 := rfl
theorem zl_100 : (100 : Int32) = iN 100 := rfl
theorem zl_113 : (113 : Int32) = iN 113 := rfl
theorem zl_115 : (115 : Int32) = iN 115 := rfl
theorem zl_120 : (120 : Int32) = iN 120 := rfl
theorem zl_126 : (126 : Int32) = iN 126 := rfl
theorem zl_153 : (153 : Int32) = iN 153 := rfl
theorem zl_160 : (160 : Int32) = iN 160 := rfl
theorem zl_200 : (200 : Int32) = iN 200 := rfl
theorem zl_255 : (255 : Int32) = iN 255 := rfl
theorem zl_720 : (720 : Int32) = iN 720 := rfl
theorem zl_1000 : (1000 : Int32) = iN 1000 := rfl
theorem zl_4999 : (4999 : Int32) = iN 4999 := rfl
theorem zl_5000 : (5000 : Int32) = iN 5000 := rfl
theorem zl_17046 : (17046 : Int32) = iN 17046 := rfl
theorem zl_32768 : (32768 : Int32) = iN 32768 := rfl
theorem zl_54321 : (54321 : Int32) = iN 54321 := rfl
theorem zl_65535 : (65535 : Int32) = iN 65535 := rfl
theorem zl_65536 : (65536 : Int32) = iN 65536 := rfl
theorem zl_65537 : (65537 : Int32) = iN 65537 := rfl
theorem zl_9999 : (9999 : Int32) = iN 9999 := rfl
theorem iN_toInt {a : Nat} (h : a < 2147483648) : (iN a).toInt = (a : Int) := Int32.toInt_ofNat_of_lt h
theorem iN_add (a b : Nat) : iN a + iN b = iN (a + b) := (Int32.ofNat_add a b).symm
theorem iN_mul (a b : Nat) : iN a * iN b = iN (a * b) := (Int32.ofNat_mul a b).symm
theorem iN_sub {a b : Nat} (h : b ≤ a) : iN a - iN b = iN (a - b) := (Int32.ofNat_sub a b h).symm
theorem iN_dec {a : Nat} (h : 1 ≤ a) : iN a + (-1) = iN (a - 1) := by
  rw [← iN_sub h]
  show iN a + -1 = iN a - 1
  rw [Int32.sub_eq_add_neg]
theorem iN_dec2 {a : Nat} (h : 1 ≤ a) : iN a + (-iN 1) = iN (a - 1) := iN_dec h
theorem iN_div {a b : Nat} (ha : a < 2147483648) (hb : b < 2147483648) : iN a / iN b = iN (a / b) := (Int32.ofNat_div ha hb).symm
theorem iN_irm {a b : Nat} (ha : a < 2147483648) (hb : b < 2147483648) : irm (iN a) (iN b) = iN (a % b) := by
  unfold irm
  rw [iN_div ha hb, iN_mul, iN_sub (Nat.div_mul_le_self a b), Nat.mod_eq_sub_div_mul]
theorem iN_lt {a b : Nat} (ha : a < 2147483648) (hb : b < 2147483648) : (iN a < iN b) = (a < b) := propext (Int32.ofNat_lt_iff_lt ha hb)
theorem iN_le {a b : Nat} (ha : a < 2147483648) (hb : b < 2147483648) : (iN a ≤ iN b) = (a ≤ b) := propext (Int32.ofNat_le_iff_le ha hb)
theorem iN_inj {a b : Nat} (ha : a < 2147483648) (hb : b < 2147483648) (h : iN a = iN b) : a = b := by
  have := congrArg Int32.toInt h
  rw [iN_toInt ha, iN_toInt hb] at this
  omega
theorem iN_eq {a b : Nat} (ha : a < 2147483648) (hb : b < 2147483648) : (iN a = iN b) = (a = b) := propext ⟨iN_inj ha hb, fun h => by rw [h]⟩
theorem iN_nat {a : Nat} (h : a < 2147483648) : (iN a).toNatClampNeg = a := Int32.toNatClampNeg_ofNat_of_lt h
theorem iN_inb {a n : Nat} (h : a < 2147483648) : inb (iN a) n = (a < n) := by
  unfold inb
  rw [iN_nat h, show (0 : Int32) = iN 0 from rfl, iN_lt h (by omega)]
  apply propext
  omega
theorem iN_bv (a : Nat) : (iN a).toBitVec = BitVec.ofNat 32 a := rfl
theorem iN_and (a b : Nat) : iN a &&& iN b = iN (a &&& b) := by
  apply Int32.toBitVec_inj.1
  rw [Int32.toBitVec_and, iN_bv, iN_bv, iN_bv, BitVec.ofNat_and]
theorem iN_or (a b : Nat) : iN a ||| iN b = iN (a ||| b) := by
  apply Int32.toBitVec_inj.1
  rw [Int32.toBitVec_or, iN_bv, iN_bv, iN_bv, BitVec.ofNat_or]
theorem sh_ok : ∀ k : Nat, k < 32 → ((iN k &&& (31 : Int32)).toBitVec.smod 32).toNat = k := by decide +kernel
theorem iN_shl {a k : Nat} (hk : k < 32) : iN a <<< (iN k &&& (31 : Int32)) = iN (a * 2 ^ k) := by
  apply Int32.toBitVec_inj.1
  have h := sh_ok k hk
  show (iN a).toBitVec <<< ((iN k &&& (31 : Int32)).toBitVec.smod 32) = _
  rw [BitVec.shiftLeft_eq', h, iN_bv, iN_bv]
  apply BitVec.eq_of_toNat_eq
  simp only [BitVec.toNat_shiftLeft, BitVec.toNat_ofNat, Nat.shiftLeft_eq]
  rw [Nat.mod_mul_mod]
theorem iN_shr {a k : Nat} (ha : a < 2147483648) (hk : k < 32) : iN a >>> (iN k &&& (31 : Int32)) = iN (a / 2 ^ k) := by
  apply Int32.toBitVec_inj.1
  have h := sh_ok k hk
  show BitVec.sshiftRight (iN a).toBitVec ((iN k &&& (31 : Int32)).toBitVec.smod 32).toNat = _
  rw [h, iN_bv, iN_bv]
  have hm : (BitVec.ofNat 32 a).msb = false := by
    rw [BitVec.msb_eq_false_iff_two_mul_lt, BitVec.toNat_ofNat]
    omega
  rw [BitVec.sshiftRight_eq_of_msb_false hm]
  apply BitVec.eq_of_toNat_eq
  simp only [BitVec.toNat_ushiftRight, BitVec.toNat_ofNat, Nat.shiftRight_eq_div_pow]
  have h1 : a / 2 ^ k ≤ a := Nat.div_le_self _ _
  rw [Nat.mod_eq_of_lt (show a < 2 ^ 32 by omega), Nat.mod_eq_of_lt (show a / 2 ^ k < 2 ^ 32 by omega)]
theorem iN_shl2 {a k : Nat} (hk : k < 32) : iN a <<< iN (k &&& 31) = iN (a * 2 ^ k) := by
  rw [← iN_and]
  exact iN_shl hk
theorem iN_shr2 {a k : Nat} (ha : a < 2147483648) (hk : k < 32) : iN a >>> iN (k &&& 31) = iN (a / 2 ^ k) := by
  rw [← iN_and]
  exact iN_shr ha hk
theorem i_cases (x : Int32) : (∃ k, k < 2147483648 ∧ x = iN k) ∨ x.toInt < 0 := by
  by_cases h : x.toInt < 0
  · exact Or.inr h
  · refine Or.inl ⟨x.toInt.toNat, ?_, ?_⟩
    · have := Int32.toInt_lt x
      omega
    · apply Int32.toInt_inj.mp
      have := Int32.toInt_lt x
      rw [iN_toInt (by omega)]
      omega
theorem neg_lt {x : Int32} (h : x.toInt < 0) : x < 0 := by
  rw [Int32.lt_iff_toInt_lt]
  exact h
theorem iN_nneg {a : Nat} (h : a < 2147483648) : ¬ iN a < 0 := by
  rw [zl_0, iN_lt h (by omega)]
  omega
theorem isZ_0 : isZ 0 := rfl
theorem isZ_1 : isZ 1 := rfl
theorem narZ_0 : narZ 0 = 0 := rfl
theorem narZ_1 : narZ 1 = 1 := rfl
theorem lt64 (x y : Int64) : (lg_cmp x y < 0) = (x < y) := by
  unfold lg_cmp
  have h3 := Int64.lt_iff_toInt_lt (x := x) (y := y)
  have h4 := Int64.lt_iff_toInt_lt (x := y) (y := x)
  have h5 : x = y → x.toInt = y.toInt := fun h => by rw [h]
  have h6 : x.toInt = y.toInt → x = y := Int64.toInt_inj.mp
  apply propext
  split
  · rename_i h
    have h : y < x := h
    rw [h4] at h
    rw [h3]
    constructor
    · intro h9; exact absurd h9 (by decide)
    · intro h9; omega
  · rename_i h
    have h : ¬ y < x := h
    rw [h4] at h
    split
    · rename_i h2
      have := h5 h2
      rw [h3]
      constructor
      · intro h9; exact absurd h9 (by decide)
      · intro h9; omega
    · rename_i h2
      rw [h3]
      constructor
      · intro _
        have : ¬ x.toInt = y.toInt := fun e => h2 (h6 e)
        omega
      · intro _; decide
theorem gt64 (x y : Int64) : ((0 : Int32) < lg_cmp x y) = (y < x) := by
  unfold lg_cmp
  apply propext
  split
  · rename_i h
    exact ⟨fun _ => h, fun _ => by decide⟩
  · rename_i h
    constructor
    · intro h9
      split at h9
      · exact absurd h9 (by decide)
      · exact absurd h9 (by decide)
    · intro h9; exact absurd h9 h
theorem eq64 (x y : Int64) : (lg_cmp x y = 0) = (x = y) := by
  unfold lg_cmp
  apply propext
  split
  · rename_i h
    constructor
    · intro h9; exact absurd h9 (by decide)
    · intro h9; subst h9
      have h : x < x := h
      rw [Int64.lt_iff_toInt_lt] at h
      omega
  · split
    · rename_i h; exact ⟨fun _ => h, fun _ => rfl⟩
    · rename_i h; exact ⟨fun h9 => absurd h9 (by decide), fun h9 => absurd h9 h⟩
def bI (b : Bool) : Int32 := if b then 1 else 0
theorem bI_0 (b : Bool) : (bI b = 0) = (b = false) := by cases b <;> simp [bI]
theorem bI_1 (b : Bool) : (bI b = 1) = (b = true) := by cases b <;> simp [bI]
theorem bI_Z (b : Bool) : isZ (bI b) := by cases b <;> rfl
theorem bI_nar (b : Bool) : narZ (bI b) = bI b := by cases b <;> rfl
theorem m_in_eq (u v w : Int64) : m_in u v w = some (bI (decide (v ≤ u ∧ u ≤ w))) := by
  unfold m_in
  have h1 := Int64.lt_iff_toInt_lt (x := u) (y := v)
  have h2 := Int64.lt_iff_toInt_lt (x := w) (y := u)
  have h3 := Int64.le_iff_toInt_le (x := v) (y := u)
  have h4 := Int64.le_iff_toInt_le (x := u) (y := w)
  simp only [lt64, gt64]
  by_cases h : u < v
  · rw [if_pos h]
    rw [h1] at h
    have : ¬ (v ≤ u ∧ u ≤ w) := by rw [h3]; omega
    simp [this, bI]
  · rw [if_neg h]
    rw [h1] at h
    by_cases h9 : w < u
    · rw [if_pos h9]
      rw [h2] at h9
      have : ¬ (v ≤ u ∧ u ≤ w) := by rw [h4]; omega
      simp [this, bI]
    · rw [if_neg h9]
      rw [h2] at h9
      have : (v ≤ u ∧ u ≤ w) := by rw [h3, h4]; omega
      simp [this, bI]
theorem m_in_i (x : Int32) (v w : Int64) : m_in x.toInt64 v w = some (bI (decide (v.toInt ≤ x.toInt ∧ x.toInt ≤ w.toInt))) := by
  rw [m_in_eq]
  simp only [Int64.le_iff_toInt_le, Int32.toInt_toInt64]
