/-! ROWS, RANKS and numbers of ORDERS: what can be looked through -/
def pop6 (k : Nat) : Nat := ((List.range 6).filter (fun i => k.testBit i)).length
theorem t_bit : ∀ k, k < 64 → jt_bitCount (iN k) = some (iN (pop6 k)) := by decide +kernel
theorem t_up : ∀ n, n < 6 → rw_upTo (iN n) = some (iN (pk (up n))) := by decide +kernel
theorem t_fac : ∀ n, n < 6 → rw_factorial (iN n) = some (iN (fac n)) := by decide +kernel
theorem t_pow : ∀ n, n < 6 → m_power (iN n) = some (iN (fac n)) := by decide +kernel
theorem t_ofN : ∀ n, n < 6 → ∀ l ∈ pm n, rw_ofNumber (iN (num l)) = some (iN (pk l)) := by decide +kernel
theorem t_toN : ∀ n, n < 6 → ∀ l ∈ pm n, rw_toNumber (iN (pk l)) = some (iN (num l)) := by decide +kernel
theorem t_rank : ∀ n, n < 6 → ∀ l ∈ pm n, rw_rankOf (iN (pk l)) (iN n) = some (iN (rk l)) := by decide +kernel
def ofs : Nat → Nat
  | 0 => 0
  | 1 => 0
  | n + 2 => ofs (n + 1) + fac (n + 1)
theorem t_cell : ∀ n, n < 6 → 1 ≤ n → ∀ l ∈ pm n, oc_cellOf (iN (pk l)) (iN n) = some (iN (ofs n + rk l)) := by decide +kernel
theorem t_ofR : ∀ n, n < 6 → ∀ r, r < fac n → rw_ofRank (iN r) (iN n) = some (iN (pk (ur n r))) := by decide +kernel
theorem t_dig : ∀ n, n < 6 → ∀ l ∈ pm n, ∀ k, k < n → m_digitAt (iN (num l)) (iN n) (iN k) = some (iN (l.getD k 0)) := by decide +kernel
theorem t_ofs : ∀ n, n < 6 → 1 ≤ n → ofs n + fac n ≤ 153 := by decide
theorem t_ofs2 : ∀ n, n < 6 → ∀ m, m < 6 → 1 ≤ n → n < m → ofs n + fac n ≤ ofs m := by decide
theorem t_pk : ∀ n, n < 6 → ∀ l ∈ pm n, pk l < 32768 := by decide +kernel
/-! how many wagons a number tells -/
def orL (l : List Nat) : Nat := l.foldr (fun d a => 2 ^ d ||| a) 0
theorem t_or : ∀ n, n < 6 → ∀ l ∈ pm n, orL l = 2 ^ (n + 1) - 2 := by decide +kernel
theorem t_tb : ∀ n, n < 6 → ∀ i, i < 10 → 1 ≤ i → i ≤ n → (2 ^ (n + 1) - 2).testBit i = true := by decide
theorem orL_tb (l : List Nat) (i : Nat) : (orL l).testBit i = true ↔ i ∈ l := by
  induction l with
  | nil => simp [orL]
  | cons d r ih =>
    unfold orL at ih ⊢
    rw [List.foldr_cons, Nat.testBit_or, Bool.or_eq_true, ih, Nat.testBit_two_pow, decide_eq_true_eq, List.mem_cons]
    constructor
    · rintro (h | h)
      · exact Or.inl h.symm
      · exact Or.inr h
    · rintro (h | h)
      · exact Or.inl h.symm
      · exact Or.inr h
theorem orL_app (l : List Nat) (d : Nat) : orL (l ++ [d]) = orL l ||| 2 ^ d := by
  apply Nat.eq_of_testBit_eq
  intro i
  have h1 := orL_tb (l ++ [d]) i
  have h2 := orL_tb l i
  rw [Nat.testBit_or, Nat.testBit_two_pow]
  by_cases c : i ∈ l ++ [d]
  · rw [h1.mpr c]
    rcases List.mem_append.mp c with c | c
    · rw [h2.mpr c]; rfl
    · rw [List.mem_singleton] at c
      rw [decide_eq_true c.symm, Bool.or_true]
  · have e1 : (orL (l ++ [d])).testBit i = false := by
      cases h : (orL (l ++ [d])).testBit i with
      | false => rfl
      | true => exact absurd (h1.mp h) c
    have e2 : (orL l).testBit i = false := by
      cases h : (orL l).testBit i with
      | false => rfl
      | true => exact absurd (List.mem_append_left _ (h2.mp h)) c
    rw [e1, e2, decide_eq_false (fun h => c (by simp [h]))]
    rfl
theorem or_pm {l : List Nat} {n : Nat} (hn : n < 6) (hl : l.length = n) (h : orL l = 2 ^ (n + 1) - 2) : l ∈ pm n := by
  rw [mem_pm]
  refine (nd_perm (List.range' 1 n) l List.nodup_range' (fun x hx => ?_) (by simp [hl])).symm
  rw [List.mem_range'_1] at hx
  exact (orL_tb l x).mp (by rw [h]; exact t_tb n hn x (by omega) (by omega) (by omega))
theorem dgF_len : ∀ (f k : Nat), (dgF f k).length ≤ f := by
  intro f
  induction f with
  | zero => intro k; exact Nat.le_refl _
  | succ f ih =>
    intro k
    rw [dgF]
    split
    · simp
    · rw [List.length_append]
      have := ih (k / 10)
      simp only [List.length_cons, List.length_nil]
      omega
theorem dgF_fu : ∀ (f g k : Nat), k < 10 ^ f → f ≤ g → dgF g k = dgF f k := by
  intro f
  induction f with
  | zero =>
    intro g k hk _
    have : k = 0 := by simpa using hk
    subst this
    cases g with
    | zero => rfl
    | succ g => rfl
  | succ f ih =>
    intro g k hk hg
    obtain ⟨g, rfl⟩ : ∃ h, g = h + 1 := ⟨g - 1, by omega⟩
    rw [dgF, dgF]
    by_cases c : k = 0
    · rw [if_pos c, if_pos c]
    · rw [if_neg c, if_neg c, ih g (k / 10) (by rw [Nat.pow_succ] at hk; omega) (by omega)]
theorem orL_lt {l : List Nat} (h : ∀ d ∈ l, d < 10) : orL l < 1024 := by
  induction l with
  | nil => decide
  | cons d r ih =>
    have h1 := ih (fun x hx => h x (List.mem_cons_of_mem _ hx))
    have h2 : 2 ^ d < 1024 := by
      have := h d List.mem_cons_self
      have : 2 ^ d ≤ 2 ^ 9 := Nat.pow_le_pow_right (by omega) (by omega)
      omega
    exact Nat.or_lt_two_pow (n := 10) h2 h1
def tw (x : Int32) : Nat := match tn x with
  | some l => l.length
  | none => 0
theorem tw_le (x : Int32) : tw x ≤ 5 := by
  unfold tw
  cases h : tn x with
  | none => exact Nat.zero_le _
  | some l => obtain ⟨n, h1, h2, _, _, _, h6⟩ := tn_some h; simp only; omega
theorem tw_neg {x : Int32} (h : x.toInt < 0) : tw x = 0 := by unfold tw tn; rw [if_pos h]
theorem tw_iN {k : Nat} (hk : k < 2147483648) : tw (iN k) = if orL (dgl k) = 2 ^ ((dgl k).length + 1) - 2 ∧ (dgl k).length ≤ 5 then (dgl k).length else 0 := by
  unfold tw tn
  rw [if_neg (by rw [iN_toInt hk]; omega), iN_nat hk]
  by_cases c : dgl k ∈ pm (dgl k).length ∧ 1 ≤ (dgl k).length ∧ (dgl k).length ≤ 5
  · rw [if_pos c, if_pos ⟨t_or _ (by omega) _ c.1, c.2.2⟩]
  · rw [if_neg c]
    by_cases d : orL (dgl k) = 2 ^ ((dgl k).length + 1) - 2 ∧ (dgl k).length ≤ 5
    · rw [if_pos d]
      simp only
      have h1 := or_pm (by omega) rfl d.1
      have h2 : (dgl k).length = 0 := by
        rcases Nat.eq_zero_or_pos (dgl k).length with h9 | h9
        · exact h9
        · exact absurd ⟨h1, h9, d.2⟩ c
      exact h2.symm
    · rw [if_neg d]
theorem m_wag_L6 : ∀ (g k f n b : Nat) (x0 : Int32), g < f → k < 10 ^ g → k < 2147483648 → n + g ≤ 100 → m_wagonsOf_L6 f x0 (iN n) (iN b) (iN k) = some (iN (n + (dgF g k).length), iN (b ||| orL (dgF g k))) := by
  intro g
  induction g with
  | zero =>
    intro k f n b x0 hf hk hk2 hn
    obtain ⟨f, rfl⟩ : ∃ h, f = h + 1 := ⟨f - 1, by omega⟩
    have : k = 0 := by simpa using hk
    subst this
    rw [m_wagonsOf_L6, if_neg (by decide)]
    simp [dgF, orL]
  | succ g ih =>
    intro k f n b x0 hf hk hk2 hn
    obtain ⟨f, rfl⟩ : ∃ h, f = h + 1 := ⟨f - 1, by omega⟩
    rw [m_wagonsOf_L6, dgF]
    by_cases c : k = 0
    · subst c
      rw [if_neg (by decide), if_pos rfl]
      simp [orL]
    · rw [if_neg c]
      simp (disch := omega) only [zl_0, zl_1, zl_2, zl_3, zl_4, zl_5, zl_6, zl_7, zl_8, zl_9, zl_10, zl_11, zl_12, zl_15, zl_16, zl_20, zl_24, zl_25, zl_31, zl_32, zl_33, zl_40, zl_45, zl_48, zl_49, zl_50, zl_53, zl_57, zl_59, zl_62, zl_63, zl_64, zl_74, zl_75, zl_99, zl_100, zl_113, zl_115, zl_120, zl_126, zl_153, zl_160, zl_200, zl_255, zl_720, zl_1000, zl_4999, zl_5000, zl_17046, zl_32768, zl_54321, zl_65535, zl_65536, zl_65537, zl_9999, iN_add, iN_mul, iN_sub, iN_dec, iN_dec2, iN_div, iN_irm, iN_lt, iN_le, iN_eq, iN_inb, iN_nat, iN_and, iN_or, iN_shl, iN_shr, iN_shl2, iN_shr2]
      rw [if_pos (by omega), ih (k / 10) f (n + 1) (b ||| 1 * 2 ^ (k % 10)) x0 (by omega) (by rw [Nat.pow_succ] at hk; omega) (by omega) (by omega), orL_app, List.length_append]
      congr 2
      · simp only [List.length_cons, List.length_nil]
        congr 1
        omega
      · congr 1
        rw [Nat.one_mul, Nat.or_assoc, Nat.or_comm (2 ^ (k % 10))]
theorem m_wag (x : Int32) : m_wagonsOf x = some (iN (tw x)) := by
  rw [m_wagonsOf]
  have hin := m_in_i x 1 54321
  rw [show (1 : Int64).toInt = 1 from rfl, show (54321 : Int64).toInt = 54321 from rfl] at hin
  rcases i_cases x with ⟨k, hk, rfl⟩ | hneg
  · have h6 := m_wag_L6 10 k N0 0 0 (iN k) (by rw [N0_eq]; omega) (by omega) hk (by omega)
    rw [show iN 0 = 0 from rfl] at h6
    rw [h6, hin, iN_toInt hk]
    simp only [Option.bind_some, bI_0]
    rw [Nat.zero_add, Nat.zero_or]
    have hd : dgF 10 k = dgl k := rfl
    rw [hd, tw_iN hk]
    by_cases c : 1 ≤ k ∧ k ≤ 54321
    · rw [if_neg (by rw [decide_eq_false_iff_not]; omega)]
      have hl : (dgl k).length ≤ 5 := by
        have : dgl k = dgF 5 k := dgF_fu 5 10 k (by omega) (by omega)
        rw [this]; exact dgF_len 5 k
      have hor := orL_lt (l := dgl k) (fun d hd => dgF_lt 10 k d hd)
      have hp : 2 ^ ((dgl k).length + 1) ≤ 2 ^ 6 := Nat.pow_le_pow_right (by omega) (by omega)
      have hp2 : 2 ^ 1 ≤ 2 ^ ((dgl k).length + 1) := Nat.pow_le_pow_right (by omega) (by omega)
      rw [zl_1, zl_2, iN_add, iN_shl (by omega), Nat.one_mul, iN_sub (by omega), jeq (by omega) (by omega)]
      by_cases d : orL (dgl k) = 2 ^ ((dgl k).length + 1) - 2
      · rw [if_pos d, if_pos ⟨d, hl⟩]
      · rw [if_neg d, if_neg (fun h => d h.1)]; rfl
    · rw [if_pos (by rw [decide_eq_false_iff_not]; omega)]
      by_cases d : orL (dgl k) = 2 ^ ((dgl k).length + 1) - 2 ∧ (dgl k).length ≤ 5
      · rw [if_pos d]
        have h1 := or_pm (by omega) rfl d.1
        have h2 := pm_le _ (by omega) _ h1
        rw [num_dgl hk] at h2
        have : k = 0 := by omega
        subst this
        rfl
      · rw [if_neg d]; rfl
  · rw [N0_eq, m_wagonsOf_L6, if_neg (by rw [Int32.lt_iff_toInt_lt, show (0 : Int32).toInt = 0 from rfl]; omega)]
    simp only [Option.bind_some]
    rw [hin, tw_neg hneg]
    simp only [Option.bind_some, bI_0]
    rw [if_pos (by rw [decide_eq_false_iff_not]; omega)]
    rfl
theorem rw_wag_L6 : ∀ (g k f n b : Nat), g < f → k < 2147483648 → n + g = 5 → (k < 10 ^ g → rw_wagons_L6 f (iN k) (iN b) (iN n) = some (iN 0, iN (b ||| orL (dgF g k)), iN (n + (dgF g k).length))) ∧ (10 ^ g ≤ k → ∃ r b2 n2, 0 < r ∧ r < 2147483648 ∧ rw_wagons_L6 f (iN k) (iN b) (iN n) = some (iN r, b2, n2)) := by
  intro g
  induction g with
  | zero =>
    intro k f n b hf hk hn
    obtain ⟨f, rfl⟩ : ∃ h, f = h + 1 := ⟨f - 1, by omega⟩
    refine ⟨fun h => ?_, fun h => ⟨k, iN b, iN n, by omega, hk, ?_⟩⟩
    · have : k = 0 := by simpa using h
      subst this
      rw [rw_wagons_L6, if_neg (by decide)]
      simp [dgF, orL]
    · obtain rfl : n = 5 := by omega
      rw [rw_wagons_L6]
      simp (disch := omega) only [zl_0, zl_1, zl_2, zl_3, zl_4, zl_5, zl_6, zl_7, zl_8, zl_9, zl_10, zl_11, zl_12, zl_15, zl_16, zl_20, zl_24, zl_25, zl_31, zl_32, zl_33, zl_40, zl_45, zl_48, zl_49, zl_50, zl_53, zl_57, zl_59, zl_62, zl_63, zl_64, zl_74, zl_75, zl_99, zl_100, zl_113, zl_115, zl_120, zl_126, zl_153, zl_160, zl_200, zl_255, zl_720, zl_1000, zl_4999, zl_5000, zl_17046, zl_32768, zl_54321, zl_65535, zl_65536, zl_65537, zl_9999, iN_add, iN_mul, iN_sub, iN_dec, iN_dec2, iN_div, iN_irm, iN_lt, iN_le, iN_eq, iN_inb, iN_nat, iN_and, iN_or, iN_shl, iN_shr, iN_shl2, iN_shr2]
      rw [if_pos (by omega), if_neg (by omega)]
  | succ g ih =>
    intro k f n b hf hk hn
    obtain ⟨f, rfl⟩ : ∃ h, f = h + 1 := ⟨f - 1, by omega⟩
    by_cases c : k = 0
    · subst c
      refine ⟨fun _ => ?_, fun h => ?_⟩
      · rw [rw_wagons_L6, if_neg (by decide), dgF, if_pos rfl]
        simp [orL]
      · have := Nat.pow_pos (n := g + 1) (show 0 < 10 by omega)
        omega
    · obtain ⟨i1, i2⟩ := ih (k / 10) f (n + 1) (b ||| 1 * 2 ^ (k % 10)) (by omega) (by omega) (by omega)
      have e : rw_wagons_L6 (f + 1) (iN k) (iN b) (iN n) = rw_wagons_L6 f (iN (k / 10)) (iN (b ||| 1 * 2 ^ (k % 10))) (iN (n + 1)) := by
        rw [rw_wagons_L6]
        simp (disch := omega) only [zl_0, zl_1, zl_2, zl_3, zl_4, zl_5, zl_6, zl_7, zl_8, zl_9, zl_10, zl_11, zl_12, zl_15, zl_16, zl_20, zl_24, zl_25, zl_31, zl_32, zl_33, zl_40, zl_45, zl_48, zl_49, zl_50, zl_53, zl_57, zl_59, zl_62, zl_63, zl_64, zl_74, zl_75, zl_99, zl_100, zl_113, zl_115, zl_120, zl_126, zl_153, zl_160, zl_200, zl_255, zl_720, zl_1000, zl_4999, zl_5000, zl_17046, zl_32768, zl_54321, zl_65535, zl_65536, zl_65537, zl_9999, iN_add, iN_mul, iN_sub, iN_dec, iN_dec2, iN_div, iN_irm, iN_lt, iN_le, iN_eq, iN_inb, iN_nat, iN_and, iN_or, iN_shl, iN_shr, iN_shl2, iN_shr2]
        rw [if_pos (by omega), if_pos (by omega)]
      rw [e]
      refine ⟨fun h => ?_, fun h => i2 (by rw [Nat.pow_succ] at h; omega)⟩
      rw [i1 (by rw [Nat.pow_succ] at h; omega), dgF, if_neg c, orL_app, List.length_append]
      have e1 : b ||| 1 * 2 ^ (k % 10) ||| orL (dgF g (k / 10)) = b ||| (orL (dgF g (k / 10)) ||| 2 ^ (k % 10)) := by
        rw [Nat.one_mul, Nat.or_assoc, Nat.or_comm (2 ^ (k % 10))]
      have e2 : n + 1 + (dgF g (k / 10)).length = n + ((dgF g (k / 10)).length + [k % 10].length) := by
        simp only [List.length_cons, List.length_nil]
        omega
      rw [e1, e2]
theorem rw_wag (x : Int32) : rw_wagons x = some (iN (tw x)) := by
  rw [rw_wagons]
  rcases i_cases x with ⟨k, hk, rfl⟩ | hneg
  · obtain ⟨i1, i2⟩ := rw_wag_L6 5 k N0 0 0 (by rw [N0_eq]; omega) hk rfl
    rw [show iN 0 = 0 from rfl] at i1 i2
    rw [tw_iN hk]
    by_cases c : k < 10 ^ 5
    · rw [i1 c]
      simp only [Option.bind_some]
      rw [rw_wagons_J35, if_pos rfl, Nat.zero_or, Nat.zero_add]
      have hd : dgF 5 k = dgl k := (dgF_fu 5 10 k c (by omega)).symm
      have hl := dgF_len 5 k
      rw [hd] at hl ⊢
      have hor := orL_lt (l := dgl k) (fun d hd => dgF_lt 10 k d hd)
      have hp : 2 ^ ((dgl k).length + 1) ≤ 2 ^ 6 := Nat.pow_le_pow_right (by omega) (by omega)
      have hp2 : 2 ^ 1 ≤ 2 ^ ((dgl k).length + 1) := Nat.pow_le_pow_right (by omega) (by omega)
      by_cases d : 0 < (dgl k).length
      · rw [jlt0 (by omega), if_pos d, rw_setUpTo]
        simp only [Option.bind_some]
        rw [zl_1, zl_2, iN_add, iN_shl (by omega), Nat.one_mul, iN_sub (by omega), jeq (by omega) (by omega)]
        by_cases e : orL (dgl k) = 2 ^ ((dgl k).length + 1) - 2
        · rw [if_pos e, if_pos ⟨e, hl⟩]
        · rw [if_neg e, if_neg (fun h => e h.1)]; rfl
      · rw [jlt0 (by omega), if_neg d]
        have : (dgl k).length = 0 := by omega
        rw [this]
        split <;> rfl
    · obtain ⟨r, b2, n2, h1, h2, h3⟩ := i2 (by omega)
      rw [h3]
      simp only [Option.bind_some]
      rw [rw_wagons_J35, if_neg (by rw [zl_0, iN_eq (by omega) (by omega)]; omega)]
      by_cases d : orL (dgl k) = 2 ^ ((dgl k).length + 1) - 2 ∧ (dgl k).length ≤ 5
      · have h4 := or_pm (by omega) rfl d.1
        have h5 := pm_le _ (by omega) _ h4
        rw [num_dgl hk] at h5
        omega
      · rw [if_neg d]; rfl
  · rw [N0_eq, rw_wagons_L6, if_neg (by rw [Int32.lt_iff_toInt_lt, show (0 : Int32).toInt = 0 from rfl]; omega)]
    simp only [Option.bind_some]
    have hx : ¬ x = 0 := fun h => by rw [h] at hneg; exact absurd hneg (by decide)
    rw [rw_wagons_J35, if_neg hx, tw_neg hneg]
    rfl
theorem tw_some {x : Int32} (h : 0 < tw x) : ∃ l n, tn x = some l ∧ tw x = n ∧ 1 ≤ n ∧ n ≤ 5 ∧ l ∈ pm n ∧ x = iN (num l) ∧ num l ≤ 54321 := by
  unfold tw at h ⊢
  cases e : tn x with
  | none => rw [e] at h; exact absurd h (Nat.lt_irrefl _)
  | some l =>
    obtain ⟨n, h1, h2, h3, h4, h5, h6⟩ := tn_some e
    exact ⟨l, n, rfl, h6, h1, h2, h3, h4, h5⟩
theorem m_two (x y : Int32) : m_areTwo x y = some (bI (decide (0 < tw x ∧ tw y = tw x))) := by
  have h1 := tw_le x
  have h2 := tw_le y
  rw [m_areTwo, m_wag, m_wag]
  simp only [Option.bind_some]
  rw [jlt0 (by omega), jeq (by omega) (by omega)]
  by_cases c : 0 < tw x
  · rw [if_pos c]
    by_cases d : tw y = tw x
    · rw [if_pos d, decide_eq_true ⟨c, d⟩]; rfl
    · rw [if_neg d, decide_eq_false (fun h => d h.2)]; rfl
  · rw [if_neg c, decide_eq_false (fun h => c h.1)]; rfl
theorem so_two (x y : Int32) : so_arePair x y = some (bI (decide (0 < tw x ∧ tw y = tw x))) := by
  have h1 := tw_le x
  have h2 := tw_le y
  rw [so_arePair, rw_wag, rw_wag]
  simp only [Option.bind_some]
  rw [jlt0 (by omega), jeq (by omega) (by omega)]
  by_cases c : 0 < tw x
  · rw [if_pos c]
    by_cases d : tw y = tw x
    · rw [if_pos d, decide_eq_true ⟨c, d⟩]; rfl
    · rw [if_neg d, decide_eq_false (fun h => d h.2)]; rfl
  · rw [if_neg c, decide_eq_false (fun h => c h.1)]; rfl
/-! the class's rows -/
theorem p8 (i : Nat) : 2 ^ (3 * i) = 8 ^ i := by rw [Nat.pow_mul]
theorem and7 (x : Nat) : x &&& 7 = x % 8 := Nat.and_two_pow_sub_one_eq_mod x 3
theorem pk_b {l : List Nat} (h : ∀ d ∈ l, d < 8) (hl : l.length ≤ 5) : pk l < 32768 := by
  have h1 := pk8_lt l h
  have h2 : 8 ^ l.length ≤ 8 ^ 5 := Nat.pow_le_pow_right (by omega) hl
  omega
theorem getD_lt {l : List Nat} {b : Nat} (h : ∀ d ∈ l, d < b) (hb : 0 < b) (i : Nat) : l.getD i 0 < b := by
  rw [List.getD_eq_getElem?_getD]
  cases e : l[i]? with
  | none => simpa using hb
  | some d => exact h d (List.mem_of_getElem? e)
theorem wagonAt_ok {l : List Nat} (h : ∀ d ∈ l, d < 8) (hl : l.length ≤ 5) {i : Nat} (hi : i < 5) : rw_wagonAt (iN (pk l)) (iN i) = some (iN (l.getD i 0)) := by
  have hb := pk_b h hl
  rw [rw_wagonAt]
  simp (disch := omega) only [zl_0, zl_1, zl_2, zl_3, zl_4, zl_5, zl_6, zl_7, zl_8, zl_9, zl_10, zl_11, zl_12, zl_15, zl_16, zl_20, zl_24, zl_25, zl_31, zl_32, zl_33, zl_40, zl_45, zl_48, zl_49, zl_50, zl_53, zl_57, zl_59, zl_62, zl_63, zl_64, zl_74, zl_75, zl_99, zl_100, zl_113, zl_115, zl_120, zl_126, zl_153, zl_160, zl_200, zl_255, zl_720, zl_1000, zl_4999, zl_5000, zl_17046, zl_32768, zl_54321, zl_65535, zl_65536, zl_65537, zl_9999, iN_add, iN_mul, iN_sub, iN_dec, iN_dec2, iN_div, iN_irm, iN_lt, iN_le, iN_eq, iN_inb, iN_nat, iN_and, iN_or, iN_shl, iN_shr, iN_shl2, iN_shr2]
  rw [if_neg (by omega), if_pos (by omega), p8, and7, pk_get l h i]
theorem placeOf_L2 {l : List Nat} (h : ∀ d ∈ l, d < 8) (hl : l.length ≤ 5) {w : Nat} (hw : w ∈ l) : ∀ (d i f : Nat), d < f → i + d = l.idxOf w → rw_placeOf_L2 f (iN (pk l)) (iN w) (iN i) = some (.inr (iN (po l w))) := by
  have hlt := List.idxOf_lt_length_iff.mpr hw
  have hw8 := h w hw
  intro d
  induction d with
  | zero =>
    intro i f hf hi
    obtain ⟨f, rfl⟩ : ∃ g, f = g + 1 := ⟨f - 1, by omega⟩
    rw [rw_placeOf_L2, wagonAt_ok h hl (by omega)]
    simp only [Option.bind_some]
    have e : l.getD i 0 = w := by
      rw [Nat.add_zero] at hi
      rw [hi, List.getD_eq_getElem?_getD, List.getElem?_eq_getElem hlt]
      simp
    rw [zl_5, jlt (by omega) (by omega), if_pos (by omega), e, if_pos rfl, zl_1, iN_add, show i = l.idxOf w by omega]
    rfl
  | succ d ih =>
    intro i f hf hi
    obtain ⟨f, rfl⟩ : ∃ g, f = g + 1 := ⟨f - 1, by omega⟩
    have hil : i < l.length := by omega
    have e : l.getD i 0 ≠ w := by
      rw [List.getD_eq_getElem?_getD, List.getElem?_eq_getElem hil]
      intro h9
      have h7 : i < List.findIdx (· == w) l := show i < l.idxOf w by omega
      have := List.not_of_lt_findIdx h7
      simp at h9
      simp [h9] at this
    have h8 := getD_lt h (by omega) i
    rw [rw_placeOf_L2, wagonAt_ok h hl (by omega)]
    simp only [Option.bind_some]
    rw [zl_5, jlt (by omega) (by omega), if_pos (by omega), jeq (by omega) (by omega), if_neg e, zl_1, iN_add]
    exact ih (i + 1) f (by omega) (by omega)
theorem placeOf_ok {l : List Nat} (h : ∀ d ∈ l, d < 8) (hl : l.length ≤ 5) {w : Nat} (hw : w ∈ l) : rw_placeOf (iN (pk l)) (iN w) = some (iN (po l w)) := by
  have hlt := List.idxOf_lt_length_iff.mpr hw
  have := placeOf_L2 h hl hw (l.idxOf w) 0 N0 (by rw [N0_eq]; omega) (by omega)
  rw [show iN 0 = 0 from rfl] at this
  rw [rw_placeOf, this]
  rfl
theorem or_add {x y i : Nat} (h : x < 8 ^ i) : x ||| y * 2 ^ (3 * i) = x + y * 8 ^ i := by
  rw [p8]
  have h2 : x < 2 ^ (3 * i) := by rw [p8]; exact h
  have := Nat.two_pow_add_eq_or_of_lt h2 y
  rw [p8] at this
  rw [Nat.or_comm, Nat.mul_comm y, ← this]
  omega
theorem rel_L5 {t o : List Nat} {n : Nat} (ht : t ∈ pm n) (ho : o ∈ pm n) (hn : n ≤ 5) : ∀ (d i f : Nat), d < f → i + d = n → rw_relative_L5 f (iN (pk t)) (iN (pk o)) (iN n) (iN (pk ((rel t o).take i))) (iN i) = some (iN (pk (rel t o))) := by
  have t8 : ∀ d ∈ t, d < 8 := fun d hd => by have := (pm_mem ht).mp hd; omega
  have o8 : ∀ d ∈ o, d < 8 := fun d hd => by have := (pm_mem ho).mp hd; omega
  have r8 : ∀ d ∈ rel t o, d < 8 := fun d hd => by have := (pm_mem (rel_mem ht ho)).mp hd; omega
  have tl := pm_len ht
  have ol := pm_len ho
  have rl := pm_len (rel_mem ht ho)
  intro d
  induction d with
  | zero =>
    intro i f hf hi
    obtain ⟨f, rfl⟩ : ∃ g, f = g + 1 := ⟨f - 1, by omega⟩
    rw [rw_relative_L5, jlt (by omega) (by omega), if_neg (by omega), List.take_of_length_le (by omega)]
  | succ d ih =>
    intro i f hf hi
    obtain ⟨f, rfl⟩ : ∃ g, f = g + 1 := ⟨f - 1, by omega⟩
    have hw : o.getD i 0 ∈ t := by
      rw [List.getD_eq_getElem?_getD, List.getElem?_eq_getElem (by omega)]
      exact (pm_mem ht).mpr ((pm_mem ho).mp (List.getElem_mem (show i < o.length by omega)))
    rw [rw_relative_L5, jlt (by omega) (by omega), if_pos (by omega), zl_5, jlt (by omega) (by omega), if_pos (by omega), wagonAt_ok o8 (by omega) (by omega)]
    simp only [Option.bind_some]
    rw [placeOf_ok t8 (by omega) hw]
    simp only [Option.bind_some]
    have hp := pk8_lt ((rel t o).take i) (fun d hd => r8 d (List.mem_of_mem_take hd))
    rw [List.length_take, Nat.min_eq_left (by omega)] at hp
    simp (disch := omega) only [zl_0, zl_1, zl_2, zl_3, zl_4, zl_5, zl_6, zl_7, zl_8, zl_9, zl_10, zl_11, zl_12, zl_15, zl_16, zl_20, zl_24, zl_25, zl_31, zl_32, zl_33, zl_40, zl_45, zl_48, zl_49, zl_50, zl_53, zl_57, zl_59, zl_62, zl_63, zl_64, zl_74, zl_75, zl_99, zl_100, zl_113, zl_115, zl_120, zl_126, zl_153, zl_160, zl_200, zl_255, zl_720, zl_1000, zl_4999, zl_5000, zl_17046, zl_32768, zl_54321, zl_65535, zl_65536, zl_65537, zl_9999, iN_add, iN_mul, iN_sub, iN_dec, iN_dec2, iN_div, iN_irm, iN_lt, iN_le, iN_eq, iN_inb, iN_nat, iN_and, iN_or, iN_shl, iN_shr, iN_shl2, iN_shr2]
    rw [or_add hp]
    have := ih (i + 1) f (by omega) (by omega)
    rw [take_snoc (by omega), pk_app, List.length_take, Nat.min_eq_left (by omega)] at this
    have e : (rel t o).getD i 0 = po t (o.getD i 0) := by
      unfold rel
      rw [List.getD_eq_getElem?_getD, List.getElem?_map, List.getD_eq_getElem?_getD, List.getElem?_eq_getElem (show i < o.length by omega)]
      rfl
    rw [e] at this
    exact this
theorem rel_ok {t o : List Nat} {n : Nat} (ht : t ∈ pm n) (ho : o ∈ pm n) (hn : n ≤ 5) : rw_relative (iN (pk t)) (iN (pk o)) (iN n) = some (iN (pk (rel t o))) := by
  have := rel_L5 ht ho hn n 0 N0 (by rw [N0_eq]; omega) (by omega)
  rw [List.take_zero, show iN (pk []) = 0 from rfl, show iN 0 = 0 from rfl] at this
  rw [rw_relative, this]
  rfl
theorem toN_L4 {l : List Nat} (h : ∀ d ∈ l, 1 ≤ d ∧ d < 8) (hl : l.length ≤ 5) : ∀ (d i f : Nat), d < f → i + d = l.length → rw_toNumber_L4 f (iN (pk l)) (iN (num (l.take i))) (iN i) = some (iN (num l)) := by
  have h8 : ∀ d ∈ l, d < 8 := fun d hd => (h d hd).2
  intro d
  induction d with
  | zero =>
    intro i f hf hi
    obtain ⟨f, rfl⟩ : ∃ g, f = g + 1 := ⟨f - 1, by omega⟩
    rw [List.take_of_length_le (by omega), rw_toNumber_L4, zl_5, jlt (by omega) (by omega)]
    by_cases c : i < 5
    · rw [if_pos c, wagonAt_ok h8 hl c]
      simp only [Option.bind_some]
      have : l.getD i 0 = 0 := by rw [List.getD_eq_getElem?_getD, List.getElem?_eq_none (by omega)]; rfl
      rw [this, jlt0 (by omega), if_neg (by omega)]
    · rw [if_neg c]
  | succ d ih =>
    intro i f hf hi
    obtain ⟨f, rfl⟩ : ∃ g, f = g + 1 := ⟨f - 1, by omega⟩
    have hm : l.getD i 0 ∈ l := by
      rw [List.getD_eq_getElem?_getD, List.getElem?_eq_getElem (by omega)]
      exact List.getElem_mem (show i < l.length by omega)
    have hb := h _ hm
    rw [rw_toNumber_L4, zl_5, jlt (by omega) (by omega), if_pos (by omega), wagonAt_ok h8 hl (by omega)]
    simp only [Option.bind_some]
    rw [jlt0 (by omega), if_pos (by omega), zl_10, zl_1, iN_mul, iN_add, iN_add]
    have := ih (i + 1) f (by omega) (by omega)
    rw [take_snoc (by omega), num_app, Nat.mul_comm 10] at this
    exact this
theorem toN_ok {l : List Nat} (h : ∀ d ∈ l, 1 ≤ d ∧ d < 8) (hl : l.length ≤ 5) : rw_toNumber (iN (pk l)) = some (iN (num l)) := by
  have := toN_L4 h hl l.length 0 N0 (by rw [N0_eq]; omega) (by omega)
  rw [List.take_zero, show iN (num []) = 0 from rfl, show iN 0 = 0 from rfl] at this
  rw [rw_toNumber, this]
  rfl
/-- a row of places, with the wagons' own numbers -/
def nm (t l : List Nat) : List Nat := l.map (fun p => t.getD (p - 1) 0)
theorem nam_L4 {t l : List Nat} (t8 : ∀ d ∈ t, d < 8) (tl : t.length ≤ 5) (h : ∀ d ∈ l, 1 ≤ d ∧ d ≤ 5) (hl : l.length ≤ 5) : ∀ (d i f : Nat), d < f → i + d = l.length → rw_named_L4 f (iN (pk l)) (iN (pk t)) (iN (pk ((nm t l).take i))) (iN i) = some (iN (pk (nm t l))) := by
  have h8 : ∀ d ∈ l, d < 8 := fun d hd => by have := h d hd; omega
  have nl : (nm t l).length = l.length := by simp [nm]
  have n8 : ∀ d ∈ nm t l, d < 8 := by
    intro d hd
    obtain ⟨p, hp, rfl⟩ := List.mem_map.mp hd
    exact getD_lt t8 (by omega) _
  intro d
  induction d with
  | zero =>
    intro i f hf hi
    obtain ⟨f, rfl⟩ : ∃ g, f = g + 1 := ⟨f - 1, by omega⟩
    rw [List.take_of_length_le (by omega), rw_named_L4, zl_5, jlt (by omega) (by omega)]
    by_cases c : i < 5
    · rw [if_pos c, wagonAt_ok h8 hl c]
      simp only [Option.bind_some]
      have : l.getD i 0 = 0 := by rw [List.getD_eq_getElem?_getD, List.getElem?_eq_none (by omega)]; rfl
      rw [this, jlt0 (by omega), if_neg (by omega)]
    · rw [if_neg c]
  | succ d ih =>
    intro i f hf hi
    obtain ⟨f, rfl⟩ : ∃ g, f = g + 1 := ⟨f - 1, by omega⟩
    have hm : l.getD i 0 ∈ l := by
      rw [List.getD_eq_getElem?_getD, List.getElem?_eq_getElem (by omega)]
      exact List.getElem_mem (show i < l.length by omega)
    have hb := h _ hm
    have hp := pk8_lt ((nm t l).take i) (fun d hd => n8 d (List.mem_of_mem_take hd))
    rw [List.length_take, Nat.min_eq_left (by omega)] at hp
    rw [rw_named_L4, zl_5, jlt (by omega) (by omega), if_pos (by omega), wagonAt_ok h8 hl (by omega)]
    simp only [Option.bind_some]
    rw [jlt0 (by omega), if_pos (by omega), zl_1, iN_sub (by omega), wagonAt_ok t8 tl (by omega)]
    simp only [Option.bind_some]
    simp (disch := omega) only [zl_0, zl_1, zl_2, zl_3, zl_4, zl_5, zl_6, zl_7, zl_8, zl_9, zl_10, zl_11, zl_12, zl_15, zl_16, zl_20, zl_24, zl_25, zl_31, zl_32, zl_33, zl_40, zl_45, zl_48, zl_49, zl_50, zl_53, zl_57, zl_59, zl_62, zl_63, zl_64, zl_74, zl_75, zl_99, zl_100, zl_113, zl_115, zl_120, zl_126, zl_153, zl_160, zl_200, zl_255, zl_720, zl_1000, zl_4999, zl_5000, zl_17046, zl_32768, zl_54321, zl_65535, zl_65536, zl_65537, zl_9999, iN_add, iN_mul, iN_sub, iN_dec, iN_dec2, iN_div, iN_irm, iN_lt, iN_le, iN_eq, iN_inb, iN_nat, iN_and, iN_or, iN_shl, iN_shr, iN_shl2, iN_shr2]
    rw [or_add hp]
    have := ih (i + 1) f (by omega) (by omega)
    rw [take_snoc (by omega), pk_app, List.length_take, Nat.min_eq_left (by omega)] at this
    have e : (nm t l).getD i 0 = t.getD (l.getD i 0 - 1) 0 := by
      unfold nm
      rw [List.getD_eq_getElem?_getD, List.getElem?_map, List.getD_eq_getElem?_getD (l := l), List.getElem?_eq_getElem (show i < l.length by omega)]
      rfl
    rw [e] at this
    exact this
theorem nam_ok {t l : List Nat} (t8 : ∀ d ∈ t, d < 8) (tl : t.length ≤ 5) (h : ∀ d ∈ l, 1 ≤ d ∧ d ≤ 5) (hl : l.length ≤ 5) : rw_named (iN (pk l)) (iN (pk t)) = some (iN (pk (nm t l))) := by
  have := nam_L4 t8 tl h hl l.length 0 N0 (by rw [N0_eq]; omega) (by omega)
  rw [List.take_zero, show iN (pk []) = 0 from rfl, show iN 0 = 0 from rfl] at this
  rw [rw_named, this]
  rfl
