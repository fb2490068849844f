/-! THE REFERENCE: image, restore -/
def fi (k : Nat) : Nat := [4, 5, 10, 11, 35, 36, 37, 39].getD k 0
def fa (k : Nat) : Nat := if k < 32 then [1, 2, 3, 5, 6, 7].getD ((k - 8) % 6) 0 else if k < 38 then (if k % 2 = 0 then 4 else 8) else 27
def fx (k : Nat) : Nat := if k < 32 then (k - 8) / 6 else if k < 38 then (k - 32) / 2 else k - 38
def fld (σ : MS) (k : Nat) : Int32 := if k < 8 then gI σ (fi k) else av σ (fa k) (fx k)
def setF (σ : MS) (k : Nat) (v : Int32) : MS := if k < 8 then sI σ (fi k) v else sA σ (fa k) (iN (fx k)) v
theorem fi_inj : ∀ j, j < 8 → ∀ k, k < 8 → fi j = fi k → j = k := by decide
theorem fi_no : ∀ j, j < 8 → fi j ≠ 42 ∧ fi j ≠ 43 ∧ [4, 5, 10, 11, 35, 36, 37, 39].contains (fi j) = true := by decide
def faxB (j k : Nat) : Bool := !(decide (8 ≤ j) && (decide (8 ≤ k) && (decide (fa j = fa k) && decide (fx j = fx k)))) || decide (j = k)
theorem faxB_all : ∀ j, j < 79 → ∀ k, k < 79 → faxB j k = true := by decide +kernel
theorem fax_inj (j : Nat) (hj : j < 79) (k : Nat) (hk : k < 79) (h1 : 8 ≤ j) (h2 : 8 ≤ k) (h3 : fa j = fa k) (h4 : fx j = fx k) : j = k := by
  have h := faxB_all j hj k hk
  unfold faxB at h
  rw [decide_eq_true h1, decide_eq_true h2, decide_eq_true h3, decide_eq_true h4] at h
  simpa using h
theorem fa_no : ∀ j, j < 79 → fa j ≠ 28 ∧ [1, 2, 3, 4, 5, 6, 7, 8, 27].contains (fa j) = true ∧ fx j < 100 := by decide +kernel
theorem setF_g {σ : MS} {k : Nat} {v : Int32} {j : Nat} (h : 8 ≤ k ∨ fi k ≠ j) : gI (setF σ k v) j = gI σ j := by
  unfold setF
  by_cases c : k < 8
  · rw [if_pos c, gI_sI, if_neg (fun e => by rcases h with h | h; omega; exact h e.symm)]
  · rw [if_neg c, gI_sA]
theorem setF_a {σ : MS} {k : Nat} (hk : k < 79) {v : Int32} {a j : Nat} (h : k < 8 ∨ ¬ (fa k = a ∧ fx k = j)) : av (setF σ k v) a j = av σ a j := by
  have := (fa_no k hk).2.2
  unfold setF
  by_cases c : k < 8
  · rw [if_pos c, av_sI]
  · rw [if_neg c, av_sA (by omega)]
    by_cases e : a = fa k
    · rw [if_pos e, if_neg (fun e2 => by rcases h with h | h; omega; exact h ⟨e.symm, e2.symm⟩)]
    · rw [if_neg e]
theorem setF_w {σ : MS} {k : Nat} {v : Int32} {a j : Nat} : wv (setF σ k v) a j = wv σ a j := by
  unfold setF
  by_cases c : k < 8
  · rw [if_pos c, wv_sI]
  · rw [if_neg c, wv_sA]
theorem fld_setF {σ : MS} {j k : Nat} (hj : j < 79) (hk : k < 79) {v : Int32} : fld (setF σ j v) k = if k = j then v else fld σ k := by
  unfold fld
  by_cases ck : k < 8
  · rw [if_pos ck, if_pos ck]
    by_cases cj : j < 8
    · unfold setF
      rw [if_pos cj, gI_sI]
      by_cases e : k = j
      · rw [if_pos e, if_pos (by rw [e])]
      · rw [if_neg e, if_neg (fun h9 => e (fi_inj k ck j cj h9))]
    · rw [setF_g (Or.inl (by omega)), if_neg (by omega)]
  · rw [if_neg ck, if_neg ck]
    by_cases cj : j < 8
    · rw [setF_a hj (Or.inl cj), if_neg (by omega)]
    · by_cases e : k = j
      · rw [if_pos e, e]
        unfold setF
        have := (fa_no j hj).2.2
        rw [if_neg cj, av_sA (by omega), if_pos rfl, if_pos rfl]
      · rw [if_neg e, setF_a hj (Or.inr (fun h9 => e (fax_inj k hk j hj (by omega) (by omega) h9.1.symm h9.2.symm)))]
/-- one more is passed -/
def stp1 (b : Nat) (σ : MS) (j : Nat) : MS :=
  setF (sI (sA σ 28 (iN (b + j)) (if gI σ 43 = 0 then av σ 28 (b + j) else fld σ j)) 42 (iN (b + j + 1))) j (if gI σ 43 = 0 then av σ 28 (b + j) else fld σ j)
def stN (b : Nat) (σ : MS) : Nat → MS
  | 0 => σ
  | j + 1 => stp1 b (stN b σ j) j
def vN (b : Nat) (σ : MS) (j : Nat) : Int32 := if gI σ 43 = 0 then av σ 28 (b + j) else fld σ j
theorem stN_ok {b : Nat} (hb : b + 79 ≤ 200) {σ : MS} (h42 : gI σ 42 = iN b) : ∀ j, j ≤ 79 → gI (stN b σ j) 42 = iN (b + j) ∧ gI (stN b σ j) 43 = gI σ 43 ∧ (∀ k, k < 79 → fld (stN b σ j) k = if k < j then vN b σ k else fld σ k) ∧ (∀ k, av (stN b σ j) 28 k = if b ≤ k ∧ k < b + j then vN b σ (k - b) else av σ 28 k) ∧
    (∀ k, k ∉ [4, 5, 10, 11, 35, 36, 37, 39, 42] → gI (stN b σ j) k = gI σ k) ∧ (∀ a, a ∉ [1, 2, 3, 4, 5, 6, 7, 8, 27, 28] → ∀ k, av (stN b σ j) a k = av σ a k) ∧ (∀ a k, wv (stN b σ j) a k = wv σ a k) := by
  intro j
  induction j with
  | zero => intro _; exact ⟨h42, rfl, fun k _ => by rw [if_neg (by omega)]; rfl, fun k => by rw [if_neg (by omega)]; rfl, fun _ _ => rfl, fun _ _ _ => rfl, fun _ _ => rfl⟩
  | succ j ih =>
    intro hj
    obtain ⟨i1, i2, i3, i4, i5, i6, i7⟩ := ih (by omega)
    have hv : (if gI (stN b σ j) 43 = 0 then av (stN b σ j) 28 (b + j) else fld (stN b σ j) j) = vN b σ j := by
      rw [i2, i4, i3 j (by omega), if_neg (show ¬ (b ≤ b + j ∧ b + j < b + j) by omega), if_neg (show ¬ j < j by omega)]
      rfl
    have hst : stN b σ (j + 1) = setF (sI (sA (stN b σ j) 28 (iN (b + j)) (vN b σ j)) 42 (iN (b + j + 1))) j (vN b σ j) := by
      show stp1 b (stN b σ j) j = _
      unfold stp1
      rw [hv]
    have hno := fa_no j (by omega)
    have hg : ∀ k, (j < 8 → fi j ≠ k) → gI (stN b σ (j + 1)) k = if k = 42 then iN (b + j + 1) else gI (stN b σ j) k := by
      intro k hk
      rw [hst, setF_g (by rcases Nat.lt_or_ge j 8 with h | h; exact Or.inr (hk h); exact Or.inl h), gI_sI, gI_sA]
    refine ⟨?_, ?_, fun k hk => ?_, fun k => ?_, fun k hk => ?_, fun a ha k => ?_, fun a k => ?_⟩
    · rw [hg 42 (fun h => (fi_no j h).1), if_pos rfl, Nat.add_assoc]
    · rw [hg 43 (fun h => (fi_no j h).2.1), if_neg (by decide), i2]
    · rw [hst, fld_setF (by omega) hk]
      by_cases e : k = j
      · rw [if_pos e, if_pos (by omega), e]
      · rw [if_neg e]
        have : fld (sI (sA (stN b σ j) 28 (iN (b + j)) (vN b σ j)) 42 (iN (b + j + 1))) k = fld (stN b σ j) k := by
          unfold fld
          by_cases ck : k < 8
          · rw [if_pos ck, if_pos ck, gI_sI, if_neg (fi_no k ck).1, gI_sA]
          · rw [if_neg ck, if_neg ck, av_sI, av_sA (by omega), if_neg (fa_no k hk).1]
        rw [this, i3 k hk]
        by_cases c : k < j
        · rw [if_pos c, if_pos (by omega)]
        · rw [if_neg c, if_neg (by omega)]
    · rw [hst, setF_a (by omega) (Or.inr (fun h9 => hno.1 h9.1)), av_sI, av_sA (by omega), if_pos rfl, i4]
      by_cases e : k = b + j
      · rw [if_pos e, if_pos (by omega), e, Nat.add_sub_cancel_left]
      · rw [if_neg e]
        by_cases c : b ≤ k ∧ k < b + j
        · rw [if_pos c, if_pos (by omega)]
        · rw [if_neg c, if_neg (by omega)]
    · have hk42 : k ≠ 42 := fun e => hk (by rw [e]; decide)
      rw [hg k (fun h e => hk (by
        have := (fi_no j h).2.2
        rw [e] at this
        have h9 : k ∈ [4, 5, 10, 11, 35, 36, 37, 39] := List.contains_iff_mem.mp this
        revert h9
        simp only [List.mem_cons, List.not_mem_nil, or_false]
        omega)), if_neg hk42]
      exact i5 k hk
    · have h28 : a ≠ 28 := fun e => ha (by rw [e]; decide)
      rw [hst, setF_a (by omega) (Or.inr (fun h9 => ha (by
        have := hno.2.1
        rw [h9.1] at this
        have h8 : a ∈ [1, 2, 3, 4, 5, 6, 7, 8, 27] := List.contains_iff_mem.mp this
        revert h8
        simp only [List.mem_cons, List.not_mem_nil, or_false]
        omega))), av_sI, av_sA (by omega), if_neg h28]
      exact i6 a ha k
    · rw [hst, setF_w, wv_sI, wv_sA]
      exact i7 a k
theorem pass_ok {σ : MS} {b j : Nat} (hb : b + j < 200) (h42 : gI σ 42 = iN (b + j)) (x : Int32) : m_pass σ x = some ((if gI σ 43 = 0 then av σ 28 (b + j) else x), sI (sA σ 28 (iN (b + j)) (if gI σ 43 = 0 then av σ 28 (b + j) else x)) 42 (iN (b + j + 1))) := by
  have hin : inb (iN (b + j)) 200 := by rw [iN_inb (by omega)]; exact hb
  rw [m_pass, h42, if_pos hin, gA_av (by omega)]
  have hJ : ∀ w, m_pass_J20 σ w = some (w, sI (sA σ 28 (iN (b + j)) w) 42 (iN (b + j + 1))) := by
    intro w
    rw [m_pass_J20, h42, if_pos hin, zl_1, iN_add]
  by_cases c : gI σ 43 = 0
  · rw [if_pos c, if_pos c, hJ]
  · rw [if_neg c, if_neg c, hJ]
theorem pass_st {b : Nat} (hb : b + 79 ≤ 200) {σ : MS} (h42 : gI σ 42 = iN b) {j : Nat} (hj : j < 79) : ∃ v s, m_pass (stN b σ j) (fld (stN b σ j) j) = some (v, s) ∧ setF s j v = stN b σ (j + 1) ∧ (∀ k, k < 79 → fld s k = fld (stN b σ j) k) := by
  obtain ⟨i1, _⟩ := stN_ok hb h42 j (by omega)
  refine ⟨_, _, pass_ok (by omega) i1 _, rfl, fun k hk => ?_⟩
  unfold fld
  by_cases ck : k < 8
  · rw [if_pos ck, if_pos ck, gI_sI, if_neg (fi_no k ck).1, gI_sA]
  · rw [if_neg ck, if_neg ck, av_sI, av_sA (by omega), if_neg (fa_no k hk).1]
/-- the value handed over next, read where the model reads it -/
theorem fld_next {b : Nat} {σ s : MS} {v : Int32} {j : Nat} (hj : j + 1 < 79) (h1 : setF s j v = stN b σ (j + 1)) : fld (stN b σ (j + 1)) (j + 1) = fld s (j + 1) := by
  rw [← h1, fld_setF (by omega) hj, if_neg (by omega)]
theorem t_fl98 : ∀ i, i < 4 → fa (8 + 6 * i) = 1 ∧ fa (9 + 6 * i) = 2 ∧ fa (10 + 6 * i) = 3 ∧ fa (11 + 6 * i) = 5 ∧ fa (12 + 6 * i) = 6 ∧ fa (13 + 6 * i) = 7 ∧ fx (8 + 6 * i) = i ∧ fx (9 + 6 * i) = i ∧ fx (10 + 6 * i) = i ∧ fx (11 + 6 * i) = i ∧ fx (12 + 6 * i) = i ∧ fx (13 + 6 * i) = i := by decide
theorem t_fl207 : ∀ k, k < 3 → fa (32 + 2 * k) = 4 ∧ fa (33 + 2 * k) = 8 ∧ fx (32 + 2 * k) = k ∧ fx (33 + 2 * k) = k := by decide
theorem t_fl252 : ∀ k, k < 41 → fa (38 + k) = 27 ∧ fx (38 + k) = k := by decide
theorem fld_a {σ : MS} {k a x : Nat} (hk : 8 ≤ k) (ha : fa k = a) (hx : fx k = x) : fld σ k = av σ a x := by
  unfold fld
  rw [if_neg (by omega), ha, hx]
theorem setF_e {σ : MS} {k a x : Nat} (hk : 8 ≤ k) (ha : fa k = a) (hx : fx k = x) (v : Int32) : setF σ k v = sA σ a (iN x) v := by
  unfold setF
  rw [if_neg (by omega), ha, hx]
theorem passAll_L98 {b : Nat} (hb : b + 79 ≤ 200) {σ : MS} (h42 : gI σ 42 = iN b) : ∀ (d i f : Nat), d < f → i + d = 4 → m_passAll_L98 f (stN b σ (8 + 6 * i)) (iN i) = some (stN b σ 32) := by
  intro d
  induction d with
  | zero =>
    intro i f hf hi
    obtain ⟨f, rfl⟩ : ∃ g, f = g + 1 := ⟨f - 1, by omega⟩
    obtain rfl : i = 4 := by omega
    rw [m_passAll_L98, if_neg (by decide)]
  | succ d ih =>
    intro i f hf hi
    obtain ⟨f, rfl⟩ : ∃ g, f = g + 1 := ⟨f - 1, by omega⟩
    have hin : inb (iN i) 4 := by rw [iN_inb (by omega)]; omega
    obtain ⟨c0, c1, c2, c3, c4, c5, x0, x1, x2, x3, x4, x5⟩ := t_fl98 i (by omega)
    obtain ⟨v0, s0, p0, q0, r0⟩ := pass_st hb h42 (j := 8 + 6 * i) (by omega)
    obtain ⟨v1, s1, p1, q1, r1⟩ := pass_st hb h42 (j := 8 + 6 * i + 1) (by omega)
    obtain ⟨v2, s2, p2, q2, r2⟩ := pass_st hb h42 (j := 8 + 6 * i + 1 + 1) (by omega)
    obtain ⟨v3, s3, p3, q3, r3⟩ := pass_st hb h42 (j := 8 + 6 * i + 1 + 1 + 1) (by omega)
    obtain ⟨v4, s4, p4, q4, r4⟩ := pass_st hb h42 (j := 8 + 6 * i + 1 + 1 + 1 + 1) (by omega)
    obtain ⟨v5, s5, p5, q5, r5⟩ := pass_st hb h42 (j := 8 + 6 * i + 1 + 1 + 1 + 1 + 1) (by omega)
    rw [fld_next (by omega) q0] at p1
    rw [fld_next (by omega) q1] at p2
    rw [fld_next (by omega) q2] at p3
    rw [fld_next (by omega) q3] at p4
    rw [fld_next (by omega) q4] at p5
    rw [← q0] at p1
    rw [← q1] at p2
    rw [← q2] at p3
    rw [← q3] at p4
    rw [← q4] at p5
    have e1 : 8 + 6 * i + 1 = 9 + 6 * i := by omega
    have e2 : 8 + 6 * i + 1 + 1 = 10 + 6 * i := by omega
    have e3 : 8 + 6 * i + 1 + 1 + 1 = 11 + 6 * i := by omega
    have e4 : 8 + 6 * i + 1 + 1 + 1 + 1 = 12 + 6 * i := by omega
    have e5 : 8 + 6 * i + 1 + 1 + 1 + 1 + 1 = 13 + 6 * i := by omega
    rw [fld_a (by omega) c0 x0] at p0
    rw [e1, setF_e (by omega) c0 x0, fld_a (by omega) c1 x1] at p1
    rw [e2, e1, setF_e (by omega) c1 x1, fld_a (by omega) c2 x2] at p2
    rw [e3, e2, setF_e (by omega) c2 x2, fld_a (by omega) c3 x3] at p3
    rw [e4, e3, setF_e (by omega) c3 x3, fld_a (by omega) c4 x4] at p4
    rw [e5, e4, setF_e (by omega) c4 x4, fld_a (by omega) c5 x5] at p5
    rw [e5, setF_e (by omega) c5 x5] at q5
    rw [m_passAll_L98, zl_4, jlt (by omega) (by omega), if_pos (by omega), if_pos hin, gA_av (by omega), p0]
    simp only [Option.bind_some]
    rw [if_pos ⟨hin, hin⟩, gA_av (by omega), p1]
    simp only [Option.bind_some]
    rw [if_pos ⟨hin, hin⟩, gA_av (by omega), p2]
    simp only [Option.bind_some]
    rw [if_pos ⟨hin, hin⟩, gA_av (by omega), p3]
    simp only [Option.bind_some]
    rw [if_pos ⟨hin, hin⟩, gA_av (by omega), p4]
    simp only [Option.bind_some]
    rw [if_pos ⟨hin, hin⟩, gA_av (by omega), p5]
    simp only [Option.bind_some]
    rw [if_pos hin, q5, zl_1, iN_add, show 13 + 6 * i + 1 = 8 + 6 * (i + 1) by omega]
    exact ih (i + 1) f (by omega) (by omega)
theorem passAll_L207 {b : Nat} (hb : b + 79 ≤ 200) {σ : MS} (h42 : gI σ 42 = iN b) : ∀ (d i f : Nat), d < f → i + d = 3 → m_passAll_L207 f (stN b σ (32 + 2 * i)) (iN i) = some (stN b σ 38) := by
  intro d
  induction d with
  | zero =>
    intro i f hf hi
    obtain ⟨f, rfl⟩ : ∃ g, f = g + 1 := ⟨f - 1, by omega⟩
    obtain rfl : i = 3 := by omega
    rw [m_passAll_L207, if_neg (by decide)]
  | succ d ih =>
    intro i f hf hi
    obtain ⟨f, rfl⟩ : ∃ g, f = g + 1 := ⟨f - 1, by omega⟩
    have hin : inb (iN i) 3 := by rw [iN_inb (by omega)]; omega
    obtain ⟨c0, c1, x0, x1⟩ := t_fl207 i (by omega)
    obtain ⟨v0, s0, p0, q0, r0⟩ := pass_st hb h42 (j := 32 + 2 * i) (by omega)
    obtain ⟨v1, s1, p1, q1, r1⟩ := pass_st hb h42 (j := 32 + 2 * i + 1) (by omega)
    rw [fld_next (by omega) q0] at p1
    rw [← q0] at p1
    have e1 : 32 + 2 * i + 1 = 33 + 2 * i := by omega
    rw [fld_a (by omega) c0 x0] at p0
    rw [e1, setF_e (by omega) c0 x0, fld_a (by omega) c1 x1] at p1
    rw [e1, setF_e (by omega) c1 x1] at q1
    rw [m_passAll_L207, zl_3, jlt (by omega) (by omega), if_pos (by omega), if_pos hin, gA_av (by omega), p0]
    simp only [Option.bind_some]
    rw [if_pos ⟨hin, hin⟩, gA_av (by omega), p1]
    simp only [Option.bind_some]
    rw [if_pos hin, q1, zl_1, iN_add, show 33 + 2 * i + 1 = 32 + 2 * (i + 1) by omega]
    exact ih (i + 1) f (by omega) (by omega)
theorem passAll_L252 {b : Nat} (hb : b + 79 ≤ 200) {σ : MS} (h42 : gI σ 42 = iN b) : ∀ (d i f : Nat), d < f → i + d = 41 → m_passAll_L252 f (stN b σ (38 + i)) (iN i) = some (stN b σ 79) := by
  intro d
  induction d with
  | zero =>
    intro i f hf hi
    obtain ⟨f, rfl⟩ : ∃ g, f = g + 1 := ⟨f - 1, by omega⟩
    obtain rfl : i = 41 := by omega
    rw [m_passAll_L252, if_pos (by decide)]
  | succ d ih =>
    intro i f hf hi
    obtain ⟨f, rfl⟩ : ∃ g, f = g + 1 := ⟨f - 1, by omega⟩
    have hin : inb (iN i) 41 := by rw [iN_inb (by omega)]; omega
    obtain ⟨c0, x0⟩ := t_fl252 i (by omega)
    obtain ⟨v0, s0, p0, q0, r0⟩ := pass_st hb h42 (j := 38 + i) (by omega)
    rw [fld_a (by omega) c0 x0] at p0
    rw [setF_e (by omega) c0 x0] at q0
    rw [m_passAll_L252, zl_40, jlt (by omega) (by omega), if_neg (by omega), if_pos hin, gA_av (by omega), p0]
    simp only [Option.bind_some]
    rw [if_pos hin, q0, zl_1, iN_add]
    exact ih (i + 1) f (by omega) (by omega)
theorem passAll_ok {b : Nat} (hb : b + 79 ≤ 200) {σ : MS} (h42 : gI σ 42 = iN b) : m_passAll σ = (m_forget (stN b σ 79)).bind fun q => some q := by
  obtain ⟨v0, s0, p0, q0, r0⟩ := pass_st hb h42 (j := 0) (by omega)
  obtain ⟨v1, s1, p1, q1, r1⟩ := pass_st hb h42 (j := 1) (by omega)
  obtain ⟨v2, s2, p2, q2, r2⟩ := pass_st hb h42 (j := 2) (by omega)
  obtain ⟨v3, s3, p3, q3, r3⟩ := pass_st hb h42 (j := 3) (by omega)
  obtain ⟨v4, s4, p4, q4, r4⟩ := pass_st hb h42 (j := 4) (by omega)
  obtain ⟨v5, s5, p5, q5, r5⟩ := pass_st hb h42 (j := 5) (by omega)
  obtain ⟨v6, s6, p6, q6, r6⟩ := pass_st hb h42 (j := 6) (by omega)
  obtain ⟨v7, s7, p7, q7, r7⟩ := pass_st hb h42 (j := 7) (by omega)
  rw [fld_next (j := 0) (by omega) q0, ← q0] at p1
  rw [fld_next (j := 1) (by omega) q1, ← q1] at p2
  rw [fld_next (j := 2) (by omega) q2, ← q2] at p3
  rw [fld_next (j := 3) (by omega) q3, ← q3] at p4
  rw [fld_next (j := 4) (by omega) q4, ← q4] at p5
  rw [fld_next (j := 5) (by omega) q5, ← q5] at p6
  rw [fld_next (j := 6) (by omega) q6, ← q6] at p7
  have p0' : m_pass σ (gI σ 4) = some (v0, s0) := p0
  have p1' : m_pass (sI s0 4 v0) (gI s0 5) = some (v1, s1) := p1
  have p2' : m_pass (sI s1 5 v1) (gI s1 10) = some (v2, s2) := p2
  have p3' : m_pass (sI s2 10 v2) (gI s2 11) = some (v3, s3) := p3
  have p4' : m_pass (sI s3 11 v3) (gI s3 35) = some (v4, s4) := p4
  have p5' : m_pass (sI s4 35 v4) (gI s4 36) = some (v5, s5) := p5
  have p6' : m_pass (sI s5 36 v5) (gI s5 37) = some (v6, s6) := p6
  have p7' : m_pass (sI s6 37 v6) (gI s6 39) = some (v7, s7) := p7
  have q7' : sI s7 39 v7 = stN b σ 8 := q7
  have l1 := passAll_L98 hb h42 4 0 N0 (by rw [N0_eq]; omega) rfl
  have l2 := passAll_L207 hb h42 3 0 N0 (by rw [N0_eq]; omega) rfl
  have l3 := passAll_L252 hb h42 41 0 N0 (by rw [N0_eq]; omega) rfl
  rw [z00] at l1 l2 l3
  have l1' : m_passAll_L98 N0 (stN b σ 8) 0 = some (stN b σ 32) := l1
  have l2' : m_passAll_L207 N0 (stN b σ 32) 0 = some (stN b σ 38) := l2
  have l3' : m_passAll_L252 N0 (stN b σ 38) 0 = some (stN b σ 79) := l3
  rw [m_passAll, p0']
  simp only [Option.bind_some]
  rw [p1']
  simp only [Option.bind_some]
  rw [p2']
  simp only [Option.bind_some]
  rw [p3']
  simp only [Option.bind_some]
  rw [p4']
  simp only [Option.bind_some]
  rw [p5']
  simp only [Option.bind_some]
  rw [p6']
  simp only [Option.bind_some]
  rw [p7']
  simp only [Option.bind_some]
  rw [q7', l1']
  simp only [Option.bind_some]
  rw [l2']
  simp only [Option.bind_some]
  rw [l3']
  rfl
