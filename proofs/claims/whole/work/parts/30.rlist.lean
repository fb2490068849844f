/-! THE REFERENCE: cells, frames, lists -/
def av (σ : MS) (a k : Nat) : Int32 := σ.2.1 a k
def wv (σ : MS) (a k : Nat) : Int64 := σ.2.2 a k
theorem gA_av {σ : MS} {a k : Nat} (h : k < 2147483648) : gA σ a (iN k) = av σ a k := by unfold gA av; rw [iN_nat h]
theorem gL_wv {σ : MS} {a k : Nat} (h : k < 2147483648) : gL σ a (iN k) = wv σ a k := by unfold gL wv; rw [iN_nat h]
theorem gI_sI (σ : MS) (k : Nat) (v : Int32) (j : Nat) : gI (sI σ k v) j = if j = k then v else gI σ j := rfl
theorem gI_sA (σ : MS) (a : Nat) (i v : Int32) (j : Nat) : gI (sA σ a i v) j = gI σ j := rfl
theorem gI_sL (σ : MS) (a : Nat) (i : Int32) (v : Int64) (j : Nat) : gI (sL σ a i v) j = gI σ j := rfl
theorem av_sA {σ : MS} {a k : Nat} (h : k < 2147483648) (v : Int32) (b j : Nat) : av (sA σ a (iN k) v) b j = if b = a then (if j = k then v else av σ b j) else av σ b j := by
  unfold av sA
  simp only [iN_nat h]
  by_cases e : b = a
  · subst e
    simp only [if_true]
    rfl
  · simp only [if_neg e]
theorem av_sI (σ : MS) (k : Nat) (v : Int32) (b j : Nat) : av (sI σ k v) b j = av σ b j := rfl
theorem av_sL (σ : MS) (a : Nat) (i : Int32) (v : Int64) (b j : Nat) : av (sL σ a i v) b j = av σ b j := rfl
theorem wv_sL {σ : MS} {a k : Nat} (h : k < 2147483648) (v : Int64) (b j : Nat) : wv (sL σ a (iN k) v) b j = if b = a then (if j = k then v else wv σ b j) else wv σ b j := by
  unfold wv sL
  simp only [iN_nat h]
  by_cases e : b = a
  · subst e
    simp only [if_true]
    rfl
  · simp only [if_neg e]
theorem wv_sI (σ : MS) (k : Nat) (v : Int32) (b j : Nat) : wv (sI σ k v) b j = wv σ b j := rfl
theorem wv_sA (σ : MS) (a : Nat) (i : Int32) (v : Int32) (b j : Nat) : wv (sA σ a i v) b j = wv σ b j := rfl
/-- but for ints ks, rows as, long rows ls all is the same -/
def FR (ks as ls : List Nat) (σ τ : MS) : Prop := (∀ k, k ∉ ks → gI τ k = gI σ k) ∧ (∀ a, a ∉ as → ∀ j, av τ a j = av σ a j) ∧ ∀ a, a ∉ ls → ∀ j, wv τ a j = wv σ a j
theorem FR_rf {ks as ls : List Nat} {σ : MS} : FR ks as ls σ σ := ⟨fun _ _ => rfl, fun _ _ _ => rfl, fun _ _ _ => rfl⟩
theorem FR_tr {ks as ls : List Nat} {σ τ υ : MS} (h : FR ks as ls σ τ) (g : FR ks as ls τ υ) : FR ks as ls σ υ := ⟨fun k hk => (g.1 k hk).trans (h.1 k hk), fun a ha j => (g.2.1 a ha j).trans (h.2.1 a ha j), fun a ha j => (g.2.2 a ha j).trans (h.2.2 a ha j)⟩
theorem FR_mo {ks as ls ks' as' ls' : List Nat} {σ τ : MS} (h : FR ks as ls σ τ) (h1 : ks.all (fun k => ks'.contains k) = true) (h2 : as.all (fun k => as'.contains k) = true) (h3 : ls.all (fun k => ls'.contains k) = true) : FR ks' as' ls' σ τ := by
  simp only [List.all_eq_true, List.contains_iff_mem] at h1 h2 h3
  exact ⟨fun k hk => h.1 k (fun g => hk (h1 k g)), fun k hk => h.2.1 k (fun g => hk (h2 k g)), fun k hk => h.2.2 k (fun g => hk (h3 k g))⟩
theorem FR_sI {ks as ls : List Nat} {σ : MS} {k : Nat} {v : Int32} (h : k ∈ ks) : FR ks as ls σ (sI σ k v) := ⟨fun j hj => by rw [gI_sI, if_neg (fun e => hj (by rw [e]; exact h))], fun _ _ _ => rfl, fun _ _ _ => rfl⟩
theorem FR_sA {ks as ls : List Nat} {σ : MS} {a : Nat} {i v : Int32} (h : a ∈ as) : FR ks as ls σ (sA σ a i v) := ⟨fun _ _ => rfl, fun b hb j => by
  show (if b = a then upd (σ.2.1 a) i.toNatClampNeg v else σ.2.1 b) j = σ.2.1 b j
  rw [if_neg (fun e => hb (by rw [e]; exact h))], fun _ _ _ => rfl⟩
theorem FR_sL {ks as ls : List Nat} {σ : MS} {a : Nat} {i : Int32} {v : Int64} (h : a ∈ ls) : FR ks as ls σ (sL σ a i v) := ⟨fun _ _ => rfl, fun _ _ _ => rfl, fun b hb j => by
  show (if b = a then vp_updL (σ.2.2 a) i.toNatClampNeg v else σ.2.2 b) j = σ.2.2 b j
  rw [if_neg (fun e => hb (by rw [e]; exact h))]⟩
/-- the reference's YARD -/
def YR (σ : MS) (Y : Yd) : Prop := VY Y ∧ gI σ 4 = iN (yM Y) ∧ gI σ 5 = iN (yT Y) ∧ (∀ i, i < yM Y → av σ 1 i = iN (yL Y i) ∧ av σ 2 i = iN (yN Y i) ∧ av σ 3 i = iN (yS Y i)) ∧ ∀ k, k < yT Y → av σ 4 k = bI (yD Y k)
theorem YR_fr {ks as ls : List Nat} {σ τ : MS} {Y : Yd} (h : YR σ Y) (f : FR ks as ls σ τ) (h1 : (ks.contains 4 || ks.contains 5 || as.contains 1 || as.contains 2 || as.contains 3 || as.contains 4) = false) : YR τ Y := by
  simp only [Bool.or_eq_false_iff, List.contains_eq_mem, decide_eq_false_iff_not] at h1
  obtain ⟨⟨⟨⟨⟨a1, a2⟩, a3⟩, a4⟩, a5⟩, a6⟩ := h1
  obtain ⟨v, y1, y2, y3, y4⟩ := h
  refine ⟨v, by rw [f.1 4 a1, y1], by rw [f.1 5 a2, y2], fun i hi => ?_, fun k hk => ?_⟩
  · rw [f.2.1 1 a3, f.2.1 2 a4, f.2.1 3 a5]; exact y3 i hi
  · rw [f.2.1 4 a6]; exact y4 k hk
/-- a list of wagons -/
def RLs (σ : MS) (p : Nat) (l : List Nat) : Prop := l.length ≤ 5 ∧ av σ 11 p = iN l.length ∧ ∀ k, k < l.length → av σ 10 (5 * p + k) = iN (l.getD k 0)
/-- other lists stay -/
def OT (σ τ : MS) (p : Nat) : Prop := ∀ q, q ≠ p → av τ 11 q = av σ 11 q ∧ ∀ k, k < 5 → av τ 10 (5 * q + k) = av σ 10 (5 * q + k)
theorem RLs_ot {σ τ : MS} {p q : Nat} {l : List Nat} (h : RLs σ q l) (o : OT σ τ p) (hq : q ≠ p) : RLs τ q l := by
  obtain ⟨h1, h2, h3⟩ := h
  obtain ⟨o1, o2⟩ := o q hq
  exact ⟨h1, by rw [o1, h2], fun k hk => by rw [o2 k (by omega), h3 k hk]⟩
theorem N0_eq : N0 = 1000000 := rfl
theorem putNear_L7 : ∀ (k f p : Nat) (σ : MS) (x2 : Int32), k < f → k ≤ 4 → p < 5 → ∃ τ, m_putNear_L7 f σ (iN p) x2 (iN k) = some τ ∧ FR [] [10] [] σ τ ∧ ∀ j, av τ 10 j = if 5 * p + 1 ≤ j ∧ j ≤ 5 * p + k then av σ 10 (j - 1) else av σ 10 j := by
  intro k
  induction k with
  | zero =>
    intro f p σ x2 hf hk hp
    obtain ⟨f, rfl⟩ : ∃ g, f = g + 1 := ⟨f - 1, by omega⟩
    refine ⟨σ, ?_, FR_rf, fun j => by rw [if_neg (by omega)]⟩
    rw [m_putNear_L7]
    simp only [zl_0, iN_lt (show 0 < 2147483648 by omega) (show 0 < 2147483648 by omega), Nat.lt_irrefl, if_false]
  | succ k ih =>
    intro f p σ x2 hf hk hp
    obtain ⟨f, rfl⟩ : ∃ g, f = g + 1 := ⟨f - 1, by omega⟩
    obtain ⟨τ, h1, h2, h3⟩ := ih f p (sA σ 10 (iN (5 * p + (k + 1))) (av σ 10 (5 * p + (k + 1) - 1))) x2 (by omega) (by omega) hp
    refine ⟨τ, ?_, FR_tr (FR_sA (by decide)) h2, fun j => ?_⟩
    · rw [m_putNear_L7]
      simp (disch := omega) only [zl_0, zl_1, zl_2, zl_3, zl_4, zl_5, zl_6, zl_7, zl_8, zl_9, zl_10, zl_11, zl_12, zl_15, zl_16, zl_20, zl_24, zl_25, zl_31, zl_32, zl_33, zl_40, zl_45, zl_48, zl_49, zl_50, zl_53, zl_57, zl_59, zl_62, zl_63, zl_64, zl_74, zl_75, zl_99, zl_100, zl_113, zl_115, zl_120, zl_126, zl_153, zl_160, zl_200, zl_255, zl_720, zl_1000, zl_4999, zl_5000, zl_17046, zl_32768, zl_54321, zl_65535, zl_65536, zl_65537, zl_9999, iN_add, iN_mul, iN_sub, iN_dec, iN_dec2, iN_div, iN_irm, iN_lt, iN_le, iN_eq, iN_inb, iN_nat, iN_and, iN_or, iN_shl, iN_shr, iN_shl2, iN_shr2, gA_av, gL_wv, gI_sI, gI_sA, gI_sL, av_sA, av_sI, av_sL, wv_sL, wv_sI, wv_sA]
      rw [if_pos (by omega), if_pos (by omega)]
      exact h1
    · rw [h3]
      simp (disch := omega) only [av_sA, if_true]
      by_cases c1 : 5 * p + 1 ≤ j ∧ j ≤ 5 * p + k
      · rw [if_pos c1, if_neg (by omega), if_pos (by omega)]
      · rw [if_neg c1]
        by_cases c2 : j = 5 * p + (k + 1)
        · rw [if_pos c2, if_pos (by omega), c2]
        · rw [if_neg c2, if_neg (by omega)]
theorem putNear_ok {σ : MS} {p w : Nat} {l : List Nat} (h : RLs σ p l) (hp : p < 5) (hl : l.length < 5) : ∃ τ, m_putNear σ (iN p) (iN w) = some τ ∧ RLs τ p (w :: l) ∧ OT σ τ p ∧ FR [] [10, 11] [] σ τ := by
  obtain ⟨h1, h2, h3⟩ := h
  obtain ⟨τ, t1, t2, t3⟩ := putNear_L7 l.length N0 p σ (iN w) (by rw [N0_eq]; omega) (by omega) hp
  have t4 := t2.2.1 11 (by decide)
  refine ⟨sA (sA τ 10 (iN (5 * p)) (iN w)) 11 (iN p) (iN (l.length + 1)), ?_, ⟨by simp; omega, ?_, fun k hk => ?_⟩, fun q hq => ⟨?_, fun k hk => ?_⟩, ?_⟩
  · rw [m_putNear]
    simp (disch := omega) only [zl_0, zl_1, zl_2, zl_3, zl_4, zl_5, zl_6, zl_7, zl_8, zl_9, zl_10, zl_11, zl_12, zl_15, zl_16, zl_20, zl_24, zl_25, zl_31, zl_32, zl_33, zl_40, zl_45, zl_48, zl_49, zl_50, zl_53, zl_57, zl_59, zl_62, zl_63, zl_64, zl_74, zl_75, zl_99, zl_100, zl_113, zl_115, zl_120, zl_126, zl_153, zl_160, zl_200, zl_255, zl_720, zl_1000, zl_4999, zl_5000, zl_17046, zl_32768, zl_54321, zl_65535, zl_65536, zl_65537, zl_9999, iN_add, iN_mul, iN_sub, iN_dec, iN_dec2, iN_div, iN_irm, iN_lt, iN_le, iN_eq, iN_inb, iN_nat, iN_and, iN_or, iN_shl, iN_shr, iN_shl2, iN_shr2, gA_av, gL_wv, gI_sI, gI_sA, gI_sL, av_sA, av_sI, av_sL, wv_sL, wv_sI, wv_sA, h2, t1, Option.bind_some, t4]
    rw [if_pos (by omega), if_pos (by omega)]
  · simp (disch := omega) only [gA_av, gL_wv, gI_sI, gI_sA, gI_sL, av_sA, av_sI, av_sL, wv_sL, wv_sI, wv_sA, if_true, List.length_cons]
  · simp (disch := omega) only [gA_av, gL_wv, gI_sI, gI_sA, gI_sL, av_sA, av_sI, av_sL, wv_sL, wv_sI, wv_sA, Nat.reduceEqDiff, if_true, if_false]
    cases k with
    | zero => rw [if_pos (by omega)]; rfl
    | succ k =>
      simp only [List.length_cons] at hk
      rw [if_neg (by omega), t3, if_pos (by omega), List.getD_cons_succ]
      exact h3 k (by omega)
  · simp (disch := omega) only [gA_av, gL_wv, gI_sI, gI_sA, gI_sL, av_sA, av_sI, av_sL, wv_sL, wv_sI, wv_sA, if_true, hq, if_false]
    exact t4 q
  · simp (disch := omega) only [gA_av, gL_wv, gI_sI, gI_sA, gI_sL, av_sA, av_sI, av_sL, wv_sL, wv_sI, wv_sA, Nat.reduceEqDiff, if_true, if_false]
    rw [if_neg (by omega), t3, if_neg (by omega)]
  · exact FR_tr (FR_mo t2 rfl rfl rfl) (FR_tr (FR_sA (by decide)) (FR_sA (by decide)))
theorem getD_append_lt {l k : List Nat} {i : Nat} (h : i < l.length) : (l ++ k).getD i 0 = l.getD i 0 := by
  rw [List.getD_eq_getElem?_getD, List.getD_eq_getElem?_getD, List.getElem?_append_left h]
theorem getD_append_at {l : List Nat} {w : Nat} : (l ++ [w]).getD l.length 0 = w := by
  rw [List.getD_eq_getElem?_getD, List.getElem?_append_right (Nat.le_refl _)]
  simp
theorem putFar_ok {σ : MS} {p w : Nat} {l : List Nat} (h : RLs σ p l) (hp : p < 5) (hl : l.length < 5) : ∃ τ, m_putFar σ (iN p) (iN w) = some τ ∧ RLs τ p (l ++ [w]) ∧ OT σ τ p ∧ FR [] [10, 11] [] σ τ := by
  obtain ⟨h1, h2, h3⟩ := h
  refine ⟨sA (sA σ 10 (iN (5 * p + l.length)) (iN w)) 11 (iN p) (iN (l.length + 1)), ?_, ⟨by simp; omega, ?_, fun k hk => ?_⟩, fun q hq => ⟨?_, fun k hk => ?_⟩, ?_⟩
  · rw [m_putFar]
    simp (disch := omega) only [zl_0, zl_1, zl_2, zl_3, zl_4, zl_5, zl_6, zl_7, zl_8, zl_9, zl_10, zl_11, zl_12, zl_15, zl_16, zl_20, zl_24, zl_25, zl_31, zl_32, zl_33, zl_40, zl_45, zl_48, zl_49, zl_50, zl_53, zl_57, zl_59, zl_62, zl_63, zl_64, zl_74, zl_75, zl_99, zl_100, zl_113, zl_115, zl_120, zl_126, zl_153, zl_160, zl_200, zl_255, zl_720, zl_1000, zl_4999, zl_5000, zl_17046, zl_32768, zl_54321, zl_65535, zl_65536, zl_65537, zl_9999, iN_add, iN_mul, iN_sub, iN_dec, iN_dec2, iN_div, iN_irm, iN_lt, iN_le, iN_eq, iN_inb, iN_nat, iN_and, iN_or, iN_shl, iN_shr, iN_shl2, iN_shr2, gA_av, gL_wv, gI_sI, gI_sA, gI_sL, av_sA, av_sI, av_sL, wv_sL, wv_sI, wv_sA, h2]
    rw [if_pos (by omega)]
  · simp (disch := omega) only [gA_av, gL_wv, gI_sI, gI_sA, gI_sL, av_sA, av_sI, av_sL, wv_sL, wv_sI, wv_sA, if_true, List.length_append, List.length_cons, List.length_nil, Nat.zero_add]
  · simp (disch := omega) only [gA_av, gL_wv, gI_sI, gI_sA, gI_sL, av_sA, av_sI, av_sL, wv_sL, wv_sI, wv_sA, Nat.reduceEqDiff, if_true, if_false]
    rw [List.length_append] at hk
    simp only [List.length_cons, List.length_nil] at hk
    by_cases e : k = l.length
    · rw [if_pos (by omega), e, getD_append_at]
    · rw [if_neg (by omega), getD_append_lt (by omega)]
      exact h3 k (by omega)
  · simp (disch := omega) only [gA_av, gL_wv, gI_sI, gI_sA, gI_sL, av_sA, av_sI, av_sL, wv_sL, wv_sI, wv_sA, if_true, hq, if_false, Nat.reduceEqDiff]
  · simp (disch := omega) only [gA_av, gL_wv, gI_sI, gI_sA, gI_sL, av_sA, av_sI, av_sL, wv_sL, wv_sI, wv_sA, Nat.reduceEqDiff, if_true, if_false]
    rw [if_neg (by omega)]
  · exact FR_tr (FR_sA (by decide)) (FR_sA (by decide))
theorem takeNear_L21 : ∀ (d f p c k : Nat) (σ : MS) (x2 : Int32), d < f → k + d = c → c ≤ 4 → p < 5 → av σ 11 p = iN c → ∃ τ, m_takeNear_L21 f σ (iN p) x2 (iN k) = some τ ∧ FR [] [10] [] σ τ ∧ ∀ j, av τ 10 j = if 5 * p + k ≤ j ∧ j < 5 * p + c then av σ 10 (j + 1) else av σ 10 j := by
  intro d
  induction d with
  | zero =>
    intro f p c k σ x2 hf hk hc hp h11
    obtain ⟨f, rfl⟩ : ∃ g, f = g + 1 := ⟨f - 1, by omega⟩
    refine ⟨σ, ?_, FR_rf, fun j => by rw [if_neg (by omega)]⟩
    rw [m_takeNear_L21]
    simp (disch := omega) only [zl_0, zl_1, zl_2, zl_3, zl_4, zl_5, zl_6, zl_7, zl_8, zl_9, zl_10, zl_11, zl_12, zl_15, zl_16, zl_20, zl_24, zl_25, zl_31, zl_32, zl_33, zl_40, zl_45, zl_48, zl_49, zl_50, zl_53, zl_57, zl_59, zl_62, zl_63, zl_64, zl_74, zl_75, zl_99, zl_100, zl_113, zl_115, zl_120, zl_126, zl_153, zl_160, zl_200, zl_255, zl_720, zl_1000, zl_4999, zl_5000, zl_17046, zl_32768, zl_54321, zl_65535, zl_65536, zl_65537, zl_9999, iN_add, iN_mul, iN_sub, iN_dec, iN_dec2, iN_div, iN_irm, iN_lt, iN_le, iN_eq, iN_inb, iN_nat, iN_and, iN_or, iN_shl, iN_shr, iN_shl2, iN_shr2, gA_av, gL_wv, gI_sI, gI_sA, gI_sL, av_sA, av_sI, av_sL, wv_sL, wv_sI, wv_sA, h11]
    rw [if_pos (by omega), if_neg (by omega)]
  | succ d ih =>
    intro f p c k σ x2 hf hk hc hp h11
    obtain ⟨f, rfl⟩ : ∃ g, f = g + 1 := ⟨f - 1, by omega⟩
    obtain ⟨τ, h1, h2, h3⟩ := ih f p c (k + 1) (sA σ 10 (iN (5 * p + k)) (av σ 10 (5 * p + k + 1))) x2 (by omega) (by omega) hc hp (by simp (disch := omega) only [gA_av, gL_wv, gI_sI, gI_sA, gI_sL, av_sA, av_sI, av_sL, wv_sL, wv_sI, wv_sA, Nat.reduceEqDiff, if_false]; exact h11)
    refine ⟨τ, ?_, FR_tr (FR_sA (by decide)) h2, fun j => ?_⟩
    · rw [m_takeNear_L21]
      simp (disch := omega) only [zl_0, zl_1, zl_2, zl_3, zl_4, zl_5, zl_6, zl_7, zl_8, zl_9, zl_10, zl_11, zl_12, zl_15, zl_16, zl_20, zl_24, zl_25, zl_31, zl_32, zl_33, zl_40, zl_45, zl_48, zl_49, zl_50, zl_53, zl_57, zl_59, zl_62, zl_63, zl_64, zl_74, zl_75, zl_99, zl_100, zl_113, zl_115, zl_120, zl_126, zl_153, zl_160, zl_200, zl_255, zl_720, zl_1000, zl_4999, zl_5000, zl_17046, zl_32768, zl_54321, zl_65535, zl_65536, zl_65537, zl_9999, iN_add, iN_mul, iN_sub, iN_dec, iN_dec2, iN_div, iN_irm, iN_lt, iN_le, iN_eq, iN_inb, iN_nat, iN_and, iN_or, iN_shl, iN_shr, iN_shl2, iN_shr2, gA_av, gL_wv, gI_sI, gI_sA, gI_sL, av_sA, av_sI, av_sL, wv_sL, wv_sI, wv_sA, h11]
      rw [if_pos (by omega), if_pos (by omega), if_pos (by omega)]
      exact h1
    · rw [h3]
      simp (disch := omega) only [av_sA, if_true]
      by_cases c1 : 5 * p + (k + 1) ≤ j ∧ j < 5 * p + c
      · rw [if_pos c1, if_neg (by omega), if_pos (by omega)]
      · rw [if_neg c1]
        by_cases c2 : j = 5 * p + k
        · rw [if_pos c2, if_pos (by omega), c2]
        · rw [if_neg c2, if_neg (by omega)]
theorem takeNear_ok {σ : MS} {p : Nat} {l : List Nat} (h : RLs σ p l) (hp : p < 5) (hl : l ≠ []) : ∃ τ, m_takeNear σ (iN p) = some (iN (tk l false), τ) ∧ RLs τ p (tr l false) ∧ OT σ τ p ∧ FR [] [10, 11] [] σ τ := by
  obtain ⟨h1, h2, h3⟩ := h
  have hlen := List.length_pos_iff.mpr hl
  obtain ⟨τ, t1, t2, t3⟩ := takeNear_L21 (l.length - 1) N0 p (l.length - 1) 0 (sA σ 11 (iN p) (iN (l.length - 1))) (av σ 10 (5 * p)) (by rw [N0_eq]; omega) (by omega) (by omega) hp (by simp (disch := omega) only [gA_av, gL_wv, gI_sI, gI_sA, gI_sL, av_sA, av_sI, av_sL, wv_sL, wv_sI, wv_sA, if_true])
  have t4 := t2.2.1 11 (by decide)
  refine ⟨τ, ?_, ⟨by rw [tr_len]; omega, ?_, fun k hk => ?_⟩, fun q hq => ⟨?_, fun k hk => ?_⟩, ?_⟩
  · rw [m_takeNear]
    simp (disch := omega) only [zl_0, zl_1, zl_2, zl_3, zl_4, zl_5, zl_6, zl_7, zl_8, zl_9, zl_10, zl_11, zl_12, zl_15, zl_16, zl_20, zl_24, zl_25, zl_31, zl_32, zl_33, zl_40, zl_45, zl_48, zl_49, zl_50, zl_53, zl_57, zl_59, zl_62, zl_63, zl_64, zl_74, zl_75, zl_99, zl_100, zl_113, zl_115, zl_120, zl_126, zl_153, zl_160, zl_200, zl_255, zl_720, zl_1000, zl_4999, zl_5000, zl_17046, zl_32768, zl_54321, zl_65535, zl_65536, zl_65537, zl_9999, iN_add, iN_mul, iN_sub, iN_dec, iN_dec2, iN_div, iN_irm, iN_lt, iN_le, iN_eq, iN_inb, iN_nat, iN_and, iN_or, iN_shl, iN_shr, iN_shl2, iN_shr2, gA_av, gL_wv, gI_sI, gI_sA, gI_sL, av_sA, av_sI, av_sL, wv_sL, wv_sI, wv_sA, h2]
    rw [if_pos (by omega), t1]
    simp only [Option.bind_some]
    have := h3 0 hlen
    rw [show 5 * p + 0 = 5 * p by omega] at this
    rw [this]
    cases l with
    | nil => exact absurd rfl hl
    | cons x r => rfl
  · rw [t4, tr_len]
    simp (disch := omega) only [gA_av, gL_wv, gI_sI, gI_sA, gI_sL, av_sA, av_sI, av_sL, wv_sL, wv_sI, wv_sA, if_true]
  · rw [tr_len] at hk
    rw [t3, if_pos (by omega)]
    simp (disch := omega) only [gA_av, gL_wv, gI_sI, gI_sA, gI_sL, av_sA, av_sI, av_sL, wv_sL, wv_sI, wv_sA, Nat.reduceEqDiff, if_false]
    have := h3 (k + 1) (by omega)
    rw [show 5 * p + k + 1 = 5 * p + (k + 1) by omega, this]
    cases l with
    | nil => exact absurd rfl hl
    | cons x r => rw [List.getD_cons_succ]; rfl
  · rw [t4]
    simp (disch := omega) only [gA_av, gL_wv, gI_sI, gI_sA, gI_sL, av_sA, av_sI, av_sL, wv_sL, wv_sI, wv_sA, if_true, hq, if_false]
  · rw [t3, if_neg (by omega)]
    simp (disch := omega) only [gA_av, gL_wv, gI_sI, gI_sA, gI_sL, av_sA, av_sI, av_sL, wv_sL, wv_sI, wv_sA, Nat.reduceEqDiff, if_false]
  · exact FR_tr (FR_sA (by decide)) (FR_mo t2 rfl rfl rfl)
theorem takeFar_ok {σ : MS} {p : Nat} {l : List Nat} (h : RLs σ p l) (hp : p < 5) (hl : l ≠ []) : ∃ τ, m_takeFar σ (iN p) = some (iN (tk l true), τ) ∧ RLs τ p (tr l true) ∧ OT σ τ p ∧ FR [] [10, 11] [] σ τ := by
  obtain ⟨h1, h2, h3⟩ := h
  have hlen := List.length_pos_iff.mpr hl
  refine ⟨sA σ 11 (iN p) (iN (l.length - 1)), ?_, ⟨by rw [tr_len]; omega, ?_, fun k hk => ?_⟩, fun q hq => ⟨?_, fun k hk => ?_⟩, FR_sA (by decide)⟩
  · rw [m_takeFar]
    simp (disch := omega) only [zl_0, zl_1, zl_2, zl_3, zl_4, zl_5, zl_6, zl_7, zl_8, zl_9, zl_10, zl_11, zl_12, zl_15, zl_16, zl_20, zl_24, zl_25, zl_31, zl_32, zl_33, zl_40, zl_45, zl_48, zl_49, zl_50, zl_53, zl_57, zl_59, zl_62, zl_63, zl_64, zl_74, zl_75, zl_99, zl_100, zl_113, zl_115, zl_120, zl_126, zl_153, zl_160, zl_200, zl_255, zl_720, zl_1000, zl_4999, zl_5000, zl_17046, zl_32768, zl_54321, zl_65535, zl_65536, zl_65537, zl_9999, iN_add, iN_mul, iN_sub, iN_dec, iN_dec2, iN_div, iN_irm, iN_lt, iN_le, iN_eq, iN_inb, iN_nat, iN_and, iN_or, iN_shl, iN_shr, iN_shl2, iN_shr2, gA_av, gL_wv, gI_sI, gI_sA, gI_sL, av_sA, av_sI, av_sL, wv_sL, wv_sI, wv_sA, h2, if_true]
    rw [if_pos (by omega), h3 _ (by omega)]
    rw [show tk l true = l.getD (l.length - 1) 0 by simp [tk, List.getLastD_eq_getLast?, List.getLast?_eq_getElem?, List.getD_eq_getElem?_getD]]
  · rw [tr_len]
    simp (disch := omega) only [gA_av, gL_wv, gI_sI, gI_sA, gI_sL, av_sA, av_sI, av_sL, wv_sL, wv_sI, wv_sA, if_true]
  · rw [tr_len] at hk
    simp (disch := omega) only [gA_av, gL_wv, gI_sI, gI_sA, gI_sL, av_sA, av_sI, av_sL, wv_sL, wv_sI, wv_sA, Nat.reduceEqDiff, if_false]
    rw [h3 k (by omega)]
    congr 1
    simp only [tr, if_true]
    rw [List.getD_eq_getElem?_getD, List.getD_eq_getElem?_getD, List.getElem?_dropLast, if_pos hk]
  · simp (disch := omega) only [gA_av, gL_wv, gI_sI, gI_sA, gI_sL, av_sA, av_sI, av_sL, wv_sL, wv_sI, wv_sA, if_true, hq, if_false]
  · simp (disch := omega) only [gA_av, gL_wv, gI_sI, gI_sA, gI_sL, av_sA, av_sI, av_sL, wv_sL, wv_sI, wv_sA, Nat.reduceEqDiff, if_false]
