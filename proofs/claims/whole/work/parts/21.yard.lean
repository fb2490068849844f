/-! YARDS, MOVES, WAYS TO STAND: the picture -/
abbrev Yd : Type := Nat × (Nat → Nat) × (Nat → Nat) × (Nat → Nat) × Nat × (Nat → Bool)
def yM (Y : Yd) : Nat := Y.1
def yL (Y : Yd) (i : Nat) : Nat := Y.2.1 i
def yN (Y : Yd) (i : Nat) : Nat := Y.2.2.1 i
def yS (Y : Yd) (i : Nat) : Nat := Y.2.2.2.1 i
def yT (Y : Yd) : Nat := Y.2.2.2.2.1
def yD (Y : Yd) (k : Nat) : Bool := Y.2.2.2.2.2 k
def VY (Y : Yd) : Prop := 1 ≤ yM Y ∧ yM Y ≤ 4 ∧ 1 ≤ yT Y ∧ yT Y ≤ 3 ∧ (∀ i, i < yM Y → (yL Y i = 115 ∨ yL Y i = 113 ∨ yL Y i = 100) ∧ 1 ≤ yN Y i ∧ yN Y i ≤ 5 ∧ yS Y i < yT Y) ∧ ∀ i j, i ≤ j → j < yM Y → yS Y i ≤ yS Y j
/-- the stage ahead of which a wagon stands, and the stage at which it comes -/
def sA_ (Y : Yd) (f : Nat) : Nat := if f = 0 then 0 else yS Y (f - 1) + 1
def sB_ (Y : Yd) (t : Nat) : Nat := if t = 5 then yT Y else yS Y (t - 1)
def go (Y : Yd) (f t : Nat) : Bool := decide (sA_ Y f ≤ sB_ Y t) && (List.range' (sA_ Y f) (sB_ Y t - sA_ Y f)).all (yD Y)
def oE (Y : Yd) (f e : Nat) : Bool := if f = 0 then decide (e = 0) else decide (yL Y (f - 1) = 100) || (if yL Y (f - 1) = 115 then decide (e = 0) else decide (e = 1))
def iE (Y : Yd) (t e : Nat) : Bool := decide (e = 0) || (decide (t ≠ 5) && decide (yL Y (t - 1) = 100))
def mf (m : Nat) : Nat := m / 1000
def me (m : Nat) : Nat := m / 100 % 10
def mt (m : Nat) : Nat := m / 10 % 10
def mx (m : Nat) : Nat := m % 10
def gm (Y : Yd) (m : Nat) : Bool := decide (mf m ≤ yM Y) && decide (me m < 2) && (decide (mt m = 5) || decide (1 ≤ mt m ∧ mt m ≤ yM Y)) && decide (mx m < 2) && oE Y (mf m) (me m) && iE Y (mt m) (mx m) && go Y (mf m) (mt m)
def UM : List Nat := [10, 11, 20, 21, 30, 31, 40, 41, 50, 1020, 1021, 1030, 1031, 1040, 1041, 1050, 1120, 1121, 1130, 1131, 1140, 1141, 1150, 2030, 2031, 2040, 2041, 2050, 2130, 2131, 2140, 2141, 2150, 3040, 3041, 3050, 3140, 3141, 3150, 4050, 4150]
def mvs (Y : Yd) : List Nat := UM.filter (gm Y)
def mk4 (f e t x : Nat) : Nat := 1000 * f + 100 * e + 10 * t + x
theorem mk4_of (f e t x : Nat) (he : e < 10) (ht : t < 10) (hx : x < 10) : mf (mk4 f e t x) = f ∧ me (mk4 f e t x) = e ∧ mt (mk4 f e t x) = t ∧ mx (mk4 f e t x) = x := by
  unfold mf me mt mx mk4
  omega
theorem mk4_mk (m : Nat) : mk4 (mf m) (me m) (mt m) (mx m) = m := by
  unfold mf me mt mx mk4
  omega
theorem UM_all0 : (List.range 5).all (fun f => (List.range 2).all (fun e => (List.range 6).all (fun t => (List.range 2).all (fun x => !(decide (1 ≤ t) && (decide (f ≠ 0) || decide (e = 0)) && (decide (t ≠ 5) || decide (x = 0)) && decide (f < t)) || UM.contains (mk4 f e t x))))) = true := by decide
theorem UM_all (f : Nat) (hf : f < 5) (e : Nat) (he : e < 2) (t : Nat) (ht : t < 6) (x : Nat) (hx : x < 2) (h1 : 1 ≤ t) (h2 : f = 0 → e = 0) (h3 : t = 5 → x = 0) (h4 : f < t) : mk4 f e t x ∈ UM := by
  have h := UM_all0
  simp only [List.all_eq_true, List.mem_range] at h
  have h5 := h f hf e he t ht x hx
  simp only [Bool.or_eq_true, Bool.not_eq_true', Bool.and_eq_false_iff, Bool.or_eq_false_iff, decide_eq_false_iff_not, List.contains_iff_mem] at h5
  rcases h5 with (((h5 | h5) | h5) | h5) | h5
  · exact absurd h1 h5
  · exact absurd (h2 (by omega)) h5.2
  · exact absurd (h3 (by omega)) h5.2
  · exact absurd h4 h5
  · exact h5
theorem UM_srt : UM.Pairwise (· < ·) := by decide
theorem UM_lt : ∀ m ∈ UM, m < 5000 := by decide
theorem gm_parts {Y : Yd} {m : Nat} (h : gm Y m = true) : mf m ≤ yM Y ∧ me m < 2 ∧ (mt m = 5 ∨ (1 ≤ mt m ∧ mt m ≤ yM Y)) ∧ mx m < 2 ∧ oE Y (mf m) (me m) = true ∧ iE Y (mt m) (mx m) = true ∧ go Y (mf m) (mt m) = true := by
  simp only [gm, Bool.and_eq_true, Bool.or_eq_true, decide_eq_true_eq] at h
  obtain ⟨⟨⟨⟨⟨⟨h1, h2⟩, h3⟩, h4⟩, h5⟩, h6⟩, h7⟩ := h
  exact ⟨h1, h2, h3, h4, h5, h6, h7⟩
theorem go_ab {Y : Yd} {f t : Nat} (h : go Y f t = true) : sA_ Y f ≤ sB_ Y t := by
  simp only [go, Bool.and_eq_true, decide_eq_true_eq] at h
  exact h.1
theorem gm_ft {Y : Yd} (hY : VY Y) {m : Nat} (h : gm Y m = true) : mf m < mt m := by
  obtain ⟨h1, h2, h3, h4, h5, h6, h7⟩ := gm_parts h
  obtain ⟨y1, y2, y3, y4, y5, y6⟩ := hY
  rcases h3 with h3 | h3
  · omega
  · have h8 := go_ab h7
    unfold sA_ sB_ at h8
    by_cases hf : mf m = 0
    · omega
    · rw [if_neg hf, if_neg (by omega)] at h8
      by_cases hlt : mf m < mt m
      · exact hlt
      · have := y6 (mt m - 1) (mf m - 1) (by omega) (by omega)
        omega
theorem mem_mvs {Y : Yd} (hY : VY Y) (m : Nat) : m ∈ mvs Y ↔ gm Y m = true := by
  unfold mvs
  rw [List.mem_filter]
  refine ⟨fun h => h.2, fun h => ⟨?_, h⟩⟩
  have hft := gm_ft hY h
  obtain ⟨h1, h2, h3, h4, h5, h6, h7⟩ := gm_parts h
  obtain ⟨y1, y2, y3, y4, y5, y6⟩ := hY
  rw [← mk4_mk m]
  refine UM_all _ (by omega) _ h2 _ (by omega) _ h4 (by omega) (fun e => ?_) (fun e => ?_) hft
  · unfold oE at h5
    rw [if_pos e] at h5
    exact of_decide_eq_true h5
  · unfold iE at h6
    simp only [Bool.or_eq_true, decide_eq_true_eq, Bool.and_eq_true] at h6
    rcases h6 with h6 | h6
    · exact h6
    · exact absurd e h6.1
theorem mvs_nd (Y : Yd) : (mvs Y).Nodup := by
  have := UM_srt.filter (gm Y)
  unfold List.Nodup mvs
  exact this.imp (fun h => Nat.ne_of_lt h)
theorem mvs_srt (Y : Yd) : (mvs Y).Pairwise (· < ·) := UM_srt.filter (gm Y)
theorem mvs_len (Y : Yd) : (mvs Y).length ≤ 41 := by
  have h : UM.length = 41 := by decide
  rw [← h]
  exact List.length_filter_le _ _
theorem mvs_lt {Y : Yd} {m : Nat} (h : m ∈ mvs Y) : m < 5000 := UM_lt m (List.mem_filter.mp h).1
/-! ways to stand: a list of wagons for each place, the ENTRY 0, SIDINGS 1 to 4, the EXIT 5 -/
abbrev Ps : Type := Nat → List Nat
def tk (l : List Nat) (b : Bool) : Nat := if b then l.getLastD 0 else l.headD 0
def tr (l : List Nat) (b : Bool) : List Nat := if b then l.dropLast else l.tail
def pt (l : List Nat) (w : Nat) (b : Bool) : List Nat := if b then l ++ [w] else w :: l
def fT (m : Nat) : Bool := decide (me m = 1)
def fP (m : Nat) : Bool := decide (mt m = 5) || decide (mx m = 1)
def wg (P : Ps) (m : Nat) : Nat := tk (P (mf m)) (fT m)
def mv (P : Ps) (m : Nat) : Ps := fun p => if p = mt m then pt (P p) (wg P m) (fP m) else if p = mf m then tr (P p) (fT m) else P p
def un (P : Ps) (m : Nat) : Ps := fun p => if p = mf m then pt (P p) (tk (P (mt m)) (fP m)) (fT m) else if p = mt m then tr (P p) (fP m) else P p
def can (Y : Yd) (P : Ps) (m : Nat) : Bool := decide (P (mf m) ≠ []) && (decide (mt m = 5) || decide ((P (mt m)).length < yN Y (mt m - 1)))
def oks (Y : Yd) (P : Ps) : List Nat := (mvs Y).filter (can Y P)
def st (n : Nat) : Ps := fun p => if p = 0 then List.range' 1 n else []
theorem tr_pt (l : List Nat) (w : Nat) (b : Bool) : tr (pt l w b) b = l := by
  cases b <;> simp [tr, pt]
theorem tk_pt (l : List Nat) (w : Nat) (b : Bool) : tk (pt l w b) b = w := by
  cases b <;> simp [tk, pt]
theorem pt_tr {l : List Nat} (h : l ≠ []) (b : Bool) : pt (tr l b) (tk l b) b = l := by
  cases b with
  | false =>
    cases l with
    | nil => exact absurd rfl h
    | cons x r => rfl
  | true =>
    simp only [tr, tk, pt, if_true]
    rw [List.getLastD_eq_getLast?, List.getLast?_eq_some_getLast h]
    exact List.dropLast_concat_getLast h
theorem pt_len (l : List Nat) (w : Nat) (b : Bool) : (pt l w b).length = l.length + 1 := by
  cases b <;> simp [pt]
theorem tr_len (l : List Nat) (b : Bool) : (tr l b).length = l.length - 1 := by
  cases b <;> simp [tr]
theorem pt_cnt (l : List Nat) (w : Nat) (b : Bool) (a : Nat) : (pt l w b).count a = l.count a + (if w = a then 1 else 0) := by
  cases b with
  | false => simp only [pt, Bool.false_eq_true, if_false, List.count_cons, beq_iff_eq]
  | true => simp only [pt, if_true, List.count_append, List.count_cons, List.count_nil, beq_iff_eq, Nat.zero_add]
theorem tr_cnt {l : List Nat} (h : l ≠ []) (b : Bool) (a : Nat) : (tr l b).count a + (if tk l b = a then 1 else 0) = l.count a := by
  have h1 := pt_cnt (tr l b) (tk l b) b a
  rw [pt_tr h] at h1
  exact h1.symm
theorem un_mv {P : Ps} {m : Nat} (h : P (mf m) ≠ []) (hft : mf m ≠ mt m) : un (mv P m) m = P := by
  funext p
  unfold un mv
  by_cases h1 : p = mf m
  · subst h1
    rw [if_pos rfl, if_neg hft, if_pos rfl]
    simp only [if_true, tk_pt, wg]
    exact pt_tr h _
  · rw [if_neg h1]
    by_cases h2 : p = mt m
    · subst h2
      simp only [if_true, tr_pt]
    · rw [if_neg h2, if_neg h2, if_neg h1]
def cnt (P : Ps) (a : Nat) : Nat := (P 0).count a + (P 1).count a + (P 2).count a + (P 3).count a + (P 4).count a + (P 5).count a
theorem mv_cnt {P : Ps} {m : Nat} (h : P (mf m) ≠ []) (hft : mf m < mt m) (ht : mt m < 6) (a : Nat) : cnt (mv P m) a = cnt P a := by
  have e1 := pt_cnt (P (mt m)) (wg P m) (fP m) a
  have e2 := tr_cnt h (fT m) a
  have e3 : tk (P (mf m)) (fT m) = wg P m := rfl
  rw [e3] at e2
  have hv : ∀ p, (mv P m p).count a = if p = mt m then (P p).count a + (if wg P m = a then 1 else 0) else if p = mf m then (tr (P p) (fT m)).count a else (P p).count a := by
    intro p
    unfold mv
    by_cases h1 : p = mt m
    · rw [if_pos h1, if_pos h1, pt_cnt]
    · rw [if_neg h1, if_neg h1]
      by_cases h2 : p = mf m
      · rw [if_pos h2, if_pos h2]
      · rw [if_neg h2, if_neg h2]
  have hf : mf m < 6 := by omega
  unfold cnt
  simp only [hv]
  generalize mf m = f at *
  generalize mt m = t at *
  clear hv e3
  rcases (show f = 0 ∨ f = 1 ∨ f = 2 ∨ f = 3 ∨ f = 4 ∨ f = 5 by omega) with rfl | rfl | rfl | rfl | rfl | rfl <;> rcases (show t = 0 ∨ t = 1 ∨ t = 2 ∨ t = 3 ∨ t = 4 ∨ t = 5 by omega) with rfl | rfl | rfl | rfl | rfl | rfl <;> first | omega | (simp only [Nat.reduceEqDiff, reduceIte, reduceCtorEq] at *; omega)
/-- each of n wagons stands once; at the ENTRY the last ones, in their row; SIDINGS are not too full -/
def VP (Y : Yd) (n : Nat) (P : Ps) : Prop := (∀ a, cnt P a = if 1 ≤ a ∧ a ≤ n then 1 else 0) ∧ (∃ g, g ≤ n ∧ P 0 = List.range' (g + 1) (n - g)) ∧ (∀ p, yM Y < p → p ≠ 5 → P p = []) ∧ ∀ p, 1 ≤ p → p ≤ yM Y → (P p).length ≤ yN Y (p - 1)
theorem mv_t (P : Ps) (m : Nat) : mv P m (mt m) = pt (P (mt m)) (wg P m) (fP m) := by simp [mv]
theorem mv_f {P : Ps} {m : Nat} (h : mf m ≠ mt m) : mv P m (mf m) = tr (P (mf m)) (fT m) := by simp [mv, h]
theorem mv_o {P : Ps} {m p : Nat} (h1 : p ≠ mt m) (h2 : p ≠ mf m) : mv P m p = P p := by simp [mv, h1, h2]
theorem can_parts {Y : Yd} {P : Ps} {m : Nat} (h : can Y P m = true) : P (mf m) ≠ [] ∧ (mt m = 5 ∨ (P (mt m)).length < yN Y (mt m - 1)) := by
  simp only [can, Bool.and_eq_true, Bool.or_eq_true, decide_eq_true_eq] at h
  exact h
theorem gm_fT {Y : Yd} {m : Nat} (h : gm Y m = true) (hf : mf m = 0) : fT m = false := by
  have h5 := (gm_parts h).2.2.2.2.1
  unfold oE at h5
  rw [if_pos hf] at h5
  have := of_decide_eq_true h5
  unfold fT
  rw [this]
  rfl
theorem VP_mv {Y : Yd} (hY : VY Y) {n : Nat} {P : Ps} (h : VP Y n P) {m : Nat} (hm : gm Y m = true) (hc : can Y P m = true) : VP Y n (mv P m) := by
  obtain ⟨h1, ⟨g, hg, h2⟩, h3, h4⟩ := h
  obtain ⟨c1, c2⟩ := can_parts hc
  have hft := gm_ft hY hm
  obtain ⟨g1, g2, g3, g4, g5, g6, g7⟩ := gm_parts hm
  have hM := hY.2.1
  refine ⟨fun a => by rw [mv_cnt c1 hft (by omega), h1], ?_, fun p hp hp5 => ?_, fun p hp hp5 => ?_⟩
  · by_cases hf : mf m = 0
    · have e0 : mv P m 0 = (P 0).tail := by
        have := mv_f (P := P) (m := m) (by omega)
        rw [hf, gm_fT hm hf] at this
        exact this
      rw [hf, h2] at c1
      have hlt : g < n := by
        rcases Nat.lt_or_ge g n with h | h
        · exact h
        · exact absurd (by rw [show n - g = 0 by omega]; rfl) c1
      refine ⟨g + 1, hlt, ?_⟩
      rw [e0, h2, show n - g = (n - (g + 1)) + 1 by omega, List.range'_succ]
      rfl
    · exact ⟨g, hg, by rw [mv_o (by omega) (by omega), h2]⟩
  · rw [mv_o (by omega) (by omega)]
    exact h3 p hp hp5
  · by_cases e1 : p = mt m
    · rw [e1, mv_t, pt_len]
      rcases c2 with c2 | c2
      · omega
      · omega
    · by_cases e2 : p = mf m
      · rw [e2, mv_f (by omega), tr_len]
        have := h4 (mf m) (by omega) (by omega)
        omega
      · rw [mv_o e1 e2]
        exact h4 p hp hp5
theorem cnt_r (a : Nat) : ∀ n s : Nat, (List.range' s n).count a = if s ≤ a ∧ a < s + n then 1 else 0 := by
  intro n
  induction n with
  | zero => intro s; rw [if_neg (by omega)]; rfl
  | succ n ih =>
    intro s
    rw [List.range'_succ, List.count_cons, ih]
    simp only [beq_iff_eq]
    (repeat' split) <;> omega
theorem VP_st (Y : Yd) (n : Nat) : VP Y n (st n) := by
  refine ⟨fun a => ?_, ⟨0, Nat.zero_le _, ?_⟩, fun p h1 h2 => ?_, fun p h1 h2 => ?_⟩
  · show (List.range' 1 n).count a + 0 + 0 + 0 + 0 + 0 = _
    rw [cnt_r]
    by_cases h : 1 ≤ a ∧ a ≤ n
    · rw [if_pos (by omega), if_pos h]
    · rw [if_neg (by omega), if_neg h]
  · simp [st]
  · simp only [st]
    rw [if_neg (by omega)]
  · simp only [st]
    rw [if_neg (by omega)]
    exact Nat.zero_le _
/-- wagons stand in 1 to n, once -/
def tot (P : Ps) : List Nat := P 0 ++ (P 1 ++ (P 2 ++ (P 3 ++ (P 4 ++ P 5))))
theorem VP_perm {Y : Yd} {n : Nat} {P : Ps} (h : VP Y n P) : (tot P).Perm (List.range' 1 n) := by
  rw [List.perm_iff_count]
  intro a
  have := h.1 a
  unfold cnt at this
  unfold tot
  simp only [List.count_append]
  rw [cnt_r]
  by_cases h : 1 ≤ a ∧ a ≤ n
  · rw [if_pos h] at this
    rw [if_pos (by omega)]
    omega
  · rw [if_neg h] at this
    rw [if_neg (by omega)]
    omega
theorem VP_len {Y : Yd} {n : Nat} {P : Ps} (h : VP Y n P) : (P 0).length + (P 1).length + (P 2).length + (P 3).length + (P 4).length + (P 5).length = n := by
  have := (VP_perm h).length_eq
  simp only [tot, List.length_append, List.length_range'] at this
  omega
theorem VP_le {Y : Yd} {n : Nat} {P : Ps} (h : VP Y n P) {p : Nat} (hp : p < 6) : (P p).length ≤ n := by
  have := VP_len h
  rcases (show p = 0 ∨ p = 1 ∨ p = 2 ∨ p = 3 ∨ p = 4 ∨ p = 5 by omega) with rfl | rfl | rfl | rfl | rfl | rfl <;> omega
theorem VP_cle {Y : Yd} {n : Nat} {P : Ps} (h : VP Y n P) {p : Nat} (hp : p < 6) (a : Nat) : (P p).count a ≤ 1 := by
  have h1 := h.1 a
  unfold cnt at h1
  have : (if 1 ≤ a ∧ a ≤ n then 1 else 0) ≤ 1 := by split <;> omega
  rcases (show p = 0 ∨ p = 1 ∨ p = 2 ∨ p = 3 ∨ p = 4 ∨ p = 5 by omega) with rfl | rfl | rfl | rfl | rfl | rfl <;> omega
theorem VP_mem {Y : Yd} {n : Nat} {P : Ps} (h : VP Y n P) {p : Nat} (hp : p < 6) {a : Nat} (ha : a ∈ P p) : 1 ≤ a ∧ a ≤ n := by
  have h1 := h.1 a
  have h2 := List.count_pos_iff.mpr ha
  unfold cnt at h1
  by_cases h9 : 1 ≤ a ∧ a ≤ n
  · exact h9
  · rw [if_neg h9] at h1
    rcases (show p = 0 ∨ p = 1 ∨ p = 2 ∨ p = 3 ∨ p = 4 ∨ p = 5 by omega) with rfl | rfl | rfl | rfl | rfl | rfl <;> omega
/-- how far on the wagons are; each MOVE makes it more -/
def lvl (Y : Yd) (p : Nat) : Nat := if p = 5 then yT Y + 1 else if p = 0 then 0 else yS Y (p - 1) + 1
def lv (Y : Yd) (P : Ps) : Nat := lvl Y 1 * (P 1).length + lvl Y 2 * (P 2).length + lvl Y 3 * (P 3).length + lvl Y 4 * (P 4).length + lvl Y 5 * (P 5).length
theorem lvl_ft {Y : Yd} {m : Nat} (hY : VY Y) (h : gm Y m = true) : lvl Y (mf m) < lvl Y (mt m) := by
  have h1 := go_ab (gm_parts h).2.2.2.2.2.2
  have h2 := gm_ft hY h
  have h3 := (gm_parts h).2.2.1
  have h4 := hY.2.1
  have h5 := (gm_parts h).1
  unfold sA_ sB_ at h1
  unfold lvl
  by_cases e : mt m = 5
  · rw [if_pos e] at h1 ⊢
    rw [if_neg (by omega)]
    by_cases e0 : mf m = 0
    · rw [if_pos e0]; omega
    · rw [if_neg e0] at h1 ⊢; omega
  · rw [if_neg e] at h1 ⊢
    rw [if_neg (show ¬ mf m = 5 by omega), if_neg (show ¬ mt m = 0 by omega)]
    by_cases e0 : mf m = 0
    · rw [if_pos e0]; omega
    · rw [if_neg e0] at h1 ⊢; omega
theorem lv_mv {Y : Yd} (hY : VY Y) {P : Ps} {m : Nat} (hm : gm Y m = true) (hc : can Y P m = true) : lv Y P < lv Y (mv P m) := by
  obtain ⟨c1, c2⟩ := can_parts hc
  have hft := gm_ft hY hm
  obtain ⟨g1, g2, g3, g4, g5, g6, g7⟩ := gm_parts hm
  have hM := hY.2.1
  have hl := lvl_ft hY hm
  have hlen : 1 ≤ (P (mf m)).length := List.length_pos_iff.mpr c1
  have hv : ∀ p, (mv P m p).length = if p = mt m then (P p).length + 1 else if p = mf m then (P p).length - 1 else (P p).length := by
    intro p
    unfold mv
    by_cases h1 : p = mt m
    · rw [if_pos h1, if_pos h1, pt_len]
    · rw [if_neg h1, if_neg h1]
      by_cases h2 : p = mf m
      · rw [if_pos h2, if_pos h2, tr_len]
      · rw [if_neg h2, if_neg h2]
  have hs : ∀ a b c : Nat, 1 ≤ b → a * (b - 1) + a = a * b := fun a b c h => by
    rw [← Nat.mul_succ, show (b - 1).succ = b by omega]
  have hs2 : ∀ a b : Nat, a * (b + 1) = a * b + a := fun a b => Nat.mul_succ a b
  have h0 : lvl Y 0 = 0 := rfl
  unfold lv
  simp only [hv]
  have ht6 : mt m < 6 := by omega
  have hf6 : mf m < 5 := by omega
  generalize mf m = f at *
  generalize mt m = t at *
  clear hv c1 c2 g3 g5 g6 g7 hc hm
  have q := hs (lvl Y f) (P f).length 0 hlen
  rcases (show f = 0 ∨ f = 1 ∨ f = 2 ∨ f = 3 ∨ f = 4 by omega) with rfl | rfl | rfl | rfl | rfl <;> rcases (show t = 1 ∨ t = 2 ∨ t = 3 ∨ t = 4 ∨ t = 5 by omega) with rfl | rfl | rfl | rfl | rfl <;> first | omega | (simp only [Nat.reduceEqDiff, reduceIte, reduceCtorEq, hs2]; omega)
theorem lv_le {Y : Yd} (hY : VY Y) {n : Nat} (hn : n ≤ 5) {P : Ps} (h : VP Y n P) : lv Y P ≤ 20 := by
  have h1 := VP_len h
  have h2 := hY.2.1
  obtain ⟨y1, y2, y3, y4, y5, y6⟩ := hY
  have hl : ∀ p, p < 6 → lvl Y p * (P p).length ≤ 4 * (P p).length := by
    intro p hp
    by_cases e : P p = []
    · rw [e]; exact Nat.le_refl _
    · apply Nat.mul_le_mul_right
      unfold lvl
      by_cases e5 : p = 5
      · rw [if_pos e5]; omega
      · rw [if_neg e5]
        by_cases e0 : p = 0
        · rw [if_pos e0]; omega
        · rw [if_neg e0]
          have : p ≤ yM Y := by
            rcases Nat.lt_or_ge (yM Y) p with h9 | h9
            · exact absurd (h.2.2.1 p h9 e5) e
            · exact h9
          have := (y5 (p - 1) (by omega)).2.2.2
          omega
  have a1 := hl 1 (by omega)
  have a2 := hl 2 (by omega)
  have a3 := hl 3 (by omega)
  have a4 := hl 4 (by omega)
  have a5 := hl 5 (by omega)
  unfold lv
  omega
theorem lv_st (Y : Yd) (n : Nat) : lv Y (st n) = 0 := by
  simp [lv, st]
theorem gm_t6 {Y : Yd} (hY : VY Y) {m : Nat} (h : gm Y m = true) : mt m < 6 ∧ mf m < 5 ∧ 1 ≤ mt m := by
  have h3 := (gm_parts h).2.2.1
  have h1 := (gm_parts h).1
  have := hY.2.1
  omega
