/-! THE CLASS: a YARD and its MOVES -/
def CB (y : YdS) (Y : Yd) : Prop := y.1 = iN (yM Y) ∧ y.2.1 = iN (yT Y) ∧ (∃ D, D < 8 ∧ y.2.2.2.1 = iN D ∧ ∀ k, k < 3 → D.testBit k = yD Y k) ∧ ∀ i, i < yM Y → y.2.2.2.2.1 i = iN (yL Y i) ∧ y.2.2.2.2.2.1 i = iN (yN Y i) ∧ y.2.2.2.2.2.2.1 i = iN (yS Y i)
def CN (y : YdS) (l : List Nat) : Prop := y.2.2.1 = iN l.length ∧ ∀ k, k < l.length → y.2.2.2.2.2.2.2.1 k = iN (l.getD k 0)
def yO (y : YdS) : OcS := y.2.2.2.2.2.2.2.2
theorem letterAt_ok {y : YdS} {Y : Yd} (h : CB y Y) (hM : yM Y ≤ 4) {i : Nat} (hi : i < yM Y) : yd_letterAt y (iN i) = some (iN (yL Y i)) := by
  rw [yd_letterAt, if_neg (iN_nneg (by omega)), show nI 4 = iN 4 from rfl, jlt (by omega) (by omega), if_pos (by omega), jin (by omega), if_pos (by omega), rd_iN (by omega), (h.2.2.2 i hi).1]
theorem lengthAt_ok {y : YdS} {Y : Yd} (h : CB y Y) (hM : yM Y ≤ 4) {i : Nat} (hi : i < yM Y) : yd_lengthAt y (iN i) = some (iN (yN Y i)) := by
  rw [yd_lengthAt, if_neg (iN_nneg (by omega)), show nI 4 = iN 4 from rfl, jlt (by omega) (by omega), if_pos (by omega), jin (by omega), if_pos (by omega), rd_iN (by omega), (h.2.2.2 i hi).2.1]
theorem stageAt_ok {y : YdS} {Y : Yd} (h : CB y Y) (hM : yM Y ≤ 4) {i : Nat} (hi : i < yM Y) : yd_stageAt y (iN i) = some (iN (yS Y i)) := by
  rw [yd_stageAt, if_neg (iN_nneg (by omega)), show nI 4 = iN 4 from rfl, jlt (by omega) (by omega), if_pos (by omega), jin (by omega), if_pos (by omega), rd_iN (by omega), (h.2.2.2 i hi).2.2]
theorem takesOut_J {y : YdS} {c e : Nat} (hc : c = 115 ∨ c = 113 ∨ c = 100) (he : e < 2) : yd_takesOutAt_J16 y (iN e) (iN c) = some (bI (decide (c = 100) || (if c = 115 then decide (e = 0) else decide (e = 1)))) := by
  have : e = 0 ∨ e = 1 := by omega
  rcases hc with rfl | rfl | rfl <;> rcases this with rfl | rfl <;> rfl
theorem takesOut_ok {y : YdS} {Y : Yd} (hY : VY Y) (h : CB y Y) {f e : Nat} (hf : f ≤ yM Y) (he : e < 2) : yd_takesOutAt y (iN f) (iN e) = some (bI (oE Y f e)) := by
  have hM := hY.2.1
  rw [yd_takesOutAt, jeq0 (by omega)]
  unfold oE
  by_cases c : f = 0
  · rw [if_pos c, if_pos c]
    have : e = 0 ∨ e = 1 := by omega
    rcases this with rfl | rfl <;> rfl
  · rw [if_neg c, if_neg c, zl_1, iN_sub (by omega), letterAt_ok h hM (by omega)]
    simp only [Option.bind_some]
    exact takesOut_J (hY.2.2.2.2.1 (f - 1) (by omega)).1 he
theorem putsIn_ok {y : YdS} {Y : Yd} (hY : VY Y) (h : CB y Y) {t e : Nat} (ht : t = 5 ∨ (1 ≤ t ∧ t ≤ yM Y)) (he : e < 2) : yd_putsInAt y (iN t) (iN e) = some (bI (iE Y t e)) := by
  have hM := hY.2.1
  rw [yd_putsInAt, jeq0 (by omega), zl_5, jeq (by omega) (by omega)]
  unfold iE
  by_cases c : e = 0
  · rw [if_pos c, decide_eq_true c]; rfl
  · rw [if_neg c, decide_eq_false c, Bool.false_or]
    by_cases d : t = 5
    · rw [if_pos d, decide_eq_false (by omega)]; rfl
    · have hl := (hY.2.2.2.2.1 (t - 1) (by omega)).1
      rw [if_neg d, decide_eq_true d, Bool.true_and, zl_1, iN_sub (by omega), letterAt_ok h hM (by omega)]
      simp only [Option.bind_some]
      rw [zl_100, jeq (by omega) (by omega)]
      by_cases x : yL Y (t - 1) = 100
      · rw [if_pos x, decide_eq_true x]; rfl
      · rw [if_neg x, decide_eq_false x]; rfl
theorem reaches_L32 {y : YdS} {Y : Yd} (h : CB y Y) : ∀ (d x f e : Nat) (b : Bool), d < f → x + d = e → e ≤ 3 → yd_reaches_L32 f y (iN e) (bI b) (iN x) = some (bI (b && (List.range' x d).all (yD Y))) := by
  obtain ⟨D, hD, h1, h2⟩ := h.2.2.1
  intro d
  induction d with
  | zero =>
    intro x f e b hf hx he
    obtain ⟨f, rfl⟩ : ∃ g, f = g + 1 := ⟨f - 1, by omega⟩
    rw [yd_reaches_L32, jlt (by omega) (by omega), if_neg (by omega)]
    simp
  | succ d ih =>
    intro x f e b hf hx he
    obtain ⟨f, rfl⟩ : ∃ g, f = g + 1 := ⟨f - 1, by omega⟩
    have hb := h2 x (by omega)
    rw [yd_reaches_L32, jlt (by omega) (by omega), if_pos (by omega), zl_1, iN_add, List.range'_succ, List.all_cons]
    cases b with
    | false =>
      rw [if_pos bF]
      have := ih (x + 1) f e false (by omega) (by omega) he
      rw [Bool.false_and] at this
      rw [Bool.false_and]
      exact this
    | true =>
      rw [if_neg bT, h1]
      have ht := tb_iN (u := D) (w := x) (by omega) (by omega)
      rw [zl_1] at ht
      cases hd : yD Y x with
      | true =>
        rw [hd] at hb
        rw [if_pos (ht.mpr hb)]
        have := ih (x + 1) f e true (by omega) (by omega) he
        rw [Bool.true_and] at this
        rw [Bool.true_and, Bool.true_and]
        exact this
      | false =>
        rw [hd] at hb
        rw [if_neg (fun h9 => by rw [ht.mp h9] at hb; exact absurd hb (by decide))]
        have := ih (x + 1) f e false (by omega) (by omega) he
        rw [Bool.false_and] at this
        rw [Bool.false_and, Bool.and_false]
        exact this
theorem reaches_0 {y : YdS} {e x f : Nat} (he : e ≤ 3) (hx : e ≤ x) (hx2 : x < 100) (b : Bool) (hf : 0 < f) : yd_reaches_L32 f y (iN e) (bI b) (iN x) = some (bI b) := by
  obtain ⟨f, rfl⟩ : ∃ g, f = g + 1 := ⟨f - 1, by omega⟩
  rw [yd_reaches_L32, jlt (by omega) (by omega), if_neg (by omega)]
theorem reaches_ok {y : YdS} {Y : Yd} (hY : VY Y) (h : CB y Y) {f t : Nat} (hf : f ≤ yM Y) (ht : t = 5 ∨ (1 ≤ t ∧ t ≤ yM Y)) : yd_reaches y (iN f) (iN t) = some (bI (go Y f t)) := by
  obtain ⟨hM1, hM, hT1, hT, hs, hm⟩ := hY
  have et : yd_stageOf y (iN t) = some (iN (sB_ Y t)) := by
    rw [yd_stageOf, jeq0 (by omega), if_neg (by omega), zl_5, jeq (by omega) (by omega)]
    unfold sB_
    by_cases c : t = 5
    · rw [if_pos c, if_pos c, h.2.1]
    · rw [if_neg c, if_neg c, zl_1, iN_sub (by omega), stageAt_ok h hM (by omega)]; rfl
  have hB : sB_ Y t ≤ 3 := by
    unfold sB_
    by_cases c : t = 5
    · rw [if_pos c]; exact hT
    · rw [if_neg c]; have := (hs (t - 1) (by omega)).2.2.2; omega
  have key : ∀ (b : Bool), b = decide (sA_ Y f ≤ sB_ Y t) → sA_ Y f ≤ 4 → (yd_reaches_L32 N0 y (iN (sB_ Y t)) (bI b) (iN (sA_ Y f))).bind (fun q32 => if isZ q32 then some q32 else none) = some (bI (go Y f t)) := by
    intro b hb hA
    unfold go
    by_cases c : sA_ Y f ≤ sB_ Y t
    · rw [decide_eq_true c] at hb
      rw [reaches_L32 h (sB_ Y t - sA_ Y f) (sA_ Y f) N0 (sB_ Y t) b (by rw [N0_eq]; omega) (by omega) hB]
      simp only [Option.bind_some]
      rw [if_pos (bI_Z _), hb, decide_eq_true c]
    · rw [decide_eq_false c] at hb
      rw [reaches_0 hB (by omega) (by omega) b (by rw [N0_eq]; omega)]
      simp only [Option.bind_some]
      rw [if_pos (bI_Z _), hb, decide_eq_false c, Bool.false_and]
  rw [yd_reaches, et]
  simp only [Option.bind_some]
  by_cases c : f = 0
  · have e1 : yd_stageOf y (iN f) = some (-1) := by rw [yd_stageOf, jeq0 (by omega), if_pos c]
    have e2 : ∀ k, k < 4 → (-1 : Int32) < iN k := by decide
    have hA : sA_ Y f = 0 := by unfold sA_; rw [if_pos c]
    rw [e1]
    simp only [Option.bind_some]
    rw [if_pos (e2 _ (by omega))]
    have k1 := key true (by rw [hA]; simp) (by omega)
    rw [hA] at k1
    exact k1
  · have hfs := (hs (f - 1) (by omega)).2.2.2
    have e1 : yd_stageOf y (iN f) = some (iN (yS Y (f - 1))) := by
      rw [yd_stageOf, jeq0 (by omega), if_neg c, zl_5, jeq (by omega) (by omega), if_neg (by omega), zl_1, iN_sub (by omega), stageAt_ok h hM (by omega)]; rfl
    have hA : sA_ Y f = yS Y (f - 1) + 1 := by unfold sA_; rw [if_neg c]
    rw [e1]
    simp only [Option.bind_some]
    rw [jlt (by omega) (by omega), zl_1, iN_add, ← hA]
    by_cases d : yS Y (f - 1) < sB_ Y t
    · rw [if_pos d]
      exact key true (by rw [decide_eq_true (by omega)]) (by omega)
    · rw [if_neg d]
      exact key false (by rw [decide_eq_false (by omega)]) (by omega)
theorem addMove_ok {y : YdS} {l : List Nat} (h : CN y l) (hl : l.length < 64) (m : Nat) : ∃ y', yd_addMove y (iN m) = some y' ∧ CN y' (l ++ [m]) ∧ (∀ Y, CB y Y → CB y' Y) ∧ yO y' = yO y := by
  refine ⟨(y.1, y.2.1, (y.2.2.1 + 1), y.2.2.2.1, y.2.2.2.2.1, y.2.2.2.2.2.1, y.2.2.2.2.2.2.1, (wr y.2.2.2.2.2.2.2.1 y.2.2.1 (iN m)), y.2.2.2.2.2.2.2.2), ?_, ⟨?_, fun k hk => ?_⟩, fun Y h => h, rfl⟩
  · have hin : inb (iN l.length) 64 := by rw [iN_inb (by omega)]; exact hl
    rw [yd_addMove, h.1, if_neg (iN_nneg (by omega)), show nI 64 = iN 64 from rfl, jlt (by omega) (by omega), if_pos hl, if_pos hin]
  · show y.2.2.1 + 1 = _
    rw [h.1, zl_1, iN_add, List.length_append]; rfl
  · show wr y.2.2.2.2.2.2.2.1 y.2.2.1 (iN m) k = _
    rw [List.length_append, List.length_singleton] at hk
    rw [h.1, wr_iN (by omega), List.getD_eq_getElem?_getD]
    by_cases c : k = l.length
    · rw [if_pos c, c, List.getElem?_append_right (Nat.le_refl _), Nat.sub_self]; rfl
    · rw [if_neg c, List.getElem?_append_left (by omega), h.2 k (by omega), List.getD_eq_getElem?_getD]
/-- the MOVES whose numbers are lower -/
def lwm (Y : Yd) (b : Nat) : List Nat := (mvs Y).filter (fun m => decide (m < b))
theorem lwm_step (Y : Yd) (m : Nat) : lwm Y (m + 1) = if m ∈ mvs Y then lwm Y m ++ [m] else lwm Y m := by
  have h := mvs_srt Y
  unfold lwm
  generalize mvs Y = l at h
  by_cases c : m ∈ l
  · rw [if_pos c]
    apply srt_eq
    · exact h.filter _
    · rw [List.pairwise_append]
      refine ⟨h.filter _, by simp, fun a ha b hb => ?_⟩
      rw [List.mem_singleton] at hb
      have := of_decide_eq_true (List.mem_filter.mp ha).2
      omega
    · intro x
      rw [List.mem_append, List.mem_filter, List.mem_filter, List.mem_singleton, decide_eq_true_eq, decide_eq_true_eq]
      constructor
      · rintro ⟨a, b⟩
        by_cases e : x = m
        · exact Or.inr e
        · exact Or.inl ⟨a, by omega⟩
      · rintro (⟨a, b⟩ | e)
        · exact ⟨a, by omega⟩
        · rw [e]; exact ⟨c, by omega⟩
  · rw [if_neg c]
    apply List.filter_congr
    intro x hx
    have : x ≠ m := fun e => c (e ▸ hx)
    exact decide_eq_decide.mpr (by omega)
theorem lwm_gap {Y : Yd} {a b : Nat} (hab : a ≤ b) (h : ∀ m, m ∈ mvs Y → a ≤ m → b ≤ m) : lwm Y a = lwm Y b := by
  apply List.filter_congr
  intro x hx
  have := h x hx
  exact decide_eq_decide.mpr (by omega)
theorem lwm_len (Y : Yd) (b : Nat) : (lwm Y b).length < 64 := by
  have h1 : (lwm Y b).length ≤ (mvs Y).length := List.length_filter_le _ _
  have h2 := mvs_len Y
  omega
theorem mf_of {m a b : Nat} : mk4 (mf m) (me m) (mt m) (mx m) = m := mk4_mk m
theorem m_lt (m : Nat) : me m < 10 ∧ mt m < 10 ∧ mx m < 10 ∧ m = 1000 * mf m + 100 * me m + 10 * mt m + mx m := ⟨Nat.mod_lt _ (by omega), Nat.mod_lt _ (by omega), Nat.mod_lt _ (by omega), (mk4_mk m).symm⟩
/-- what stays while MOVES are listed -/
def LK (y : YdS) (Y : Yd) (b : Nat) (o : OcS) : Prop := CB y Y ∧ CN y (lwm Y b) ∧ yO y = o
theorem list_L30 {Y : Yd} (hY : VY Y) {o : OcS} {f e t : Nat} (hf : f ≤ yM Y) (he : e < 2) (hO : oE Y f e = true) (ht : t = 5 ∨ (1 ≤ t ∧ t ≤ yM Y)) : ∀ (d x g : Nat) (y : YdS), d < g → x + d = 2 → LK y Y (mk4 f e t x) o → ∃ y', yd_listMovesFrom_L30 g y (iN f) (iN e) (iN t) 1 (iN x) = some y' ∧ LK y' Y (mk4 f e t 2) o := by
  have hM := hY.2.1
  intro d
  induction d with
  | zero =>
    intro x g y hg hx h
    obtain ⟨g, rfl⟩ : ∃ k, g = k + 1 := ⟨g - 1, by omega⟩
    refine ⟨y, ?_, by rw [show x = 2 by omega] at h; exact h⟩
    rw [yd_listMovesFrom_L30, zl_1, jlt (by omega) (by omega), if_pos (by omega)]
  | succ d ih =>
    intro x g y hg hx h
    obtain ⟨g, rfl⟩ : ∃ k, g = k + 1 := ⟨g - 1, by omega⟩
    obtain ⟨h1, h2, h3⟩ := h
    have hmk := mk4_of f e t x (by omega) (by omega) (by omega)
    have hmem : mk4 f e t x ∈ mvs Y ↔ (go Y f t && iE Y t x) = true := by
      rw [mem_mvs hY]
      unfold gm
      rw [hmk.1, hmk.2.1, hmk.2.2.1, hmk.2.2.2, decide_eq_true hf, decide_eq_true he, decide_eq_true (show x < 2 by omega), hO]
      have : (decide (t = 5) || decide (1 ≤ t ∧ t ≤ yM Y)) = true := by simpa using ht
      rw [this]
      cases go Y f t <;> cases iE Y t x <;> rfl
    have hst := lwm_step Y (mk4 f e t x)
    have hnx : mk4 f e t (x + 1) = mk4 f e t x + 1 := by unfold mk4; omega
    have skip : (go Y f t && iE Y t x) = false → LK y Y (mk4 f e t (x + 1)) o := fun hc => by
      rw [if_neg (fun h9 => by rw [hmem.mp h9] at hc; exact absurd hc (by decide))] at hst
      refine ⟨h1, ?_, h3⟩
      rw [hnx, hst]; exact h2
    have hgo : yd_listMovesFrom_L30 (g + 1) y (iN f) (iN e) (iN t) 1 (iN x) = if bI (go Y f t) = 0 then yd_listMovesFrom_L30 g y (iN f) (iN e) (iN t) 1 (iN (x + 1)) else if bI (iE Y t x) = 0 then yd_listMovesFrom_L30 g y (iN f) (iN e) (iN t) 1 (iN (x + 1)) else (yd_addMove y (iN (mk4 f e t x))).bind fun q79 => yd_listMovesFrom_L30 g q79 (iN f) (iN e) (iN t) 1 (iN (x + 1)) := by
      have e0 : (((((1000 : Int32) * iN f) + ((100 : Int32) * iN e)) + ((10 : Int32) * iN t)) + iN x) = iN (mk4 f e t x) := by
        rw [zl_1000, zl_100, zl_10, iN_mul, iN_mul, iN_mul, iN_add, iN_add, iN_add]; rfl
      have e1 : iN x + (1 : Int32) = iN (x + 1) := by rw [zl_1, iN_add]
      rw [yd_listMovesFrom_L30, e0, e1, if_neg (show ¬ (1 : Int32) < iN x by rw [zl_1, iN_lt (by omega) (by omega)]; omega), if_neg (by decide), reaches_ok hY h1 hf ht]
      simp only [Option.bind_some]
      rw [putsIn_ok hY h1 ht (by omega)]
      rfl
    rw [hgo]
    cases c1 : go Y f t with
    | false =>
      rw [if_pos bF]
      exact ih (x + 1) g y (by omega) (by omega) (skip (by rw [c1]; rfl))
    | true =>
      rw [if_neg bT]
      cases c2 : iE Y t x with
      | false =>
        rw [if_pos bF]
        exact ih (x + 1) g y (by omega) (by omega) (skip (by rw [c2, Bool.and_false]))
      | true =>
        rw [if_neg bT]
        obtain ⟨y', a1, a2, a3, a4⟩ := addMove_ok h2 (lwm_len _ _) (mk4 f e t x)
        rw [a1]
        simp only [Option.bind_some]
        refine ih (x + 1) g y' (by omega) (by omega) ⟨a3 Y h1, ?_, by rw [a4, h3]⟩
        rw [if_pos (hmem.mpr (by rw [c1, c2]; rfl))] at hst
        rw [hnx, hst]; exact a2
theorem list_L30n (f e t : Int32) (y : YdS) : yd_listMovesFrom_L30 N0 y f e t 0 0 = some y := by
  have h : ∀ (g : Nat) (x : Int32), 1 < x → yd_listMovesFrom_L30 (g + 1) y f e t 0 x = some y := fun g x hx => by rw [yd_listMovesFrom_L30, if_pos hx]
  obtain ⟨g, hg⟩ : ∃ g, N0 = g + 1 + 1 + 1 := ⟨N0 - 3, by rw [N0_eq]⟩
  rw [hg, yd_listMovesFrom_L30, if_neg (by decide), if_pos rfl, yd_listMovesFrom_L30, if_neg (by decide), if_pos rfl]
  exact h _ _ (by decide)
theorem list_L2 {Y : Yd} (hY : VY Y) {o : OcS} {f e : Nat} (hf : f ≤ yM Y) (he : e < 2) (hO : oE Y f e = true) : ∀ (d t g : Nat) (y : YdS), d < g → t + d = 6 → 1 ≤ t → LK y Y (mk4 f e t 0) o → ∃ y', yd_listMovesFrom_L2 g y (iN f) (iN e) (iN t) = some y' ∧ LK y' Y (mk4 f e 6 0) o := by
  have hM := hY.2.1
  intro d
  induction d with
  | zero =>
    intro t g y hg ht h1 h
    obtain ⟨g, rfl⟩ : ∃ k, g = k + 1 := ⟨g - 1, by omega⟩
    refine ⟨y, ?_, by rw [show t = 6 by omega] at h; exact h⟩
    rw [yd_listMovesFrom_L2, zl_5, jlt (by omega) (by omega), if_pos (by omega)]
  | succ d ih =>
    intro t g y hg ht h1 h
    obtain ⟨g, rfl⟩ : ∃ k, g = k + 1 := ⟨g - 1, by omega⟩
    obtain ⟨b1, b2, b3⟩ := h
    rw [yd_listMovesFrom_L2, zl_5, jlt (by omega) (by omega), if_neg (by omega), b1.1, jlt (by omega) (by omega), jeq (by omega) (by omega), zl_1, iN_add, ← zl_1]
    have go1 : (t = 5 ∨ (1 ≤ t ∧ t ≤ yM Y)) → ∃ y', ((yd_listMovesFrom_L30 N0 y (iN f) (iN e) (iN t) 1 0).bind fun q30 => yd_listMovesFrom_L2 g q30 (iN f) (iN e) (iN (t + 1))) = some y' ∧ LK y' Y (mk4 f e 6 0) o := by
      intro hh
      obtain ⟨y1, a1, a2, a3, a4⟩ := list_L30 hY (o := o) hf he hO hh 2 0 N0 y (by rw [N0_eq]; omega) (by omega) ⟨b1, b2, b3⟩
      rw [z00] at a1
      rw [a1]
      simp only [Option.bind_some]
      refine ih (t + 1) g y1 (by omega) (by omega) (by omega) ⟨a2, ?_, a4⟩
      rw [← lwm_gap (a := mk4 f e t 2) (by unfold mk4; omega) (fun m hm h9 => ?_)]
      · exact a3
      · have hg := gm_parts ((mem_mvs hY m).mp hm)
        have hl := m_lt m
        unfold mk4 at h9 ⊢
        omega
    by_cases c : yM Y < t
    · rw [if_pos c]
      by_cases c5 : t = 5
      · rw [if_pos c5]
        exact go1 (Or.inl c5)
      · rw [if_neg c5, list_L30n]
        simp only [Option.bind_some]
        refine ih (t + 1) g y (by omega) (by omega) (by omega) ⟨b1, ?_, b3⟩
        rw [← lwm_gap (a := mk4 f e t 0) (by unfold mk4; omega) (fun m hm h9 => ?_)]
        · exact b2
        · have hg := gm_parts ((mem_mvs hY m).mp hm)
          have hl := m_lt m
          unfold mk4 at h9 ⊢
          omega
    · rw [if_neg c]
      exact go1 (Or.inr ⟨h1, by omega⟩)
theorem list_L17 {Y : Yd} (hY : VY Y) {o : OcS} {f : Nat} (hf : f ≤ yM Y) : ∀ (d e g : Nat) (y : YdS), d < g → e + d = 2 → LK y Y (mk4 f e 0 0) o → ∃ y', yd_listMoves_L17 g y (iN f) (iN e) = some y' ∧ LK y' Y (mk4 f 2 0 0) o := by
  have hM := hY.2.1
  intro d
  induction d with
  | zero =>
    intro e g y hg he h
    obtain ⟨g, rfl⟩ : ∃ k, g = k + 1 := ⟨g - 1, by omega⟩
    refine ⟨y, ?_, by rw [show e = 2 by omega] at h; exact h⟩
    rw [yd_listMoves_L17, zl_1, jlt (by omega) (by omega), if_pos (by omega)]
  | succ d ih =>
    intro e g y hg he h
    obtain ⟨g, rfl⟩ : ∃ k, g = k + 1 := ⟨g - 1, by omega⟩
    obtain ⟨b1, b2, b3⟩ := h
    rw [yd_listMoves_L17, zl_1, jlt (by omega) (by omega), if_neg (by omega), takesOut_ok hY b1 hf (by omega), iN_add]
    simp only [Option.bind_some]
    cases hO : oE Y f e with
    | false =>
      rw [if_pos bF]
      refine ih (e + 1) g y (by omega) (by omega) ⟨b1, ?_, b3⟩
      rw [← lwm_gap (a := mk4 f e 0 0) (by unfold mk4; omega) (fun m hm h9 => ?_)]
      · exact b2
      · have hg := gm_parts ((mem_mvs hY m).mp hm)
        have hl := m_lt m
        have : ¬ (mf m = f ∧ me m = e) := fun h8 => by rw [h8.1, h8.2, hO] at hg; exact absurd hg.2.2.2.2.1 (by decide)
        unfold mk4 at h9 ⊢
        omega
    | true =>
      rw [if_neg bT]
      obtain ⟨y1, a1, a2, a3, a4⟩ := list_L2 hY (o := o) hf (show e < 2 by omega) hO 5 1 N0 y (by rw [N0_eq]; omega) (by omega) (by omega) ⟨b1, by
        rw [← lwm_gap (a := mk4 f e 0 0) (by unfold mk4; omega) (fun m hm h9 => ?_)]
        · exact b2
        · have hg := gm_parts ((mem_mvs hY m).mp hm)
          have hl := m_lt m
          unfold mk4 at h9 ⊢
          omega, b3⟩
      have a1' : yd_listMovesFrom_L2 N0 y (iN f) (iN e) 1 = some y1 := a1
      rw [yd_listMovesFrom, a1']
      simp only [Option.bind_some]
      refine ih (e + 1) g y1 (by omega) (by omega) ⟨a2, ?_, a4⟩
      rw [← lwm_gap (a := mk4 f e 6 0) (by unfold mk4; omega) (fun m hm h9 => ?_)]
      · exact a3
      · have hg := gm_parts ((mem_mvs hY m).mp hm)
        have hl := m_lt m
        unfold mk4 at h9 ⊢
        omega
theorem list_L7 {Y : Yd} (hY : VY Y) {o : OcS} : ∀ (d f g : Nat) (y : YdS), d < g → f + d = yM Y + 1 → LK y Y (mk4 f 0 0 0) o → ∃ y', yd_listMoves_L7 g y (iN f) = some y' ∧ LK y' Y (mk4 (yM Y + 1) 0 0 0) o := by
  have hM := hY.2.1
  intro d
  induction d with
  | zero =>
    intro f g y hg hf h
    obtain ⟨g, rfl⟩ : ∃ k, g = k + 1 := ⟨g - 1, by omega⟩
    refine ⟨y, ?_, by rw [show f = yM Y + 1 by omega] at h; exact h⟩
    rw [yd_listMoves_L7, h.1.1, jlt (by omega) (by omega), if_pos (by omega)]
  | succ d ih =>
    intro f g y hg hf h
    obtain ⟨g, rfl⟩ : ∃ k, g = k + 1 := ⟨g - 1, by omega⟩
    obtain ⟨y1, a1, a2, a3, a4⟩ := list_L17 hY (o := o) (show f ≤ yM Y by omega) 2 0 N0 y (by rw [N0_eq]; omega) (by omega) h
    rw [z00] at a1
    rw [yd_listMoves_L7, h.1.1, jlt (by omega) (by omega), if_neg (by omega), a1]
    simp only [Option.bind_some]
    rw [zl_1, iN_add]
    refine ih (f + 1) g y1 (by omega) (by omega) ⟨a2, ?_, a4⟩
    rw [← lwm_gap (a := mk4 f 2 0 0) (by unfold mk4; omega) (fun m hm h9 => ?_)]
    · exact a3
    · have hg := gm_parts ((mem_mvs hY m).mp hm)
      have hl := m_lt m
      unfold mk4 at h9 ⊢
      omega
theorem listMoves_ok {Y : Yd} (hY : VY Y) {y : YdS} (h : CB y Y) : ∃ y', yd_listMoves y = some y' ∧ CB y' Y ∧ CN y' (mvs Y) ∧ yO y' = yO y := by
  have e0 : lwm Y (mk4 0 0 0 0) = [] := by
    unfold lwm
    rw [List.filter_eq_nil_iff]
    intro a _
    rw [decide_eq_true_eq]
    exact Nat.not_lt_zero _
  obtain ⟨y', a1, a2, a3, a4⟩ := list_L7 hY (o := yO y) (yM Y + 1) 0 N0 (y.1, y.2.1, 0, y.2.2.2.1, y.2.2.2.2.1, y.2.2.2.2.2.1, y.2.2.2.2.2.2.1, y.2.2.2.2.2.2.2.1, y.2.2.2.2.2.2.2.2) (by rw [N0_eq]; have := hY.2.1; omega) (by omega) ⟨h, ⟨by rw [e0]; rfl, fun k hk => by rw [e0] at hk; simp at hk⟩, rfl⟩
  have a1' : yd_listMoves_L7 N0 (y.1, y.2.1, 0, y.2.2.2.1, y.2.2.2.2.1, y.2.2.2.2.2.1, y.2.2.2.2.2.2.1, y.2.2.2.2.2.2.2.1, y.2.2.2.2.2.2.2.2) 0 = some y' := a1
  refine ⟨y', by rw [yd_listMoves, a1']; rfl, a2, ?_, a4⟩
  have e : lwm Y (mk4 (yM Y + 1) 0 0 0) = mvs Y := by
    unfold lwm
    rw [List.filter_eq_self]
    intro m hm
    have hg := gm_parts ((mem_mvs hY m).mp hm)
    have hl := m_lt m
    rw [decide_eq_true_eq]
    unfold mk4
    omega
  rw [e] at a3
  exact a3
theorem moveAt_ok {y : YdS} {l : List Nat} (h : CN y l) (hl : l.length < 64) {k : Nat} (hk : k < l.length) : yd_moveAt y (iN k) = some (iN (l.getD k 0)) := by
  rw [yd_moveAt, if_neg (iN_nneg (by omega)), h.1, jlt (by omega) (by omega), if_pos hk, show nI 64 = iN 64 from rfl, jlt (by omega) (by omega), if_pos (by omega), jin (by omega), if_pos (by omega), rd_iN (by omega), h.2 k hk]
