/-! THE REFERENCE: MOVES -/
theorem jlt {α : Type} {a b : Nat} (ha : a < 2147483648) (hb : b < 2147483648) {x y : α} : (if iN a < iN b then x else y) = if a < b then x else y := by
  by_cases c : a < b
  · rw [if_pos c, if_pos (by rw [iN_lt ha hb]; exact c)]
  · rw [if_neg c, if_neg (by rw [iN_lt ha hb]; exact c)]
theorem jeq {α : Type} {a b : Nat} (ha : a < 2147483648) (hb : b < 2147483648) {x y : α} : (if iN a = iN b then x else y) = if a = b then x else y := by
  by_cases c : a = b
  · rw [if_pos c, if_pos (by rw [iN_eq ha hb]; exact c)]
  · rw [if_neg c, if_neg (by rw [iN_eq ha hb]; exact c)]
theorem jin {α : Type} {a n : Nat} (ha : a < 2147483648) {x y : α} : (if inb (iN a) n then x else y) = if a < n then x else y := by
  by_cases c : a < n
  · rw [if_pos c, if_pos (by rw [iN_inb ha]; exact c)]
  · rw [if_neg c, if_neg (by rw [iN_inb ha]; exact c)]
theorem jlt0 {α : Type} {b : Nat} (hb : b < 2147483648) {x y : α} : (if (0 : Int32) < iN b then x else y) = if 0 < b then x else y := jlt (a := 0) (by omega) hb
theorem jeq0 {α : Type} {a : Nat} (ha : a < 2147483648) {x y : α} : (if iN a = (0 : Int32) then x else y) = if a = 0 then x else y := jeq (b := 0) ha (by omega)
theorem z00 : iN 0 = (0 : Int32) := rfl
def run_ (Y : Yd) (k b : Nat) : Bool := (List.range' k (b - k)).all (yD Y)
theorem run_ge {Y : Yd} {k b : Nat} (h : b ≤ k) : run_ Y k b = true := by
  unfold run_
  rw [show b - k = 0 by omega]
  rfl
theorem run_lt {Y : Yd} {k b : Nat} (h : k < b) (hb : b ≤ 3) : run_ Y k b = (yD Y k && run_ Y (k + 1) b) := by
  unfold run_
  rw [show b - k = (b - (k + 1)) + 1 by omega, List.range'_succ, List.all_cons]
theorem goes_L57 {σ : MS} {Y : Yd} (hY : YR σ Y) {b : Nat} (hb : b ≤ yT Y) : ∀ (d k f : Nat) (v : Bool), d < f → b ≤ k + d → k < 100 → m_goes_L57 f σ (iN b) (bI v) (iN k) = some (bI (v && run_ Y k b)) := by
  have hT := hY.1.2.2.2.1
  intro d
  induction d with
  | zero =>
    intro k f v hf hk h9
    obtain ⟨f, rfl⟩ : ∃ g, f = g + 1 := ⟨f - 1, by omega⟩
    rw [m_goes_L57, run_ge (by omega)]
    simp (disch := omega) only [iN_lt]
    rw [if_neg (by omega), Bool.and_true]
  | succ d ih =>
    intro k f v hf hk h9
    obtain ⟨f, rfl⟩ : ∃ g, f = g + 1 := ⟨f - 1, by omega⟩
    rw [m_goes_L57]
    simp (disch := omega) only [iN_lt, bI_0]
    by_cases c : k < b
    · rw [if_pos c]
      have e : iN k + 1 = iN (k + 1) := iN_add k 1
      cases v with
      | false => rw [if_pos rfl, Bool.false_and]
      | true =>
        rw [if_neg (by decide), if_pos (by rw [iN_inb (by omega)]; omega), gA_av (by omega), hY.2.2.2.2 k (by omega), run_lt c (by omega), e]
        simp only [bI_1]
        cases hD : yD Y k with
        | false =>
          rw [if_neg (by decide)]
          have := ih (k + 1) f false (by omega) (by omega) (by omega)
          simpa [bI] using this
        | true =>
          rw [if_pos rfl]
          have := ih (k + 1) f true (by omega) (by omega) (by omega)
          simpa [bI] using this
    · rw [if_neg c, run_ge (by omega), Bool.and_true]
theorem sA_le {Y : Yd} (h : VY Y) {f : Nat} (hf : f ≤ yM Y) : sA_ Y f ≤ yT Y := by
  unfold sA_
  by_cases e : f = 0
  · rw [if_pos e]; exact Nat.zero_le _
  · rw [if_neg e]
    have := (h.2.2.2.2.1 (f - 1) (by omega)).2.2.2
    omega
theorem sB_le {Y : Yd} (h : VY Y) {t : Nat} (ht : t = 5 ∨ (1 ≤ t ∧ t ≤ yM Y)) : sB_ Y t ≤ yT Y := by
  unfold sB_
  by_cases e : t = 5
  · rw [if_pos e]; exact Nat.le_refl _
  · rw [if_neg e]
    have := (h.2.2.2.2.1 (t - 1) (by omega)).2.2.2
    omega
theorem go_run {Y : Yd} {f t : Nat} : go Y f t = (decide (sA_ Y f ≤ sB_ Y t) && run_ Y (sA_ Y f) (sB_ Y t)) := rfl
theorem goes_ok {σ : MS} {Y : Yd} (hY : YR σ Y) {f t : Nat} (hf : f ≤ yM Y) (ht : t = 5 ∨ (1 ≤ t ∧ t ≤ yM Y)) : m_goes σ (iN f) (iN t) = some (bI (go Y f t)) := by
  obtain ⟨v, y1, y2, y3, y4⟩ := id hY
  have hA := sA_le v hf
  have hB := sB_le v ht
  have v2 := v.2.1
  have v4 := v.2.2.2.1
  have e1 : m_goes σ (iN f) (iN t) = m_goes_J18 σ (iN t) (iN (sA_ Y f)) := by
    rw [m_goes]
    by_cases h : f = 0
    · subst h; rw [if_pos z00]; rfl
    · rw [if_neg (by rw [zl_0, iN_eq (by omega) (by omega)]; exact h)]
      simp (disch := omega) only [zl_1, iN_sub]
      rw [if_pos (by rw [iN_inb (by omega)]; omega), gA_av (by omega), (y3 (f - 1) (by omega)).2.2, iN_add]
      unfold sA_; rw [if_neg h]
  have e2 : ∀ a, m_goes_J18 σ (iN t) (iN a) = m_goes_J39 σ (iN a) (iN (sB_ Y t)) := by
    intro a
    rw [m_goes_J18]
    unfold sB_
    by_cases h : t = 5
    · rw [if_pos h, if_pos (by rw [h]; rfl), y2]
    · rw [if_neg h, if_neg (by rw [zl_5, iN_eq (by omega) (by omega)]; exact h)]
      simp (disch := omega) only [zl_1, iN_sub]
      rw [if_pos (by rw [iN_inb (by omega)]; omega), gA_av (by omega), (y3 (t - 1) (by omega)).2.2]
  rw [e1, e2, m_goes_J39, jlt (by omega) (by omega), go_run]
  by_cases c : sB_ Y t < sA_ Y f
  · have := goes_L57 hY hB 10 (sA_ Y f) N0 false (by rw [N0_eq]; omega) (by omega) (by omega)
    rw [show bI false = 0 from rfl] at this
    rw [if_pos c, this]
    simp only [Option.bind_some]
    rw [if_pos (bI_Z _), decide_eq_false (by omega)]
  · have := goes_L57 hY hB 10 (sA_ Y f) N0 true (by rw [N0_eq]; omega) (by omega) (by omega)
    rw [show bI true = 1 from rfl] at this
    rw [if_neg c, this]
    simp only [Option.bind_some]
    rw [if_pos (bI_Z _), decide_eq_true (by omega)]
theorem isOut_ok {σ : MS} {Y : Yd} (hY : YR σ Y) {i e : Nat} (hi : i < yM Y) (he : e < 2) : m_isOut σ (iN i) (iN e) = some (bI (oE Y (i + 1) e)) := by
  have h4 := hY.1.2.1
  have hl := (hY.1.2.2.2.2.1 i hi).1
  have hin : inb (iN i) 4 := by rw [iN_inb (by omega)]; omega
  have e0 : oE Y (i + 1) e = (decide (yL Y i = 100) || if yL Y i = 115 then decide (e = 0) else decide (e = 1)) := by
    unfold oE
    rw [if_neg (by omega), show i + 1 - 1 = i from rfl]
  rw [m_isOut, if_pos hin, gA_av (by omega), (hY.2.2.2.1 i hi).1, if_pos hin, e0]
  rcases hl with h | h | h <;> rw [h] <;> rcases (show e = 0 ∨ e = 1 by omega) with rfl | rfl <;> rfl
theorem isIn_ok {σ : MS} {Y : Yd} (hY : YR σ Y) {i x : Nat} (hi : i < yM Y) (hx : x < 2) : m_isIn σ (iN i) (iN x) = some (bI (iE Y (i + 1) x)) := by
  have h4 := hY.1.2.1
  have hl := (hY.1.2.2.2.2.1 i hi).1
  have hin : inb (iN i) 4 := by rw [iN_inb (by omega)]; omega
  rw [m_isIn, if_pos hin, gA_av (by omega), (hY.2.2.2.1 i hi).1]
  unfold iE
  rw [decide_eq_true (show i + 1 ≠ 5 by omega), show i + 1 - 1 = i from rfl]
  rcases hl with h | h | h <;> rw [h] <;> rcases (show x = 0 ∨ x = 1 by omega) with rfl | rfl <;> rfl
def cm_ (Y : Yd) (P : Ps) (f e t x : Nat) : Bool := (decide (P f ≠ []) && oE Y f e) && ((decide (t = 5) || decide ((P t).length < yN Y (t - 1))) && iE Y t x) && go Y f t
theorem cmv_eq {Y : Yd} {P : Ps} {f e t x : Nat} (hM : yM Y ≤ 4) (hf : f ≤ yM Y) (he : e < 2) (ht : t = 5 ∨ (1 ≤ t ∧ t ≤ yM Y)) (hx : x < 2) : cm_ Y P f e t x = (gm Y (mk4 f e t x) && can Y P (mk4 f e t x)) := by
  obtain ⟨a, b, c, d⟩ := mk4_of f e t x (by omega) (by omega) (by omega)
  unfold cm_ gm can
  rw [a, b, c, d, decide_eq_true hf, decide_eq_true he, decide_eq_true hx]
  have h3 : (decide (t = 5) || decide (1 ≤ t ∧ t ≤ yM Y)) = true := by
    rw [Bool.or_eq_true, decide_eq_true_eq, decide_eq_true_eq]; exact ht
  rw [h3]
  generalize decide (P f ≠ []) = b1
  generalize oE Y f e = b2
  generalize (decide (t = 5) || decide ((P t).length < yN Y (t - 1))) = b3
  generalize iE Y t x = b4
  generalize go Y f t = b5
  cases b1 <;> cases b2 <;> cases b3 <;> cases b4 <;> cases b5 <;> rfl
theorem gn_lt {Y : Yd} {n : Nat} {P : Ps} (h : VP Y n P) : gn n P < n ↔ P 0 ≠ [] := by
  have := (VP_0 h).1
  unfold gn
  constructor
  · intro h1 h2
    rw [h2] at h1
    simp at h1
  · intro h1
    have := List.length_pos_iff.mpr h1
    omega
theorem RP_l {σ : MS} {Y : Yd} {P : Ps} (h : RP σ Y P) {f : Nat} (h1 : 1 ≤ f) (h2 : f ≤ yM Y) : RLs σ (f - 1) (P f) := by
  have := h (f - 1) (by omega)
  rwa [lp_s h1 h2] at this
theorem RP_5 {σ : MS} {Y : Yd} {P : Ps} (h : RP σ Y P) : RLs σ (yM Y) (P 5) := by
  have := h (yM Y) (Nat.le_refl _)
  rwa [lp_5] at this
theorem canMove_ok {σ : MS} {Y : Yd} (hY : YR σ Y) {n : Nat} (hn : n ≤ 5) {P : Ps} (hv : VP Y n P) (hP : RP σ Y P) (hg : gI σ 16 = iN (gn n P)) {f e t x : Nat} (hf : f ≤ yM Y) (he : e < 2) (ht : t = 5 ∨ (1 ≤ t ∧ t ≤ yM Y)) (hx : x < 2) :
    m_canMove σ (iN f) (iN e) (iN t) (iN x) (iN n) = some (bI (cm_ Y P f e t x)) := by
  have hM := hY.1.2.1
  have hgn : gn n P ≤ n := Nat.sub_le _ _
  have eC : ∀ u v : Bool, m_canMove_J108 σ (iN f) (iN t) (bI u) (bI v) = some (bI (u && v && go Y f t)) := by
    intro u v
    rw [m_canMove_J108, goes_ok hY hf ht]
    simp only [bI_0, Option.bind_some]
    cases u <;> cases v <;> cases go Y f t <;> rfl
  have eB : ∀ u : Bool, m_canMove_J52 σ (iN f) (iN t) (iN x) (bI u) = some (bI (u && ((decide (t = 5) || decide ((P t).length < yN Y (t - 1))) && iE Y t x) && go Y f t)) := by
    intro u
    rw [m_canMove_J52]
    by_cases h : t = 5
    · rw [if_pos (by rw [h]; rfl)]
      have e2 : iE Y t x = decide (x = 0) := by simp [iE, h]
      rw [e2, decide_eq_true h, Bool.true_or, Bool.true_and]
      rcases (show x = 0 ∨ x = 1 by omega) with rfl | rfl
      · rw [if_pos z00]; exact eC u true
      · rw [if_neg (by decide)]; exact eC u false
    · rw [if_neg (by rw [zl_5, iN_eq (by omega) (by omega)]; exact h)]
      obtain ⟨a1, a2, a3⟩ := RP_l hP (f := t) (by omega) (by omega)
      have a4 := hY.2.2.2.1 (t - 1) (by omega)
      have a5 := (hY.1.2.2.2.2.1 (t - 1) (by omega)).2
      simp (disch := omega) only [zl_1, iN_sub]
      rw [if_pos ⟨by rw [iN_inb (by omega)]; omega, by rw [iN_inb (by omega)]; omega⟩, gA_av (by omega), gA_av (by omega), a2, a4.2.1, jlt (by omega) (by omega), decide_eq_false h, Bool.false_or, isIn_ok hY (show t - 1 < yM Y by omega) hx, show t - 1 + 1 = t by omega]
      by_cases c : (P t).length < yN Y (t - 1)
      · rw [if_pos c, decide_eq_true c]
        simp only [Option.bind_some, bI_0]
        cases iE Y t x with
        | false => rw [if_pos rfl]; exact eC u false
        | true => rw [if_neg (by decide)]; exact eC u true
      · rw [if_neg c, decide_eq_false c]
        exact eC u false
  have eA : m_canMove σ (iN f) (iN e) (iN t) (iN x) (iN n) = m_canMove_J52 σ (iN f) (iN t) (iN x) (bI (decide (P f ≠ []) && oE Y f e)) := by
    rw [m_canMove]
    by_cases h : f = 0
    · subst h
      rw [if_pos z00, hg, jlt (by omega) (by omega)]
      have e2 : oE Y 0 e = decide (e = 0) := by simp [oE]
      rw [e2]
      rcases (show e = 0 ∨ e = 1 by omega) with rfl | rfl
      · rw [if_pos z00]
        by_cases c : gn n P < n
        · rw [if_pos c, decide_eq_true ((gn_lt hv).mp c)]; rfl
        · rw [if_neg c, decide_eq_false (fun h => c ((gn_lt hv).mpr h))]; rfl
      · rw [if_neg (by decide)]
        rw [show decide (1 = 0) = false from rfl, Bool.and_false]; rfl
    · rw [if_neg (by rw [zl_0, iN_eq (by omega) (by omega)]; exact h)]
      obtain ⟨a1, a2, a3⟩ := RP_l hP (f := f) (by omega) (by omega)
      simp (disch := omega) only [zl_1, iN_sub]
      rw [if_pos (by rw [iN_inb (by omega)]; omega), gA_av (by omega), a2, zl_0, jlt (by omega) (by omega), isOut_ok hY (show f - 1 < yM Y by omega) he, show f - 1 + 1 = f by omega]
      by_cases c : 0 < (P f).length
      · rw [if_pos c, decide_eq_true (List.length_pos_iff.mp c), Bool.true_and]
        simp only [Option.bind_some]
        rw [← zl_0]
        simp only [bI_0]
        cases oE Y f e with
        | false => rw [if_pos rfl]; rfl
        | true => rw [if_neg (by decide)]; rfl
      · rw [if_neg c, decide_eq_false (fun h => c (List.length_pos_iff.mpr h)), Bool.false_and]; rfl
  rw [eA, eB]
  rfl
theorem doMove_ok {σ : MS} {Y : Yd} (hY : YR σ Y) {n : Nat} (hn : n ≤ 5) {P : Ps} (hv : VP Y n P) (hP : RP σ Y P) (hg : gI σ 16 = iN (gn n P)) {f e t x : Nat} (hf : f ≤ yM Y) (he : e < 2) (ht : t = 5 ∨ (1 ≤ t ∧ t ≤ yM Y)) (hx : x < 2) (hc : cm_ Y P f e t x = true) :
    ∃ τ, m_doMove σ (iN f) (iN e) (iN t) (iN x) = some τ ∧ RP τ Y (mv P (mk4 f e t x)) ∧ gI τ 16 = iN (gn n (mv P (mk4 f e t x))) ∧ FR [16] [10, 11] [] σ τ := by
  have hM := hY.1.2.1
  rw [cmv_eq hM hf he ht hx, Bool.and_eq_true] at hc
  obtain ⟨hgm, hca⟩ := hc
  obtain ⟨q1, q2, q3, q4⟩ := mk4_of f e t x (by omega) (by omega) (by omega)
  have hft := gm_ft hY.1 hgm
  obtain ⟨c1, c2⟩ := can_parts hca
  have g0 := gm_fT hgm
  have hfT : fT (mk4 f e t x) = decide (e = 1) := by unfold fT; rw [q2]
  have hfP : fP (mk4 f e t x) = (decide (t = 5) || decide (x = 1)) := by unfold fP; rw [q3, q4]
  generalize hm : mk4 f e t x = m at *
  rw [q1] at c1 hft g0
  rw [q3] at c2 hft
  have hwg : wg P m = tk (P f) (fT m) := by unfold wg; rw [q1]
  have hlen := VP_len hv
  have hfl : 1 ≤ (P f).length := List.length_pos_iff.mpr c1
  have st1 : ∃ υ, m_doMove σ (iN f) (iN e) (iN t) (iN x) = m_doMove_J49 υ (iN t) (iN x) (iN (wg P m)) ∧ (∀ p, p ≤ yM Y → RLs υ p (if lp (yM Y) p = f then tr (P f) (fT m) else P (lp (yM Y) p))) ∧ gI υ 16 = iN (gn n (mv P m)) ∧ FR [16] [10, 11] [] σ υ := by
    by_cases h0 : f = 0
    · refine ⟨sI σ 16 (iN (gn n P + 1)), ?_, fun p hp => ?_, ?_, FR_sI (by decide)⟩
      · rw [m_doMove, h0, if_pos z00, hg, zl_1, iN_add]
        have hw : wg P m = gn n P + 1 := by
          rw [hwg, h0, g0 h0, (VP_0 hv).2]
          rw [h0] at hfl
          obtain ⟨k, hk⟩ : ∃ k, (P 0).length = k + 1 := ⟨(P 0).length - 1, by omega⟩
          unfold gn
          rw [hk, List.range'_succ]
          rfl
        rw [hw]
      · have := hP p hp
        have hl := plc_mem.mp (lp_in hp)
        rw [if_neg (by omega)]
        exact this
      · rw [gI_sI, if_pos rfl]
        congr 1
        unfold gn
        have := mv_f (P := P) (m := m) (by omega)
        rw [q1] at this
        rw [h0] at this hfl
        rw [this, tr_len]
        have := (VP_0 hv).1
        omega
    · have hl := RP_l hP (f := f) (by omega) hf
      have hlp : ∀ p, p ≤ yM Y → (lp (yM Y) p = f ↔ p = f - 1) := by
        intro p hp
        unfold lp
        by_cases e5 : p = yM Y
        · rw [if_pos e5]; omega
        · rw [if_neg e5]; omega
      have hgn : gn n (mv P m) = gn n P := by unfold gn; rw [mv_o (by omega) (by omega)]
      have key : ∀ τ b, OT σ τ (f - 1) → RLs τ (f - 1) (tr (P f) b) → fT m = b → ∀ p, p ≤ yM Y → RLs τ p (if lp (yM Y) p = f then tr (P f) (fT m) else P (lp (yM Y) p)) := by
        intro τ b o r hb p hp
        by_cases e9 : p = f - 1
        · rw [if_pos ((hlp p hp).mpr e9), e9, hb]; exact r
        · rw [if_neg (fun h => e9 ((hlp p hp).mp h))]
          exact RLs_ot (hP p hp) o e9
      rw [m_doMove, if_neg (by rw [zl_0, iN_eq (by omega) (by omega)]; exact h0)]
      simp (disch := omega) only [zl_1, iN_sub]
      rcases (show e = 0 ∨ e = 1 by omega) with rfl | rfl
      · obtain ⟨τ, t1, t2, t3, t4⟩ := takeNear_ok hl (by omega) c1
        refine ⟨τ, ?_, key τ false t3 t2 hfT, ?_, FR_mo t4 rfl rfl rfl⟩
        · rw [if_pos z00, t1]
          simp only [Option.bind_some]
          rw [hwg, hfT]; rfl
        · rw [t4.1 16 (by decide), hg, hgn]
      · obtain ⟨τ, t1, t2, t3, t4⟩ := takeFar_ok hl (by omega) c1
        refine ⟨τ, ?_, key τ true t3 t2 hfT, ?_, FR_mo t4 rfl rfl rfl⟩
        · rw [if_neg (by decide), t1]
          simp only [Option.bind_some]
          rw [hwg, hfT]; rfl
        · rw [t4.1 16 (by decide), hg, hgn]
  obtain ⟨υ, u1, u2, u3, u4⟩ := st1
  rw [u1]
  have hfin : ∀ τ pp, OT υ τ pp → pp ≤ yM Y → lp (yM Y) pp = t → RLs τ pp (pt (P t) (wg P m) (fP m)) → RP τ Y (mv P m) := by
    intro τ pp o hpp hlt r p hp
    by_cases e9 : p = pp
    · rw [e9, hlt]
      have := mv_t P m
      rw [q3] at this
      rw [this]; exact r
    · have hne : lp (yM Y) p ≠ t := fun h => e9 (lp_inj hM hp hpp (by rw [h, hlt]))
      have := RLs_ot (u2 p hp) o e9
      by_cases e8 : lp (yM Y) p = f
      · rw [if_pos e8] at this
        rw [e8]
        have h9 := mv_f (P := P) (m := m) (by omega)
        rw [q1] at h9
        rw [h9]; exact this
      · rw [if_neg e8] at this
        rw [mv_o (by omega) (by omega)]
        exact this
  rw [m_doMove_J49]
  by_cases h5 : t = 5
  · rw [if_pos (by rw [h5]; rfl), m_doMove_J64, if_pos (by rw [h5]; rfl), u4.1 4 (by decide), hY.2.1]
    have hl := u2 (yM Y) (Nat.le_refl _)
    rw [lp_5, if_neg (by omega)] at hl
    have h5l : (P 5).length < 5 := by
      have : f < 5 := by omega
      rcases (show f = 0 ∨ f = 1 ∨ f = 2 ∨ f = 3 ∨ f = 4 by omega) with rfl | rfl | rfl | rfl | rfl <;> omega
    obtain ⟨τ, t1, t2, t3, t4⟩ := putFar_ok (w := wg P m) hl (by omega) h5l
    refine ⟨τ, by rw [t1]; rfl, hfin τ _ t3 (Nat.le_refl _) (by rw [lp_5, h5]) ?_, by rw [t4.1 16 (by decide), u3], FR_tr u4 (FR_mo t4 rfl rfl rfl)⟩
    rw [hfP, decide_eq_true h5, Bool.true_or, h5]; exact t2
  · rw [if_neg (by rw [zl_5, iN_eq (by omega) (by omega)]; exact h5), m_doMove_J64, if_neg (by rw [zl_5, iN_eq (by omega) (by omega)]; exact h5)]
    simp (disch := omega) only [zl_1, iN_sub]
    have hl := u2 (t - 1) (by omega)
    rw [lp_s (by omega) (by omega), if_neg (by omega)] at hl
    have a5 := (hY.1.2.2.2.2.1 (t - 1) (by omega)).2
    have htl : (P t).length < 5 := by omega
    rcases (show x = 0 ∨ x = 1 by omega) with rfl | rfl
    · obtain ⟨τ, t1, t2, t3, t4⟩ := putNear_ok (w := wg P m) hl (by omega) htl
      refine ⟨τ, by rw [if_pos z00, t1]; rfl, hfin τ _ t3 (by omega) (lp_s (by omega) (by omega)) ?_, by rw [t4.1 16 (by decide), u3], FR_tr u4 (FR_mo t4 rfl rfl rfl)⟩
      rw [hfP, decide_eq_false h5]; exact t2
    · obtain ⟨τ, t1, t2, t3, t4⟩ := putFar_ok (w := wg P m) hl (by omega) htl
      refine ⟨τ, by rw [if_neg (by decide), t1]; rfl, hfin τ _ t3 (by omega) (lp_s (by omega) (by omega)) ?_, by rw [t4.1 16 (by decide), u3], FR_tr u4 (FR_mo t4 rfl rfl rfl)⟩
      rw [hfP, decide_eq_false h5]; exact t2
/-! wanted -/
def wt (W l : List Nat) : Bool := (l.zip W).all (fun p => decide (p.1 = p.2))
def WR (σ : MS) (W : List Nat) : Prop := W.length ≤ 5 ∧ (∀ d ∈ W, d < 6) ∧ gI σ 25 = iN W.length ∧ ∀ k, k < W.length → av σ 17 k = iN (W.getD k 0)
theorem WR_fr {ks as ls : List Nat} {σ τ : MS} {W : List Nat} (h : WR σ W) (f : FR ks as ls σ τ) (h1 : (ks.contains 25 || as.contains 17) = false) : WR τ W := by
  simp only [Bool.or_eq_false_iff, List.contains_eq_mem, decide_eq_false_iff_not] at h1
  exact ⟨h.1, h.2.1, by rw [f.1 25 h1.1, h.2.2.1], fun k hk => by rw [f.2.1 17 h1.2, h.2.2.2 k hk]⟩
theorem wt_nil (l : List Nat) : wt [] l = true := by simp [wt]
theorem wt_pre {W l : List Nat} : l.length ≤ W.length → wt W l = l.isPrefixOf W := by
  induction l generalizing W with
  | nil => intro _; simp [wt]
  | cons a r ih =>
    intro h
    cases W with
    | nil => simp at h
    | cons b s =>
      simp only [List.length_cons, Nat.add_le_add_iff_right] at h
      have := ih h
      unfold wt at this ⊢
      rw [List.zip_cons_cons, List.all_cons, this, List.isPrefixOf]
      rfl
theorem drop_cons {l : List Nat} {k : Nat} (h : k < l.length) : l.drop k = l.getD k 0 :: l.drop (k + 1) := by
  rw [List.drop_eq_getElem_cons h, List.getD_eq_getElem?_getD, List.getElem?_eq_getElem h]
  rfl
theorem isWanted_L4 {σ : MS} {Y : Yd} (hY : YR σ Y) {W l : List Nat} (hW : WR σ W) (hl : RLs σ (yM Y) l) (hd : ∀ d ∈ l, d < 6) : ∀ (d k f : Nat) (v : Bool), d < f → 5 ≤ k + d → k ≤ 5 → m_isWanted_L4 f σ (bI v) (iN k) = some (bI (v && wt (W.drop k) (l.drop k))) := by
  have hM := hY.1.2.1
  obtain ⟨w1, w2, w3, w4⟩ := hW
  obtain ⟨l1, l2, l3⟩ := hl
  have stop : ∀ (k f : Nat) (v : Bool), (l.length ≤ k ∨ W.length ≤ k) → k ≤ 5 → m_isWanted_L4 (f + 1) σ (bI v) (iN k) = some (bI (v && wt (W.drop k) (l.drop k))) := by
    intro k f v h h5
    rw [m_isWanted_L4, hY.2.1, if_pos (by rw [iN_inb (by omega)]; omega), gA_av (by omega), l2, w3, jlt (by omega) (by omega), jlt (by omega) (by omega)]
    have e : wt (W.drop k) (l.drop k) = true := by
      rcases h with h | h
      · rw [List.drop_eq_nil_of_le h]; rfl
      · rw [List.drop_eq_nil_of_le h, wt_nil]
    rw [e, Bool.and_true]
    by_cases c1 : k < l.length
    · rw [if_pos c1, if_neg (by omega)]
    · rw [if_neg c1]
  intro d
  induction d with
  | zero =>
    intro k f v hf hk h5
    obtain ⟨f, rfl⟩ : ∃ g, f = g + 1 := ⟨f - 1, by omega⟩
    exact stop k f v (by omega) h5
  | succ d ih =>
    intro k f v hf hk h5
    obtain ⟨f, rfl⟩ : ∃ g, f = g + 1 := ⟨f - 1, by omega⟩
    by_cases c : k < l.length ∧ k < W.length
    · obtain ⟨c1, c2⟩ := c
      rw [m_isWanted_L4, hY.2.1, if_pos (by rw [iN_inb (by omega)]; omega), gA_av (by omega), l2, w3, jlt (by omega) (by omega), jlt (by omega) (by omega), if_pos c1, if_pos c2]
      simp only [bI_0]
      have e : iN k + 1 = iN (k + 1) := iN_add k 1
      have e2 : wt (W.drop k) (l.drop k) = (decide (l.getD k 0 = W.getD k 0) && wt (W.drop (k + 1)) (l.drop (k + 1))) := by
        rw [drop_cons c1, drop_cons c2]; rfl
      rw [e, e2]
      cases v with
      | false =>
        rw [if_pos rfl]
        have := ih (k + 1) f false (by omega) (by omega) (by omega)
        simpa [bI] using this
      | true =>
        rw [if_neg (by decide), zl_5, iN_mul, iN_add, if_pos ⟨by rw [iN_inb (by omega)]; omega, by rw [iN_inb (by omega)]; omega⟩, gA_av (by omega), gA_av (by omega), l3 k c1, w4 k c2]
        have b1 : l.getD k 0 < 6 := by
          apply hd
          rw [List.getD_eq_getElem?_getD, List.getElem?_eq_getElem c1]
          exact List.getElem_mem c1
        have b2 : W.getD k 0 < 6 := by
          apply w2
          rw [List.getD_eq_getElem?_getD, List.getElem?_eq_getElem c2]
          exact List.getElem_mem c2
        rw [jeq (by omega) (by omega)]
        by_cases c3 : l.getD k 0 = W.getD k 0
        · rw [if_pos c3, decide_eq_true c3]
          have := ih (k + 1) f true (by omega) (by omega) (by omega)
          rw [Bool.true_and] at this ⊢
          rw [Bool.true_and]
          exact this
        · rw [if_neg c3, decide_eq_false c3]
          have := ih (k + 1) f false (by omega) (by omega) (by omega)
          rw [Bool.false_and] at this ⊢
          rw [Bool.true_and]
          exact this
    · exact stop k f v (by omega) h5
theorem isWanted_ok {σ : MS} {Y : Yd} (hY : YR σ Y) {n : Nat} (hn : n ≤ 5) {P : Ps} (hv : VP Y n P) (hP : RP σ Y P) {W : List Nat} (hW : WR σ W) : m_isWanted σ = some (bI (wt W (P 5))) := by
  rw [m_isWanted]
  have := isWanted_L4 hY hW (RP_5 hP) (fun d hd => by have := VP_mem hv (p := 5) (by omega) hd; omega) 5 0 N0 true (by rw [N0_eq]; omega) (by omega) (by omega)
  rw [List.drop_zero, List.drop_zero, Bool.true_and, show bI true = 1 from rfl, show iN 0 = 0 from rfl] at this
  rw [this]
  simp only [Option.bind_some]
  rw [if_pos (bI_Z _)]
