/-! THE CLASS: THE FAULT, and whether a MOVE is there and can be done -/
def ftT (d : PdS) : ((Int32 × Int32) ⊕ Int32) → Option Int32
  | .inr r12 => some r12
  | .inl e12 => if e12.2 = 0 then (if e12.1 = 0 then some d.2 else (pd_signAt d (d.2 - 1)).bind fun q184 => (pd_isLetter q184).bind fun q187 => if q187 = 0 then some (-6) else some d.2) else some d.2
theorem pd_faultAt_eq (d : PdS) : pd_faultAt d = (pd_faultAt_L12 N0 d 0 1 0 1 0).bind (ftT d) := by
  unfold pd_faultAt
  congr 1
theorem faultC_L12 {d : PdS} {p : List Nat} (hp : CP d p) (hl : p.length ≤ 16) (hb : ∀ c ∈ p, 33 ≤ c ∧ c ≤ 126) : ∀ (k i f s g a : Nat) (on : Bool), k < f → i + k = p.length → s ≤ 2 → g ≤ 4 → a ≤ 2 → (∃ c, c < 1000 ∧ pd_signAt d (iN i - 1) = some (iN c) ∧ ltr c = decide (s = 2)) → (pd_faultAt_L12 f d (iN g) (iN (a + 1)) (bI on) (bI (decide (s = 0))) (iN i)).bind (ftT d) = some (nI6 (ftF (p.drop i) i s g a on)) := by
  intro k
  induction k with
  | zero =>
    intro i f s g a on hf hi hs hg ha hc
    obtain ⟨f, rfl⟩ : ∃ g, f = g + 1 := ⟨f - 1, by omega⟩
    obtain ⟨c, c1, c2, c3⟩ := hc
    rw [pd_faultAt_L12, hp.1, jlt (by omega) (by omega), if_neg (by omega), List.drop_eq_nil_of_le (by omega), ftF]
    show ftT d (.inl (iN g, bI (decide (s = 0)))) = _
    unfold ftT
    simp only
    by_cases x0 : s = 0
    · rw [decide_eq_true x0, if_neg bT, if_neg (by omega), hp.1, show p.length = i by omega]; rfl
    · rw [decide_eq_false x0, if_pos bF, jeq0 (by omega)]
      by_cases x1 : g = 0
      · rw [if_pos x1, if_neg (by omega), hp.1, show p.length = i by omega]; rfl
      · rw [if_neg x1, hp.1, show p.length = i by omega, c2]
        simp only [Option.bind_some]
        rw [isLetter_C c1, c3]
        simp only [Option.bind_some]
        by_cases x2 : s = 2
        · rw [decide_eq_true x2, if_neg bT, if_neg (by omega)]; rfl
        · rw [decide_eq_false x2, if_pos bF, if_pos (by omega)]; rfl
  | succ k ih =>
    intro i f s g a on hf hi hs hg ha hpr
    obtain ⟨f, rfl⟩ : ∃ g, f = g + 1 := ⟨f - 1, by omega⟩
    obtain ⟨c0, c1, c2, c3⟩ := hpr
    have hm : p.getD i 0 ∈ p := by
      rw [List.getD_eq_getElem?_getD, List.getElem?_eq_getElem (by omega)]
      exact List.getElem_mem (show i < p.length by omega)
    have hb2 := hb _ hm
    have hsg := signAt_ok hp hl (show i < 100 by omega)
    have hnp : ∀ t, (ltr (p.getD i 0) = decide (t = 2)) → ∃ c, c < 1000 ∧ pd_signAt d (iN (i + 1) - 1) = some (iN c) ∧ ltr c = decide (t = 2) := fun t ht => ⟨p.getD i 0, by omega, by rw [zl_1, iN_sub (by omega)]; exact hsg, ht⟩
    generalize hc : p.getD i 0 = c at *
    have hdr : p.drop i = c :: p.drop (i + 1) := by rw [drop_cons (show i < p.length by omega), hc]
    have e1 : iN i + (1 : Int32) = iN (i + 1) := by rw [zl_1, iN_add]
    have e2 : iN (a + 1) + (1 : Int32) = iN (a + 1 + 1) := by rw [zl_1, iN_add]
    have e3 : iN g + (1 : Int32) = iN (g + 1) := by rw [zl_1, iN_add]
    have hgo : pd_faultAt_L12 (f + 1) d (iN g) (iN (a + 1)) (bI on) (bI (decide (s = 0))) (iN i) = if s = 2 then (if 49 ≤ c ∧ c ≤ 53 then pd_faultAt_L12 f d (iN g) (iN (a + 1)) (bI on) (bI (decide (s = 0))) (iN (i + 1)) else some (.inr (iN i))) else if ltr c = true ∧ g < 4 then pd_faultAt_L12 f d (iN (g + 1)) (iN (a + 1)) (bI on) (bI false) (iN (i + 1)) else if c = 45 ∧ on = false then pd_faultAt_L12 f d (iN g) (iN (a + 1)) (bI true) (bI false) (iN (i + 1)) else if c = 59 ∧ s = 1 ∧ a < 2 then pd_faultAt_L12 f d (iN g) (iN (a + 1 + 1)) (bI false) (bI true) (iN (i + 1)) else some (.inr (iN i)) := by
      rw [pd_faultAt_L12, hp.1, jlt (by omega) (by omega), if_pos (by omega), hsg]
      rw [Option.bind_some]
      rw [c2]
      rw [Option.bind_some]
      rw [isLetter_C c1, c3]
      rw [Option.bind_some]
      rw [pd_faultAt_J89, pd_faultAt_J89, pd_faultAt_J118, pd_faultAt_J118, pd_faultAt_J146, pd_faultAt_J146, e1, e2, e3, isLetter_C (show c < 1000 by omega)]
      rw [Option.bind_some]
      rw [zl_59, jeq (by omega) (by omega), zl_45, jeq (by omega) (by omega), zl_3, jlt (by omega) (by omega), zl_4, jlt (by omega) (by omega), zl_49, jlt (by omega) (by omega), show (54 : Int32) = iN 54 from rfl, jlt (by omega) (by omega)]
      by_cases x1 : s = 2
      · rw [decide_eq_true x1, if_neg bT, if_pos x1]
        by_cases x2 : c < 49
        · rw [if_pos x2, if_neg (show ¬ (49 ≤ c ∧ c ≤ 53) by omega)]
          exact if_pos rfl
        · rw [if_neg x2]
          by_cases x3 : c < 54
          · rw [if_pos x3, if_pos (show 49 ≤ c ∧ c ≤ 53 by omega)]
            exact if_neg (by decide)
          · rw [if_neg x3, if_neg (show ¬ (49 ≤ c ∧ c ≤ 53) by omega)]
            exact if_pos rfl
      · rw [decide_eq_false x1, if_pos bF, if_neg x1]
        by_cases x2 : c = 59
        · have hlt : ltr c = false := by unfold ltr; rw [decide_eq_false_iff_not]; omega
          rw [if_pos x2, hlt, if_neg (show ¬ (false = true ∧ g < 4) by simp), if_neg (show ¬ (c = 45 ∧ on = false) by omega)]
          by_cases x3 : s = 0
          · rw [decide_eq_true x3, if_neg bT, if_neg (show ¬ (c = 59 ∧ s = 1 ∧ a < 2) by omega)]
            exact if_pos rfl
          · rw [decide_eq_false x3, if_pos bF]
            by_cases x4 : a < 2
            · rw [if_pos (show a + 1 < 3 by omega), if_pos (show c = 59 ∧ s = 1 ∧ a < 2 by omega)]
              exact if_neg (by decide)
            · rw [if_neg (show ¬ a + 1 < 3 by omega), if_neg (show ¬ (c = 59 ∧ s = 1 ∧ a < 2) by omega)]
              exact if_pos rfl
        · rw [if_neg x2, if_neg (show ¬ (c = 59 ∧ s = 1 ∧ a < 2) by omega)]
          by_cases x3 : c = 45
          · have hlt : ltr c = false := by unfold ltr; rw [decide_eq_false_iff_not]; omega
            rw [if_pos x3, hlt, if_neg (show ¬ (false = true ∧ g < 4) by simp)]
            cases on with
            | false =>
              rw [if_pos bF, if_pos (show c = 45 ∧ false = false from ⟨x3, rfl⟩)]
              exact if_neg (by decide)
            | true =>
              rw [if_neg bT, if_neg (show ¬ (c = 45 ∧ true = false) by simp)]
              exact if_pos rfl
          · rw [if_neg x3, if_neg (show ¬ (c = 45 ∧ on = false) from fun h => x3 h.1)]
            cases hlt : ltr c with
            | false =>
              rw [if_pos bF, if_neg (show ¬ (false = true ∧ g < 4) by simp)]
              exact if_pos rfl
            | true =>
              rw [if_neg bT]
              by_cases x4 : g < 4
              · rw [if_pos x4, if_pos (show true = true ∧ g < 4 from ⟨rfl, x4⟩)]
                exact if_neg (by decide)
              · rw [if_neg x4, if_neg (show ¬ (true = true ∧ g < 4) from fun h => x4 h.2)]
                exact if_pos rfl
    have hstop : ((some (.inr (iN i)) : Option ((Int32 × Int32) ⊕ Int32))).bind (ftT d) = some (nI6 (some i)) := rfl
    rw [hgo, hdr, ftF]
    by_cases x1 : s = 2
    · rw [if_pos x1, if_pos x1]
      by_cases x2 : 49 ≤ c ∧ c ≤ 53
      · have hlt : ltr c = false := by unfold ltr; rw [decide_eq_false_iff_not]; omega
        rw [if_pos x2, if_pos x2]
        have := ih (i + 1) f 1 g a on (by omega) (by omega) (by omega) hg ha (hnp 1 (by rw [hlt]; rfl))
        rw [decide_eq_false (show ¬ (1 : Nat) = 0 by decide)] at this
        rw [decide_eq_false (show ¬ s = 0 by omega)]
        exact this
      · rw [if_neg x2, if_neg x2]; exact hstop
    · rw [if_neg x1, if_neg x1]
      by_cases x2 : ltr c = true ∧ g < 4
      · rw [if_pos x2, if_pos x2]
        exact ih (i + 1) f 2 (g + 1) a on (by omega) (by omega) (by omega) (by omega) ha (hnp 2 (by rw [x2.1]; rfl))
      · rw [if_neg x2, if_neg x2]
        by_cases x3 : c = 45 ∧ on = false
        · have hlt : ltr c = false := by unfold ltr; rw [decide_eq_false_iff_not]; omega
          rw [if_pos x3, if_pos x3]
          exact ih (i + 1) f 1 g a true (by omega) (by omega) (by omega) hg ha (hnp 1 (by rw [hlt]; rfl))
        · rw [if_neg x3, if_neg x3]
          by_cases x4 : c = 59 ∧ s = 1 ∧ a < 2
          · have hlt : ltr c = false := by unfold ltr; rw [decide_eq_false_iff_not]; omega
            rw [if_pos x4, if_pos x4]
            exact ih (i + 1) f 0 g (a + 1) false (by omega) (by omega) (by omega) hg (by omega) (hnp 0 (by rw [hlt]; rfl))
          · rw [if_neg x4, if_neg x4]; exact hstop
theorem faultC_ok {d : PdS} {p : List Nat} (hp : CP d p) (hl : p.length ≤ 16) (hb : ∀ c ∈ p, 33 ≤ c ∧ c ≤ 126) : pd_faultAt d = some (nI6 (ftA p)) := by
  have h := faultC_L12 hp hl hb p.length 0 N0 0 0 0 false (by rw [N0_eq]; omega) (by omega) (by omega) (by omega) (by omega) ⟨0, by omega, rfl, rfl⟩
  rw [List.drop_zero] at h
  rw [pd_faultAt_eq]
  exact h
theorem hasMove_L4 {y : YdS} {l : List Nat} (h : CN y l) (hl : l.length < 64) (x : Int32) : ∀ (d k f : Nat) (b : Bool), d < f → k + d = l.length → yd_hasMove_L4 f y x (bI b) (iN k) = some (bI (b || (l.drop k).any (fun m => decide (iN m = x)))) := by
  intro d
  induction d with
  | zero =>
    intro k f b hf hk
    obtain ⟨f, rfl⟩ : ∃ g, f = g + 1 := ⟨f - 1, by omega⟩
    rw [yd_hasMove_L4, h.1, jlt (by omega) (by omega), if_neg (by omega), List.drop_eq_nil_of_le (by omega)]
    simp
  | succ d ih =>
    intro k f b hf hk
    obtain ⟨f, rfl⟩ : ∃ g, f = g + 1 := ⟨f - 1, by omega⟩
    have hdr := drop_cons (show k < l.length by omega)
    rw [hdr, List.any_cons, yd_hasMove_L4, h.1, jlt (by omega) (by omega), if_pos (by omega), zl_1, iN_add, ← zl_1]
    cases b with
    | true =>
      rw [if_neg bT]
      have := ih (k + 1) f true (by omega) (by omega)
      rw [Bool.true_or] at this ⊢
      exact this
    | false =>
      rw [if_pos bF, moveAt_ok h hl (by omega), Bool.false_or]
      simp only [Option.bind_some]
      by_cases c : iN (l.getD k 0) = x
      · rw [if_pos c, decide_eq_true c, Bool.true_or]
        have := ih (k + 1) f true (by omega) (by omega)
        rw [Bool.true_or] at this
        exact this
      · rw [if_neg c, decide_eq_false c, Bool.false_or]
        have := ih (k + 1) f false (by omega) (by omega)
        rw [Bool.false_or] at this
        exact this
theorem hasMove_ok {y : YdS} {Y : Yd} (h : CN y (mvs Y)) (x : Int32) : yd_hasMove y x = some (bI ((mvs Y).any (fun m => decide (iN m = x)))) := by
  have h1 := hasMove_L4 h (by have := mvs_len Y; omega) x (mvs Y).length 0 N0 false (by rw [N0_eq]; have := mvs_len Y; omega) (by omega)
  have h2 : yd_hasMove_L4 N0 y x 0 0 = some (bI (false || ((mvs Y).drop 0).any (fun m => decide (iN m = x)))) := h1
  rw [Bool.false_or, List.drop_zero] at h2
  rw [yd_hasMove, h2]
  simp only [Option.bind_some]
  rw [if_pos (bI_Z _)]
theorem mt_iN {m : Nat} (hm : m < 5000) : irm (iN m / 10) 10 = iN (mt m) := by
  rw [zl_10, iN_div (by omega) (by omega), iN_irm (by omega) (by omega)]; rfl
theorem mf_iN {m : Nat} (hm : m < 5000) : iN m / 1000 = iN (mf m) := by
  rw [zl_1000, iN_div (by omega) (by omega)]; rfl
theorem allows_ok {y : YdS} {Y : Yd} (hY : VY Y) (h : CB y Y) {p : PlS} {P : Ps} (hp : CPl p P) {m : Nat} (hm : gm Y m = true) : pl_allows p y (iN m) = some (bI (can Y P m)) := by
  have hmm := mvs_lt ((mem_mvs hY m).mpr hm)
  have h6 := gm_t6 hY hm
  have hg := gm_parts hm
  have hbf := (hp (mf m) (by omega)).1
  have hbt := (hp (mt m) (by omega)).1
  rw [pl_allows, mt_iN hmm, mf_iN hmm, countAt_ok hp (by omega)]
  simp only [Option.bind_some]
  rw [jlt0 (by omega), zl_5, jeq (by omega) (by omega)]
  unfold can
  by_cases c : P (mf m) = []
  · rw [if_neg (by rw [c]; simp), decide_eq_false (fun h => h c), Bool.false_and]; rfl
  · rw [if_pos (List.length_pos_iff.mpr c), decide_eq_true c, Bool.true_and]
    by_cases d : mt m = 5
    · rw [if_pos d, decide_eq_true d, Bool.true_or]; rfl
    · have hN := (hY.2.2.2.2.1 (mt m - 1) (by omega)).2.2.1
      rw [if_neg d, decide_eq_false d, Bool.false_or, countAt_ok hp (by omega)]
      simp only [Option.bind_some]
      rw [zl_1, iN_sub (by omega), lengthAt_ok h hY.2.1 (by omega)]
      simp only [Option.bind_some]
      rw [jlt (by omega) (by omega)]
      by_cases e : (P (mt m)).length < yN Y (mt m - 1)
      · rw [if_pos e, decide_eq_true e]; rfl
      · rw [if_neg e, decide_eq_false e]; rfl
theorem two_le {Y : Yd} {n : Nat} {P : Ps} (h : VP Y n P) {a b : Nat} (ha : a < 6) (hb : b < 6) (hab : a ≠ b) : (P a).length + (P b).length ≤ n := by
  have h2 := VP_len h
  have e1 : a = 0 ∨ a = 1 ∨ a = 2 ∨ a = 3 ∨ a = 4 ∨ a = 5 := by omega
  have e2 : b = 0 ∨ b = 1 ∨ b = 2 ∨ b = 3 ∨ b = 4 ∨ b = 5 := by omega
  rcases e1 with rfl | rfl | rfl | rfl | rfl | rfl <;> rcases e2 with rfl | rfl | rfl | rfl | rfl | rfl <;> omega
/-- a MOVE there and back -/
theorem okm {Y : Yd} (hY : VY Y) {n : Nat} (hn : n ≤ 5) {P : Ps} (h : VP Y n P) {m : Nat} (hm : m ∈ oks Y P) : m < 5000 ∧ mf m < 6 ∧ mt m < 6 ∧ mf m ≠ mt m ∧ P (mf m) ≠ [] ∧ (P (mt m)).length < 5 ∧ (P (mf m)).length ≤ 5 ∧ VP Y n (mv P m) := by
  have h1 := (mem_oks hY).mp hm
  have h6 := gm_t6 hY h1.1
  have hft := gm_ft hY h1.1
  have hc := can_parts h1.2
  have h2 := VP_len h
  have h3 := VP_d8 h hn (show mf m < 6 by omega)
  refine ⟨oks_lt hm, by omega, h6.1, by omega, hc.1, ?_, h3.1, VP_mv hY h h1.1 h1.2⟩
  have hne : 1 ≤ (P (mf m)).length := List.length_pos_iff.mpr hc.1
  have key := two_le h (show mf m < 6 by omega) h6.1 (by omega)
  omega
