/-! THE CLASS: rules of thumb, on places with the wagons' own numbers -/
def NP (t : List Nat) (P : Ps) : Ps := fun q => nm t (P q)
theorem nm_len (t l : List Nat) : (nm t l).length = l.length := by simp [nm]
theorem nm_nil {t l : List Nat} : nm t l = [] ↔ l = [] := by simp [nm]
theorem nm_tk {t l : List Nat} (h : l ≠ []) (b : Bool) : tk (nm t l) b = t.getD (tk l b - 1) 0 := by
  cases b with
  | false =>
    cases l with
    | nil => exact absurd rfl h
    | cons x r => rfl
  | true =>
    rw [tk_last, tk_last, nm_len]
    have hl : 0 < l.length := List.length_pos_iff.mpr h
    have h1 : l.length - 1 < l.length := by omega
    unfold nm
    rw [List.getD_eq_getElem?_getD, List.getElem?_map, List.getElem?_eq_getElem h1, List.getD_eq_getElem?_getD (l := l), List.getElem?_eq_getElem h1]
    rfl
theorem nm_tr (t l : List Nat) (b : Bool) : tr (nm t l) b = nm t (tr l b) := by
  cases b with
  | false => cases l <;> rfl
  | true => show (l.map _).dropLast = l.dropLast.map _; rw [List.map_dropLast]
theorem nm_pt (t l : List Nat) (w : Nat) (b : Bool) : pt (nm t l) (t.getD (w - 1) 0) b = nm t (pt l w b) := by
  cases b with
  | false => rfl
  | true => show l.map _ ++ [_] = (l ++ [w]).map _; rw [List.map_append]; rfl
theorem NP_wg {t : List Nat} {P : Ps} {m : Nat} (h : P (mf m) ≠ []) : wg (NP t P) m = t.getD (wg P m - 1) 0 := nm_tk h _
theorem NP_can (Y : Yd) (t : List Nat) (P : Ps) (m : Nat) : can Y (NP t P) m = can Y P m := by
  unfold can NP
  rw [nm_len]
  have : decide (nm t (P (mf m)) ≠ []) = decide (P (mf m) ≠ []) := decide_eq_decide.mpr (not_congr nm_nil)
  rw [this]
theorem NP_mv {t : List Nat} {P : Ps} {m : Nat} (h : P (mf m) ≠ []) : mv (NP t P) m = NP t (mv P m) := by
  funext q
  unfold mv
  show (if q = mt m then pt (nm t (P q)) (wg (NP t P) m) (fP m) else if q = mf m then tr (nm t (P q)) (fT m) else nm t (P q)) = nm t (if q = mt m then pt (P q) (wg P m) (fP m) else if q = mf m then tr (P q) (fT m) else P q)
  rw [NP_wg h, nm_pt, nm_tr]
  split
  · rfl
  · split <;> rfl
theorem below_L5 {p : PlS} {Q : Ps} (h : CPl p Q) {q w : Nat} (hq : q < 6) (hw : w < 100) : ∀ (d k f : Nat) (b : Bool), d < f → k + d = (Q q).length → th_isBelowAll_L5 f p (iN w) (iN q) (bI b) (iN k) = some (bI (b && ((Q q).drop k).all (fun x => decide (w < x)))) := by
  obtain ⟨h1, h2, h3, h4⟩ := h q hq
  intro d
  induction d with
  | zero =>
    intro k f b hf hk
    obtain ⟨f, rfl⟩ : ∃ g, f = g + 1 := ⟨f - 1, by omega⟩
    rw [th_isBelowAll_L5, countAt_ok h hq]
    simp only [Option.bind_some]
    rw [jlt (by omega) (by omega), if_neg (by omega), List.drop_eq_nil_of_le (by omega)]
    simp
  | succ d ih =>
    intro k f b hf hk
    obtain ⟨f, rfl⟩ : ∃ g, f = g + 1 := ⟨f - 1, by omega⟩
    have hm : (Q q).getD k 0 < 8 := getD_lt (d8 h2) (by omega) _
    rw [drop_cons (show k < (Q q).length by omega), List.all_cons, th_isBelowAll_L5, countAt_ok h hq]
    simp only [Option.bind_some]
    rw [jlt (by omega) (by omega), if_pos (by omega), rowAt_ok h hq]
    simp only [Option.bind_some]
    rw [wagonAt_ok (d8 h2) h1 (by omega)]
    simp only [Option.bind_some]
    rw [jlt (by omega) (by omega), zl_1, iN_add]
    cases b with
    | false =>
      rw [if_pos bF]
      have := ih (k + 1) f false (by omega) (by omega)
      rw [Bool.false_and] at this ⊢
      exact this
    | true =>
      rw [if_neg bT, Bool.true_and]
      by_cases c : w < (Q q).getD k 0
      · rw [if_pos c, decide_eq_true c, Bool.true_and]
        have := ih (k + 1) f true (by omega) (by omega)
        rw [Bool.true_and] at this
        exact this
      · rw [if_neg c, decide_eq_false c, Bool.false_and]
        have := ih (k + 1) f false (by omega) (by omega)
        rw [Bool.false_and] at this
        exact this
theorem below_ok {p : PlS} {Q : Ps} (h : CPl p Q) {q w : Nat} (hq : q < 6) (hw : w < 100) : th_isBelowAll p (iN w) (iN q) = some (bI ((Q q).all (fun x => decide (w < x)))) := by
  have h1 := below_L5 h hq hw (Q q).length 0 N0 true (by rw [N0_eq]; have := (h q hq).1; omega) (by omega)
  rw [Bool.true_and, List.drop_zero] at h1
  have h2 : th_isBelowAll_L5 N0 p (iN w) (iN q) 1 0 = some (bI ((Q q).all (fun x => decide (w < x)))) := h1
  rw [th_isBelowAll, h2]
  simp only [Option.bind_some]
  rw [if_pos (bI_Z _)]
theorem want_L13 {Y : Yd} (hY : VY Y) {y : YdS} (hN : CN y (mvs Y)) {t : List Nat} {P : Ps} {p : PlS} (hC : CPl p (NP t P)) : ∀ (d k f : Nat), d < f → k + d = (mvs Y).length → th_wantedOut_L13 f p y (iN ((P 5).length + 1)) (iN k) = some (match (((mvs Y).drop k).filter (fun m => decide (mt m = 5 ∧ P (mf m) ≠ [] ∧ t.getD (wg P m - 1) 0 = (P 5).length + 1))).head? with
      | some m => .inr (iN m)
      | none => .inl ()) := by
  have hml := mvs_len Y
  have h55 := (hC 5 (by omega)).1
  have h55 : (nm t (P 5)).length ≤ 5 := h55
  rw [nm_len] at h55
  intro d
  induction d with
  | zero =>
    intro k f hf hk
    obtain ⟨f, rfl⟩ : ∃ g, f = g + 1 := ⟨f - 1, by omega⟩
    rw [th_wantedOut_L13, hN.1, jlt (by omega) (by omega), if_neg (by omega), List.drop_eq_nil_of_le (by omega)]
    rfl
  | succ d ih =>
    intro k f hf hk
    obtain ⟨f, rfl⟩ : ∃ g, f = g + 1 := ⟨f - 1, by omega⟩
    have hkl : k < (mvs Y).length := by omega
    have hmem : (mvs Y).getD k 0 ∈ mvs Y := by
      rw [List.getD_eq_getElem?_getD, List.getElem?_eq_getElem hkl]
      exact List.getElem_mem hkl
    have hdr := drop_cons hkl
    have hmv := moveAt_ok hN (by omega) hkl
    generalize hm : (mvs Y).getD k 0 = m at *
    have hgm := (mem_mvs hY m).mp hmem
    have hmm := mvs_lt hmem
    have h6 := gm_t6 hY hgm
    have hih := ih (k + 1) f (by omega) (by omega)
    rw [th_wantedOut_L13, hN.1, jlt (by omega) (by omega), if_pos hkl, hmv]
    simp only [Option.bind_some]
    rw [mt_iN hmm, zl_5, jeq (by omega) (by omega), wagonOf_ok hC hmm (by omega), hdr, zl_1, iN_add]
    simp only [Option.bind_some]
    by_cases c : mt m = 5
    · rw [if_pos c]
      by_cases e : P (mf m) = []
      · rw [if_pos (show NP t P (mf m) = [] from nm_nil.mpr e), jeq (by omega) (by omega), if_neg (by omega), List.filter_cons_of_neg (by rw [decide_eq_true_eq]; exact fun h9 => h9.2.1 e)]
        exact hih
      · have hlt : t.getD (wg P m - 1) 0 < 8 := by
          rw [← NP_wg e]
          have := (hC (mf m) (by omega)).2.1
          exact (this _ (tk_mem (fun h9 => e (nm_nil.mp h9)) _)).2
        rw [if_neg (show ¬ NP t P (mf m) = [] from fun h9 => e (nm_nil.mp h9)), NP_wg e, jeq (by omega) (by omega)]
        by_cases g : t.getD (wg P m - 1) 0 = (P 5).length + 1
        · rw [if_pos g, List.filter_cons_of_pos (by rw [decide_eq_true_eq]; exact ⟨c, e, g⟩)]
          rfl
        · rw [if_neg g, List.filter_cons_of_neg (by rw [decide_eq_true_eq]; exact fun h9 => g h9.2.2)]
          exact hih
    · rw [if_neg c, List.filter_cons_of_neg (by rw [decide_eq_true_eq]; exact fun h9 => c h9.1)]
      exact hih
theorem wanted_ok {Y : Yd} (hY : VY Y) {y : YdS} (hN : CN y (mvs Y)) {t : List Nat} {P : Ps} {p : PlS} (hC : CPl p (NP t P)) : th_wantedOut p y = some (nI6 (cLet Y t P).head?) := by
  have h := want_L13 hY hN hC (mvs Y).length 0 N0 (by rw [N0_eq]; have := mvs_len Y; omega) (by omega)
  rw [List.drop_zero] at h
  have hl : (NP t P 5).length = (P 5).length := nm_len _ _
  rw [th_wantedOut, zl_5, countAt_ok hC (by omega)]
  simp only [Option.bind_some]
  rw [hl, zl_1, iN_add, show (0 : Int32) = iN 0 from rfl, h]
  simp only [Option.bind_some]
  unfold cLet
  cases List.head? ((mvs Y).filter (fun m => decide (mt m = 5 ∧ P (mf m) ≠ [] ∧ t.getD (wg P m - 1) 0 = (P 5).length + 1))) with
  | none => rfl
  | some m => rfl
theorem onward_L2 {Y : Yd} (hY : VY Y) {y : YdS} (hB : CB y Y) (hN : CN y (mvs Y)) {t : List Nat} {P : Ps} {p : PlS} (hC : CPl p (NP t P)) : ∀ (d k f : Nat), d < f → k + d = (mvs Y).length → th_onward_L2 f p y (iN k) = some (match ((((mvs Y).drop k).filter (can Y P)).filter (fun m => decide (mf m ≠ 0 ∧ mt m ≠ 5))).head? with
      | some m => .inr (iN m)
      | none => .inl ()) := by
  have hml := mvs_len Y
  intro d
  induction d with
  | zero =>
    intro k f hf hk
    obtain ⟨f, rfl⟩ : ∃ g, f = g + 1 := ⟨f - 1, by omega⟩
    rw [th_onward_L2, hN.1, jlt (by omega) (by omega), if_neg (by omega), List.drop_eq_nil_of_le (by omega)]
    rfl
  | succ d ih =>
    intro k f hf hk
    obtain ⟨f, rfl⟩ : ∃ g, f = g + 1 := ⟨f - 1, by omega⟩
    have hkl : k < (mvs Y).length := by omega
    have hmem : (mvs Y).getD k 0 ∈ mvs Y := by
      rw [List.getD_eq_getElem?_getD, List.getElem?_eq_getElem hkl]
      exact List.getElem_mem hkl
    have hdr := drop_cons hkl
    have hmv := moveAt_ok hN (by omega) hkl
    generalize hm : (mvs Y).getD k 0 = m at *
    have hgm := (mem_mvs hY m).mp hmem
    have hmm := mvs_lt hmem
    have h6 := gm_t6 hY hgm
    have hih := ih (k + 1) f (by omega) (by omega)
    have hal := allows_ok hY hB hC hgm
    rw [NP_can] at hal
    rw [th_onward_L2, hN.1, jlt (by omega) (by omega), if_pos hkl, hmv]
    simp only [Option.bind_some]
    rw [mt_iN hmm, mf_iN hmm, jeq0 (by omega), zl_5, jeq (by omega) (by omega), hal, hdr, zl_1, iN_add]
    simp only [Option.bind_some]
    have skip : (can Y P m = false ∨ ¬ (mf m ≠ 0 ∧ mt m ≠ 5)) → ((m :: (mvs Y).drop (k + 1)).filter (can Y P)).filter (fun m => decide (mf m ≠ 0 ∧ mt m ≠ 5)) = (((mvs Y).drop (k + 1)).filter (can Y P)).filter (fun m => decide (mf m ≠ 0 ∧ mt m ≠ 5)) := fun h9 => by
      cases hc : can Y P m with
      | false => rw [List.filter_cons_of_neg (by rw [hc]; decide)]
      | true =>
        rw [List.filter_cons_of_pos hc, List.filter_cons_of_neg]
        rw [decide_eq_true_eq]
        rcases h9 with h9 | h9
        · rw [hc] at h9; cases h9
        · exact h9
    by_cases c : mf m = 0
    · rw [if_pos c, skip (Or.inr (fun h => h.1 c))]; exact hih
    · rw [if_neg c]
      by_cases e : mt m = 5
      · rw [if_pos e, skip (Or.inr (fun h => h.2 e))]; exact hih
      · rw [if_neg e]
        cases hc : can Y P m with
        | false => rw [if_pos bF, skip (Or.inl hc)]; exact hih
        | true =>
          rw [if_neg bT, List.filter_cons_of_pos hc, List.filter_cons_of_pos (by rw [decide_eq_true_eq]; exact ⟨c, e⟩)]
          rfl
theorem onward_ok {Y : Yd} (hY : VY Y) {y : YdS} (hB : CB y Y) (hN : CN y (mvs Y)) {t : List Nat} {P : Ps} {p : PlS} (hC : CPl p (NP t P)) : th_onward p y = some (nI6 (cOn Y P).head?) := by
  have h := onward_L2 hY hB hN hC (mvs Y).length 0 N0 (by rw [N0_eq]; have := mvs_len Y; omega) (by omega)
  rw [List.drop_zero] at h
  rw [th_onward, show (0 : Int32) = iN 0 from rfl, h]
  simp only [Option.bind_some]
  unfold cOn oks
  cases List.head? (((mvs Y).filter (can Y P)).filter (fun m => decide (mf m ≠ 0 ∧ mt m ≠ 5))) with
  | none => rfl
  | some m => rfl
