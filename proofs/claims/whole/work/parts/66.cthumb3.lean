/-! THE CLASS: rules of thumb, the loop from the ENTRY -/
def nr (Y : Yd) (P : Ps) (m : Nat) : Bool := decide (mf m = 0 ∧ mt m ≠ 5 ∧ mx m = 0) && can Y P m
def lt5 (s : Option Nat × Option Nat × Option Nat) : Prop := (∀ q, s.1 = some q → q < 5000) ∧ (∀ q, s.2.1 = some q → q < 5000 ∧ mt q < 6) ∧ (∀ q, s.2.2 = some q → q < 5000)
theorem e2f_n {Q : Ps} {m : Nat} : e2f Q m none = some m := rfl
theorem e2f_s {Q : Ps} {m j : Nat} : e2f Q m (some j) = if (Q (mt m)).length < (Q (mt j)).length then some m else some j := rfl
theorem h3f_n {Q : Ps} {m : Nat} : h3f Q m none = if (Q (mt m)).all (fun x => decide (wg Q m < x)) = true then some m else none := rfl
theorem e2f_or {Q : Ps} {m q : Nat} {o : Option Nat} (h : e2f Q m o = some q) : q = m ∨ o = some q := by
  cases o with
  | none => exact Or.inl (Option.some.inj h).symm
  | some j =>
    rw [e2f_s] at h
    by_cases c : (Q (mt m)).length < (Q (mt j)).length
    · rw [if_pos c] at h; exact Or.inl (Option.some.inj h).symm
    · rw [if_neg c] at h; exact Or.inr h
theorem h3f_or {Q : Ps} {m q : Nat} {o : Option Nat} (h : h3f Q m o = some q) : q = m ∨ o = some q := by
  cases o with
  | none =>
    rw [h3f_n] at h
    by_cases c : (Q (mt m)).all (fun x => decide (wg Q m < x)) = true
    · rw [if_pos c] at h; exact Or.inl (Option.some.inj h).symm
    · rw [if_neg c] at h; exact Or.inr h
  | some j => exact Or.inr h
theorem lt5_st {Q : Ps} {s : Option Nat × Option Nat × Option Nat} {m : Nat} (h : lt5 s) (hm : m < 5000) (ht : mt m < 6) : lt5 (mst Q s m) := by
  obtain ⟨a, b, c⟩ := h
  obtain ⟨s1, s2, s3⟩ := s
  refine ⟨fun q hq => ?_, fun q hq => ?_, fun q hq => ?_⟩
  · have hq : s1f m s1 = some q := hq
    rcases s1f_or hq with e | e
    · rw [e]; exact hm
    · exact a q e
  · have hq : e2f Q m s2 = some q := hq
    rcases e2f_or hq with e | e
    · rw [e]; exact ⟨hm, ht⟩
    · exact b q e
  · have hq : h3f Q m s3 = some q := hq
    rcases h3f_or hq with e | e
    · rw [e]; exact hm
    · exact c q e
theorem from_L14 {Y : Yd} (hY : VY Y) {y : YdS} (hB : CB y Y) (hN : CN y (mvs Y)) {Q : Ps} {p : PlS} (hC : CPl p Q) (x2 : Int32) : ∀ (d k f : Nat) (s : Option Nat × Option Nat × Option Nat), d < f → k + d = (mvs Y).length → lt5 s → th_fromEntry_L14 f p y x2 (nI6 s.1) (nI6 s.2.2) (nI6 s.2.1) (iN k) = some (nI6 ((((mvs Y).drop k).filter (nr Y Q)).foldl (mst Q) s).1, nI6 ((((mvs Y).drop k).filter (nr Y Q)).foldl (mst Q) s).2.2, nI6 ((((mvs Y).drop k).filter (nr Y Q)).foldl (mst Q) s).2.1) := by
  have hml := mvs_len Y
  intro d
  induction d with
  | zero =>
    intro k f s hf hk hs
    obtain ⟨f, rfl⟩ : ∃ g, f = g + 1 := ⟨f - 1, by omega⟩
    rw [th_fromEntry_L14, hN.1, jlt (by omega) (by omega), if_neg (by omega), List.drop_eq_nil_of_le (by omega)]
    rfl
  | succ d ih =>
    intro k f s hf hk hs
    obtain ⟨f, rfl⟩ : ∃ g, f = g + 1 := ⟨f - 1, by omega⟩
    have hkl : k < (mvs Y).length := by omega
    have hmem : (mvs Y).getD k 0 ∈ mvs Y := by
      rw [List.getD_eq_getElem?_getD, List.getElem?_eq_getElem hkl]
      exact List.getElem_mem hkl
    have hdr := drop_cons hkl
    have hmv := moveAt_ok hN (by omega) hkl
    generalize hm : (mvs Y).getD k 0 = m at *
    have hgm := (mem_mvs hY m).mp hmem
    have hmm := mvs_lt hmem
    have h6 := gm_t6 hY hgm
    have e1 : iN k + (1 : Int32) = iN (k + 1) := by rw [zl_1, iN_add]
    have j0 : th_fromEntry_J69 (th_fromEntry_L14 f) p y x2 (nI6 s.1) (nI6 s.2.2) (nI6 s.2.1) (iN k) (iN m) (iN (mt m)) 0 = th_fromEntry_L14 f p y x2 (nI6 s.1) (nI6 s.2.2) (nI6 s.2.1) (iN (k + 1)) := by
      rw [th_fromEntry_J69, if_pos (show (0 : Int32) = 0 from rfl), e1]
    have hxi : irm (iN m) 10 = iN (mx m) := by rw [zl_10, iN_irm (by omega) (by omega)]; rfl
    have hx10 : mx m < 10 := (m_lt m).2.2.1
    have skip : nr Y Q m = false → th_fromEntry_L14 f p y x2 (nI6 s.1) (nI6 s.2.2) (nI6 s.2.1) (iN (k + 1)) = some (nI6 (((m :: (mvs Y).drop (k + 1)).filter (nr Y Q)).foldl (mst Q) s).1, nI6 (((m :: (mvs Y).drop (k + 1)).filter (nr Y Q)).foldl (mst Q) s).2.2, nI6 (((m :: (mvs Y).drop (k + 1)).filter (nr Y Q)).foldl (mst Q) s).2.1) := fun h9 => by
      rw [List.filter_cons_of_neg (by rw [h9]; decide)]
      exact ih (k + 1) f s (by omega) (by omega) hs
    rw [th_fromEntry_L14, hN.1, jlt (by omega) (by omega), if_pos hkl, hmv]
    simp only [Option.bind_some]
    rw [mt_iN hmm, mf_iN hmm, hxi, jeq0 (by omega), jeq0 (by omega), zl_5, jeq (by omega) (by omega), j0, hdr]
    by_cases c1 : mf m = 0
    · rw [if_pos c1]
      by_cases c2 : mt m = 5
      · rw [if_pos c2]
        exact skip (by unfold nr; rw [decide_eq_false (fun h => h.2.1 c2), Bool.false_and])
      · rw [if_neg c2]
        by_cases c3 : mx m = 0
        · rw [if_pos c3]
          cases hc : can Y Q m with
          | false =>
            rw [th_fromEntry_J69, if_neg (by decide), allows_ok hY hB hC hgm, hc]
            simp only [Option.bind_some]
            rw [if_pos bF, e1]
            exact skip (by unfold nr; rw [hc, Bool.and_false])
          | true =>
            have hnr : nr Y Q m = true := by unfold nr; rw [hc, decide_eq_true ⟨c1, c2, c3⟩]; rfl
            rw [from_J69 hY hB hC hgm hc hs.1 hs.2.1 hs.2.2, e1, List.filter_cons_of_pos hnr, List.foldl_cons]
            exact ih (k + 1) f (mst Q s m) (by omega) (by omega) (lt5_st hs hmm h6.1)
        · rw [if_neg c3]
          exact skip (by unfold nr; rw [decide_eq_false (fun h => c3 h.2.2), Bool.false_and])
    · rw [if_neg c1]
      exact skip (by unfold nr; rw [decide_eq_false (fun h => c1 h.1), Bool.false_and])
