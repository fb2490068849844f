/-! THE CLASS: rules of thumb, from the ENTRY -/
def e2f (Q : Ps) (m : Nat) : Option Nat → Option Nat
  | none => some m
  | some j => if (Q (mt m)).length < (Q (mt j)).length then some m else some j
def h3f (Q : Ps) (m : Nat) : Option Nat → Option Nat
  | none => if (Q (mt m)).all (fun x => decide (wg Q m < x)) = true then some m else none
  | some j => some j
def mst (Q : Ps) (s : Option Nat × Option Nat × Option Nat) (m : Nat) : Option Nat × Option Nat × Option Nat := (s1f m s.1, e2f Q m s.2.1, h3f Q m s.2.2)
theorem n66 {m : Nat} (h : m < 5000) : ¬ nI6 (some m) = -6 := by
  intro h9
  have h8 : iN m = -6 := h9
  have := iN_nneg (a := m) (by omega)
  rw [h8] at this
  exact this (by decide)
theorem from_J69 {Y : Yd} (hY : VY Y) {y : YdS} (hB : CB y Y) {Q : Ps} {p : PlS} (hC : CPl p Q) {m : Nat} (hm : gm Y m = true) (hc : can Y Q m = true) {s : Option Nat × Option Nat × Option Nat} (h1 : ∀ q, s.1 = some q → q < 5000) (h2 : ∀ q, s.2.1 = some q → q < 5000 ∧ mt q < 6) (h3 : ∀ q, s.2.2 = some q → q < 5000) (k : ThS → YdS → Int32 → Int32 → Int32 → Int32 → Int32 → Option (Int32 × Int32 × Int32)) (x2 x6 : Int32) : th_fromEntry_J69 k p y x2 (nI6 s.1) (nI6 s.2.2) (nI6 s.2.1) x6 (iN m) (iN (mt m)) 1 = k p y x2 (nI6 (mst Q s m).1) (nI6 (mst Q s m).2.2) (nI6 (mst Q s m).2.1) (x6 + 1) := by
  have hmm := mvs_lt ((mem_mvs hY m).mpr hm)
  have h6 := gm_t6 hY hm
  have hne := (can_parts hc).1
  have hw : wg Q m < 8 := ((hC (mf m) (by omega)).2.1 _ (tk_mem hne _)).2
  have e175 : ∀ (r h : Int32), th_fromEntry_J134 k p y x2 r (nI6 s.2.1) x6 (iN m) (iN (mt m)) h = k p y x2 r h (nI6 (e2f Q m s.2.1)) (x6 + 1) := by
    intro r h
    rw [th_fromEntry_J134]
    cases hs : s.2.1 with
    | none =>
      rw [if_pos (show nI6 none = -6 from rfl), th_fromEntry_J175, if_neg (by decide)]
      rfl
    | some j =>
      obtain ⟨j1, j2⟩ := h2 j hs
      have hb1 := (hC (mt m) h6.1).1
      have hb2 := (hC (mt j) j2).1
      rw [if_neg (n66 j1), countAt_ok hC h6.1]
      simp only [Option.bind_some]
      rw [show nI6 (some j) = iN j from rfl, mt_iN j1, countAt_ok hC j2]
      simp only [Option.bind_some]
      rw [jlt (by omega) (by omega), th_fromEntry_J175, th_fromEntry_J175]
      unfold e2f
      simp only
      by_cases c : (Q (mt m)).length < (Q (mt j)).length
      · rw [if_pos c, if_pos c, if_neg (by decide)]; rfl
      · rw [if_neg c, if_neg c]; exact if_pos trivial
  have e101 : ∀ (r : Int32), th_fromEntry_J101 k p y x2 (nI6 s.2.2) (nI6 s.2.1) x6 (iN m) (iN (mt m)) r = k p y x2 r (nI6 (h3f Q m s.2.2)) (nI6 (e2f Q m s.2.1)) (x6 + 1) := by
    intro r
    rw [th_fromEntry_J101]
    cases hs : s.2.2 with
    | none =>
      rw [if_pos (show nI6 none = -6 from rfl), wagonOf_ok hC hmm (by omega), if_neg hne]
      simp only [Option.bind_some]
      rw [below_ok hC h6.1 (by omega)]
      simp only [Option.bind_some]
      unfold h3f
      simp only
      cases hb : (Q (mt m)).all (fun x => decide (wg Q m < x)) with
      | false => rw [if_pos bF, if_neg (show ¬ false = true by decide)]; exact e175 _ _
      | true => rw [if_neg bT, if_pos rfl]; exact e175 _ _
    | some j =>
      rw [if_neg (n66 (h3 j hs))]
      exact e175 _ _
  rw [th_fromEntry_J69, if_neg (by decide), allows_ok hY hB hC hm, hc]
  simp only [Option.bind_some]
  rw [if_neg bT]
  cases hs : s.1 with
  | none =>
    rw [if_pos (show nI6 none = -6 from rfl), e101]
    unfold mst
    rw [hs]
    rfl
  | some j =>
    rw [if_neg (n66 (h1 j hs)), e101]
    unfold mst
    rw [hs]
    rfl
