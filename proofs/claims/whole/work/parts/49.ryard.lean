/-! THE REFERENCE: fault, yard -/
def ltr (c : Nat) : Bool := decide (c = 115 ∨ c = 113 ∨ c = 100)
def ftF : List Nat → Nat → Nat → Nat → Nat → Bool → Option Nat
  | [], i, st, sid, _, _ => if st = 1 ∧ 0 < sid then none else some i
  | c :: r, i, st, sid, ah, on => if st = 2 then (if 49 ≤ c ∧ c ≤ 53 then ftF r (i + 1) 1 sid ah on else some i)
    else if ltr c = true ∧ sid < 4 then ftF r (i + 1) 2 (sid + 1) ah on
    else if c = 45 ∧ on = false then ftF r (i + 1) 1 sid ah true
    else if c = 59 ∧ st = 1 ∧ ah < 2 then ftF r (i + 1) 0 sid (ah + 1) false
    else some i
def ftA (p : List Nat) : Option Nat := ftF p 0 0 0 0 false
theorem isLetter_M {c : Nat} (h : c < 1000) : m_isLetter (iN c) = some (bI (ltr c)) := by
  rw [m_isLetter, zl_115, zl_113, zl_100, jeq (by omega) (by omega), jeq (by omega) (by omega), jeq (by omega) (by omega)]
  unfold ltr
  by_cases a : c = 115
  · rw [if_pos a, decide_eq_true (Or.inl a)]; rfl
  · rw [if_neg a]
    by_cases b : c = 113
    · rw [if_pos b, decide_eq_true (Or.inr (Or.inl b))]; rfl
    · rw [if_neg b]
      by_cases d : c = 100
      · rw [if_pos d, decide_eq_true (Or.inr (Or.inr d))]; rfl
      · rw [if_neg d, decide_eq_false (by omega)]; rfl
theorem fault_L12 {σ : MS} {p : List Nat} (hl : p.length ≤ 16) (hb : ∀ d ∈ p, 33 ≤ d ∧ d ≤ 126) (hP : PR σ p) : ∀ (d i f s k a : Nat) (on : Bool), d < f → i + d = p.length → s ≤ 2 → k ≤ 4 → a ≤ 2 →
    ∃ s2 k2, s2 ≤ 2 ∧ k2 ≤ 4 ∧ m_fault_L12 f σ (iN s) (iN k) (iN a) (bI on) (iN i) = some (match ftF (p.drop i) i s k a on with
      | none => .inl (iN s2, iN k2)
      | some j => if j < p.length then .inr (iN j) else .inl (iN s2, iN k2)) ∧ ((ftF (p.drop i) i s k a on = none ↔ (s2 = 1 ∧ 0 < k2 ∧ ftF (p.drop i) i s k a on = none)) ∧ (∀ j, ftF (p.drop i) i s k a on = some j → ¬ j < p.length → j = p.length ∧ ¬ (s2 = 1 ∧ 0 < k2))) := by
  intro d
  induction d with
  | zero =>
    intro i f s k a on hf hi hs hk ha
    obtain ⟨f, rfl⟩ : ∃ g, f = g + 1 := ⟨f - 1, by omega⟩
    refine ⟨s, k, hs, hk, ?_⟩
    rw [m_fault_L12, hP.1, jlt (by omega) (by omega), if_neg (by omega), List.drop_eq_nil_of_le (by omega), ftF]
    by_cases c : s = 1 ∧ 0 < k
    · rw [if_pos c]
      exact ⟨rfl, ⟨fun _ => ⟨c.1, c.2, rfl⟩, fun _ => rfl⟩, fun j hj => by cases hj⟩
    · rw [if_neg c]
      refine ⟨?_, ⟨fun h => (nomatch h), fun h => h.2.2⟩, fun j hj _ => ?_⟩
      · simp only
        rw [if_neg (by omega)]
      · cases hj
        exact ⟨by omega, c⟩
  | succ d ih =>
    intro i f s k a on hf hi hs hk ha
    obtain ⟨f, rfl⟩ : ∃ g, f = g + 1 := ⟨f - 1, by omega⟩
    have hm : p.getD i 0 ∈ p := by
      rw [List.getD_eq_getElem?_getD, List.getElem?_eq_getElem (by omega)]
      exact List.getElem_mem (show i < p.length by omega)
    have hb2 := hb _ hm
    have h9 := hP.2 i (by omega)
    generalize hc : p.getD i 0 = c at *
    have hdr : p.drop i = c :: p.drop (i + 1) := by rw [drop_cons (show i < p.length by omega), hc]
    rw [hdr, ftF]
    have hst : m_fault_L12 (f + 1) σ (iN s) (iN k) (iN a) (bI on) (iN i) = if s = 2 then (if 49 ≤ c ∧ c ≤ 53 then m_fault_L12 f σ (iN 1) (iN k) (iN a) (bI on) (iN (i + 1)) else some (.inr (iN i))) else if ltr c = true ∧ k < 4 then m_fault_L12 f σ (iN 2) (iN (k + 1)) (iN a) (bI on) (iN (i + 1)) else if c = 45 ∧ on = false then m_fault_L12 f σ (iN 1) (iN k) (iN a) (bI true) (iN (i + 1)) else if c = 59 ∧ s = 1 ∧ a < 2 then m_fault_L12 f σ (iN 0) (iN k) (iN (a + 1)) (bI false) (iN (i + 1)) else some (.inr (iN i)) := by
      have hJ99' : m_fault_J99 (m_fault_L12 f) σ (iN s) (iN k) (iN a) (iN i) (iN c) = if c = 59 ∧ s = 1 ∧ a < 2 then m_fault_L12 f σ (iN 0) (iN k) (iN (a + 1)) (bI false) (iN (i + 1)) else some (.inr (iN i)) := by
        rw [m_fault_J99, zl_59, jeq (by omega) (by omega), zl_1, jeq (by omega) (by omega), zl_2, jlt (by omega) (by omega), iN_add, iN_add]
        by_cases x1 : c = 59
        · rw [if_pos x1]
          by_cases x2 : s = 1
          · rw [if_pos x2]
            by_cases x3 : a < 2
            · rw [if_pos x3, if_pos ⟨x1, x2, x3⟩]; rfl
            · rw [if_neg x3, if_neg (fun h => x3 h.2.2)]
          · rw [if_neg x2, if_neg (fun h => x2 h.2.1)]
        · rw [if_neg x1, if_neg (fun h => x1 h.1)]
      have hJ79 : m_fault_J79 (m_fault_L12 f) σ (iN s) (iN k) (iN a) (bI on) (iN i) (iN c) = if c = 45 ∧ on = false then m_fault_L12 f σ (iN 1) (iN k) (iN a) (bI true) (iN (i + 1)) else if c = 59 ∧ s = 1 ∧ a < 2 then m_fault_L12 f σ (iN 0) (iN k) (iN (a + 1)) (bI false) (iN (i + 1)) else some (.inr (iN i)) := by
        rw [m_fault_J79, hJ99', zl_45, jeq (by omega) (by omega)]
        simp only [bI_0]
        by_cases x1 : c = 45
        · rw [if_pos x1]
          by_cases x2 : on = false
          · rw [if_pos x2, if_pos ⟨x1, x2⟩, zl_1, iN_add]; rfl
          · rw [if_neg x2, if_neg (show ¬ (c = 45 ∧ on = false) from fun h => x2 h.2)]
        · rw [if_neg x1, if_neg (show ¬ (c = 45 ∧ on = false) from fun h => x1 h.1)]
      rw [m_fault_L12, hP.1, jlt (by omega) (by omega), if_pos (by omega), if_pos (by rw [iN_inb (by omega)]; omega), gA_av (by omega), h9, zl_2, jeq (by omega) (by omega), m_in_i, iN_toInt (by omega), isLetter_M (by omega)]
      simp only [Option.bind_some, bI_0]
      rw [show (49 : Int64).toInt = 49 from rfl, show (53 : Int64).toInt = 53 from rfl, hJ79, zl_4, jlt (by omega) (by omega), zl_1, iN_add, iN_add]
      simp only [decide_eq_false_iff_not]
      by_cases x1 : s = 2
      · rw [if_pos x1, if_pos x1]
        by_cases x2 : 49 ≤ c ∧ c ≤ 53
        · rw [if_neg (show ¬ ¬ ((49 : Int) ≤ (c : Int) ∧ (c : Int) ≤ 53) by omega), if_pos x2]
        · rw [if_pos (show ¬ ((49 : Int) ≤ (c : Int) ∧ (c : Int) ≤ 53) by omega), if_neg x2]
      · rw [if_neg x1, if_neg x1]
        cases hlt : ltr c with
        | false => rw [if_pos rfl, if_neg (show ¬ (false = true ∧ k < 4) by simp)]
        | true =>
          rw [if_neg (show ¬ true = false by decide)]
          by_cases x2 : k < 4
          · rw [if_pos x2, if_pos ⟨rfl, x2⟩]
          · rw [if_neg x2, if_neg (show ¬ (true = true ∧ k < 4) from fun h => x2 h.2)]
    rw [hst]
    have hstop : ∃ s2 k2, s2 ≤ 2 ∧ k2 ≤ 4 ∧ (some (.inr (iN i)) : Option ((Int32 × Int32) ⊕ Int32)) = some (match some i with
      | none => .inl (iN s2, iN k2)
      | some j => if j < p.length then .inr (iN j) else .inl (iN s2, iN k2)) ∧ ((some i = none ↔ (s2 = 1 ∧ 0 < k2 ∧ some i = none)) ∧ (∀ j, some i = some j → ¬ j < p.length → j = p.length ∧ ¬ (s2 = 1 ∧ 0 < k2))) := by
      refine ⟨0, 0, by omega, by omega, ?_, ⟨fun h => (nomatch h), fun h => (nomatch h.2.2)⟩, fun j hj hn => ?_⟩
      · simp only
        rw [if_pos (by omega)]
      · cases hj; omega
    by_cases x1 : s = 2
    · rw [if_pos x1, if_pos x1]
      by_cases x2 : 49 ≤ c ∧ c ≤ 53
      · rw [if_pos x2, if_pos x2]; exact ih (i + 1) f 1 k a on (by omega) (by omega) (by omega) hk ha
      · rw [if_neg x2, if_neg x2]; exact hstop
    · rw [if_neg x1, if_neg x1]
      by_cases x2 : ltr c = true ∧ k < 4
      · rw [if_pos x2, if_pos x2]; exact ih (i + 1) f 2 (k + 1) a on (by omega) (by omega) (by omega) (by omega) ha
      · rw [if_neg x2, if_neg x2]
        by_cases x3 : c = 45 ∧ on = false
        · rw [if_pos x3, if_pos x3]; exact ih (i + 1) f 1 k a true (by omega) (by omega) (by omega) hk ha
        · rw [if_neg x3, if_neg x3]
          by_cases x4 : c = 59 ∧ s = 1 ∧ a < 2
          · rw [if_pos x4, if_pos x4]; exact ih (i + 1) f 0 k (a + 1) false (by omega) (by omega) (by omega) hk (by omega)
          · rw [if_neg x4, if_neg x4]; exact hstop
theorem ftF_le : ∀ (l : List Nat) (i s k a : Nat) (on : Bool) (j : Nat), ftF l i s k a on = some j → i ≤ j ∧ j ≤ i + l.length := by
  intro l
  induction l with
  | nil =>
    intro i s k a on j h
    rw [ftF] at h
    split at h
    · cases h
    · cases h; simp
  | cons c r ih =>
    intro i s k a on j h
    rw [List.length_cons]
    rw [ftF] at h
    have st : some i = some j → i ≤ j ∧ j ≤ i + (r.length + 1) := fun h => by cases h; omega
    split at h
    · split at h
      · have := ih _ _ _ _ _ _ h; omega
      · exact st h
    · split at h
      · have := ih _ _ _ _ _ _ h; omega
      · split at h
        · have := ih _ _ _ _ _ _ h; omega
        · split at h
          · have := ih _ _ _ _ _ _ h; omega
          · exact st h
theorem fault_ok {σ : MS} {p : List Nat} (hl : p.length ≤ 16) (hb : ∀ d ∈ p, 33 ≤ d ∧ d ≤ 126) (hP : PR σ p) : m_fault σ = some (nI6 (ftA p)) := by
  obtain ⟨s2, k2, h1, h2, h3, h4, h5⟩ := fault_L12 hl hb hP p.length 0 N0 0 0 0 false (by rw [N0_eq]; omega) (by omega) (by omega) (by omega) (by omega)
  rw [List.drop_zero] at h3 h4 h5
  have h3' : m_fault_L12 N0 σ 0 0 0 0 0 = some (match ftF p 0 0 0 0 false with
      | none => .inl (iN s2, iN k2)
      | some j => if j < p.length then .inr (iN j) else .inl (iN s2, iN k2)) := h3
  rw [m_fault, h3']
  unfold ftA
  simp only [Option.bind_some]
  cases hf : ftF p 0 0 0 0 false with
  | none =>
    have := h4.mp hf
    simp only
    rw [zl_1, jeq (by omega) (by omega), if_pos this.1, jlt0 (by omega), if_pos this.2.1]
    rfl
  | some j =>
    by_cases c : j < p.length
    · simp only [if_pos c]
      rfl
    · obtain ⟨e, h6⟩ := h5 j hf c
      simp only [if_neg c]
      rw [zl_1, jeq (by omega) (by omega), jlt0 (by omega), hP.1, e]
      by_cases x1 : s2 = 1
      · rw [if_pos x1, if_neg (fun h => h6 ⟨x1, h⟩)]; rfl
      · rw [if_neg x1]; rfl
/-! the YARD that signs spell -/
def addS (y : Yd) (c n : Nat) : Yd := (yM y + 1, (fun i => if i = yM y then c else yL y i), (fun i => if i = yM y then n else yN y i), (fun i => if i = yM y then yT y - 1 else yS y i), yT y, y.2.2.2.2.2)
def pY : List Nat → Yd → Yd
  | [], y => y
  | c :: r, y => if c = 59 then pY r (yM y, y.2.1, y.2.2.1, y.2.2.2.1, yT y + 1, y.2.2.2.2.2)
    else if c = 45 then pY r (yM y, y.2.1, y.2.2.1, y.2.2.2.1, yT y, fun k => if k = yT y - 1 then true else yD y k)
    else if ltr c = true then pY r (addS y c (r.headD 0 - 48)) else pY r y
def y0 : Yd := (0, (fun _ => 0), (fun _ => 0), (fun _ => 0), 1, fun _ => false)
def PV (y : Yd) : Prop := yM y ≤ 4 ∧ 1 ≤ yT y ∧ yT y ≤ 3 ∧ (∀ i, i < yM y → (yL y i = 115 ∨ yL y i = 113 ∨ yL y i = 100) ∧ 1 ≤ yN y i ∧ yN y i ≤ 5 ∧ yS y i < yT y) ∧ (∀ i j, i ≤ j → j < yM y → yS y i ≤ yS y j) ∧ (∀ k, yT y ≤ k → yD y k = false)
theorem ltr_or {c : Nat} (h : ltr c = true) : c = 115 ∨ c = 113 ∨ c = 100 := of_decide_eq_true h
theorem PV_add {y : Yd} (h : PV y) {c n : Nat} (hM : yM y < 4) (hc : ltr c = true) (h1 : 1 ≤ n) (h5 : n ≤ 5) : PV (addS y c n) := by
  obtain ⟨a1, a2, a3, a4, a5, a6⟩ := h
  refine ⟨by show yM y + 1 ≤ 4; omega, a2, a3, fun i hi => ?_, fun i j hij hj => ?_, a6⟩
  · have hi : i < yM y + 1 := hi
    show ((if i = yM y then c else yL y i) = 115 ∨ (if i = yM y then c else yL y i) = 113 ∨ (if i = yM y then c else yL y i) = 100) ∧ 1 ≤ (if i = yM y then n else yN y i) ∧ (if i = yM y then n else yN y i) ≤ 5 ∧ (if i = yM y then yT y - 1 else yS y i) < yT y
    by_cases e : i = yM y
    · simp only [if_pos e]
      exact ⟨ltr_or hc, h1, h5, by omega⟩
    · simp only [if_neg e]
      exact a4 i (by omega)
  · have hj : j < yM y + 1 := hj
    show (if i = yM y then yT y - 1 else yS y i) ≤ (if j = yM y then yT y - 1 else yS y j)
    by_cases e : i = yM y
    · have : j = yM y := by omega
      rw [if_pos e, if_pos this]; exact Nat.le_refl _
    · rw [if_neg e]
      by_cases e2 : j = yM y
      · rw [if_pos e2]
        have := (a4 i (by omega)).2.2.2
        omega
      · rw [if_neg e2]; exact a5 i j hij (by omega)
/-- the reference's YARD while it is laid out: pending a LENGTH or not -/
def RY (σ : MS) (y : Yd) (pend : Bool) : Prop := gI σ 4 = iN (yM y) ∧ gI σ 5 = iN (yT y) ∧ (∀ i, i < yM y → av σ 1 i = iN (yL y i) ∧ (pend = false ∨ i + 1 < yM y → av σ 2 i = iN (yN y i)) ∧ av σ 3 i = iN (yS y i)) ∧ ∀ k, k < yT y → av σ 4 k = bI (yD y k)
theorem yard_L29 {p : List Nat} (hl : p.length ≤ 16) (hb : ∀ d ∈ p, 33 ≤ d ∧ d ≤ 126) : ∀ (d i f s a : Nat) (on : Bool) (σ : MS) (y : Yd), d < f → i + d = p.length → PR σ p → PV y → RY σ y (decide (s = 2)) → (s = 2 → 1 ≤ yM y ∧ iN (yN y (yM y - 1)) = iN (p.getD i 0) - 48) → yT y = a + 1 → ftF (p.drop i) i s (yM y) a on = none → (s = 2 ∨ s = 1 ∨ s = 0) →
    ∃ τ, m_yard_L29 f σ (iN i) = some τ ∧ FR [4, 5] [1, 2, 3, 4] [] σ τ ∧ RY τ (pY (p.drop i) y) false ∧ PV (pY (p.drop i) y) ∧ 1 ≤ yM (pY (p.drop i) y) := by
  intro d
  induction d with
  | zero =>
    intro i f s a on σ y hf hi hP hV hR hpd hT hft hs
    obtain ⟨f, rfl⟩ : ∃ g, f = g + 1 := ⟨f - 1, by omega⟩
    rw [List.drop_eq_nil_of_le (by omega)] at hft ⊢
    rw [ftF] at hft
    have hc : s = 1 ∧ 0 < yM y := by
      by_cases c : s = 1 ∧ 0 < yM y
      · exact c
      · rw [if_neg c] at hft; cases hft
    rw [decide_eq_false (by omega)] at hR
    refine ⟨σ, ?_, FR_rf, hR, hV, hc.2⟩
    rw [m_yard_L29, hP.1, jlt (by omega) (by omega), if_neg (by omega)]
  | succ d ih =>
    intro i f s a on σ y hf hi hP hV hR hpd hT hft hs
    obtain ⟨f, rfl⟩ : ∃ g, f = g + 1 := ⟨f - 1, by omega⟩
    have hm : p.getD i 0 ∈ p := by
      rw [List.getD_eq_getElem?_getD, List.getElem?_eq_getElem (by omega)]
      exact List.getElem_mem (show i < p.length by omega)
    have hb2 := hb _ hm
    have h9 := hP.2 i (by omega)
    generalize hc : p.getD i 0 = c at *
    have hdr : p.drop i = c :: p.drop (i + 1) := by rw [drop_cons (show i < p.length by omega), hc]
    rw [hdr, ftF] at hft
    rw [hdr, pY]
    obtain ⟨r4, r5, rA, rD⟩ := hR
    have hM := hV.1
    have hT3 := hV.2.2.1
    have hst : ∀ r, m_yard_L29 (f + 1) σ (iN i) = r ↔ ((m_isLetter (iN c)).bind fun q45 =>
          if q45 = 0 then
            if iN c = 45 then
              if inb ((gI σ 5) - 1) 3 then m_yard_L29 f (sA σ 4 ((gI σ 5) - 1) 1) (iN (i + 1)) else none
            else
              if iN c = 59 then
                if inb (gI σ 5) 3 then m_yard_L29 f (sI (sA σ 4 (gI σ 5) 0) 5 ((gI σ 5) + 1)) (iN (i + 1)) else none
              else
                if inb ((gI σ 4) - 1) 4 then m_yard_L29 f (sA σ 2 ((gI σ 4) - 1) (iN c - 48)) (iN (i + 1)) else none
          else
            if inb (gI σ 4) 4 ∧ inb (gI σ 4) 4 then
              m_yard_L29 f (sI (sA (sA σ 1 (gI σ 4) (iN c)) 3 (gI σ 4) ((gI σ 5) - 1)) 4 ((gI σ 4) + 1)) (iN (i + 1))
            else none) = r := by
      intro r
      rw [m_yard_L29, hP.1, jlt (by omega) (by omega), if_pos (by omega), if_pos (by rw [iN_inb (by omega)]; omega), gA_av (by omega), h9, zl_1, iN_add]
    by_cases x1 : s = 2
    · rw [if_pos x1] at hft
      have x2 : 49 ≤ c ∧ c ≤ 53 := by
        by_cases x2 : 49 ≤ c ∧ c ≤ 53
        · exact x2
        · rw [if_neg x2] at hft; cases hft
      rw [if_pos x2] at hft
      obtain ⟨p1, p2⟩ := hpd x1
      have hlt : ltr c = false := by unfold ltr; rw [decide_eq_false_iff_not]; omega
      rw [if_neg (by omega), if_neg (by omega), if_neg (by rw [hlt]; decide)]
      have fr : FR [] [2] [] σ (sA σ 2 (iN (yM y - 1)) (iN c - 48)) := FR_sA (by decide)
      obtain ⟨τ, t1, t2, t3, t4, t5⟩ := ih (i + 1) f 1 a on (sA σ 2 (iN (yM y - 1)) (iN c - 48)) y (by omega) (by omega) ⟨by rw [fr.1 13 (by decide)]; exact hP.1, fun k hk => by rw [fr.2.1 9 (by decide)]; exact hP.2 k hk⟩ hV ⟨r4, r5, fun j hj => by
        obtain ⟨q1, q2, q3⟩ := rA j hj
        rw [fr.2.1 1 (by decide), fr.2.1 3 (by decide)]
        refine ⟨q1, fun _ => ?_, q3⟩
        rw [av_sA (by omega), if_pos rfl]
        by_cases e : j = yM y - 1
        · rw [if_pos e, e, p2]
        · rw [if_neg e]; exact q2 (Or.inr (by omega)), fun k hk => by rw [fr.2.1 4 (by decide)]; exact rD k hk⟩ (fun h => by omega) hT hft (Or.inr (Or.inl rfl))
      refine ⟨τ, ?_, FR_tr (FR_mo fr rfl rfl rfl) t2, t3, t4, t5⟩
      rw [hst, isLetter_M (by omega), hlt]
      simp only [Option.bind_some]
      rw [if_pos bF, zl_45, jeq (by omega) (by omega), if_neg (by omega), zl_59, jeq (by omega) (by omega), if_neg (by omega), r4, zl_1, iN_sub p1, if_pos (by rw [iN_inb (by omega)]; omega)]
      exact t1
    · rw [if_neg x1] at hft
      rw [decide_eq_false x1] at rA
      by_cases x2 : ltr c = true ∧ yM y < 4
      · rw [if_pos x2] at hft
        have hcl := ltr_or x2.1
        rw [if_neg (by omega), if_neg (by omega), if_pos x2.1]
        -- the next sign must be a digit
        have hnext : ∃ g, p.drop (i + 1) = g :: p.drop (i + 2) ∧ 49 ≤ g ∧ g ≤ 53 ∧ p.getD (i + 1) 0 = g ∧ i + 1 < p.length := by
          rcases Nat.lt_or_ge (i + 1) p.length with h8 | h8
          · refine ⟨p.getD (i + 1) 0, drop_cons h8, ?_⟩
            rw [drop_cons h8, ftF, if_pos rfl] at hft
            by_cases x3 : 49 ≤ p.getD (i + 1) 0 ∧ p.getD (i + 1) 0 ≤ 53
            · exact ⟨x3.1, x3.2, rfl, h8⟩
            · rw [if_neg x3] at hft; cases hft
          · rw [List.drop_eq_nil_of_le (by omega), ftF, if_neg (by omega)] at hft
            cases hft
        obtain ⟨g, g1, g2, g3, g4, g5⟩ := hnext
        have hhd : (p.drop (i + 1)).headD 0 = g := by rw [g1]; rfl
        rw [hhd]
        have hV2 := PV_add hV x2.2 x2.1 (show 1 ≤ g - 48 by omega) (show g - 48 ≤ 5 by omega)
        have fr : FR [4] [1, 3] [] σ (sI (sA (sA σ 1 (iN (yM y)) (iN c)) 3 (iN (yM y)) (iN (yT y - 1))) 4 (iN (yM y + 1))) := FR_tr (FR_sA (by decide)) (FR_tr (FR_sA (by decide)) (FR_sI (by decide)))
        obtain ⟨τ, t1, t2, t3, t4, t5⟩ := ih (i + 1) f 2 a on (sI (sA (sA σ 1 (iN (yM y)) (iN c)) 3 (iN (yM y)) (iN (yT y - 1))) 4 (iN (yM y + 1))) (addS y c (g - 48)) (by omega) (by omega) ⟨by rw [fr.1 13 (by decide)]; exact hP.1, fun k hk => by rw [fr.2.1 9 (by decide)]; exact hP.2 k hk⟩ hV2 ⟨rfl, by rw [fr.1 5 (by decide)]; exact r5, fun j hj => by
          have hj : j < yM y + 1 := hj
          show av _ 1 j = iN (if j = yM y then c else yL y j) ∧ (decide (2 = 2) = false ∨ j + 1 < yM y + 1 → av _ 2 j = iN (if j = yM y then g - 48 else yN y j)) ∧ av _ 3 j = iN (if j = yM y then yT y - 1 else yS y j)
          simp (disch := omega) only [gA_av, gL_wv, gI_sI, gI_sA, gI_sL, av_sA, av_sI, av_sL, wv_sL, wv_sI, wv_sA, Nat.reduceEqDiff, if_true, if_false]
          by_cases e : j = yM y
          · simp only [if_pos e]
            exact ⟨trivial, fun h9 => h9.elim (fun h8 => absurd h8 (by decide)) (fun h8 => absurd h8 (by omega)), trivial⟩
          · simp only [if_neg e]
            obtain ⟨q1, q2, q3⟩ := rA j (by omega)
            exact ⟨q1, fun _ => q2 (Or.inl rfl), q3⟩, fun k hk => by rw [fr.2.1 4 (by decide)]; exact rD k hk⟩ (fun _ => ⟨by show 1 ≤ yM y + 1; omega, by
            show iN (if yM y + 1 - 1 = yM y then g - 48 else yN y (yM y + 1 - 1)) = _
            rw [if_pos (by omega), g4, zl_48, iN_sub (by omega)]⟩) hT hft (Or.inl rfl)
        refine ⟨τ, ?_, FR_tr (FR_mo fr rfl rfl rfl) t2, t3, t4, t5⟩
        rw [hst, isLetter_M (by omega), x2.1]
        simp only [Option.bind_some]
        have hin : inb (iN (yM y)) 4 := by rw [iN_inb (by omega)]; omega
        rw [if_neg (by decide), r4, r5, if_pos ⟨hin, hin⟩, zl_1, iN_sub (by omega), iN_add]
        exact t1
      · rw [if_neg x2] at hft
        by_cases x3 : c = 45 ∧ on = false
        · rw [if_pos x3] at hft
          have hlt : ltr c = false := by unfold ltr; rw [decide_eq_false_iff_not]; omega
          rw [if_neg (by omega), if_pos x3.1]
          have fr : FR [] [4] [] σ (sA σ 4 (iN (yT y - 1)) 1) := FR_sA (by decide)
          obtain ⟨τ, t1, t2, t3, t4, t5⟩ := ih (i + 1) f 1 a true (sA σ 4 (iN (yT y - 1)) 1) (yM y, y.2.1, y.2.2.1, y.2.2.2.1, yT y, fun k => if k = yT y - 1 then true else yD y k) (by omega) (by omega) ⟨by rw [fr.1 13 (by decide)]; exact hP.1, fun k hk => by rw [fr.2.1 9 (by decide)]; exact hP.2 k hk⟩ ⟨hV.1, hV.2.1, hV.2.2.1, hV.2.2.2.1, hV.2.2.2.2.1, fun k hk => by
              have hk : yT y ≤ k := hk
              have h1 := hV.2.1
              show (if k = yT y - 1 then true else yD y k) = false
              rw [if_neg (by omega)]; exact hV.2.2.2.2.2 k hk⟩ ⟨r4, r5, fun j hj => by rw [fr.2.1 1 (by decide), fr.2.1 2 (by decide), fr.2.1 3 (by decide)]; exact rA j hj, fun k hk => by
              have hk : k < yT y := hk
              show av (sA σ 4 (iN (yT y - 1)) 1) 4 k = bI (if k = yT y - 1 then true else yD y k)
              rw [av_sA (by omega), if_pos rfl]
              by_cases e : k = yT y - 1
              · rw [if_pos e, if_pos e]; rfl
              · rw [if_neg e, if_neg e]; exact rD k hk⟩ (fun h => by omega) hT hft (Or.inr (Or.inl rfl))
          refine ⟨τ, ?_, FR_tr (FR_mo fr rfl rfl rfl) t2, t3, t4, t5⟩
          have h1 := hV.2.1
          rw [hst, isLetter_M (by omega), hlt]
          simp only [Option.bind_some]
          have e1 : gI σ 5 - 1 = iN (yT y - 1) := by rw [r5, zl_1, iN_sub h1]
          rw [if_pos bF, zl_45, jeq (by omega) (by omega), if_pos x3.1, e1, if_pos (by rw [iN_inb (by omega)]; omega)]
          exact t1
        · rw [if_neg x3] at hft
          by_cases x4 : c = 59 ∧ s = 1 ∧ a < 2
          · rw [if_pos x4] at hft
            have hlt : ltr c = false := by unfold ltr; rw [decide_eq_false_iff_not]; omega
            rw [if_pos x4.1]
            have fr : FR [5] [4] [] σ (sI (sA σ 4 (iN (yT y)) 0) 5 (iN (yT y + 1))) := FR_tr (FR_sA (by decide)) (FR_sI (by decide))
            obtain ⟨τ, t1, t2, t3, t4, t5⟩ := ih (i + 1) f 0 (a + 1) false (sI (sA σ 4 (iN (yT y)) 0) 5 (iN (yT y + 1))) (yM y, y.2.1, y.2.2.1, y.2.2.2.1, yT y + 1, y.2.2.2.2.2) (by omega) (by omega) ⟨by rw [fr.1 13 (by decide)]; exact hP.1, fun k hk => by rw [fr.2.1 9 (by decide)]; exact hP.2 k hk⟩ ⟨hV.1, by show 1 ≤ yT y + 1; omega, by show yT y + 1 ≤ 3; omega, fun j hj => by
                have := hV.2.2.2.1 j hj
                refine ⟨this.1, this.2.1, this.2.2.1, ?_⟩
                show yS y j < yT y + 1
                omega, hV.2.2.2.2.1, fun k hk => by
                have hk : yT y + 1 ≤ k := hk
                exact hV.2.2.2.2.2 k (by omega)⟩ ⟨by rw [fr.1 4 (by decide)]; exact r4, rfl, fun j hj => by rw [fr.2.1 1 (by decide), fr.2.1 2 (by decide), fr.2.1 3 (by decide)]; exact rA j hj, fun k hk => by
                have hk : k < yT y + 1 := hk
                show av (sI (sA σ 4 (iN (yT y)) 0) 5 (iN (yT y + 1))) 4 k = bI (yD y k)
                rw [av_sI, av_sA (by omega), if_pos rfl]
                by_cases e : k = yT y
                · rw [if_pos e, e, hV.2.2.2.2.2 _ (Nat.le_refl _)]; rfl
                · rw [if_neg e]; exact rD k (by omega)⟩ (fun h => by omega) (by show yT y + 1 = a + 1 + 1; omega) hft (Or.inr (Or.inr rfl))
            refine ⟨τ, ?_, FR_tr (FR_mo fr rfl rfl rfl) t2, t3, t4, t5⟩
            rw [hst, isLetter_M (by omega), hlt]
            simp only [Option.bind_some]
            rw [if_pos bF, zl_45, jeq (by omega) (by omega), if_neg (by omega), zl_59, jeq (by omega) (by omega), if_pos x4.1, r5, if_pos (by rw [iN_inb (by omega)]; omega), zl_1, iN_add]
            exact t1
          · rw [if_neg x4] at hft; cases hft
def s_yard (A : AS) : Int32 × AS := match ftA (aP A) with
  | none => (iN (yM (pY (aP A) y0)), ([], pY (aP A) y0, aO A, (0, [], [], []), aI A))
  | some _ => (-5, A)
theorem PV_VY {y : Yd} (h : PV y) (h1 : 1 ≤ yM y) : VY y := ⟨h1, h.1, h.2.1, h.2.2.1, h.2.2.2.1, h.2.2.2.2.1⟩
theorem r_yard {σ : MS} {A : AS} {c : Nat} (h : RI σ A c) : ∃ τ, m_yard σ = some ((s_yard A).1, τ) ∧ RI τ (s_yard A).2 c := by
  have hp := h.1.1
  rw [m_yard, fault_ok hp.1 hp.2 h.2.2.2.1]
  simp only [Option.bind_some]
  unfold s_yard
  cases hf : ftA (aP A) with
  | some j =>
    have hj := ftF_le _ _ _ _ _ _ _ hf
    simp only
    rw [if_neg (show ¬ nI6 (some j) < 0 from iN_nneg (by omega))]
    exact ⟨σ, rfl, h⟩
  | none =>
    simp only
    rw [if_pos (by decide)]
    have f0 : FR [4, 5] [4] [] σ (sA (sI (sI σ 4 0) 5 1) 4 0 0) := FR_tr (FR_sI (by decide)) (FR_tr (FR_sI (by decide)) (FR_sA (by decide)))
    obtain ⟨τ1, a1, a2, a3, a4, a5⟩ := yard_L29 hp.1 hp.2 (aP A).length 0 N0 0 0 false (sA (sI (sI σ 4 0) 5 1) 4 0 0) y0 (by rw [N0_eq]; omega) (by omega) ⟨h.2.2.2.1.1, h.2.2.2.1.2⟩ ⟨by decide, by decide, by decide, fun i hi => by have hi : i < 0 := hi; omega, fun i j hij hj => by have hj : j < 0 := hj; omega, fun k _ => rfl⟩ ⟨rfl, rfl, fun i hi => by have hi : i < 0 := hi; omega, fun k hk => by
      have hk : k < 1 := hk
      obtain rfl : k = 0 := by omega
      rfl⟩ (fun h => by omega) rfl (by rw [List.drop_zero]; exact hf) (Or.inr (Or.inr rfl))
    rw [List.drop_zero] at a3 a4 a5
    have f2 : FR [13, 37] [] [] τ1 (sI (sI τ1 13 0) 37 0) := FR_tr (FR_sI (by decide)) (FR_sI (by decide))
    obtain ⟨τ, b1, b2, b3⟩ := forget_ok (sI (sI τ1 13 0) 37 0)
    have fa : FR [4, 5, 13, 37] [1, 2, 3, 4, 20] [] σ τ := FR_tr (FR_mo f0 rfl rfl rfl) (FR_tr (FR_mo a2 rfl rfl rfl) (FR_tr (FR_mo f2 rfl rfl rfl) (FR_mo b2 rfl rfl rfl)))
    have hVY := PV_VY a4 a5
    obtain ⟨q1, q2, q3, q4⟩ := a3
    have g4 : gI τ 4 = iN (yM (pY (aP A) y0)) := by rw [b2.1 4 (by decide), f2.1 4 (by decide), q1]
    rw [z00] at a1
    refine ⟨τ, ?_, ⟨⟨by show ([] : List Nat).length ≤ 16; simp, fun d hd => by have hd : d ∈ ([] : List Nat) := hd; simp at hd⟩, hVY, h.1.2.2.1, Or.inl rfl, h.1.2.2.2.2⟩, ⟨hVY, g4, by rw [b2.1 5 (by decide), f2.1 5 (by decide)]; exact q2, fun i hi => ?_, fun k hk => ?_⟩, ?_, ⟨by rw [b2.1 13 (by decide)]; rfl, fun k hk => by have hk : k < ([] : List Nat).length := hk; simp at hk⟩, ⟨by rw [b2.1 37 (by decide)]; rfl, fun h1 => by have h1 : 1 ≤ 0 := h1; omega⟩, ?_, FA_0 b3, MKb_fr h.2.2.2.2.2.2.2 fa rfl⟩
    · rw [a1]
      simp only [Option.bind_some]
      rw [b1]
      simp only [Option.bind_some]
      rw [g4]
    · rw [b2.2.1 1 (by decide), b2.2.1 2 (by decide), b2.2.1 3 (by decide), f2.2.1 1 (by decide), f2.2.1 2 (by decide), f2.2.1 3 (by decide)]
      obtain ⟨w1, w2, w3⟩ := q3 i hi
      exact ⟨w1, w2 (Or.inl rfl), w3⟩
    · rw [b2.2.1 4 (by decide), f2.2.1 4 (by decide)]
      exact q4 k hk
    · obtain ⟨o1, o2, o3, o4⟩ := h.2.2.1
      refine ⟨by rw [fa.1 10 (by decide)]; exact o1, by rw [fa.1 11 (by decide)]; exact o2, fun i hi => ?_, fun k hk => ?_⟩
      · rw [fa.2.1 5 (by decide), fa.2.1 6 (by decide), fa.2.1 7 (by decide)]; exact o3 i hi
      · rw [fa.2.1 8 (by decide)]; exact o4 k hk
    · intro i hi
      obtain ⟨p9, q9⟩ := h.2.2.2.2.2.1 i hi
      exact ⟨by rw [fa.2.1 29 (by decide)]; exact p9, fun im him => KR_eq (q9 im him) (fa.2.1 28 (by decide))⟩
