/-! THE CLASS: calls of the pad and the YARD, LEAST, WAYS, FIRST -/
theorem lt_33 (x : Int32) {α : Type} (p q : α) : (if x < 33 then p else if (126 : Int32) < x then p else q) = if 33 ≤ x.toInt ∧ x.toInt ≤ 126 then q else p := by
  rw [rng_t (a' := 33) (b' := 126) (by rfl) (by rfl)]
  unfold nin
  by_cases h : 33 ≤ x.toInt ∧ x.toInt ≤ 126
  · rw [if_pos (decide_eq_true h), if_pos h]
  · rw [if_neg (by rw [decide_eq_true_eq]; exact h), if_neg h]
theorem pdAdd_ok {d : PdS} {p : List Nat} (h : CP d p) (hl : p.length ≤ 16) {x : Nat} (hx : x < 1000) : (p.length = 16 → pd_add d (iN x) = some (0, d)) ∧ (p.length ≠ 16 → ∃ d', pd_add d (iN x) = some (1, d') ∧ CP d' (p ++ [x])) := by
  obtain ⟨h1, h2⟩ := h
  refine ⟨fun e => ?_, fun e => ?_⟩
  · rw [pd_add, h1, if_neg (iN_nneg (by omega)), show nI 16 = iN 16 from rfl, jlt (by omega) (by omega), if_neg (by omega)]
  · refine ⟨((wr d.1 (iN p.length) (iN x)), iN p.length + 1), ?_, ?_, fun i hi => ?_⟩
    · rw [pd_add, h1, if_neg (iN_nneg (by omega)), show nI 16 = iN 16 from rfl, jlt (by omega) (by omega), if_pos (by omega), if_pos (by rw [iN_inb (by omega)]; omega)]
    · show iN p.length + 1 = iN (p ++ [x]).length
      rw [zl_1, iN_add, List.length_append]
      rfl
    · show wr d.1 (iN p.length) (iN x) i = _
      rw [List.length_append] at hi
      simp only [List.length_cons, List.length_nil] at hi
      rw [wr_iN (by omega)]
      by_cases c : i = p.length
      · rw [if_pos c, c, getD_append_at]
      · rw [if_neg c, getD_append_lt (by omega)]
        exact h2 i (by omega)
theorem x_say {s : SoS} {A : AS} {c : Nat} (hV : VA A) (h : CJ s A c) (yr : Nat) (x : Int32) : ∃ s2, so_say s yr x = some ((s_say A x).1, s2) ∧ CJ s2 (s_say A x).2 c := by
  have hl := hV.1.1
  rw [so_say, lt_33]
  unfold s_say
  by_cases cx : 33 ≤ x.toInt ∧ x.toInt ≤ 126
  · rw [if_pos cx, if_pos cx]
    rcases i_cases x with ⟨k, hk, rfl⟩ | hneg
    · rw [iN_toInt hk] at cx
      rw [iN_nat hk]
      obtain ⟨p1, p2⟩ := pdAdd_ok h.1 hl (show k < 1000 by omega)
      by_cases e : (aP A).length = 16
      · rw [p1 e, if_pos e]
        simp only [Option.bind_some]
        exact ⟨_, if_pos trivial, h⟩
      · obtain ⟨d', a1, a2⟩ := p2 e
        rw [a1, if_neg e]
        refine ⟨(d', s.2), ?_, a2, h.2⟩
        simp only [Option.bind_some]
        rw [if_neg (show ¬ (1 : Int32) = 0 by decide), a2.1, List.length_append]
        rfl
    · omega
  · rw [if_neg cx, if_neg cx]
    exact ⟨s, rfl, h⟩
theorem x_wipe {s : SoS} {A : AS} {c : Nat} (h : CJ s A c) (yr : Nat) : ∃ s2, so_wipe s yr = some (iN (aP A).length, s2) ∧ CJ s2 (wPd A []) c := by
  refine ⟨((s.1.1, 0), s.2), ?_, ⟨rfl, fun i hi => by have hi : i < 0 := hi; omega⟩, h.2⟩
  rw [so_wipe, pd_clear, ← h.1.1]
  rfl
theorem x_fault {s : SoS} {A : AS} {c : Nat} (hV : VA A) (h : CJ s A c) (yr : Nat) : so_fault s yr = some (nI6 (ftA (aP A))) := by
  rw [so_fault, faultC_ok h.1 hV.1.1 hV.1.2]
  rfl
theorem forgetF_ok {s : SoS} {A B : AS} {c : Nat} (h : CS s.2.2.2.2.2.2.2.1 (aY A) c) (h1 : CP s.1 (aP B)) (h2 : CY s.2.1 (aY B)) (h3 : CY s.2.2.1 (aO B)) (h4 : CG s.2.2.2.1 (aG B)) (h5 : CIm s.2.2.2.2.1 (aI B 0) ∧ CIm s.2.2.2.2.2.1 (aI B 1)) (yr : Nat) : ∃ s2, so_forgetFindings s yr = some s2 ∧ CJ s2 B c ∧ s2.2.1 = s.2.1 := by
  obtain ⟨e', a1, a2⟩ := forgetS_ok (Y' := aY B) h
  refine ⟨(s.1, s.2.1, s.2.2.1, s.2.2.2.1, s.2.2.2.2.1, s.2.2.2.2.2.1, s.2.2.2.2.2.2.1, e', (0, s.2.2.2.2.2.2.2.2.1.2.1, s.2.2.2.2.2.2.2.2.1.2.2), s.2.2.2.2.2.2.2.2.2), ?_, ⟨h1, h2, h3, h4, h5, a2, Or.inl rfl⟩, rfl⟩
  rw [so_forgetFindings, a1]
  rfl
theorem x_yard {s : SoS} {A : AS} {c : Nat} (hV : VA A) (h : CJ s A c) (hV2 : VA (s_yard A).2) (yr : Nat) : ∃ s2, so_yard s yr = some ((s_yard A).1, s2) ∧ CJ s2 (s_yard A).2 c := by
  rw [so_yard, faultC_ok h.1 hV.1.1 hV.1.2]
  simp only [Option.bind_some]
  unfold s_yard at hV2 ⊢
  cases hf : ftA (aP A) with
  | some j =>
    have hj := ftF_le _ _ _ _ _ _ _ hf
    have hl := hV.1.1
    simp only
    rw [if_neg (show ¬ nI6 (some j) = -6 from n66 (by omega))]
    exact ⟨s, rfl, h⟩
  | none =>
    rw [hf] at hV2
    have hY : VY (pY (aP A) y0) := hV2.2.1
    simp only
    rw [if_pos (show nI6 none = -6 from rfl)]
    obtain ⟨y', a1, a2⟩ := layOut_ok h.1 hV.1.1 hV.1.2 hf hY s.2.1
    rw [a1, pd_clear]
    simp only [Option.bind_some]
    obtain ⟨s2, b1, b2, b3⟩ := forgetF_ok (s := ((s.1.1, 0), y', s.2.2.1, (0, s.2.2.2.1.2.1, s.2.2.2.1.2.2.1, s.2.2.2.1.2.2.2.1, s.2.2.2.1.2.2.2.2.1, s.2.2.2.1.2.2.2.2.2.1, s.2.2.2.1.2.2.2.2.2.2), s.2.2.2.2.1, s.2.2.2.2.2.1, s.2.2.2.2.2.2.1, s.2.2.2.2.2.2.2.1, s.2.2.2.2.2.2.2.2.1, s.2.2.2.2.2.2.2.2.2)) (A := A) (B := ([], pY (aP A) y0, aO A, (0, [], [], []), aI A)) h.2.2.2.2.2.1 ⟨rfl, fun i hi => by have hi : i < 0 := hi; omega⟩ a2 h.2.2.1 ⟨fun _ => rfl, fun h9 => by have h9 : 1 ≤ 0 := h9; omega⟩ h.2.2.2.2.1 yr
    refine ⟨s2, ?_, b2⟩
    rw [b1]
    show some (s2.2.1.1, s2) = _
    rw [b3]
    show some (y'.1, s2) = _
    rw [a2.1.1]
theorem x_siding {s : SoS} {A : AS} {c : Nat} (hV : VA A) (h : CJ s A c) (yr : Nat) (x w : Int32) : so_siding s yr x w = some (s_siding (aY A) x w) := by
  have hM := hV.2.1.2.1
  have hB := h.2.1.1
  rw [so_siding, hB.1]
  unfold s_siding
  rcases i_cases x with ⟨k, hk, rfl⟩ | hneg
  · rw [if_neg (iN_nneg hk), jlt hk (by omega), iN_nat hk]
    unfold sdx
    rw [iN_toInt hk]
    by_cases ck : k < yM (aY A)
    · rw [if_pos ck, if_pos (decide_eq_true (by omega)), letterAt_ok hB hM ck, lengthAt_ok hB hM ck, stageAt_ok hB hM ck]
      simp only [Option.bind_some]
      by_cases c0 : w = 0
      · rw [if_pos c0, if_pos c0]
      · rw [if_neg c0, if_neg c0]
        by_cases c1 : w = 1
        · rw [if_pos c1, if_pos c1]
        · rw [if_neg c1, if_neg c1]
          by_cases c2 : w = 2
          · rw [if_pos c2, if_pos c2]
          · rw [if_neg c2, if_neg c2]
    · rw [if_neg ck, if_neg (by rw [decide_eq_true_eq]; omega)]
  · rw [if_pos (neg_lt hneg), if_neg]
    unfold sdx
    rw [decide_eq_true_eq]
    omega
theorem miss_ok {s : SoS} {A : AS} {c : Nat} (hV : VA A) (h : CJ s A c) (yr : Nat) (x : Int32) : so_isMissing s yr x = some (bI (msg (aY A) x)) := by
  have hM := hV.2.1.2.1
  rw [so_isMissing, h.2.1.1.1]
  unfold msg
  have e1 : (iN (yM (aY A)) < x) = ((yM (aY A) : Int) < x.toInt) := by rw [Int32.lt_iff_toInt_lt, iN_toInt (by omega)]
  have e2 : ((4 : Int32) < x) = ((4 : Int) < x.toInt) := by rw [Int32.lt_iff_toInt_lt]; rfl
  by_cases c1 : iN (yM (aY A)) < x
  · rw [if_pos c1]
    rw [e1] at c1
    by_cases c2 : (4 : Int32) < x
    · rw [if_pos c2]
      rw [e2] at c2
      rw [decide_eq_false (by omega)]
      rfl
    · rw [if_neg c2]
      rw [e2] at c2
      rw [decide_eq_true (by omega)]
      rfl
  · rw [if_neg c1]
    rw [e1] at c1
    rw [decide_eq_false (by omega)]
    rfl
theorem x_leads {s : SoS} {A : AS} {c : Nat} (hV : VA A) (h : CJ s A c) (yr : Nat) (x y : Int32) : so_leads s yr x y = some (s_leads (aY A) x y) := by
  have hM := hV.2.1.2.1
  rw [so_leads, miss_ok hV h]
  simp only [Option.bind_some, bI_0]
  unfold s_leads
  cases hx : msg (aY A) x with
  | true => rw [if_neg (by decide), Bool.true_or, if_pos rfl]
  | false =>
    rw [if_pos rfl, miss_ok hV h]
    simp only [Option.bind_some, bI_0]
    cases hy : msg (aY A) y with
    | true => rw [if_neg (by decide), Bool.or_true, if_pos rfl]
    | false =>
      rw [if_pos rfl, Bool.or_false, if_neg (show ¬ false = true by decide)]
      unfold msg at hx hy
      rw [decide_eq_false_iff_not] at hx hy
      rcases i_cases x with ⟨k, hk, rfl⟩ | hneg
      · rw [iN_toInt hk] at hx ⊢
        rw [if_neg (iN_nneg hk), zl_5, jlt hk (by omega)]
        by_cases ck : k < 5
        · rw [if_pos ck]
          rcases i_cases y with ⟨j, hj, rfl⟩ | hneg
          · rw [iN_toInt hj] at hy ⊢
            rw [jlt0 hj, iN_nat hk, iN_nat hj]
            by_cases cj : 0 < j
            · rw [if_pos cj, jlt (by omega) hj]
              by_cases cj5 : 5 < j
              · rw [if_pos cj5, if_neg (by omega)]
              · rw [if_neg cj5, if_pos (by omega), reaches_ok hV.2.1 h.2.1.1 (by omega) (by omega)]
                simp only [Option.bind_some, bI_0]
                cases go (aY A) k j with
                | true => rw [if_neg (by decide)]; rfl
                | false => rw [if_pos rfl]; rfl
            · rw [if_neg cj, if_neg (by omega)]
          · rw [if_neg (show ¬ (0 : Int32) < y by rw [Int32.lt_iff_toInt_lt]; show ¬ (0 : Int) < y.toInt; omega), if_neg (by omega)]
        · rw [if_neg ck, if_neg (by omega)]
      · rw [if_pos (neg_lt hneg), if_neg (by omega)]
theorem x_least {s : SoS} {A : AS} {c : Nat} (hV : VA A) (h : CJ s A c) (yr : Nat) (x y : Int32) : ∃ s2, so_least s yr x y = some (s_least (aY A) x y, s2) ∧ CJ s2 A c := by
  rw [so_least, pair_ok]
  simp only [Option.bind_some, bI_0]
  unfold s_least
  cases hp : pr2 x y with
  | none => rw [pr2_none hp, if_pos rfl]; exact ⟨s, rfl, h⟩
  | some p =>
    obtain ⟨n, t, o⟩ := p
    obtain ⟨h1, h5, ht, ho, rfl, rfl, hx, hy, hd⟩ := pr2_some hp
    rw [hd, if_neg (by decide), t_ofN n (by omega) t ht]
    simp only [Option.bind_some]
    rw [t_ofN n (by omega) o ho]
    simp only [Option.bind_some]
    rw [rw_wag, hx]
    simp only [Option.bind_some]
    obtain ⟨s2, a1, a2, a3⟩ := leastY_ok hV.2.1 h h1 h5 ht ho yr
    rw [a1]
    simp only [Option.bind_some]
    exact ⟨s2, rI_if hV.2.1 h1 h5 a3 (pm_len (rel_mem ht ho)) s2, a2⟩
theorem x_ways {s : SoS} {A : AS} {c : Nat} (hV : VA A) (h : CJ s A c) (yr : Nat) (x y : Int32) : ∃ s2, so_ways s yr x y = some (s_ways (aY A) x y, s2) ∧ CJ s2 A c := by
  rw [so_ways, pair_ok]
  simp only [Option.bind_some, bI_0]
  unfold s_ways
  cases hp : pr2 x y with
  | none => rw [pr2_none hp, if_pos rfl]; exact ⟨s, rfl, h⟩
  | some p =>
    obtain ⟨n, t, o⟩ := p
    obtain ⟨h1, h5, ht, ho, rfl, rfl, hx, hy, hd⟩ := pr2_some hp
    obtain ⟨a', y', a1, a2, a3⟩ := fill_ok hV.2.1 h.2.1 h1 h5 s.2.2.2.2.2.2.1
    obtain ⟨_, c2, _⟩ := cell_ok a2.2.2 h1 h5 a3 (rel_mem ht ho)
    have c2' : oc_waysOf y'.2.2.2.2.2.2.2.2 (iN (pk (rel t o))) (iN n) = some (lw (aY A) n (rel t o)) := c2
    rw [hd, if_neg (by decide), rw_wag, hx]
    simp only [Option.bind_some]
    rw [a1]
    simp only [Option.bind_some]
    rw [t_ofN n (by omega) t ht]
    simp only [Option.bind_some]
    rw [t_ofN n (by omega) o ho]
    simp only [Option.bind_some]
    rw [rel_ok ht ho h5]
    simp only [Option.bind_some]
    rw [c2']
    exact ⟨_, rfl, h.1, a2, h.2.2⟩
theorem x_first {s : SoS} {A : AS} {c : Nat} (hc : c ≤ 11000000) (hV : VA A) (h : CJ s A c) (yr : Nat) (x y i : Int32) : ∃ s2 yr2, so_first s yr x y i = some (s_first (aY A) x y i, s2, yr2) ∧ CJ s2 A (c + 1) ∧ (yr2 = yr ∨ yr2 = 3) := by
  rw [so_first, pair_ok]
  simp only [Option.bind_some, bI_0]
  unfold s_first
  cases hp : pr2 x y with
  | none => rw [pr2_none hp, if_pos rfl]; exact ⟨s, yr, rfl, CJ_le h (by omega), Or.inl rfl⟩
  | some p =>
    obtain ⟨n, t, o⟩ := p
    obtain ⟨h1, h5, ht, ho, rfl, rfl, hx, hy, hd⟩ := pr2_some hp
    rw [hd, if_neg (by decide)]
    rcases i_cases i with ⟨k, hk, rfl⟩ | hneg
    · rw [iN_toInt hk, iN_nat hk, if_neg (iN_nneg hk), zl_20, jlt hk (by omega)]
      simp only
      rw [if_pos (show (0 : Int) ≤ (k : Int) by omega)]
      by_cases ck : k < 20
      · rw [if_pos ck, rw_wag, hx]
        simp only [Option.bind_some]
        rw [t_ofN n (by omega) t ht]
        simp only [Option.bind_some]
        rw [t_ofN n (by omega) o ho]
        simp only [Option.bind_some]
        rw [rel_ok ht ho h5]
        simp only [Option.bind_some]
        obtain ⟨e1, T, a1, a2, a3⟩ := aim_ok h.2.2.2.2.2.1 h1 h5 (rel_mem ht ho)
        rw [a1]
        simp only [Option.bind_some]
        obtain ⟨e2, b1, b2, _⟩ := firstRow_ok hV.2.1 h.2.1.1 h.2.1.2.1 h5 (rel_mem ht ho) (show T ≤ 20000000 by omega) ck a2
        rw [b1]
        exact ⟨_, 3, rfl, ⟨h.1, h.2.1, h.2.2.1, h.2.2.2.1, h.2.2.2.2.1, CS_of b2 h1 h5 (rel_mem ht ho) a3, h.2.2.2.2.2.2⟩, Or.inr rfl⟩
      · rw [if_neg ck, frs_none hV.2.1 h5 _ _ (VP_st _ n) (fun q hq => by have := rest_le hV.2.1 h5 (VP_st _ n) hq; omega)]
        exact ⟨s, yr, rfl, CJ_le h (by omega), Or.inl rfl⟩
    · rw [if_pos (neg_lt hneg)]
      simp only
      rw [if_neg (show ¬ 0 ≤ i.toInt by omega)]
      exact ⟨s, yr, rfl, CJ_le h (by omega), Or.inl rfl⟩
