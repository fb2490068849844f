/-! THE CLASS: rules of thumb to their end -/
theorem nm_up (t : List Nat) : nm t (List.range' 1 t.length) = t := by
  show (List.range' 1 t.length).map (fun p => t.getD (p - 1) 0) = t
  apply List.ext_getElem
  · rw [List.length_map, List.length_range']
  · intro i h1 h2
    rw [List.getElem_map, List.getElem_range', show 1 + 1 * i - 1 = i by omega, List.getD_eq_getElem?_getD, List.getElem?_eq_getElem h2]
    rfl
theorem NP_st {n : Nat} {t : List Nat} (ht : t ∈ pm n) : NP t (st n) = fun q => if q = 0 then t else [] := by
  funext q
  unfold NP st
  by_cases h : q = 0
  · rw [if_pos h, if_pos h]
    have := nm_up t
    rw [pm_len ht] at this
    exact this
  · rw [if_neg h, if_neg h]
    rfl
theorem out_L21 {Y : Yd} (hY : VY Y) {y : YdS} (hB : CB y Y) (hN : CN y (mvs Y)) {n : Nat} (hn : n ≤ 5) {t : List Nat} {rule : Nat} (hr : rule ≤ 2) : ∀ (d k f : Nat) (p : PlS) (P : Ps), d < f → k + d = 20 → k ≤ lv Y P → VP Y n P → CPl p (NP t P) → ∃ p', th_outInOrder_L21 f p y (iN rule) (nI6 (chs Y t rule P)) (iN k) = some p' ∧ CPl p' (NP t (thF Y t rule (d + 1) P)) := by
  intro d
  induction d with
  | zero =>
    intro k f p P hf hk hlv hv hC
    obtain ⟨f, rfl⟩ : ∃ g, f = g + 1 := ⟨f - 1, by omega⟩
    have hnone : chs Y t rule P = none := by
      cases hc : chs Y t rule P with
      | none => rfl
      | some m =>
        obtain ⟨h1, h2⟩ := chs_ok hY hc
        have h3 := lv_mv hY h1 h2
        have h4 := lv_le hY hn (VP_mv hY hv h1 h2)
        omega
    refine ⟨p, ?_, ?_⟩
    · rw [th_outInOrder_L21, zl_20, jlt (by omega) (by omega), if_neg (by omega)]
    · rw [thF, hnone]; exact hC
  | succ d ih =>
    intro k f p P hf hk hlv hv hC
    obtain ⟨f, rfl⟩ : ∃ g, f = g + 1 := ⟨f - 1, by omega⟩
    cases hc : chs Y t rule P with
    | none =>
      refine ⟨p, ?_, ?_⟩
      · rw [th_outInOrder_L21, zl_20, jlt (by omega) (by omega), if_pos (by omega), if_pos (show nI6 none = -6 from rfl)]
      · rw [thF, hc]; exact hC
    | some m =>
      obtain ⟨h1, h2⟩ := chs_ok hY hc
      have hm : m ∈ oks Y P := (mem_oks hY).mpr ⟨h1, h2⟩
      obtain ⟨k1, k2, k3, k4, k5, k6, k7, k8⟩ := okm hY hn hv hm
      have hlv2 := lv_mv hY h1 h2
      obtain ⟨p1, a1, a2⟩ := shift_ok hC k1 k2 k3 k4 (show NP t P (mf m) ≠ [] from fun h9 => k5 (nm_nil.mp h9)) (show (NP t P (mt m)).length < 5 by show (nm t (P (mt m))).length < 5; rw [nm_len]; exact k6)
      rw [NP_mv k5] at a2
      obtain ⟨p2, b1, b2⟩ := ih (k + 1) f p1 (mv P m) (by omega) (by omega) (by omega) k8 a2
      refine ⟨p2, ?_, ?_⟩
      · rw [th_outInOrder_L21, zl_20, jlt (by omega) (by omega), if_pos (by omega), if_neg (n66 k1), show nI6 (some m) = iN m from rfl, a1]
        simp only [Option.bind_some]
        rw [choose_ok hY hB hN a2 hr]
        simp only [Option.bind_some]
        rw [zl_1, iN_add]
        exact b1
      · rw [thF, hc]; exact b2
theorem out_ok {Y : Yd} (hY : VY Y) {y : YdS} (hB : CB y Y) (hN : CN y (mvs Y)) {n : Nat} (hn : n ≤ 5) {t : List Nat} (ht : t ∈ pm n) {rule : Nat} (hr : rule ≤ 2) (p : PlS) : ∃ p', th_outInOrder p y (iN (pk t)) (iN n) (iN rule) = some (iN (thR Y n t rule), p') := by
  have hl := pm_len ht
  have hd : ∀ d ∈ t, 1 ≤ d ∧ d < 8 := fun d hd => by have := (pm_mem ht).mp hd; omega
  obtain ⟨p0, a1, a2⟩ := begin_ok p (l := t) (by omega) hd
  rw [hl] at a1
  have hC : CPl p0 (NP t (st n)) := by rw [NP_st ht]; exact a2
  obtain ⟨p1, b1, b2⟩ := out_L21 hY hB hN hn hr 20 0 N0 p0 (st n) (by rw [N0_eq]; omega) (by omega) (Nat.zero_le _) (VP_st Y n) hC
  refine ⟨p1, ?_⟩
  rw [th_outInOrder, a1]
  simp only [Option.bind_some]
  rw [choose_ok hY hB hN hC hr]
  simp only [Option.bind_some]
  have b1' : th_outInOrder_L21 N0 p0 y (iN rule) (nI6 (chs Y t rule (st n))) 0 = some p1 := b1
  rw [b1']
  simp only [Option.bind_some]
  rw [zl_5, countAt_ok b2 (by omega)]
  simp only [Option.bind_some]
  show some (iN (nm t (thF Y t rule (20 + 1) (st n) 5)).length, p1) = _
  rw [nm_len]
  rfl
