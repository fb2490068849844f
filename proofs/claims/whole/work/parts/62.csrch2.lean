/-! THE CLASS: REST, NEXT, FIRST out of the search -/
theorem rest_len {Y : Yd} (hY : VY Y) {n : Nat} (hn : n ≤ 5) {W : List Nat} {P : Ps} (hP : VP Y n P) {r : Nat} (h : rest Y n W P = some (r + 1)) : (P 5).length < 5 := by
  rw [rest_eq hY hn hP] at h
  have hle := VP_le hP (show 5 < 6 by omega)
  split at h
  · split at h
    · cases h
    · omega
  · cases h
theorem ec_le {Y : Yd} (hY : VY Y) {n : Nat} (hn : n ≤ 5) {W : List Nat} {P : Ps} (hP : VP Y n P) : ec (rest Y n W P) ≤ 21 := by
  cases h : rest Y n W P with
  | none => exact Nat.zero_le _
  | some r =>
    have := rest_le hY hn hP h
    show r + 1 ≤ 21
    omega
theorem remaining_ok {Y : Yd} (hY : VY Y) {y : YdS} (hB : CB y Y) (hN : CN y (mvs Y)) {n : Nat} (hn : n ≤ 5) {W : List Nat} (hW : W ∈ pm n) {t : Nat} (ht : t ≤ 20000000) : ∀ (D : Nat) (P : Ps) (s : SeS) (x : Nat), VP Y n P → CPl s.2.1 P → SK s Y n W t → x ≤ lv Y P → 22 ≤ D + lv Y P → RC Y n W t P (rest Y n W P) (se_remaining D s y (iN x)) := by
  intro D
  induction D with
  | zero =>
    intro P s x hP _ _ _ hD
    have := lv_le hY hn hP
    omega
  | succ D ih =>
    intro P s x hP hC hS hx hD
    have hlv := lv_le hY hn hP
    have hbd := ix_bd hY hn hP
    have hin : inb (iN (ix (yM Y) n P)) 17046 := by rw [iN_inb (by omega)]; exact hbd.2
    have h5 := VP_d8 hP hn (show 5 < 6 by omega)
    obtain ⟨k1, k2, k3, k4⟩ := id hS
    rw [se_remaining, se_remaining_B, hB.1, index_ok hY hn hP hC]
    simp only [Option.bind_some]
    rw [zl_20, jlt (by omega) (by omega), if_neg (by omega), if_neg (iN_nneg (by omega)), zl_17046, jlt (by omega) (by omega), if_pos hbd.2, astray_ok hn hW k3 hP hC]
    simp only [Option.bind_some]
    have hre := rest_eq (W := W) hY hn hP
    cases hpre : (P 5).isPrefixOf W with
    | false =>
      rw [show (!false) = true from rfl, if_neg bT]
      rw [hpre, if_neg (by decide)] at hre
      rw [hre]
      exact ⟨s, rfl, hC, hS⟩
    | true =>
      rw [show (!true) = false from rfl, if_pos bF, zl_5, countAt_ok hC (by omega)]
      simp only [Option.bind_some]
      rw [k2, jeq (by omega) (by omega)]
      rw [hpre, if_pos rfl] at hre
      by_cases hl : (P 5).length = n
      · rw [if_pos hl] at hre
        rw [if_pos hl, hre]
        exact ⟨s, rfl, hC, hS⟩
      · rw [if_neg hl] at hre
        have hle := VP_le hP (show 5 < 6 by omega)
        obtain ⟨v, v1, v2, v3⟩ := k4 _ hbd.2
        have v3 := v3 P hP rfl
        have e32 : (32 : Int32) * iN t = iN (32 * t) := by rw [zl_32, iN_mul]
        rw [if_neg hl, if_pos hin, rd_iN (by omega), v1, k1, e32]
        by_cases hv : v < 32 * t
        · rw [if_pos (sub_neg hv (by omega))]
          obtain ⟨s', a1, a2, a3⟩ := rem_L87 hY hB hN hn hW (t := t) hP (show (P 5).length < 5 by omega) (rec := se_remaining D) (x := x) (iN (ix (yM Y) n P)) (fun m s1 hm c1 c2 => by
            have h9 := (mem_oks hY).mp hm
            have hup := lv_mv hY h9.1 h9.2
            exact ih (mv P m) s1 (x + 1) (VP_mv hY hP h9.1 h9.2) c1 c2 (by omega) (by omega)) (mvs Y).length 0 N0 s none (by rw [N0_eq]; have := mvs_len Y; omega) (by omega) (fun r h9 => by cases h9) hC hS
          rw [List.drop_zero, ← fold_ft hY hn hW hP, ← hre] at a1
          have a1' : se_remaining_L87 (se_remaining D) N0 s y (iN x) (iN (ix (yM Y) n P)) (-1) 0 = some (s', eI (rest Y n W P)) := a1
          rw [a1']
          simp only [Option.bind_some]
          obtain ⟨q1, q2, q3, q4⟩ := a3
          have e33 : ((32 : Int32) * s'.2.2.1) + eI (rest Y n W P) + 1 = iN (32 * t + ec (rest Y n W P)) := by
            rw [q1, e32]
            cases hr : rest Y n W P with
            | none =>
              show iN (32 * t) + (-1) + 1 = iN (32 * t)
              rw [Int32.add_assoc, show (-1 : Int32) + 1 = iN 0 by decide, iN_add]; rfl
            | some r =>
              show iN (32 * t) + iN r + 1 = iN (32 * t + (r + 1))
              rw [zl_1, iN_add, iN_add, Nat.add_assoc]
          rw [if_pos hin, e33]
          refine ⟨_, rfl, a2, q1, q2, q3, fun i hi => ?_⟩
          show ∃ v, wr s'.1 (iN (ix (yM Y) n P)) (iN (32 * t + ec (rest Y n W P))) i = iN v ∧ _
          rw [wr_iN (by omega)]
          by_cases e : i = ix (yM Y) n P
          · rw [if_pos e]
            have := ec_le (W := W) hY hn hP
            refine ⟨_, rfl, by omega, fun Q hQ hi2 _ => ?_⟩
            have : Q = P := ix_inj hY hQ hP (by rw [hi2, e])
            rw [this]
          · rw [if_neg e]
            exact q4 i hi
        · have hv := v3 (by omega)
          rw [iN_sub (by omega), if_neg (iN_nneg (by omega)), hv, show 32 * t + ec (rest Y n W P) - 32 * t = ec (rest Y n W P) by omega]
          refine ⟨s, ?_, hC, hS⟩
          cases hr : rest Y n W P with
          | none => rfl
          | some r =>
            show some (iN (r + 1) - 1, s) = some (iN r, s)
            rw [zl_1, iN_sub (by omega)]; rfl
theorem best_L16 {Y : Yd} (hY : VY Y) {y : YdS} (hB : CB y Y) (hN : CN y (mvs Y)) {n : Nat} (hn : n ≤ 5) {W : List Nat} (hW : W ∈ pm n) {t : Nat} (ht : t ≤ 20000000) {P : Ps} (hP : VP Y n P) (h5 : (P 5).length < 5) {r : Nat} (hr : r ≤ 20) : ∀ (d k f : Nat) (s : SeS), d < f → k + d = (mvs Y).length → CPl s.2.1 P → SK s Y n W t →
    ∃ s', CPl s'.2.1 P ∧ SK s' Y n W t ∧ se_bestMove_L16 f s y (iN (r + 1)) (iN k) = some (match (((mvs Y).drop k).filter (can Y P)).find? (fun m => decide (rest Y n W (mv P m) = some r)) with
      | some m => .inr (iN m, s')
      | none => .inl s') := by
  have hml := mvs_len Y
  intro d
  induction d with
  | zero =>
    intro k f s hf hk hC hS
    obtain ⟨f, rfl⟩ : ∃ g, f = g + 1 := ⟨f - 1, by omega⟩
    refine ⟨s, hC, hS, ?_⟩
    rw [se_bestMove_L16, hN.1, jlt (by omega) (by omega), if_neg (by omega), List.drop_eq_nil_of_le (by omega)]
    rfl
  | succ d ih =>
    intro k f s hf hk hC hS
    obtain ⟨f, rfl⟩ : ∃ g, f = g + 1 := ⟨f - 1, by omega⟩
    have hkl : k < (mvs Y).length := by omega
    have hmem : (mvs Y).getD k 0 ∈ mvs Y := by
      rw [List.getD_eq_getElem?_getD, List.getElem?_eq_getElem hkl]
      exact List.getElem_mem hkl
    have hdr := drop_cons hkl
    have hmv := moveAt_ok hN (by omega) hkl
    generalize hm : (mvs Y).getD k 0 = m at *
    have hgm := (mem_mvs hY m).mp hmem
    have hfit := fits_ok hY hB hn hW hS.2.2.1 hP hC h5 hgm
    rw [se_bestMove_L16, hN.1, jlt (by omega) (by omega), if_pos hkl, hmv]
    simp only [Option.bind_some]
    rw [hfit]
    simp only [Option.bind_some]
    rw [zl_1, iN_add, hdr, iN_sub (show 1 ≤ r + 1 by omega), Nat.add_sub_cancel]
    cases hc : ft Y W P m with
    | false =>
      rw [if_pos bF]
      have := ih (k + 1) f s (by omega) (by omega) hC hS
      cases hcan : can Y P m with
      | false => rw [List.filter_cons_of_neg (by rw [hcan]; decide)]; exact this
      | true =>
        have hok : m ∈ oks Y P := (mem_oks hY).mpr ⟨hgm, hcan⟩
        rw [List.filter_cons_of_pos hcan, List.find?_cons_of_neg (by rw [ft_rest hY hn hW hP hok hc]; simp)]
        exact this
    | true =>
      rw [if_neg bT]
      have hcan : can Y P m = true := by
        unfold ft at hc
        rw [Bool.and_eq_true] at hc
        exact hc.1
      have hok : m ∈ oks Y P := (mem_oks hY).mpr ⟨hgm, hcan⟩
      have hup := lv_mv hY hgm hcan
      obtain ⟨o1, o2, o3, o4, o5, o6, o7, o8⟩ := okm hY hn hP hok
      obtain ⟨p1, b1, b2⟩ := shift_ok hC o1 o2 o3 o4 o5 o6
      obtain ⟨s1, c1, c2, c3⟩ := remaining_ok hY hB hN hn hW ht 24 (mv P m) (s.1, p1, s.2.2.1, s.2.2.2.1, s.2.2.2.2) 1 o8 b2 (SK_pl hS p1) (by omega) (by omega)
      obtain ⟨p2, d1, d2⟩ := unshift_ok (P := P) c2 o1 o2 o3 o4 o5 o7
      rw [List.filter_cons_of_pos hcan, b1]
      simp only [Option.bind_some]
      rw [c1]
      simp only [Option.bind_some]
      rw [d1]
      simp only [Option.bind_some]
      by_cases e : rest Y n W (mv P m) = some r
      · rw [e, if_pos (show eI (some r) = iN r from rfl), List.find?_cons_of_pos (by rw [decide_eq_true e])]
        exact ⟨_, d2, SK_pl c3 p2, rfl⟩
      · rw [List.find?_cons_of_neg (by rw [decide_eq_false e]; decide), if_neg (fun h9 => ?_)]
        · exact ih (k + 1) f _ (by omega) (by omega) d2 (SK_pl c3 p2)
        · cases hq : rest Y n W (mv P m) with
          | none =>
            rw [hq] at h9
            have h8 : (-1 : Int32) = iN r := h9
            have : ∀ k, k < 21 → ¬ (-1 : Int32) = iN k := by decide
            exact this r (by omega) h8
          | some q =>
            rw [hq] at h9
            have := rest_le hY hn o8 hq
            have h8 : iN q = iN r := h9
            exact e (by rw [hq, iN_inj (by omega) (by omega) h8])
theorem best_ok {Y : Yd} (hY : VY Y) {y : YdS} (hB : CB y Y) (hN : CN y (mvs Y)) {n : Nat} (hn : n ≤ 5) {W : List Nat} (hW : W ∈ pm n) {t : Nat} (ht : t ≤ 20000000) {P : Ps} (hP : VP Y n P) {s : SeS} (hC : CPl s.2.1 P) (hS : SK s Y n W t) : ∃ s', se_bestMove s y = some (nI6 (nxt Y n W P), s') ∧ CPl s'.2.1 P ∧ SK s' Y n W t := by
  obtain ⟨s1, c1, c2, c3⟩ := remaining_ok hY hB hN hn hW ht 24 P s 0 hP hC hS (Nat.zero_le _) (by omega)
  have c1' : se_remaining 24 s y 0 = some (eI (rest Y n W P), s1) := c1
  rw [se_bestMove, c1']
  simp only [Option.bind_some]
  unfold nxt
  cases hr : rest Y n W P with
  | none =>
    rw [if_pos (show eI none < 1 by decide)]
    exact ⟨s1, rfl, c2, c3⟩
  | some q =>
    have hq := rest_le hY hn hP hr
    cases q with
    | zero =>
      rw [if_pos (show eI (some 0) < 1 by decide)]
      exact ⟨s1, rfl, c2, c3⟩
    | succ r =>
      have h5 := rest_len hY hn hP hr
      obtain ⟨s2, d1, d2, d3⟩ := best_L16 hY hB hN hn hW ht hP h5 (r := r) (by omega) (mvs Y).length 0 N0 s1 (by rw [N0_eq]; have := mvs_len Y; omega) (by omega) c2 c3
      rw [List.drop_zero] at d3
      refine ⟨s2, ?_, d1, d2⟩
      rw [if_neg (show ¬ eI (some (r + 1)) < 1 by show ¬ iN (r + 1) < 1; rw [zl_1, iN_lt (by omega) (by omega)]; omega)]
      have d3' : se_bestMove_L16 N0 s1 y (eI (some (r + 1))) 0 = _ := d3
      rw [d3']
      simp only [Option.bind_some]
      show _ = some (nI6 ((oks Y P).find? (fun m => decide (rest Y n W (mv P m) = some r))), s2)
      unfold oks
      cases List.find? (fun m => decide (rest Y n W (mv P m) = some r)) ((mvs Y).filter (can Y P)) with
      | none => rfl
      | some m => rfl
theorem first_L25 {Y : Yd} (hY : VY Y) {y : YdS} (hB : CB y Y) (hN : CN y (mvs Y)) {n : Nat} (hn : n ≤ 5) {W : List Nat} (hW : W ∈ pm n) {t : Nat} (ht : t ≤ 20000000) {i : Nat} (hi : i < 20) : ∀ (d k f : Nat) (s : SeS) (P : Ps), d < f → k + d = i → VP Y n P → CPl s.2.1 P → SK s Y n W t → ∃ s', se_firstRow_L25 f s y (iN i) (nI6 (nxt Y n W P)) (iN k) = some (s', nI6 (frs Y n W d P)) ∧ SK s' Y n W t ∧ ∃ Q, CPl s'.2.1 Q := by
  intro d
  induction d with
  | zero =>
    intro k f s P hf hk hP hC hS
    obtain ⟨f, rfl⟩ : ∃ g, f = g + 1 := ⟨f - 1, by omega⟩
    refine ⟨s, ?_, hS, P, hC⟩
    rw [se_firstRow_L25, jlt (by omega) (by omega), if_neg (by omega)]
    rfl
  | succ d ih =>
    intro k f s P hf hk hP hC hS
    obtain ⟨f, rfl⟩ : ∃ g, f = g + 1 := ⟨f - 1, by omega⟩
    rw [se_firstRow_L25, jlt (by omega) (by omega), if_pos (by omega), zl_20, jlt (by omega) (by omega), if_pos (by omega), frs]
    cases hx : nxt Y n W P with
    | none =>
      rw [if_pos (show nI6 none = -6 from rfl)]
      exact ⟨s, rfl, hS, P, hC⟩
    | some m =>
      have hok : m ∈ oks Y P := by
        unfold nxt at hx
        cases hr : rest Y n W P with
        | none => rw [hr] at hx; cases hx
        | some q =>
          cases q with
          | zero => rw [hr] at hx; cases hx
          | succ r =>
            rw [hr] at hx
            exact List.mem_of_find?_eq_some hx
      obtain ⟨o1, o2, o3, o4, o5, o6, o7, o8⟩ := okm hY hn hP hok
      obtain ⟨p1, b1, b2⟩ := shift_ok hC o1 o2 o3 o4 o5 o6
      have hne : ¬ nI6 (some m) = -6 := by
        intro h9
        have h8 : iN m = -6 := h9
        have := iN_nneg (a := m) (by omega)
        rw [h8] at this
        exact this (by decide)
      obtain ⟨s1, c1, c2, c3⟩ := best_ok hY hB hN hn hW ht o8 (s := (s.1, p1, s.2.2.1, s.2.2.2.1, s.2.2.2.2)) b2 (SK_pl hS p1)
      obtain ⟨s2, d1, d2, d3⟩ := ih (k + 1) f s1 (mv P m) (by omega) (by omega) o8 c2 c3
      refine ⟨s2, ?_, d2, d3⟩
      have b1' : pl_shift s.2.1 (nI6 (some m)) = some p1 := b1
      rw [if_neg hne, b1']
      simp only [Option.bind_some]
      rw [c1]
      simp only [Option.bind_some]
      rw [zl_1, iN_add]
      exact d1
theorem firstRow_ok {Y : Yd} (hY : VY Y) {y : YdS} (hB : CB y Y) (hN : CN y (mvs Y)) {n : Nat} (hn : n ≤ 5) {W : List Nat} (hW : W ∈ pm n) {t : Nat} (ht : t ≤ 20000000) {i : Nat} (hi : i < 20) {s : SeS} (hS : SK s Y n W t) : ∃ s', se_firstRow s y (iN i) = some (nI6 (frs Y n W i (st n)), s') ∧ SK s' Y n W t ∧ ∃ Q, CPl s'.2.1 Q := by
  obtain ⟨p1, b1, b2⟩ := beginUp_ok s.2.1 hn
  obtain ⟨s1, c1, c2, c3⟩ := best_ok hY hB hN hn hW ht (VP_st Y n) (s := (s.1, p1, s.2.2.1, s.2.2.2.1, s.2.2.2.2)) b2 (SK_pl hS p1)
  obtain ⟨s2, d1, d2, d3⟩ := first_L25 hY hB hN hn hW ht hi i 0 N0 s1 (st n) (by rw [N0_eq]; omega) (by omega) (VP_st Y n) c2 c3
  refine ⟨s2, ?_, d2, d3⟩
  rw [se_firstRow, hS.2.1, t_up n (by omega)]
  simp only [Option.bind_some]
  rw [b1]
  simp only [Option.bind_some]
  rw [hS.2.1] at c1
  rw [c1]
  simp only [Option.bind_some]
  have d1' : se_firstRow_L25 N0 s1 y (iN i) (nI6 (nxt Y n W (st n))) 0 = some (s2, nI6 (frs Y n W i (st n))) := d1
  rw [d1']
  rfl
/-- the search between calls -/
def CS (s : SeS) (Y : Yd) (c : Nat) : Prop := ∃ t, t ≤ c ∧ s.2.2.1 = iN t ∧ (∀ i, i < 17046 → ∃ v, s.1 i = iN v ∧ v < 32 * (t + 1)) ∧ ((s.2.2.2.1 = 0) ∨ ∃ n W, 1 ≤ n ∧ n ≤ 5 ∧ W ∈ pm n ∧ SK s Y n W t)
theorem CS_of {s : SeS} {Y : Yd} {n : Nat} {W : List Nat} {t c : Nat} (h : SK s Y n W t) (h1 : 1 ≤ n) (hn : n ≤ 5) (hW : W ∈ pm n) (ht : t ≤ c) : CS s Y c := by
  refine ⟨t, ht, h.1, fun i hi => ?_, Or.inr ⟨n, W, h1, hn, hW, h⟩⟩
  obtain ⟨v, a, b, _⟩ := h.2.2.2 i hi
  exact ⟨v, a, b⟩
theorem forgetS_ok {s : SeS} {Y Y' : Yd} {c : Nat} (h : CS s Y c) : ∃ s', se_forget s = some s' ∧ CS s' Y' c := by
  obtain ⟨t, a, b, d, _⟩ := h
  exact ⟨_, rfl, t, a, b, d, Or.inl rfl⟩
theorem aim_ok {s : SeS} {Y : Yd} {c : Nat} (h : CS s Y c) {n : Nat} (h1 : 1 ≤ n) (hn : n ≤ 5) {W : List Nat} (hW : W ∈ pm n) : ∃ s' t, se_aim s (iN n) (iN (pk W)) = some s' ∧ SK s' Y n W t ∧ t ≤ c + 1 := by
  obtain ⟨t, a, b, d, e⟩ := h
  have hWd := pm_d8 hn hW
  have hb := pk_b hWd.1 hWd.2
  have hnew : SK (s.1, s.2.1, (s.2.2.1 + 1), iN n, iN (pk W)) Y n W (t + 1) := by
    refine ⟨by show s.2.2.1 + 1 = _; rw [b, zl_1, iN_add], rfl, rfl, fun i hi => ?_⟩
    obtain ⟨v, v1, v2⟩ := d i hi
    exact ⟨v, v1, by omega, fun P _ _ h9 => absurd h9 (by omega)⟩
  rw [se_aim, se_aim_J16]
  by_cases c1 : iN n = s.2.2.2.1
  · rw [if_pos c1]
    by_cases c2 : iN (pk W) = s.2.2.2.2
    · rw [if_pos c2]
      refine ⟨_, t, rfl, ?_, by omega⟩
      rcases e with e | ⟨k, V, k1, k5, hV, hk⟩
      · rw [e] at c1
        have := iN_inj (b := 0) (by omega) (by omega) c1
        omega
      · have hVd := pm_d8 k5 hV
        have hb2 := pk_b hVd.1 hVd.2
        rw [hk.2.1] at c1
        rw [hk.2.2.1] at c2
        have e1 : n = k := iN_inj (by omega) (by omega) c1
        have e2 : pk W = pk V := iN_inj (by omega) (by omega) c2
        have e3 : W = V := pk_inj W V (fun x hx => ⟨((pm_mem hW).mp hx).1, hWd.1 x hx⟩) (fun x hx => ⟨((pm_mem hV).mp hx).1, hVd.1 x hx⟩) e2
        rw [e1, e3]
        exact ⟨hk.1, rfl, rfl, hk.2.2.2⟩
    · rw [if_neg c2]
      exact ⟨_, t + 1, rfl, hnew, by omega⟩
  · rw [if_neg c1]
    exact ⟨_, t + 1, rfl, hnew, by omega⟩
theorem restFrom_ok {Y : Yd} (hY : VY Y) {y : YdS} (hB : CB y Y) (hN : CN y (mvs Y)) {n : Nat} (hn : n ≤ 5) {W : List Nat} (hW : W ∈ pm n) {t : Nat} (ht : t ≤ 20000000) {P : Ps} (hP : VP Y n P) {f : PlS} (hC : CPl f P) {s : SeS} (hS : SK s Y n W t) : ∃ s', se_restFrom s y f = some (eI (rest Y n W P), s') ∧ SK s' Y n W t := by
  obtain ⟨p1, b1, b2⟩ := copyPl_ok hC s.2.1
  obtain ⟨s1, c1, c2, c3⟩ := remaining_ok hY hB hN hn hW ht 24 P (s.1, p1, s.2.2.1, s.2.2.2.1, s.2.2.2.2) 0 hP b2 (SK_pl hS p1) (Nat.zero_le _) (by omega)
  refine ⟨s1, ?_, c3⟩
  rw [se_restFrom, b1]
  simp only [Option.bind_some]
  have c1' : se_remaining 24 (s.1, p1, s.2.2.1, s.2.2.2.1, s.2.2.2.2) y 0 = some (eI (rest Y n W P), s1) := c1
  rw [c1']
  rfl
theorem nextFrom_ok {Y : Yd} (hY : VY Y) {y : YdS} (hB : CB y Y) (hN : CN y (mvs Y)) {n : Nat} (hn : n ≤ 5) {W : List Nat} (hW : W ∈ pm n) {t : Nat} (ht : t ≤ 20000000) {P : Ps} (hP : VP Y n P) {f : PlS} (hC : CPl f P) {s : SeS} (hS : SK s Y n W t) : ∃ s', se_nextFrom s y f = some (nI6 (nxt Y n W P), s') ∧ SK s' Y n W t := by
  obtain ⟨p1, b1, b2⟩ := copyPl_ok hC s.2.1
  obtain ⟨s1, c1, c2, c3⟩ := best_ok hY hB hN hn hW ht hP (s := (s.1, p1, s.2.2.1, s.2.2.2.1, s.2.2.2.2)) b2 (SK_pl hS p1)
  refine ⟨s1, ?_, c3⟩
  rw [se_nextFrom, b1]
  simp only [Option.bind_some]
  rw [c1]
  rfl
theorem comesOut_ok {Y : Yd} (hY : VY Y) {y : YdS} (hB : CB y Y) (hN : CN y (mvs Y)) {n : Nat} (hn : n ≤ 5) {W : List Nat} (hW : W ∈ pm n) {t : Nat} (ht : t ≤ 20000000) {s : SeS} (hS : SK s Y n W t) : ∃ s', se_comesOut s y = some (bI (decide (rest Y n W (st n) ≠ none)), s') ∧ SK s' Y n W t := by
  obtain ⟨p1, b1, b2⟩ := beginUp_ok s.2.1 hn
  obtain ⟨s1, c1, c2, c3⟩ := remaining_ok hY hB hN hn hW ht 24 (st n) (s.1, p1, s.2.2.1, s.2.2.2.1, s.2.2.2.2) 0 (VP_st Y n) b2 (SK_pl hS p1) (Nat.zero_le _) (by omega)
  refine ⟨s1, ?_, c3⟩
  rw [se_comesOut, hS.2.1, t_up n (by omega)]
  simp only [Option.bind_some]
  rw [b1]
  simp only [Option.bind_some]
  have c1' : se_remaining 24 (s.1, p1, s.2.2.1, s.2.2.2.1, s.2.2.2.2) y 0 = some (eI (rest Y n W (st n)), s1) := c1
  rw [hS.2.1] at c1'
  rw [c1']
  simp only [Option.bind_some]
  cases hr : rest Y n W (st n) with
  | none => rw [if_pos (show eI none < 0 by decide)]; rfl
  | some r =>
    have := rest_le hY hn (VP_st Y n) hr
    rw [if_neg (show ¬ eI (some r) < 0 from iN_nneg (by omega))]; rfl
