/-! THE CLASS: rules of thumb, what is chosen -/
theorem fin_S {rule : Nat} (hr : rule ≤ 2) {M : Nat} (hM : M ≤ 4) (S : Option Nat × Option Nat × Option Nat) (hl4 : lt4 S M) : (if iN rule = 2 then some (nI6 (oG S).2.1) else if iN rule = 1 then (if nI6 (oG S).2.2 = -6 then some (nI6 (oG S).1) else some (nI6 (oG S).2.2)) else some (nI6 (oG S).1)) = some (nI6 ((fIn rule S).map gE)) := by
  obtain ⟨s1, s2, s3⟩ := S
  have hg5 : ∀ q, q < M → gE q < 5000 := fun q hq => by unfold gE mk4; omega
  have h3 := hl4.2.2
  show (if iN rule = 2 then some (nI6 (s2.map gE)) else if iN rule = 1 then (if nI6 (s3.map gE) = -6 then some (nI6 (s1.map gE)) else some (nI6 (s3.map gE))) else some (nI6 (s1.map gE))) = some (nI6 ((fIn rule (s1, s2, s3)).map gE))
  unfold fIn
  rw [zl_2, zl_1, jeq (by omega) (by omega), jeq (by omega) (by omega)]
  by_cases c2 : rule = 2
  · rw [if_pos c2, if_pos c2]
  · rw [if_neg c2, if_neg c2]
    by_cases c1 : rule = 1
    · rw [if_pos c1, if_pos c1]
      cases s3 with
      | none => rw [if_pos (show nI6 ((none : Option Nat).map gE) = -6 from rfl)]
      | some j => rw [if_neg (show ¬ nI6 ((some j).map gE) = -6 from n66 (hg5 j (h3 j rfl)))]
    · rw [if_neg c1, if_neg c1]
theorem thr_6 (rule : Nat) : (if iN rule = 2 then some (-6 : Int32) else if iN rule = 1 then (if (-6 : Int32) = -6 then some (-6) else some (-6)) else some (-6)) = some (-6) := by
  rw [if_pos (show (-6 : Int32) = -6 from rfl)]
  by_cases c2 : iN rule = 2
  · rw [if_pos c2]
  · rw [if_neg c2]
    by_cases c1 : iN rule = 1
    · rw [if_pos c1]
    · rw [if_neg c1]
theorem from_ok {Y : Yd} (hY : VY Y) {y : YdS} (hB : CB y Y) (hN : CN y (mvs Y)) {t : List Nat} {P : Ps} {p : PlS} (hC : CPl p (NP t P)) {rule : Nat} (hr : rule ≤ 2) : th_fromEntry p y (iN rule) = some (nI6 ((pIn Y t P rule).map gE)) := by
  have hM := hY.2.1
  have h := from_L14 hY hB hN hC (iN rule) (mvs Y).length 0 N0 (none, none, none) (by rw [N0_eq]; have := mvs_len Y; omega) (by omega) ⟨fun q h => (nomatch h), fun q h => (nomatch h), fun q h => (nomatch h)⟩
  rw [List.drop_zero, show nr Y (NP t P) = nr Y P from funext (nr_NP Y t P)] at h
  have h' := Eq.trans (show th_fromEntry_L14 N0 p y (iN rule) (-6) (-6) (-6) 0 = th_fromEntry_L14 N0 p y (iN rule) (nI6 none) (nI6 none) (nI6 none) (iN 0) from rfl) h
  rw [th_fromEntry, h']
  simp only [Option.bind_some]
  unfold pIn
  by_cases hne : P 0 = []
  · have hnil : (mvs Y).filter (nr Y P) = [] := by
      rw [List.filter_eq_nil_iff]
      intro m _ h9
      unfold nr at h9
      rw [Bool.and_eq_true, decide_eq_true_eq] at h9
      have := (can_parts h9.2).1
      rw [h9.1.1] at this
      exact this hne
    rw [hnil, if_pos hne]
    exact thr_6 rule
  · rw [if_neg hne, near_list hY hne]
    have hf := fold_oG (t := t) hne hM (cIn Y P 0) (none, none, none) (fun i hi => (cIn_lt hi).1) lt4_0
    have hf' : ((cIn Y P 0).map gE).foldl (mst (NP t P)) (none, none, none) = oG ((cIn Y P 0).foldl (st3 t P (enW t P)) (none, none, none)) := hf
    rw [hf']
    have hl4 := lt4_fold (t := t) (P := P) (w := enW t P) (cIn Y P 0) (none, none, none) (M := yM Y) lt4_0 (fun i hi => (cIn_lt hi).1)
    exact fin_S hr hM _ hl4
theorem choose_ok {Y : Yd} (hY : VY Y) {y : YdS} (hB : CB y Y) (hN : CN y (mvs Y)) {t : List Nat} {P : Ps} {p : PlS} (hC : CPl p (NP t P)) {rule : Nat} (hr : rule ≤ 2) : th_choose p y (iN rule) = some (nI6 (chs Y t rule P)) := by
  have hM := hY.2.1
  rw [th_choose, wanted_ok hY hN hC]
  simp only [Option.bind_some]
  unfold chs
  cases h1 : (cLet Y t P).head? with
  | some m =>
    have hm : m ∈ cLet Y t P := List.mem_of_head? h1
    have hlt := mvs_lt (List.mem_filter.mp hm).1
    rw [if_neg (n66 hlt), th_choose_J19, if_neg (n66 hlt)]
  | none =>
    rw [if_pos (show nI6 none = -6 from rfl), from_ok hY hB hN hC hr]
    simp only [Option.bind_some]
    rw [th_choose_J19]
    cases h2 : pIn Y t P rule with
    | some i =>
      have hi := (pIn_some h2).2.1
      have h5 : gE i < 5000 := by unfold gE mk4; omega
      rw [if_neg (show ¬ nI6 ((some i).map gE) = -6 from n66 h5)]
      rfl
    | none =>
      rw [if_pos (show nI6 ((none : Option Nat).map gE) = -6 from rfl), onward_ok hY hB hN hC]
      rfl
