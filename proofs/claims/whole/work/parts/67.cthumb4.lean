/-! THE CLASS: rules of thumb, MOVES into SIDINGS -/
def gE (i : Nat) : Nat := mk4 0 0 (i + 1) 0
theorem gE_mt {i : Nat} (h : i < 4) : mf (gE i) = 0 ∧ me (gE i) = 0 ∧ mt (gE i) = i + 1 ∧ mx (gE i) = 0 := mk4_of 0 0 (i + 1) 0 (by omega) (by omega) (by omega)
theorem near_list {Y : Yd} (hY : VY Y) {P : Ps} (hne : P 0 ≠ []) : (mvs Y).filter (nr Y P) = (cIn Y P 0).map gE := by
  have hM := hY.2.1
  apply srt_eq
  · exact (mvs_srt Y).filter _
  · rw [List.pairwise_map]
    have h1 : (cIn Y P 0).Pairwise (· < ·) := by
      unfold cIn
      exact List.Pairwise.filter _ List.pairwise_lt_range'
    refine h1.imp (fun {a b} h => ?_)
    unfold gE mk4
    omega
  · intro x
    rw [List.mem_map, List.mem_filter]
    constructor
    · rintro ⟨h1, h2⟩
      unfold nr at h2
      rw [Bool.and_eq_true, decide_eq_true_eq] at h2
      obtain ⟨⟨c1, c2, c3⟩, hc⟩ := h2
      have hg := gm_parts ((mem_mvs hY x).mp h1)
      have hcp := can_parts hc
      have hme : me x = 0 := by
        have h9 := hg.2.2.2.2.1
        unfold oE at h9
        rw [if_pos c1] at h9
        exact of_decide_eq_true h9
      have hgo := hg.2.2.2.2.2.2
      rw [c1] at hgo
      refine ⟨mt x - 1, ?_, ?_⟩
      · unfold cIn
        rw [List.mem_filter, List.mem_range'_1]
        refine ⟨by omega, ?_⟩
        unfold room
        rw [show mt x - 1 + 1 = mt x by omega, hgo, Bool.and_true]
        exact decide_eq_true (by rcases hcp.2 with h | h
                                 · exact absurd h c2
                                 · exact h)
      · unfold gE
        have := mk4_mk x
        rw [c1, hme, c3] at this
        rw [show mt x - 1 + 1 = mt x by omega]
        exact this
    · rintro ⟨i, hi, rfl⟩
      obtain ⟨h1, h2⟩ := cIn_lt hi
      have hcm := go0_in hY hne h1 h2
      rw [cmv_eq hY.2.1 (by omega) (by omega) (Or.inr ⟨by omega, by omega⟩) (by omega), Bool.and_eq_true] at hcm
      have hmt := gE_mt (i := i) (by omega)
      refine ⟨(mem_mvs hY _).mpr hcm.1, ?_⟩
      unfold nr
      rw [Bool.and_eq_true, decide_eq_true_eq]
      exact ⟨⟨hmt.1, by omega, hmt.2.2.2⟩, hcm.2⟩
def oG (s : Option Nat × Option Nat × Option Nat) : Option Nat × Option Nat × Option Nat := (s.1.map gE, s.2.1.map gE, s.2.2.map gE)
theorem mst_st3 {t : List Nat} {P : Ps} (hne : P 0 ≠ []) {M : Nat} (hM : M ≤ 4) {i : Nat} (hi : i < M) {s : Option Nat × Option Nat × Option Nat} (hs : lt4 s M) : mst (NP t P) (oG s) (gE i) = oG (st3 t P (enW t P) s i) := by
  have hmt := gE_mt (i := i) (by omega)
  obtain ⟨s1, s2, s3⟩ := s
  obtain ⟨a, b, c⟩ := hs
  have e1 : s1f (gE i) (s1.map gE) = (s1f i s1).map gE := by cases s1 <;> rfl
  have e2 : e2f (NP t P) (gE i) (s2.map gE) = (s2f P i s2).map gE := by
    cases s2 with
    | none => rfl
    | some j =>
      have hj := b j rfl
      have hmj := gE_mt (i := j) (by omega)
      show (if (NP t P (mt (gE i))).length < (NP t P (mt (gE j))).length then some (gE i) else some (gE j)) = (if (P (i + 1)).length < (P (j + 1)).length then some i else some j).map gE
      rw [hmt.2.2.1, hmj.2.2.1]
      show (if (nm t (P (i + 1))).length < (nm t (P (j + 1))).length then some (gE i) else some (gE j)) = _
      rw [nm_len, nm_len]
      split <;> rfl
  have hw : wg (NP t P) (gE i) = enW t P := by
    rw [NP_wg (by rw [hmt.1]; exact hne)]
    unfold wg fT enW
    rw [hmt.1]
    rw [hmt.2.1]
    rfl
  have e3 : h3f (NP t P) (gE i) (s3.map gE) = (s3f t P (enW t P) i s3).map gE := by
    cases s3 with
    | some j => rfl
    | none =>
      show (if (NP t P (mt (gE i))).all (fun x => decide (wg (NP t P) (gE i) < x)) = true then some (gE i) else none) = (if hgh t P i (enW t P) = true then some i else none).map gE
      rw [hw, hmt.2.2.1]
      have : (NP t P (i + 1)).all (fun x => decide (enW t P < x)) = hgh t P i (enW t P) := by
        unfold hgh NP nm
        rw [List.all_map]
        rfl
      rw [this]
      split <;> rfl
  show (s1f (gE i) (s1.map gE), e2f (NP t P) (gE i) (s2.map gE), h3f (NP t P) (gE i) (s3.map gE)) = ((s1f i s1).map gE, (s2f P i s2).map gE, (s3f t P (enW t P) i s3).map gE)
  rw [e1, e2, e3]
theorem fold_oG {t : List Nat} {P : Ps} (hne : P 0 ≠ []) {M : Nat} (hM : M ≤ 4) : ∀ (l : List Nat) (s : Option Nat × Option Nat × Option Nat), (∀ i ∈ l, i < M) → lt4 s M → (l.map gE).foldl (mst (NP t P)) (oG s) = oG (l.foldl (st3 t P (enW t P)) s) := by
  intro l
  induction l with
  | nil => intro s _ _; rfl
  | cons i r ih =>
    intro s h hs
    rw [List.map_cons, List.foldl_cons, List.foldl_cons, mst_st3 hne hM (h i List.mem_cons_self) hs]
    exact ih _ (fun j hj => h j (List.mem_cons_of_mem _ hj)) (lt4_st hs (h i List.mem_cons_self))
theorem nr_NP (Y : Yd) (t : List Nat) (P : Ps) (m : Nat) : nr Y (NP t P) m = nr Y P m := by unfold nr; rw [NP_can]
