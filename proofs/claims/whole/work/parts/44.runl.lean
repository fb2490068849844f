/-! THE REFERENCE: keep, unlike, orders, stand -/
theorem forget_L2 : ∀ (d k f : Nat) (σ : MS), d < f → k + d = 6 → ∃ τ, m_forget_L2 f σ (iN k) = some τ ∧ FR [] [20] [] σ τ ∧ ∀ j, av τ 20 j = if k ≤ j ∧ j < 6 then iN 0 else av σ 20 j := by
  intro d
  induction d with
  | zero =>
    intro k f σ hf hk
    obtain ⟨f, rfl⟩ : ∃ g, f = g + 1 := ⟨f - 1, by omega⟩
    refine ⟨σ, ?_, FR_rf, fun j => by rw [if_neg (by omega)]⟩
    rw [m_forget_L2, zl_5, jlt (by omega) (by omega), if_pos (by omega)]
  | succ d ih =>
    intro k f σ hf hk
    obtain ⟨f, rfl⟩ : ∃ g, f = g + 1 := ⟨f - 1, by omega⟩
    obtain ⟨τ, h1, h2, h3⟩ := ih (k + 1) f (sA σ 20 (iN k) (narZ 0)) (by omega) (by omega)
    refine ⟨τ, ?_, FR_tr (FR_sA (by decide)) h2, fun j => ?_⟩
    · rw [m_forget_L2, zl_5, jlt (by omega) (by omega), if_neg (by omega), if_pos (by rw [iN_inb (by omega)]; omega), zl_1, iN_add]
      exact h1
    · rw [h3, av_sA (by omega), if_pos rfl]
      by_cases c : j = k
      · rw [if_neg (by omega), if_pos c, if_pos (by omega)]; rfl
      · rw [if_neg c]
        by_cases c2 : k + 1 ≤ j ∧ j < 6
        · rw [if_pos c2, if_pos (by omega)]
        · rw [if_neg c2, if_neg (by omega)]
theorem forget_ok (σ : MS) : ∃ τ, m_forget σ = some τ ∧ FR [] [20] [] σ τ ∧ ∀ j, j < 6 → av τ 20 j = iN 0 := by
  obtain ⟨τ, h1, h2, h3⟩ := forget_L2 6 0 N0 σ (by rw [N0_eq]; omega) (by omega)
  refine ⟨τ, ?_, h2, fun j hj => by rw [h3, if_pos (by omega)]⟩
  rw [z00] at h1
  rw [m_forget, h1]
  rfl
theorem FA_0 {σ : MS} {Y : Yd} (h : ∀ j, j < 6 → av σ 20 j = iN 0) : FA σ Y := fun n _ b => Or.inl (h n (by omega))
theorem keep_L2 : ∀ (d k f : Nat) (σ : MS), d < f → k + d = 4 → ∃ τ, m_keep_L2 f σ (iN k) = some τ ∧ FR [] [5, 6, 7] [] σ τ ∧ ∀ j, (av τ 5 j = if k ≤ j ∧ j < 4 then av σ 1 j else av σ 5 j) ∧ (av τ 6 j = if k ≤ j ∧ j < 4 then av σ 2 j else av σ 6 j) ∧ (av τ 7 j = if k ≤ j ∧ j < 4 then av σ 3 j else av σ 7 j) := by
  intro d
  induction d with
  | zero =>
    intro k f σ hf hk
    obtain ⟨f, rfl⟩ : ∃ g, f = g + 1 := ⟨f - 1, by omega⟩
    refine ⟨σ, ?_, FR_rf, fun j => by rw [if_neg (by omega), if_neg (by omega), if_neg (by omega)]; exact ⟨rfl, rfl, rfl⟩⟩
    rw [m_keep_L2, zl_4, jlt (by omega) (by omega), if_neg (by omega)]
  | succ d ih =>
    intro k f σ hf hk
    obtain ⟨f, rfl⟩ : ∃ g, f = g + 1 := ⟨f - 1, by omega⟩
    have hin : inb (iN k) 4 := by rw [iN_inb (by omega)]; omega
    obtain ⟨τ, h1, h2, h3⟩ := ih (k + 1) f (sA (sA (sA σ 5 (iN k) (av σ 1 k)) 6 (iN k) (av σ 2 k)) 7 (iN k) (av σ 3 k)) (by omega) (by omega)
    refine ⟨τ, ?_, FR_tr (FR_tr (FR_sA (by decide)) (FR_tr (FR_sA (by decide)) (FR_sA (by decide)))) h2, fun j => ?_⟩
    · rw [m_keep_L2, zl_4, jlt (by omega) (by omega), if_pos (by omega), if_pos ⟨hin, hin, hin, hin, hin, hin⟩, zl_1, iN_add]
      simp (disch := omega) only [gA_av]
      exact h1
    · obtain ⟨a, b, c⟩ := h3 j
      rw [a, b, c]
      simp (disch := omega) only [gA_av, gL_wv, gI_sI, gI_sA, gI_sL, av_sA, av_sI, av_sL, wv_sL, wv_sI, wv_sA, Nat.reduceEqDiff, if_true, if_false]
      by_cases e : j = k
      · subst e
        simp only [if_neg (show ¬ (j + 1 ≤ j ∧ j < 4) by omega), if_pos (show j ≤ j ∧ j < 4 by omega), eq_self, if_true, and_self]
      · rw [if_neg e, if_neg e, if_neg e]
        by_cases c2 : k + 1 ≤ j ∧ j < 4
        · rw [if_pos c2, if_pos c2, if_pos c2, if_pos (by omega), if_pos (by omega), if_pos (by omega)]; exact ⟨rfl, rfl, rfl⟩
        · rw [if_neg c2, if_neg c2, if_neg c2, if_neg (by omega), if_neg (by omega), if_neg (by omega)]; exact ⟨rfl, rfl, rfl⟩
theorem keep_L51 : ∀ (d k f : Nat) (σ : MS), d < f → k + d = 3 → ∃ τ, m_keep_L51 f σ (iN k) = some τ ∧ FR [] [8] [] σ τ ∧ ∀ j, av τ 8 j = if k ≤ j ∧ j < 3 then av σ 4 j else av σ 8 j := by
  intro d
  induction d with
  | zero =>
    intro k f σ hf hk
    obtain ⟨f, rfl⟩ : ∃ g, f = g + 1 := ⟨f - 1, by omega⟩
    refine ⟨σ, ?_, FR_rf, fun j => by rw [if_neg (by omega)]⟩
    rw [m_keep_L51, zl_3, jlt (by omega) (by omega), if_neg (by omega)]
  | succ d ih =>
    intro k f σ hf hk
    obtain ⟨f, rfl⟩ : ∃ g, f = g + 1 := ⟨f - 1, by omega⟩
    have hin : inb (iN k) 3 := by rw [iN_inb (by omega)]; omega
    obtain ⟨τ, h1, h2, h3⟩ := ih (k + 1) f (sA σ 8 (iN k) (av σ 4 k)) (by omega) (by omega)
    refine ⟨τ, ?_, FR_tr (FR_sA (by decide)) h2, fun j => ?_⟩
    · rw [m_keep_L51, zl_3, jlt (by omega) (by omega), if_pos (by omega), if_pos ⟨hin, hin⟩, zl_1, iN_add]
      simp (disch := omega) only [gA_av]
      exact h1
    · rw [h3]
      simp (disch := omega) only [gA_av, gL_wv, gI_sI, gI_sA, gI_sL, av_sA, av_sI, av_sL, wv_sL, wv_sI, wv_sA, Nat.reduceEqDiff, if_true, if_false]
      by_cases e : j = k
      · rw [if_neg (by omega), if_pos e, if_pos (by omega), e]
      · rw [if_neg e]
        by_cases c2 : k + 1 ≤ j ∧ j < 3
        · rw [if_pos c2, if_pos (by omega)]
        · rw [if_neg c2, if_neg (by omega)]
def wO (A : AS) (O : Yd) : AS := (A.1, A.2.1, O, A.2.2.2)
theorem r_keep {σ : MS} {A : AS} {c : Nat} (h : RI σ A c) : ∃ τ, m_keep σ = some (iN (yM (aY A)), τ) ∧ RI τ (wO A (aY A)) c := by
  obtain ⟨v, y1, y2, y3, y4⟩ := h.2.1
  obtain ⟨τ1, a1, a2, a3⟩ := keep_L2 4 0 N0 σ (by rw [N0_eq]; omega) (by omega)
  obtain ⟨τ2, b1, b2, b3⟩ := keep_L51 3 0 N0 τ1 (by rw [N0_eq]; omega) (by omega)
  have f12 : FR [] [5, 6, 7, 8] [] σ τ2 := FR_tr (FR_mo a2 rfl rfl rfl) (FR_mo b2 rfl rfl rfl)
  have f3 : FR [10, 11] [] [] τ2 (sI (sI τ2 10 (iN (yM (aY A)))) 11 (iN (yT (aY A)))) := FR_tr (FR_sI (by decide)) (FR_sI (by decide))
  have e4 : gI τ2 4 = iN (yM (aY A)) := by rw [f12.1 4 (by decide), y1]
  have e5 : gI τ2 5 = iN (yT (aY A)) := by rw [f12.1 5 (by decide), y2]
  have fa : FR [10, 11] [5, 6, 7, 8] [] σ (sI (sI τ2 10 (iN (yM (aY A)))) 11 (iN (yT (aY A)))) := FR_tr (FR_mo f12 rfl rfl rfl) (FR_mo f3 rfl rfl rfl)
  refine ⟨sI (sI τ2 10 (iN (yM (aY A)))) 11 (iN (yT (aY A))), ?_, ⟨h.1.1, h.1.2.1, h.1.2.1, h.1.2.2.2.1, h.1.2.2.2.2⟩, YR_fr h.2.1 fa rfl, ⟨rfl, rfl, fun i hi => ?_, fun k hk => ?_⟩, ⟨by rw [fa.1 13 (by decide)]; exact h.2.2.2.1.1, fun k hk => by rw [fa.2.1 9 (by decide)]; exact h.2.2.2.1.2 k hk⟩, ?_, ?_, FA_fr h.2.2.2.2.2.2.1 fa rfl, MKb_fr h.2.2.2.2.2.2.2 fa rfl⟩
  · rw [z00] at a1 b1
    rw [m_keep, a1]
    simp only [Option.bind_some]
    rw [b1]
    simp only [Option.bind_some]
    rw [e4, e5]
  · have hi : i < yM (aY A) := hi
    have := y3 i hi
    have hi4 : i < 4 := by have := v.2.1; omega
    rw [f3.2.1 5 (by decide), f3.2.1 6 (by decide), f3.2.1 7 (by decide), b2.2.1 5 (by decide), b2.2.1 6 (by decide), b2.2.1 7 (by decide), (a3 i).1, (a3 i).2.1, (a3 i).2.2, if_pos (by omega), if_pos (by omega), if_pos (by omega)]
    exact this
  · have hk3 : k < 3 := by
      have := v.2.2.2.1
      have hk : k < yT (aY A) := hk
      omega
    rw [f3.2.1 8 (by decide), b3, if_pos (by omega), a2.2.1 4 (by decide)]
    exact y4 k hk
  · obtain ⟨g1, g2⟩ := h.2.2.2.2.1
    refine ⟨by rw [fa.1 37 (by decide)]; exact g1, fun h1 => ?_⟩
    obtain ⟨p, q, r, t⟩ := g2 h1
    exact ⟨by rw [fa.1 35 (by decide)]; exact p, by rw [fa.1 36 (by decide)]; exact q, by rw [fa.1 39 (by decide)]; exact r, fun k hk => by rw [fa.2.1 27 (by decide)]; exact t k hk⟩
  · intro i hi
    obtain ⟨p, q⟩ := h.2.2.2.2.2.1 i hi
    exact ⟨by rw [fa.2.1 29 (by decide)]; exact p, fun im him => KR_eq (q im him) (fa.2.1 28 (by decide))⟩
theorem change_L2 : ∀ (d k f : Nat) (σ : MS), d < f → k + d = 4 → ∃ τ, m_changeAbout_L2 f σ (iN k) = some τ ∧ FR [] [1, 2, 3, 5, 6, 7] [] σ τ ∧ ∀ j, (av τ 1 j = if k ≤ j ∧ j < 4 then av σ 5 j else av σ 1 j) ∧ (av τ 2 j = if k ≤ j ∧ j < 4 then av σ 6 j else av σ 2 j) ∧ (av τ 3 j = if k ≤ j ∧ j < 4 then av σ 7 j else av σ 3 j) ∧ (av τ 5 j = if k ≤ j ∧ j < 4 then av σ 1 j else av σ 5 j) ∧ (av τ 6 j = if k ≤ j ∧ j < 4 then av σ 2 j else av σ 6 j) ∧ (av τ 7 j = if k ≤ j ∧ j < 4 then av σ 3 j else av σ 7 j) := by
  intro d
  induction d with
  | zero =>
    intro k f σ hf hk
    obtain ⟨f, rfl⟩ : ∃ g, f = g + 1 := ⟨f - 1, by omega⟩
    refine ⟨σ, ?_, FR_rf, fun j => by simp only [if_neg (show ¬ (k ≤ j ∧ j < 4) by omega), and_self]⟩
    rw [m_changeAbout_L2, zl_4, jlt (by omega) (by omega), if_neg (by omega)]
  | succ d ih =>
    intro k f σ hf hk
    obtain ⟨f, rfl⟩ : ∃ g, f = g + 1 := ⟨f - 1, by omega⟩
    have hin : inb (iN k) 4 := by rw [iN_inb (by omega)]; omega
    obtain ⟨τ, h1, h2, h3⟩ := ih (k + 1) f (sA (sA (sA (sA (sA (sA σ 1 (iN k) (av σ 5 k)) 5 (iN k) (av σ 1 k)) 2 (iN k) (av σ 6 k)) 6 (iN k) (av σ 2 k)) 3 (iN k) (av σ 7 k)) 7 (iN k) (av σ 3 k)) (by omega) (by omega)
    refine ⟨τ, ?_, FR_tr (FR_tr (FR_sA (by decide)) (FR_tr (FR_sA (by decide)) (FR_tr (FR_sA (by decide)) (FR_tr (FR_sA (by decide)) (FR_tr (FR_sA (by decide)) (FR_sA (by decide))))))) h2, fun j => ?_⟩
    · rw [m_changeAbout_L2, zl_4, jlt (by omega) (by omega), if_pos (by omega), if_pos ⟨hin, hin, hin, hin, hin, hin, hin, hin, hin, hin, hin, hin⟩, zl_1, iN_add]
      simp (disch := omega) only [gA_av]
      exact h1
    · obtain ⟨a1, a2, a3, a4, a5, a6⟩ := h3 j
      rw [a1, a2, a3, a4, a5, a6]
      simp (disch := omega) only [gA_av, gL_wv, gI_sI, gI_sA, gI_sL, av_sA, av_sI, av_sL, wv_sL, wv_sI, wv_sA, Nat.reduceEqDiff, if_true, if_false]
      by_cases e : j = k
      · subst e
        simp only [if_neg (show ¬ (j + 1 ≤ j ∧ j < 4) by omega), if_pos (show j ≤ j ∧ j < 4 by omega), eq_self, if_true, and_self]
      · by_cases c2 : k + 1 ≤ j ∧ j < 4
        · simp only [if_pos c2, if_neg e, if_pos (show k ≤ j ∧ j < 4 by omega), and_self]
        · simp only [if_neg c2, if_neg e, if_neg (show ¬ (k ≤ j ∧ j < 4) by omega), and_self]
theorem change_L93 : ∀ (d k f : Nat) (σ : MS), d < f → k + d = 3 → ∃ τ, m_changeAbout_L93 f σ (iN k) = some τ ∧ FR [] [4, 8] [] σ τ ∧ ∀ j, (av τ 4 j = if k ≤ j ∧ j < 3 then av σ 8 j else av σ 4 j) ∧ (av τ 8 j = if k ≤ j ∧ j < 3 then av σ 4 j else av σ 8 j) := by
  intro d
  induction d with
  | zero =>
    intro k f σ hf hk
    obtain ⟨f, rfl⟩ : ∃ g, f = g + 1 := ⟨f - 1, by omega⟩
    refine ⟨σ, ?_, FR_rf, fun j => by simp only [if_neg (show ¬ (k ≤ j ∧ j < 3) by omega), and_self]⟩
    rw [m_changeAbout_L93, zl_3, jlt (by omega) (by omega), if_neg (by omega)]
  | succ d ih =>
    intro k f σ hf hk
    obtain ⟨f, rfl⟩ : ∃ g, f = g + 1 := ⟨f - 1, by omega⟩
    have hin : inb (iN k) 3 := by rw [iN_inb (by omega)]; omega
    obtain ⟨τ, h1, h2, h3⟩ := ih (k + 1) f (sA (sA σ 4 (iN k) (av σ 8 k)) 8 (iN k) (av σ 4 k)) (by omega) (by omega)
    refine ⟨τ, ?_, FR_tr (FR_tr (FR_sA (by decide)) (FR_sA (by decide))) h2, fun j => ?_⟩
    · rw [m_changeAbout_L93, zl_3, jlt (by omega) (by omega), if_pos (by omega), if_pos ⟨hin, hin, hin, hin⟩, zl_1, iN_add]
      simp (disch := omega) only [gA_av]
      exact h1
    · obtain ⟨a1, a2⟩ := h3 j
      rw [a1, a2]
      simp (disch := omega) only [gA_av, gL_wv, gI_sI, gI_sA, gI_sL, av_sA, av_sI, av_sL, wv_sL, wv_sI, wv_sA, Nat.reduceEqDiff, if_true, if_false]
      by_cases e : j = k
      · subst e
        simp only [if_neg (show ¬ (j + 1 ≤ j ∧ j < 3) by omega), if_pos (show j ≤ j ∧ j < 3 by omega), eq_self, if_true, and_self]
      · by_cases c2 : k + 1 ≤ j ∧ j < 3
        · simp only [if_pos c2, if_neg e, if_pos (show k ≤ j ∧ j < 3 by omega), and_self]
        · simp only [if_neg c2, if_neg e, if_neg (show ¬ (k ≤ j ∧ j < 3) by omega), and_self]
theorem change_ok {σ : MS} {Y O : Yd} {c : Nat} (hY : YR σ Y) (hO : OR σ O) (vO : VY O) (hM : MKb σ c) : ∃ τ, m_changeAbout σ = some τ ∧ YR τ O ∧ OR τ Y ∧ FR [4, 5, 10, 11] [1, 2, 3, 4, 5, 6, 7, 8, 20] [] σ τ ∧ FA τ O ∧ MKb τ c := by
  obtain ⟨v, y1, y2, y3, y4⟩ := hY
  obtain ⟨o1, o2, o3, o4⟩ := hO
  obtain ⟨τ1, a1, a2, a3⟩ := change_L2 4 0 N0 σ (by rw [N0_eq]; omega) (by omega)
  obtain ⟨τ2, b1, b2, b3⟩ := change_L93 3 0 N0 τ1 (by rw [N0_eq]; omega) (by omega)
  have f12 : FR [] [1, 2, 3, 4, 5, 6, 7, 8] [] σ τ2 := FR_tr (FR_mo a2 rfl rfl rfl) (FR_mo b2 rfl rfl rfl)
  let υ := sI (sI (sI (sI τ2 4 (iN (yM O))) 10 (iN (yM Y))) 5 (iN (yT O))) 11 (iN (yT Y))
  have f3 : FR [4, 5, 10, 11] [] [] τ2 υ := FR_tr (FR_sI (by decide)) (FR_tr (FR_sI (by decide)) (FR_tr (FR_sI (by decide)) (FR_sI (by decide))))
  obtain ⟨τ, c1, c2, c3⟩ := forget_ok υ
  have fa : FR [4, 5, 10, 11] [1, 2, 3, 4, 5, 6, 7, 8, 20] [] σ τ := FR_tr (FR_mo f12 rfl rfl rfl) (FR_tr (FR_mo f3 rfl rfl rfl) (FR_mo c2 rfl rfl rfl))
  have e4 : gI τ2 4 = iN (yM Y) := by rw [f12.1 4 (by decide), y1]
  have e5 : gI τ2 5 = iN (yT Y) := by rw [f12.1 5 (by decide), y2]
  have e10 : gI τ2 10 = iN (yM O) := by rw [f12.1 10 (by decide), o1]
  have e11 : gI τ2 11 = iN (yT O) := by rw [f12.1 11 (by decide), o2]
  have hv3 : ∀ a, a ∈ [1, 2, 3, 5, 6, 7] → ∀ j, av τ a j = av τ1 a j := by
    intro a ha j
    have ha2 : a ∉ ([20] : List Nat) ∧ a ∉ ([] : List Nat) ∧ a ∉ ([4, 8] : List Nat) := by
      simp at ha
      rcases ha with rfl | rfl | rfl | rfl | rfl | rfl <;> decide
    rw [c2.2.1 a ha2.1, f3.2.1 a ha2.2.1, b2.2.1 a ha2.2.2]
  have hv4 : ∀ a, a ∈ [4, 8] → ∀ j, av τ a j = av τ2 a j := by
    intro a ha j
    have ha2 : a ∉ ([20] : List Nat) ∧ a ∉ ([] : List Nat) := by
      simp at ha
      rcases ha with rfl | rfl <;> decide
    rw [c2.2.1 a ha2.1, f3.2.1 a ha2.2]
  refine ⟨τ, ?_, ⟨vO, ?_, ?_, fun i hi => ?_, fun k hk => ?_⟩, ⟨?_, ?_, fun i hi => ?_, fun k hk => ?_⟩, fa, FA_0 c3, MKb_fr hM fa rfl⟩
  · rw [z00] at a1 b1
    rw [m_changeAbout, a1]
    simp only [Option.bind_some]
    rw [b1]
    simp only [Option.bind_some]
    rw [e4, e5, e10, e11, c1]
    rfl
  · rw [c2.1 4 (by decide)]; rfl
  · rw [c2.1 5 (by decide)]; rfl
  · have hi4 : i < 4 := by have := vO.2.1; omega
    rw [hv3 1 (by simp), hv3 2 (by simp), hv3 3 (by simp), (a3 i).1, (a3 i).2.1, (a3 i).2.2.1, if_pos (by omega), if_pos (by omega), if_pos (by omega)]
    exact o3 i hi
  · have hk3 : k < 3 := by have := vO.2.2.2.1; omega
    rw [hv4 4 (by simp), (b3 k).1, if_pos (by omega), a2.2.1 8 (by decide)]
    exact o4 k hk
  · rw [c2.1 10 (by decide)]; rfl
  · rw [c2.1 11 (by decide)]; rfl
  · have hi4 : i < 4 := by have := v.2.1; omega
    rw [hv3 5 (by simp), hv3 6 (by simp), hv3 7 (by simp), (a3 i).2.2.2.1, (a3 i).2.2.2.2.1, (a3 i).2.2.2.2.2, if_pos (by omega), if_pos (by omega), if_pos (by omega)]
    exact y3 i hi
  · have hk3 : k < 3 := by have := v.2.2.2.1; omega
    rw [hv4 8 (by simp), (b3 k).2, if_pos (by omega), a2.2.1 4 (by decide)]
    exact y4 k hk
theorem unlike_L16 {Y : Yd} {n : Nat} (h1 : 1 ≤ n) (h5 : n ≤ 5) : ∀ (d k f c : Nat) (σ : MS), d < f → k + d = fac n → c + d < 999000000 → SF σ Y c → ∃ τ, m_unlike_L16 f σ (iN n) (iN k) = some τ ∧ SF τ Y (c + d) ∧ FR fK (26 :: fA) fL σ τ ∧ ∀ j, av τ 26 j = if k ≤ j ∧ j < fac n then bI (gdR Y n j) else av σ 26 j := by
  intro d
  induction d with
  | zero =>
    intro k f c σ hf hk hc h
    obtain ⟨f, rfl⟩ : ∃ g, f = g + 1 := ⟨f - 1, by omega⟩
    have hfc := (fac_le n (by omega)).2
    refine ⟨σ, ?_, h, FR_rf, fun j => by rw [if_neg (by omega)]⟩
    rw [m_unlike_L16, t_pow n (by omega)]
    simp only [Option.bind_some]
    rw [jlt (by omega) (by omega), if_neg (by omega)]
  | succ d ih =>
    intro k f c σ hf hk hc h
    obtain ⟨f, rfl⟩ : ∃ g, f = g + 1 := ⟨f - 1, by omega⟩
    have hfc := (fac_le n (by omega)).2
    obtain ⟨τ1, τ, a1, a2, a3, a4, a5, _⟩ := trainFar_ok (show c < 999000000 by omega) h h1 h5 (show k < fac n by omega)
    have hn := rI_neg _ a5
    have hin : inb (iN k) 120 := by rw [iN_inb (by omega)]; omega
    have f26 : FR [] [26] [] τ (sA τ 26 (iN k) (bI (gdR Y n k))) := FR_sA (by decide)
    obtain ⟨υ, b1, b2, b3, b4⟩ := ih (k + 1) f (c + 1) (sA τ 26 (iN k) (bI (gdR Y n k))) (by omega) (by omega) (by omega) (SF_fr a3 f26 rfl rfl rfl)
    refine ⟨υ, ?_, by rw [show c + (d + 1) = c + 1 + d by omega]; exact b2, FR_tr (FR_mo a4 rfl rfl rfl) (FR_tr (FR_mo f26 rfl rfl rfl) b3), fun j => ?_⟩
    · rw [m_unlike_L16, t_pow n (by omega)]
      simp only [Option.bind_some]
      rw [jlt (by omega) (by omega), if_pos (by omega), a1]
      simp only [Option.bind_some]
      rw [a2]
      simp only [Option.bind_some]
      rw [zl_1, iN_add]
      by_cases cg : gdR Y n k = true
      · rw [if_neg (fun h9 => by rw [hn] at h9; unfold gdR at cg; rw [cg] at h9; cases h9), if_pos hin]
        rw [cg] at b1
        exact b1
      · have cf : (sf Y n k).isSome = false := by cases hh : (sf Y n k).isSome with | false => rfl | true => exact absurd hh cg
        rw [if_pos (by rw [hn]; exact cf), if_pos hin]
        have cg2 : gdR Y n k = false := cf
        rw [cg2] at b1
        exact b1
    · rw [b4, av_sA (by omega), if_pos rfl, a4.2.1 26 (by decide)]
      by_cases e : j = k
      · rw [if_neg (by omega), if_pos e, if_pos (by omega), e]
      · rw [if_neg e]
        by_cases c2 : k + 1 ≤ j ∧ j < fac n
        · rw [if_pos c2, if_pos (by omega)]
        · rw [if_neg c2, if_neg (by omega)]
noncomputable def uG (Y O : Yd) (n k : Nat) : Option Nat := (List.range' k (fac n - k)).find? (fun r => gdR O n r != gdR Y n r)
theorem unlike_L61 {Y O : Yd} {n : Nat} (h1 : 1 ≤ n) (h5 : n ≤ 5) : ∀ (d k f c : Nat) (σ : MS), d < f → k + d = fac n → c + d < 999000000 → SF σ Y c → (∀ j, j < fac n → av σ 26 j = bI (gdR O n j)) → ∃ τ, SF τ Y (c + d) ∧ FR fK fA fL σ τ ∧ m_unlike_L61 f σ (iN n) (iN k) = some (match uG Y O n k with
    | some r => .inr (iN (num (ur n r)), τ)
    | none => .inl τ) := by
  intro d
  induction d with
  | zero =>
    intro k f c σ hf hk hc h _
    obtain ⟨f, rfl⟩ : ∃ g, f = g + 1 := ⟨f - 1, by omega⟩
    have hfc := (fac_le n (by omega)).2
    have e : uG Y O n k = none := by unfold uG; rw [show fac n - k = 0 by omega]; rfl
    refine ⟨σ, h, FR_rf, ?_⟩
    rw [m_unlike_L61, t_pow n (by omega), e]
    simp only [Option.bind_some]
    rw [jlt (by omega) (by omega), if_neg (by omega)]
  | succ d ih =>
    intro k f c σ hf hk hc h h26
    obtain ⟨f, rfl⟩ : ∃ g, f = g + 1 := ⟨f - 1, by omega⟩
    have hfc := (fac_le n (by omega)).2
    have hkf : k < fac n := by omega
    obtain ⟨τ1, τ, a1, a2, a3, a4, a5, a6⟩ := trainFar_ok (show c < 999000000 by omega) h h1 h5 hkf
    have hn := rI_neg _ a5
    have hin : inb (iN k) 120 := by rw [iN_inb (by omega)]; omega
    have h26k : av τ1 26 k = bI (gdR O n k) := by rw [a6.2.1 26 (by decide)]; exact h26 k hkf
    have hbase : m_unlike_L61 (f + 1) σ (iN n) (iN k) = if gdR O n k = gdR Y n k then m_unlike_L61 f τ (iN n) (iN (k + 1)) else some (.inr (iN (num (ur n k)), τ)) := by
      rw [m_unlike_L61, t_pow n (by omega)]
      simp only [Option.bind_some]
      rw [jlt (by omega) (by omega), if_pos (by omega), a1]
      simp only [Option.bind_some]
      rw [if_pos hin, a2]
      simp only [Option.bind_some]
      rw [gA_av (by omega), h26k, zl_1, iN_add]
      by_cases cg : gdR Y n k = true
      · rw [if_neg (fun h9 => by rw [hn] at h9; unfold gdR at cg; rw [cg] at h9; cases h9), cg]
        cases gdR O n k with
        | true => rw [if_pos (by rfl), if_pos rfl]
        | false => rw [if_neg (by decide), if_neg (by decide)]
      · have cf : (sf Y n k).isSome = false := by cases hh : (sf Y n k).isSome with | false => rfl | true => exact absurd hh cg
        have cg2 : gdR Y n k = false := cf
        rw [if_pos (by rw [hn]; exact cf), cg2]
        cases gdR O n k with
        | true => rw [if_neg (by decide), if_neg (by decide)]
        | false => rw [if_pos (by rfl), if_pos rfl]
    have hu : uG Y O n k = if gdR O n k = gdR Y n k then uG Y O n (k + 1) else some k := by
      unfold uG
      rw [rng_c hkf]
      by_cases c : gdR O n k = gdR Y n k
      · rw [if_pos c, List.find?_cons_of_neg (by simp [c])]
      · rw [if_neg c, List.find?_cons_of_pos (by simpa using c)]
    rw [hbase, hu]
    by_cases c2 : gdR O n k = gdR Y n k
    · rw [if_pos c2, if_pos c2]
      obtain ⟨υ, b1, b2, b3⟩ := ih (k + 1) f (c + 1) τ (by omega) (by omega) (by omega) a3 (fun j hj => by rw [a4.2.1 26 (by decide)]; exact h26 j hj)
      exact ⟨υ, by rw [show c + (d + 1) = c + 1 + d by omega]; exact b1, FR_tr a4 b2, b3⟩
    · rw [if_neg c2, if_neg c2]
      exact ⟨τ, ⟨a3.1, a3.2.1, MKb_le a3.2.2 (by omega)⟩, a4, rfl⟩
noncomputable def s_unlike (Y O : Yd) (x : Int32) : Int32 := if nin x 1 5 then nbI x.toNatClampNeg (uG Y O x.toNatClampNeg 0) else -2
theorem r_unlike {σ : MS} {A : AS} {c : Nat} (hc : c < 990000000) (h : RI σ A c) (x : Int32) : ∃ τ, m_unlike σ x = some (s_unlike (aY A) (aO A) x, τ) ∧ RI τ A (c + 1000) := by
  rw [m_unlike, isCount_ok]
  simp only [Option.bind_some, bI_0]
  unfold s_unlike
  cases hx : nin x 1 5 with
  | false => rw [if_pos rfl]; exact ⟨σ, rfl, RI_le h (by omega)⟩
  | true =>
    obtain ⟨n, h1, h5, rfl⟩ := nin_iN (a := 1) (b := 5) (by omega) hx
    have hfc := (fac_le n (by omega)).2
    rw [if_neg (by decide), iN_nat (by omega), if_pos rfl]
    obtain ⟨τ1, a1, a2, a3, a4, a5, a6⟩ := change_ok h.2.1 h.2.2.1 h.1.2.2.1 h.2.2.2.2.2.2.2
    obtain ⟨τ2, b1, b2, b3, b4⟩ := unlike_L16 h1 h5 (fac n) 0 N0 c τ1 (by rw [N0_eq]; omega) (by omega) (by omega) ⟨a2, a5, a6⟩
    obtain ⟨τ3, c1, c2, c3, c4, c5, c6⟩ := change_ok b2.1 (OR_ok a3 b3 rfl) h.1.2.1 b2.2.2
    obtain ⟨τ4, d1, d2, d3⟩ := unlike_L61 (O := aO A) h1 h5 (fac n) 0 N0 (c + fac n) τ3 (by rw [N0_eq]; omega) (by omega) (by omega) ⟨c2, c5, c6⟩ (fun j hj => by rw [c4.2.1 26 (by decide), b4, if_pos (by omega)])
    rw [z00] at b1 d3
    have hf : FR [4, 5, 10, 11, 16, 22, 23, 25] [1, 2, 3, 4, 5, 6, 7, 8, 10, 11, 12, 13, 14, 16, 18, 20, 21, 22, 26] [15, 19] σ τ4 := FR_tr (FR_mo a4 rfl rfl rfl) (FR_tr (FR_mo b3 rfl rfl rfl) (FR_tr (FR_mo c4 rfl rfl rfl) (FR_mo d2 rfl rfl rfl)))
    have hR : RI τ4 A (c + 1000) := by
      refine ⟨h.1, d1.1, OR_ok c3 d2 rfl, ⟨by rw [hf.1 13 (by decide)]; exact h.2.2.2.1.1, fun k hk => by rw [hf.2.1 9 (by decide)]; exact h.2.2.2.1.2 k hk⟩, ?_, ?_, d1.2.1, MKb_le d1.2.2 (by omega)⟩
      · obtain ⟨g1, g2⟩ := h.2.2.2.2.1
        refine ⟨by rw [hf.1 37 (by decide)]; exact g1, fun h1 => ?_⟩
        obtain ⟨p, q, r, t⟩ := g2 h1
        exact ⟨by rw [hf.1 35 (by decide)]; exact p, by rw [hf.1 36 (by decide)]; exact q, by rw [hf.1 39 (by decide)]; exact r, fun k hk => by rw [hf.2.1 27 (by decide)]; exact t k hk⟩
      · intro i hi
        obtain ⟨p, q⟩ := h.2.2.2.2.2.1 i hi
        exact ⟨by rw [hf.2.1 29 (by decide)]; exact p, fun im him => KR_eq (q im him) (hf.2.1 28 (by decide))⟩
    refine ⟨τ4, ?_, hR⟩
    rw [a1]
    simp only [Option.bind_some]
    rw [b1]
    simp only [Option.bind_some]
    rw [c1]
    simp only [Option.bind_some]
    rw [d3]
    cases uG (aY A) (aO A) n 0 <;> rfl
