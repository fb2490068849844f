/-! THE REFERENCE: thumbs, onward, the whole run -/
theorem cOn_num {Y : Yd} (hY : VY Y) {P : Ps} {m : Nat} (h : m ∈ cOn Y P) : 1 ≤ m / 1000 ∧ m / 1000 ≤ yM Y ∧ m / 100 % 10 < 2 ∧ 1 ≤ m / 10 % 10 ∧ m / 10 % 10 ≤ yM Y ∧ m % 10 < 2 := by
  obtain ⟨h1, h2⟩ := List.mem_filter.mp h
  rw [decide_eq_true_eq] at h2
  have g := gm_parts ((mem_oks hY).mp h1).1
  have h3 : m / 1000 ≠ 0 := h2.1
  have h4 : m / 10 % 10 ≠ 5 := h2.2
  have g1 : m / 1000 ≤ yM Y := g.1
  have g2 : m / 100 % 10 < 2 := g.2.1
  have g3 : m / 10 % 10 = 5 ∨ (1 ≤ m / 10 % 10 ∧ m / 10 % 10 ≤ yM Y) := g.2.2.1
  have g4 : m % 10 < 2 := g.2.2.2.1
  omega
theorem cOn_mem {Y : Yd} (hY : VY Y) {P : Ps} {f e t x : Nat} (hf : f ≤ yM Y) (h1 : 1 ≤ f) (he : e < 2) (ht : 1 ≤ t ∧ t ≤ yM Y) (hx : x < 2) : mk4 f e t x ∈ cOn Y P ↔ cm_ Y P f e t x = true := by
  have hM := hY.2.1
  obtain ⟨q1, q2, q3, q4⟩ := mk4_of f e t x (by omega) (by omega) (by omega)
  unfold cOn
  rw [List.mem_filter, mem_oks hY, decide_eq_true_eq, q1, q3, cmv_eq hM hf he (Or.inr ht) hx, Bool.and_eq_true]
  exact ⟨fun h => h.1, fun h => ⟨h, by omega, by omega⟩⟩
theorem cOn_srt (Y : Yd) (P : Ps) : (cOn Y P).Pairwise (· < ·) := (oks_srt Y P).filter _
theorem on_L32 {Y : Yd} {n : Nat} (hn : n ≤ 5) {t' : List Nat} {P : Ps} {σ : MS} (h : TS σ Y n t' P) {f e t : Nat} (h1 : 1 ≤ f) (hf : f ≤ yM Y) (he : e < 2) (ht : 1 ≤ t ∧ t ≤ yM Y) : ∀ (d x fu : Nat), d < fu → x + d = 2 →
    (∃ m τ, (og (cOn Y P) (mk4 f e t x)).head? = some m ∧ m_goOn_L32 fu σ (iN n) (iN f) (iN e) (iN t) (iN x) = some (.inr (1, τ)) ∧ TS τ Y n t' (mv P m) ∧ FR [16] [10, 11] [] σ τ) ∨
    (og (cOn Y P) (mk4 f e t x) = og (cOn Y P) (mk4 f e t 2) ∧ m_goOn_L32 fu σ (iN n) (iN f) (iN e) (iN t) (iN x) = some (.inl σ)) := by
  obtain ⟨hY, htm, hT, hv, hP, hg⟩ := id h
  have hM := hY.1.2.1
  intro d
  induction d with
  | zero =>
    intro x fu hfu hx
    obtain ⟨fu, rfl⟩ : ∃ g, fu = g + 1 := ⟨fu - 1, by omega⟩
    obtain rfl : x = 2 := by omega
    right
    refine ⟨rfl, ?_⟩
    rw [m_goOn_L32, if_neg (by decide)]
  | succ d ih =>
    intro x fu hfu hx
    obtain ⟨fu, rfl⟩ : ∃ g, fu = g + 1 := ⟨fu - 1, by omega⟩
    have hmem := cOn_mem hY.1 (P := P) hf h1 he ht (show x < 2 by omega)
    have hst := og_step (cOn_srt Y P) (mk4 f e t x)
    have hcm := canMove_ok hY hn hv hP hg hf he (Or.inr ht) (show x < 2 by omega)
    have hb : m_goOn_L32 (fu + 1) σ (iN n) (iN f) (iN e) (iN t) (iN x) = if cm_ Y P f e t x = false then m_goOn_L32 fu σ (iN n) (iN f) (iN e) (iN t) (iN (x + 1)) else (m_doMove σ (iN f) (iN e) (iN t) (iN x)).bind fun q59 => some (.inr (1, q59)) := by
      rw [m_goOn_L32, zl_2, jlt (by omega) (by omega), if_pos (by omega), hcm]
      simp only [Option.bind_some, bI_0]
      rw [zl_1, iN_add]
    by_cases c : cm_ Y P f e t x = true
    · left
      obtain ⟨τ, u1, u2, u3, u4⟩ := doMove_ok hY hn hv hP hg hf he (Or.inr ht) (show x < 2 by omega) c
      have hin := hmem.mpr c
      have hgc := (mem_oks hY.1).mp (List.mem_filter.mp hin).1
      refine ⟨mk4 f e t x, τ, ?_, ?_, TS_mv h hgc.1 hgc.2 u2 u3 u4, u4⟩
      · rw [hst, if_pos hin]; rfl
      · rw [hb, if_neg (by rw [c]; decide), u1]; rfl
    · have cf : cm_ Y P f e t x = false := by cases hh : cm_ Y P f e t x with | false => rfl | true => exact absurd hh c
      rw [hst, if_neg (fun h9 => c (hmem.mp h9)), show mk4 f e t x + 1 = mk4 f e t (x + 1) by unfold mk4; omega, hb, if_pos cf]
      exact ih (x + 1) fu (by omega) (by omega)
theorem on_L20 {Y : Yd} {n : Nat} (hn : n ≤ 5) {t' : List Nat} {P : Ps} {σ : MS} (h : TS σ Y n t' P) {f e : Nat} (h1 : 1 ≤ f) (hf : f ≤ yM Y) (he : e < 2) : ∀ (d t fu : Nat), d < fu → t + d = yM Y + 1 → 1 ≤ t →
    (∃ m τ, (og (cOn Y P) (mk4 f e t 0)).head? = some m ∧ m_goOn_L20 fu σ (iN n) (iN f) (iN e) (iN t) = some (.inr (1, τ)) ∧ TS τ Y n t' (mv P m) ∧ FR [16] [10, 11] [] σ τ) ∨
    (og (cOn Y P) (mk4 f e t 0) = og (cOn Y P) (mk4 f (e + 1) 0 0) ∧ m_goOn_L20 fu σ (iN n) (iN f) (iN e) (iN t) = some (.inl σ)) := by
  have hY := h.1
  have hM := hY.1.2.1
  intro d
  induction d with
  | zero =>
    intro t fu hfu ht h1t
    obtain ⟨fu, rfl⟩ : ∃ g, fu = g + 1 := ⟨fu - 1, by omega⟩
    right
    refine ⟨og_gap (by unfold mk4; omega) (fun x hx hle => ?_), ?_⟩
    · have := cOn_num hY.1 hx
      unfold mk4 at hle ⊢
      omega
    · rw [m_goOn_L20, hY.2.1, jlt (by omega) (by omega), if_pos (by omega)]
  | succ d ih =>
    intro t fu hfu ht h1t
    obtain ⟨fu, rfl⟩ : ∃ g, fu = g + 1 := ⟨fu - 1, by omega⟩
    rcases on_L32 hn h h1 hf he ⟨h1t, show t ≤ yM Y by omega⟩ 2 0 N0 (by rw [N0_eq]; omega) rfl with ⟨m, τ, a1, a2, a3, a4⟩ | ⟨a1, a2⟩
    · left
      rw [z00] at a2
      refine ⟨m, τ, a1, ?_, a3, a4⟩
      rw [m_goOn_L20, hY.2.1, jlt (by omega) (by omega), if_neg (by omega), a2]
      rfl
    · rw [z00] at a2
      have hgap : og (cOn Y P) (mk4 f e t 0) = og (cOn Y P) (mk4 f e (t + 1) 0) := by
        rw [a1]
        refine og_gap (by unfold mk4; omega) (fun x hx hle => ?_)
        have := cOn_num hY.1 hx
        unfold mk4 at hle ⊢
        omega
      have e1 : m_goOn_L20 (fu + 1) σ (iN n) (iN f) (iN e) (iN t) = m_goOn_L20 fu σ (iN n) (iN f) (iN e) (iN (t + 1)) := by
        rw [m_goOn_L20, hY.2.1, jlt (by omega) (by omega), if_neg (by omega), a2]
        simp only [Option.bind_some]
        rw [zl_1, iN_add]
      rw [hgap, e1]
      exact ih (t + 1) fu (by omega) (by omega) (by omega)
theorem on_L12 {Y : Yd} {n : Nat} (hn : n ≤ 5) {t' : List Nat} {P : Ps} {σ : MS} (h : TS σ Y n t' P) {f : Nat} (h1 : 1 ≤ f) (hf : f ≤ yM Y) : ∀ (d e fu : Nat), d < fu → e + d = 2 →
    (∃ m τ, (og (cOn Y P) (mk4 f e 0 0)).head? = some m ∧ m_goOn_L12 fu σ (iN n) (iN f) (iN e) = some (.inr (1, τ)) ∧ TS τ Y n t' (mv P m) ∧ FR [16] [10, 11] [] σ τ) ∨
    (og (cOn Y P) (mk4 f e 0 0) = og (cOn Y P) (mk4 f 2 0 0) ∧ m_goOn_L12 fu σ (iN n) (iN f) (iN e) = some (.inl σ)) := by
  have hY := h.1
  have hM := hY.1.2.1
  intro d
  induction d with
  | zero =>
    intro e fu hfu he
    obtain ⟨fu, rfl⟩ : ∃ g, fu = g + 1 := ⟨fu - 1, by omega⟩
    obtain rfl : e = 2 := by omega
    right
    refine ⟨rfl, ?_⟩
    rw [m_goOn_L12, if_neg (by decide)]
  | succ d ih =>
    intro e fu hfu he
    obtain ⟨fu, rfl⟩ : ∃ g, fu = g + 1 := ⟨fu - 1, by omega⟩
    have hgap : og (cOn Y P) (mk4 f e 0 0) = og (cOn Y P) (mk4 f e 1 0) := by
      refine og_gap (by unfold mk4; omega) (fun x hx hle => ?_)
      have := cOn_num hY.1 hx
      unfold mk4 at hle ⊢
      omega
    rw [hgap]
    rcases on_L20 hn h h1 hf (show e < 2 by omega) (yM Y) 1 N0 (by rw [N0_eq]; omega) (by omega) (by omega) with ⟨m, τ, a1, a2, a3, a4⟩ | ⟨a1, a2⟩
    · left
      have a2' : m_goOn_L20 N0 σ (iN n) (iN f) (iN e) 1 = some (.inr (1, τ)) := a2
      refine ⟨m, τ, a1, ?_, a3, a4⟩
      rw [m_goOn_L12, zl_2, jlt (by omega) (by omega), if_pos (by omega), a2']
      rfl
    · have a2' : m_goOn_L20 N0 σ (iN n) (iN f) (iN e) 1 = some (.inl σ) := a2
      have e1 : m_goOn_L12 (fu + 1) σ (iN n) (iN f) (iN e) = m_goOn_L12 fu σ (iN n) (iN f) (iN (e + 1)) := by
        rw [m_goOn_L12, zl_2, jlt (by omega) (by omega), if_pos (by omega), a2']
        simp only [Option.bind_some]
        rw [zl_1, iN_add]
      rw [a1, e1]
      exact ih (e + 1) fu (by omega) (by omega)
theorem on_L2 {Y : Yd} {n : Nat} (hn : n ≤ 5) {t' : List Nat} {P : Ps} {σ : MS} (h : TS σ Y n t' P) : ∀ (d f fu : Nat), d < fu → f + d = yM Y + 1 → 1 ≤ f →
    (∃ m τ, (og (cOn Y P) (mk4 f 0 0 0)).head? = some m ∧ m_goOn_L2 fu σ (iN n) (iN f) = some (.inr (1, τ)) ∧ TS τ Y n t' (mv P m) ∧ FR [16] [10, 11] [] σ τ) ∨
    ((og (cOn Y P) (mk4 f 0 0 0)).head? = none ∧ m_goOn_L2 fu σ (iN n) (iN f) = some (.inl σ)) := by
  have hY := h.1
  have hM := hY.1.2.1
  intro d
  induction d with
  | zero =>
    intro f fu hfu hf h1
    obtain ⟨fu, rfl⟩ : ∃ g, fu = g + 1 := ⟨fu - 1, by omega⟩
    right
    refine ⟨?_, ?_⟩
    · rw [og_end (fun x hx => by have := cOn_num hY.1 hx; unfold mk4; omega)]
      rfl
    · rw [m_goOn_L2, hY.2.1, jlt (by omega) (by omega), if_pos (by omega)]
  | succ d ih =>
    intro f fu hfu hf h1
    obtain ⟨fu, rfl⟩ : ∃ g, fu = g + 1 := ⟨fu - 1, by omega⟩
    rcases on_L12 hn h h1 (show f ≤ yM Y by omega) 2 0 N0 (by rw [N0_eq]; omega) rfl with ⟨m, τ, a1, a2, a3, a4⟩ | ⟨a1, a2⟩
    · left
      rw [z00] at a2
      refine ⟨m, τ, a1, ?_, a3, a4⟩
      rw [m_goOn_L2, hY.2.1, jlt (by omega) (by omega), if_neg (by omega), a2]
      rfl
    · rw [z00] at a2
      have hgap : og (cOn Y P) (mk4 f 0 0 0) = og (cOn Y P) (mk4 (f + 1) 0 0 0) := by
        rw [a1]
        refine og_gap (by unfold mk4; omega) (fun x hx hle => ?_)
        have := cOn_num hY.1 hx
        unfold mk4 at hle ⊢
        omega
      have e1 : m_goOn_L2 (fu + 1) σ (iN n) (iN f) = m_goOn_L2 fu σ (iN n) (iN (f + 1)) := by
        rw [m_goOn_L2, hY.2.1, jlt (by omega) (by omega), if_neg (by omega), a2]
        simp only [Option.bind_some]
        rw [zl_1, iN_add]
      rw [hgap, e1]
      exact ih (f + 1) fu (by omega) (by omega) (by omega)
theorem goOn_ok {Y : Yd} {n : Nat} (hn : n ≤ 5) {t' : List Nat} {P : Ps} {σ : MS} (h : TS σ Y n t' P) :
    (∃ m τ, (cOn Y P).head? = some m ∧ m_goOn σ (iN n) = some (1, τ) ∧ TS τ Y n t' (mv P m) ∧ FR [16] [10, 11] [] σ τ) ∨ ((cOn Y P).head? = none ∧ m_goOn σ (iN n) = some (0, σ)) := by
  have hM := h.1.1.2.1
  have hgap : cOn Y P = og (cOn Y P) (mk4 1 0 0 0) := by
    have e := og_gap (l := cOn Y P) (a := 0) (b := mk4 1 0 0 0) (Nat.zero_le _) (fun x hx _ => by
      have := cOn_num h.1.1 hx
      unfold mk4; omega)
    rw [og_0] at e
    exact e
  rcases on_L2 hn h (yM Y) 1 N0 (by rw [N0_eq]; omega) (by omega) (by omega) with ⟨m, τ, a1, a2, a3, a4⟩ | ⟨a1, a2⟩
  · left
    have a2' : m_goOn_L2 N0 σ (iN n) 1 = some (.inr (1, τ)) := a2
    refine ⟨m, τ, by rw [hgap]; exact a1, ?_, a3, a4⟩
    rw [m_goOn, a2']; rfl
  · right
    have a2' : m_goOn_L2 N0 σ (iN n) 1 = some (.inl σ) := a2
    refine ⟨by rw [hgap]; exact a1, ?_⟩
    rw [m_goOn, a2']; rfl
theorem chs_ok {Y : Yd} (hY : VY Y) {t : List Nat} {rule : Nat} {P : Ps} {m : Nat} (h : chs Y t rule P = some m) : gm Y m = true ∧ can Y P m = true := by
  unfold chs at h
  cases h1 : (cLet Y t P).head? with
  | some k =>
    rw [h1] at h
    cases h
    have := cLet_gm hY (List.mem_of_head? h1)
    exact ⟨this.1, this.2.1⟩
  | none =>
    rw [h1] at h
    cases h2 : pIn Y t P rule with
    | some i =>
      rw [h2] at h
      cases h
      obtain ⟨hne, hi, hr⟩ := pIn_some h2
      have hcm := go0_in hY hne hi hr
      rw [cmv_eq hY.2.1 (by omega) (by omega) (Or.inr ⟨by omega, by omega⟩) (by omega), Bool.and_eq_true] at hcm
      exact hcm
    | none =>
      rw [h2] at h
      exact (mem_oks hY).mp (List.mem_filter.mp (List.mem_of_head? h)).1
theorem thumbed_L14 {Y : Yd} {n : Nat} (hn : n ≤ 5) {t : List Nat} {rule : Nat} (hr : rule ≤ 2) : ∀ (f F : Nat) (σ : MS) (P : Ps), f + 2 ≤ F → TS σ Y n t P → 21 ≤ f + lv Y P → ∃ τ, m_thumbed_L14 F σ (iN n) (iN rule) 1 = some τ ∧ TS τ Y n t (thF Y t rule f P) ∧ FR [16] [10, 11] [] σ τ := by
  intro f
  induction f with
  | zero =>
    intro F σ P hF h hl
    have := lv_le h.1.1 hn h.2.2.2.1
    omega
  | succ f ih =>
    intro F σ P hF h hl
    obtain ⟨F, rfl⟩ : ∃ g, F = g + 2 := ⟨F - 2, by omega⟩
    have hend : ∀ τ, m_thumbed_L14 (F + 1) τ (iN n) (iN rule) 0 = some τ := by
      intro τ
      rw [m_thumbed_L14, if_pos rfl]
    have hgo : ∀ m τ, chs Y t rule P = some m → TS τ Y n t (mv P m) → FR [16] [10, 11] [] σ τ → ∃ υ, m_thumbed_L14 (F + 1) τ (iN n) (iN rule) 1 = some υ ∧ TS υ Y n t (thF Y t rule (f + 1) P) ∧ FR [16] [10, 11] [] σ υ := by
      intro m τ hm hTS hFR
      have hgc := chs_ok h.1.1 hm
      have hlv := lv_mv h.1.1 hgc.1 hgc.2
      obtain ⟨υ, b1, b2, b3⟩ := ih (F + 1) τ (mv P m) (by omega) hTS (by omega)
      refine ⟨υ, b1, ?_, FR_tr hFR b3⟩
      rw [thF, hm]
      exact b2
    rw [m_thumbed_L14, if_neg (by decide)]
    rcases letOut_ok hn h with ⟨m, τ, a1, a2, a3, a4⟩ | ⟨a1, a2⟩
    · have hc : chs Y t rule P = some m := by unfold chs; rw [a1]
      rw [a2]
      simp only [Option.bind_some]
      rw [if_neg (by decide), m_thumbed_J45, if_neg (by decide)]
      exact hgo m τ hc a3 a4
    · rw [a2]
      simp only [Option.bind_some]
      rw [if_pos (by first | trivial | rfl)]
      rcases goIn_ok hn h hr with ⟨i, τ, b1, b2, b3, b4⟩ | ⟨b1, b2⟩
      · have hc : chs Y t rule P = some (mk4 0 0 (i + 1) 0) := by unfold chs; rw [a1, b1]
        rw [b2]
        simp only [Option.bind_some]
        rw [if_neg (by decide), m_thumbed_J45, if_neg (by decide)]
        exact hgo _ τ hc b3 b4
      · rw [b2]
        simp only [Option.bind_some]
        rw [if_pos (by first | trivial | rfl), m_thumbed_J45, if_pos (by first | trivial | rfl)]
        rcases goOn_ok hn h with ⟨m, τ, c1, c2, c3, c4⟩ | ⟨c1, c2⟩
        · have hc : chs Y t rule P = some m := by unfold chs; rw [a1, b1, c1]
          rw [c2]
          simp only [Option.bind_some]
          rw [if_neg (by decide)]
          exact hgo m τ hc c3 c4
        · have hc : chs Y t rule P = none := by unfold chs; rw [a1, b1, c1]
          rw [c2]
          simp only [Option.bind_some]
          rw [if_pos (by first | trivial | rfl), hend]
          refine ⟨σ, rfl, ?_, FR_rf⟩
          rw [thF, hc]
          exact h
theorem thumbed_ok {σ : MS} {Y : Yd} (hY : YR σ Y) {n : Nat} (hn : n ≤ 5) {t : List Nat} (ht : t ∈ pm n) {rule : Nat} (hr : rule ≤ 2) : ∃ τ, m_thumbed σ (iN (num t)) (iN n) (iN rule) = some (iN (thR Y n t rule), τ) ∧ FR [16] [10, 11, 22] [] σ τ ∧ thR Y n t rule ≤ n := by
  have hM := hY.1.2.1
  obtain ⟨τ1, a1, a2, a3⟩ := layTrain_ok (show n < 6 by omega) ht σ
  have hY1 := YR_fr hY a3 rfl
  obtain ⟨τ2, b1, b2, b3, b4⟩ := decode_ok hY1 hn (VP_st Y n)
  rw [key_st, z00] at b1
  obtain ⟨τ3, c1, c2, c3⟩ := thumbed_L14 hn (t := t) hr 21 N0 τ2 (st n) (by rw [N0_eq]; omega) ⟨YR_fr hY1 b4 rfl, ht, TW_fr a2 b4 rfl, VP_st Y n, b2, b3⟩ (by omega)
  have hl5 := RP_5 c2.2.2.2.2.1
  refine ⟨τ3, ?_, FR_tr (FR_mo a3 rfl rfl rfl) (FR_tr (FR_mo b4 rfl rfl rfl) (FR_mo c3 rfl rfl rfl)), VP_le c2.2.2.2.1 (by omega)⟩
  rw [m_thumbed, a1]
  simp only [Option.bind_some]
  rw [b1]
  simp only [Option.bind_some]
  rw [c1]
  simp only [Option.bind_some]
  rw [c2.1.2.1, if_pos (by rw [iN_inb (by omega)]; omega), gA_av (by omega), hl5.2.1]
  rfl
def s_thumb (Y : Yd) (x r : Int32) : Int32 := match pr1 x with
  | none => -2
  | some (n, t) => if nin r 0 2 = true then iN (thR Y n t r.toNatClampNeg) else -2
theorem r_thumb {σ : MS} {A : AS} {c : Nat} (h : RI σ A c) (x r : Int32) : ∃ τ, m_thumb σ x r = some (s_thumb (aY A) x r, τ) ∧ RI τ A c := by
  have hle := tw_le x
  rw [m_thumb, m_wag]
  simp only [Option.bind_some]
  rw [jlt0 (by omega)]
  unfold s_thumb
  cases hp : pr1 x with
  | none =>
    rw [pr1_none hp, if_neg (by omega)]
    exact ⟨σ, rfl, h⟩
  | some p =>
    obtain ⟨n, t⟩ := p
    obtain ⟨h1, h5, ht, rfl, hx⟩ := pr1_some hp
    rw [hx, if_pos (by omega), m_in_i, show (0 : Int64).toInt = 0 from rfl, show (2 : Int64).toInt = 2 from rfl]
    simp only [Option.bind_some, bI_0]
    have e : decide ((0 : Int) ≤ r.toInt ∧ r.toInt ≤ 2) = nin r 0 2 := rfl
    rw [e]
    cases hr : nin r 0 2 with
    | false => rw [if_pos rfl]; exact ⟨σ, rfl, h⟩
    | true =>
      obtain ⟨q, _, hq, rfl⟩ := nin_iN (a := 0) (b := 2) (by omega) hr
      obtain ⟨τ, a1, a2, a3⟩ := thumbed_ok h.2.1 h5 ht hq
      rw [if_neg (by decide), a1, iN_nat (by omega)]
      exact ⟨τ, rfl, RI_lo h a2 rfl rfl rfl⟩
def tG (Y : Yd) (n rule k : Nat) : Nat := ((List.range' k (fac n - k)).filter (fun r => decide (thR Y n (ur n r) rule = n))).length
theorem tG_s {Y : Yd} {n rule k : Nat} (h : k < fac n) : tG Y n rule k = (if thR Y n (ur n k) rule = n then 1 else 0) + tG Y n rule (k + 1) := by
  unfold tG
  rw [rng_c h]
  by_cases c : thR Y n (ur n k) rule = n
  · rw [List.filter_cons_of_pos (by simpa using c), if_pos c, List.length_cons]; omega
  · rw [List.filter_cons_of_neg (by simpa using c), if_neg c]; omega
theorem sorts_L27 {A : AS} {n : Nat} (h5 : n ≤ 5) {rule : Nat} (hr : rule ≤ 2) : ∀ (d k f c a : Nat) (σ : MS), d < f → k + d = fac n → RI σ A c → ∃ τ, m_sorts_L27 f σ (iN n) (iN rule) (iN a) (iN k) = some (τ, iN (a + tG (aY A) n rule k)) ∧ RI τ A c := by
  intro d
  induction d with
  | zero =>
    intro k f c a σ hf hk h
    obtain ⟨f, rfl⟩ : ∃ g, f = g + 1 := ⟨f - 1, by omega⟩
    have hfc := (fac_le n (by omega)).2
    have e1 : tG (aY A) n rule k = 0 := by unfold tG; rw [show fac n - k = 0 by omega]; rfl
    refine ⟨σ, ?_, h⟩
    rw [m_sorts_L27, t_pow n (by omega)]
    simp only [Option.bind_some]
    rw [jlt (by omega) (by omega), if_neg (by omega), e1]
    rfl
  | succ d ih =>
    intro k f c a σ hf hk h
    obtain ⟨f, rfl⟩ : ∃ g, f = g + 1 := ⟨f - 1, by omega⟩
    have hfc := (fac_le n (by omega)).2
    have hkf : k < fac n := by omega
    have hs := tG_s (Y := aY A) (rule := rule) hkf
    obtain ⟨τ1, a1, a2⟩ := trainOf_ok (show n < 6 by omega) hkf σ
    have hR1 := RI_lo h a2 rfl rfl rfl
    obtain ⟨τ2, b1, b2, b3⟩ := thumbed_ok hR1.2.1 h5 (ur_mem (show n < 6 by omega) hkf) hr
    have hR2 := RI_lo hR1 b2 rfl rfl rfl
    rw [m_sorts_L27, t_pow n (by omega)]
    simp only [Option.bind_some]
    rw [jlt (by omega) (by omega), if_pos (by omega), a1]
    simp only [Option.bind_some]
    rw [b1]
    simp only [Option.bind_some]
    rw [jeq (by omega) (by omega)]
    by_cases ct : thR (aY A) n (ur n k) rule = n
    · rw [if_pos ct] at hs ⊢
      obtain ⟨υ, c1, c2⟩ := ih (k + 1) f c (a + 1) τ2 (by omega) (by omega) hR2
      refine ⟨υ, ?_, c2⟩
      rw [zl_1, iN_add, iN_add, c1, hs, Nat.add_assoc]
    · rw [if_neg ct] at hs ⊢
      obtain ⟨υ, c1, c2⟩ := ih (k + 1) f c (a + 0) τ2 (by omega) (by omega) hR2
      refine ⟨υ, ?_, c2⟩
      rw [zl_1, zl_0, iN_add, iN_add, c1, hs, Nat.add_assoc]
def s_sorts (Y : Yd) (x r : Int32) : Int32 := if nin x 1 5 && nin r 0 2 then iN (tG Y x.toNatClampNeg r.toNatClampNeg 0) else -2
theorem r_sorts {σ : MS} {A : AS} {c : Nat} (h : RI σ A c) (x r : Int32) : ∃ τ, m_sorts σ x r = some (s_sorts (aY A) x r, τ) ∧ RI τ A c := by
  rw [m_sorts, isCount_ok]
  simp only [Option.bind_some, bI_0]
  unfold s_sorts
  cases hx : nin x 1 5 with
  | false => rw [if_pos rfl]; exact ⟨σ, rfl, h⟩
  | true =>
    rw [if_neg (by decide), m_in_i, show (0 : Int64).toInt = 0 from rfl, show (2 : Int64).toInt = 2 from rfl]
    simp only [Option.bind_some, bI_0]
    have e : decide ((0 : Int) ≤ r.toInt ∧ r.toInt ≤ 2) = nin r 0 2 := rfl
    rw [e]
    cases hr : nin r 0 2 with
    | false => rw [if_pos rfl]; exact ⟨σ, rfl, h⟩
    | true =>
      obtain ⟨n, h1, h5, rfl⟩ := nin_iN (a := 1) (b := 5) (by omega) hx
      obtain ⟨q, _, hq, rfl⟩ := nin_iN (a := 0) (b := 2) (by omega) hr
      have hfc := (fac_le n (by omega)).2
      obtain ⟨τ, a1, a2⟩ := sorts_L27 h5 hq (fac n) 0 N0 c 0 σ (by rw [N0_eq]; omega) (by omega) h
      have a1' : m_sorts_L27 N0 σ (iN n) (iN q) 0 0 = some (τ, iN (0 + tG (aY A) n q 0)) := a1
      rw [if_neg (by decide), a1', iN_nat (by omega), iN_nat (by omega), Nat.zero_add]
      exact ⟨τ, rfl, a2⟩
