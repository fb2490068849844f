/-! THE REFERENCE: need. LENGTHS as codes: five for each SIDING, SIDING 0 the highest -/
def vC (M c i : Nat) : Nat := c / 5 ^ (M - 1 - i) % 5 + 1
def YLn (Y : Yd) (v : Nat → Nat) : Yd := (yM Y, yL Y, v, yS Y, yT Y, yD Y)
theorem YL_VY {Y : Yd} (h : VY Y) {v : Nat → Nat} (hv : ∀ i, i < yM Y → 1 ≤ v i ∧ v i ≤ 5) : VY (YLn Y v) := by
  obtain ⟨a, b, c, d, e, f⟩ := h
  exact ⟨a, b, c, d, fun i hi => ⟨(e i hi).1, (hv i hi).1, (hv i hi).2, (e i hi).2.2.2⟩, f⟩
theorem vC_bd (M c i : Nat) : 1 ≤ vC M c i ∧ vC M c i ≤ 5 := by
  unfold vC
  have := Nat.mod_lt (c / 5 ^ (M - 1 - i)) (show 0 < 5 by omega)
  omega
def fitR (N : Nat → Nat) : Nat → Nat → Bool
  | 0, _ => true
  | k + 1, c => decide (c % 5 + 1 ≤ N k) && fitR N k (c / 5)
def nxR (N : Nat → Nat) : Nat → Nat → Option Nat
  | 0, _ => none
  | k + 1, c => if c % 5 + 1 < N k then some (c + 1) else (nxR N k (c / 5)).map (5 * ·)
theorem nxR_ok {N : Nat → Nat} (hN : ∀ i, 1 ≤ N i ∧ N i ≤ 5) : ∀ (k c : Nat), fitR N k c = true → c < 5 ^ k → (∀ e, nxR N k c = some e → c < e ∧ e < 5 ^ k ∧ fitR N k e = true ∧ ∀ d, c < d → d < e → fitR N k d = false) ∧ (nxR N k c = none → ∀ d, c < d → d < 5 ^ k → fitR N k d = false) := by
  intro k
  induction k with
  | zero =>
    intro c _ hc
    refine ⟨fun e h => (nomatch h), fun _ d h1 h2 => ?_⟩
    simp at hc h2
    omega
  | succ k ih =>
    intro c hf hc
    rw [fitR, Bool.and_eq_true, decide_eq_true_eq] at hf
    rw [Nat.pow_succ] at hc
    obtain ⟨i1, i2⟩ := ih (c / 5) hf.2 (by omega)
    have hNk := hN k
    rw [nxR]
    by_cases x : c % 5 + 1 < N k
    · rw [if_pos x]
      refine ⟨fun e he => ?_, fun h => (nomatch h)⟩
      cases he
      refine ⟨by omega, by rw [Nat.pow_succ]; omega, ?_, fun d h1 h2 => by omega⟩
      rw [fitR, Bool.and_eq_true, decide_eq_true_eq, show (c + 1) / 5 = c / 5 by omega]
      exact ⟨by omega, hf.2⟩
    · rw [if_neg x]
      have hlow : ∀ d, c < d → d / 5 = c / 5 → fitR N (k + 1) d = false := by
        intro d h1 h2
        rw [fitR, Bool.and_eq_false_iff]
        left
        rw [decide_eq_false_iff_not]
        omega
      refine ⟨fun e he => ?_, fun h d h1 h2 => ?_⟩
      · obtain ⟨q, hq, he⟩ := Option.map_eq_some_iff.mp he
        have he : 5 * q = e := he
        obtain ⟨j1, j2, j3, j4⟩ := i1 q hq
        refine ⟨by omega, by rw [Nat.pow_succ]; omega, ?_, fun d h1 h2 => ?_⟩
        · rw [← he, fitR, Bool.and_eq_true, decide_eq_true_eq, show 5 * q / 5 = q by omega]
          exact ⟨by omega, j3⟩
        · by_cases y : d / 5 = c / 5
          · exact hlow d h1 y
          · rw [fitR, j4 (d / 5) (by omega) (by omega), Bool.and_false]
      · have hn := Option.map_eq_none_iff.mp h
        rw [Nat.pow_succ] at h2
        by_cases y : d / 5 = c / 5
        · exact hlow d h1 y
        · rw [fitR, i2 hn (d / 5) (by omega) (by omega), Bool.and_false]
def smR (M : Nat) (v : Nat → Nat) : Nat → Nat
  | 0 => 0
  | k + 1 => smR M v k + v k
def smC (M c : Nat) : Nat := smR M (vC M c) M
theorem smR_le (M : Nat) {v : Nat → Nat} (hv : ∀ i, v i ≤ 5) : ∀ k, smR M v k ≤ 5 * k := by
  intro k
  induction k with
  | zero => exact Nat.le_refl _
  | succ k ih => have := hv k; simp only [smR]; omega
def okC (Y : Yd) (n : Nat) (W : List Nat) (c : Nat) : Bool := (rest (YLn Y (vC (yM Y) c)) n W (st n)).isSome
def bsC (Y : Yd) (n : Nat) (W : List Nat) : Nat → Option Nat
  | 0 => none
  | c + 1 => if fitR (yN Y) (yM Y) c && okC Y n W c then (match bsC Y n W c with
      | none => some c
      | some b => if smC (yM Y) c < smC (yM Y) b then some c else some b) else bsC Y n W c
theorem bsC_skip {Y : Yd} {n : Nat} {W : List Nat} : ∀ (d c : Nat), (∀ e, c ≤ e → e < c + d → fitR (yN Y) (yM Y) e = false) → bsC Y n W (c + d) = bsC Y n W c := by
  intro d
  induction d with
  | zero => intro c _; rfl
  | succ d ih =>
    intro c h
    rw [show c + (d + 1) = (c + d) + 1 by omega, bsC, h (c + d) (by omega) (by omega), Bool.false_and, if_neg (by decide)]
    exact ih c (fun e h1 h2 => h e h1 (by omega))
theorem vC_0 (M i : Nat) : vC M 0 i = 1 := by simp [vC]
theorem L60_ok {σ : MS} {Y : Yd} {v : Nat → Nat} (hY : YR σ (YLn Y v)) (x2 x3 : Int32) : ∀ (d i f : Nat), d < f → i + d = yM Y → m_findNeed_L60 f σ x2 x3 (iN (smR (yM Y) v i)) (iN i) = some (iN (smR (yM Y) v (yM Y))) := by
  have hM : yM Y ≤ 4 := hY.1.2.1
  have h4 : gI σ 4 = iN (yM Y) := hY.2.1
  intro d
  induction d with
  | zero =>
    intro i f hf hi
    obtain ⟨f, rfl⟩ : ∃ g, f = g + 1 := ⟨f - 1, by omega⟩
    rw [m_findNeed_L60, h4, jlt (by omega) (by omega), if_neg (by omega), show i = yM Y by omega]
  | succ d ih =>
    intro i f hf hi
    obtain ⟨f, rfl⟩ : ∃ g, f = g + 1 := ⟨f - 1, by omega⟩
    have h2 : av σ 2 i = iN (v i) := (hY.2.2.2.1 i (show i < yM Y by omega)).2.1
    rw [m_findNeed_L60, h4, jlt (by omega) (by omega), if_pos (by omega), if_pos (by rw [iN_inb (by omega)]; omega), gA_av (by omega), h2, zl_1, iN_add, iN_add]
    exact ih (i + 1) f (by omega) (by omega)
theorem L112_ok {Y : Yd} {v : Nat → Nat} (x2 x3 : Int32) : ∀ (d i f : Nat) (σ : MS), d < f → i + d = yM Y → YR σ (YLn Y v) → ∃ τ, m_findNeed_L112 f σ x2 x3 (iN i) = some τ ∧ FR [] [25] [] σ τ ∧ ∀ j, av τ 25 j = if i ≤ j ∧ j < yM Y then iN (v j) else av σ 25 j := by
  intro d
  induction d with
  | zero =>
    intro i f σ hf hi hY
    obtain ⟨f, rfl⟩ : ∃ g, f = g + 1 := ⟨f - 1, by omega⟩
    have hM : yM Y ≤ 4 := hY.1.2.1
    have h4 : gI σ 4 = iN (yM Y) := hY.2.1
    refine ⟨σ, ?_, FR_rf, fun j => by rw [if_neg (by omega)]⟩
    rw [m_findNeed_L112, h4, jlt (by omega) (by omega), if_neg (by omega)]
  | succ d ih =>
    intro i f σ hf hi hY
    obtain ⟨f, rfl⟩ : ∃ g, f = g + 1 := ⟨f - 1, by omega⟩
    have hM : yM Y ≤ 4 := hY.1.2.1
    have h4 : gI σ 4 = iN (yM Y) := hY.2.1
    have h2 : av σ 2 i = iN (v i) := (hY.2.2.2.1 i (show i < yM Y by omega)).2.1
    have fr : FR [] [25] [] σ (sA σ 25 (iN i) (iN (v i))) := FR_sA (by decide)
    obtain ⟨τ, t1, t2, t3⟩ := ih (i + 1) f (sA σ 25 (iN i) (iN (v i))) (by omega) (by omega) (YR_fr hY fr rfl)
    refine ⟨τ, ?_, FR_tr fr t2, fun j => ?_⟩
    · rw [m_findNeed_L112, h4, jlt (by omega) (by omega), if_pos (by omega), if_pos ⟨by rw [iN_inb (by omega)]; omega, by rw [iN_inb (by omega)]; omega⟩, gA_av (by omega), h2, zl_1, iN_add]
      exact t1
    · rw [t3, av_sA (by omega), if_pos rfl]
      by_cases e : j = i
      · rw [if_neg (by omega), if_pos e, if_pos (by omega), e]
      · rw [if_neg e]
        by_cases c : i + 1 ≤ j ∧ j < yM Y
        · rw [if_pos c, if_pos (by omega)]
        · rw [if_neg c, if_neg (by omega)]
/-- the odometer: the digits from k on are 1 already -/
theorem L149_ok {Y : Yd} (hY : VY Y) (x2 x3 : Int32) : ∀ (k f c : Nat) (σ : MS) (v : Nat → Nat), k < f → k ≤ yM Y → fitR (yN Y) k c = true → (∀ i, i < yM Y → av σ 2 i = iN (if i < k then vC k c i else 1) ∧ av σ 24 i = iN (yN Y i)) →
    ∃ τ i0, m_findNeed_L149 f σ x2 x3 (iN k + (-1)) = some (τ, i0) ∧ FR [] [2] [] σ τ ∧ ((nxR (yN Y) k c = none ∧ i0 < 0) ∨ ∃ e q, nxR (yN Y) k c = some e ∧ q < yM Y ∧ i0 = iN q ∧ ∀ i, i < yM Y → av (sA τ 2 (iN q) (av τ 2 q + 1)) 2 i = iN (if i < k then vC k e i else 1)) := by
  have hM := hY.2.1
  intro k
  induction k with
  | zero =>
    intro f c σ v hf hk hfit h
    obtain ⟨f, rfl⟩ : ∃ g, f = g + 1 := ⟨f - 1, by omega⟩
    refine ⟨σ, iN 0 + (-1), ?_, FR_rf, Or.inl ⟨rfl, dec_0⟩⟩
    rw [m_findNeed_L149, if_pos dec_0]
  | succ k ih =>
    intro f c σ v hf hk hfit h
    obtain ⟨f, rfl⟩ : ∃ g, f = g + 1 := ⟨f - 1, by omega⟩
    obtain ⟨h2, h24⟩ := h k (by omega)
    rw [fitR, Bool.and_eq_true, decide_eq_true_eq] at hfit
    have hN := (hY.2.2.2.2.1 k (by omega)).2
    have hvk : vC (k + 1) c k = c % 5 + 1 := by unfold vC; rw [show k + 1 - 1 - k = 0 by omega, Nat.pow_zero, Nat.div_one]
    rw [if_pos (by omega), hvk] at h2
    have hin : inb (iN k) 4 := by rw [iN_inb (by omega)]; omega
    have hb : m_findNeed_L149 (f + 1) σ x2 x3 (iN (k + 1) + (-1)) = if c % 5 + 1 = yN Y k then m_findNeed_L149 f (sA σ 2 (iN k) 1) x2 x3 (iN k + (-1)) else some (σ, iN k) := by
      have hm := Nat.mod_lt c (show 0 < 5 by omega)
      rw [m_findNeed_L149, iN_dec (show 1 ≤ k + 1 by omega), Nat.add_sub_cancel, if_neg (iN_nneg (by omega)), if_pos ⟨hin, hin⟩, gA_av (by omega), gA_av (by omega), h2, h24, jeq (by omega) (by omega), if_pos hin]
    have hvi : ∀ i, i < k → vC (k + 1) c i = vC k (c / 5) i := by
      intro i hi
      unfold vC
      rw [show k + 1 - 1 - i = (k - 1 - i) + 1 by omega, Nat.pow_succ, Nat.mul_comm, ← Nat.div_div_eq_div_mul]
    rw [hb, nxR]
    by_cases x : c % 5 + 1 = yN Y k
    · rw [if_pos x, if_neg (by omega)]
      have fr : FR [] [2] [] σ (sA σ 2 (iN k) 1) := FR_sA (by decide)
      obtain ⟨τ, i0, t1, t2, t3⟩ := ih f (c / 5) (sA σ 2 (iN k) 1) v (by omega) (by omega) hfit.2 (fun i hi => by
        refine ⟨?_, by rw [fr.2.1 24 (by decide)]; exact (h i hi).2⟩
        rw [av_sA (by omega), if_pos rfl]
        by_cases e : i = k
        · rw [if_pos e, if_neg (by omega)]; rfl
        · rw [if_neg e, (h i hi).1]
          by_cases y : i < k
          · rw [if_pos y, if_pos (by omega), hvi i y]
          · rw [if_neg y, if_neg (by omega)])
      refine ⟨τ, i0, t1, FR_tr fr t2, ?_⟩
      rcases t3 with ⟨t3, t4⟩ | ⟨e, q, t3, t4, t5, t6⟩
      · left; rw [t3]; exact ⟨rfl, t4⟩
      · right
        refine ⟨5 * e, q, by rw [t3]; rfl, t4, t5, fun i hi => ?_⟩
        rw [t6 i hi]
        by_cases y : i < k
        · rw [if_pos y, if_pos (by omega)]
          unfold vC
          rw [show k + 1 - 1 - i = (k - 1 - i) + 1 by omega, Nat.pow_succ, Nat.mul_comm (5 ^ (k - 1 - i)), ← Nat.div_div_eq_div_mul, show 5 * e / 5 = e by omega]
        · rw [if_neg y]
          by_cases y2 : i < k + 1
          · rw [if_pos y2]
            have : i = k := by omega
            subst this
            unfold vC
            rw [show i + 1 - 1 - i = 0 by omega, Nat.pow_zero, Nat.div_one, show 5 * e % 5 = 0 by omega]
          · rw [if_neg y2]
    · rw [if_neg x]
      rw [if_pos (by omega)]
      refine ⟨σ, iN k, rfl, FR_rf, Or.inr ⟨c + 1, k, rfl, by omega, rfl, fun i hi => ?_⟩⟩
      rw [av_sA (by omega), if_pos rfl, h2, zl_1, iN_add]
      by_cases e : i = k
      · rw [if_pos e, if_pos (by omega), e]
        unfold vC
        rw [show k + 1 - 1 - k = 0 by omega, Nat.pow_zero, Nat.div_one, show (c + 1) % 5 = c % 5 + 1 by omega]
      · rw [if_neg e, (h i hi).1]
        by_cases y : i < k + 1
        · rw [if_pos y, if_pos y]
          unfold vC
          rw [show k + 1 - 1 - i = (k - 1 - i) + 1 by omega, Nat.pow_succ, Nat.mul_comm, ← Nat.div_div_eq_div_mul, ← Nat.div_div_eq_div_mul, show (c + 1) / 5 = c / 5 by omega]
        · rw [if_neg y, if_neg y]
def b3 (M : Nat) : Option Nat → Int32
  | none => -6
  | some b => iN (smC M b)
theorem smC_le (M c : Nat) (hM : M ≤ 4) : smC M c ≤ 20 := by
  have := smR_le M (v := vC M c) (fun i => (vC_bd M c i).2) M
  unfold smC
  omega
theorem vC_YL {σ : MS} {Y : Yd} {v : Nat → Nat} (hY : YR σ Y) (hv : ∀ i, i < yM Y → av σ 2 i = iN (v i)) (hb : ∀ i, i < yM Y → 1 ≤ v i ∧ v i ≤ 5) : YR σ (YLn Y v) := by
  obtain ⟨a, b, c, d, e⟩ := hY
  exact ⟨YL_VY a hb, b, c, fun i hi => ⟨(d i hi).1, hv i hi, (d i hi).2.2⟩, e⟩
/-- all of the YARD but its LENGTHS -/
def YX (σ : MS) (Y : Yd) : Prop := VY Y ∧ gI σ 4 = iN (yM Y) ∧ gI σ 5 = iN (yT Y) ∧ (∀ i, i < yM Y → av σ 1 i = iN (yL Y i) ∧ av σ 3 i = iN (yS Y i)) ∧ ∀ k, k < yT Y → av σ 4 k = bI (yD Y k)
theorem YX_fr {ks as ls : List Nat} {σ τ : MS} {Y : Yd} (h : YX σ Y) (f : FR ks as ls σ τ) (h1 : (ks.contains 4 || ks.contains 5 || as.contains 1 || as.contains 3 || as.contains 4) = false) : YX τ Y := by
  simp only [Bool.or_eq_false_iff, List.contains_eq_mem, decide_eq_false_iff_not] at h1
  obtain ⟨⟨⟨⟨a1, a2⟩, a3⟩, a5⟩, a6⟩ := h1
  obtain ⟨v, y1, y2, y3, y4⟩ := h
  refine ⟨v, by rw [f.1 4 a1, y1], by rw [f.1 5 a2, y2], fun i hi => ?_, fun k hk => ?_⟩
  · rw [f.2.1 1 a3, f.2.1 3 a5]; exact y3 i hi
  · rw [f.2.1 4 a6]; exact y4 k hk
theorem YX_YR {σ : MS} {Y : Yd} {v : Nat → Nat} (h : YX σ Y) (hv : ∀ i, i < yM Y → av σ 2 i = iN (v i)) (hb : ∀ i, i < yM Y → 1 ≤ v i ∧ v i ≤ 5) : YR σ (YLn Y v) := by
  obtain ⟨a, b, c, d, e⟩ := h
  exact ⟨YL_VY a hb, b, c, fun i hi => ⟨(d i hi).1, hv i hi, (d i hi).2⟩, e⟩
theorem L49_ok {Y : Yd} {n : Nat} (h1n : 1 ≤ n) (hn : n ≤ 5) {W : List Nat} (hWn : W.length = n) : ∀ (d c f cc : Nat) (σ : MS), d + 1 < f → c + d = 5 ^ yM Y → 1 ≤ d → fitR (yN Y) (yM Y) c = true → YX σ Y → WR σ W → MKb σ cc → cc + d < 999000000 → (∀ i, i < yM Y → av σ 2 i = iN (vC (yM Y) c i) ∧ av σ 24 i = iN (yN Y i)) → (∀ b, bsC Y n W c = some b → ∀ i, i < yM Y → av σ 25 i = iN (vC (yM Y) b i)) →
    ∃ τ, m_findNeed_L49 f σ (iN n) (b3 (yM Y) (bsC Y n W c)) 1 = some (τ, b3 (yM Y) (bsC Y n W (5 ^ yM Y))) ∧ FR [16, 22, 23] [2, 10, 11, 12, 13, 14, 16, 25] [15] σ τ ∧ MKb τ (cc + d) ∧ ∀ b, bsC Y n W (5 ^ yM Y) = some b → ∀ i, i < yM Y → av τ 25 i = iN (vC (yM Y) b i) := by
  intro d
  induction d using Nat.strongRecOn with
  | ind d ih =>
    intro c f cc σ hf hcd hd1 hfit hX hW hMK hcc h h25
    obtain ⟨f, rfl⟩ : ∃ g, f = g + 1 := ⟨f - 1, by omega⟩
    have hVY := hX.1
    have hM := hVY.2.1
    have hY1 := YX_YR hX (fun i hi => (h i hi).1) (fun i _ => vC_bd (yM Y) c i)
    have h60 := L60_ok hY1 (iN n) (b3 (yM Y) (bsC Y n W c)) (yM Y) 0 N0 (by rw [N0_eq]; omega) (by omega)
    have h60' : m_findNeed_L60 N0 σ (iN n) (b3 (yM Y) (bsC Y n W c)) 0 0 = some (iN (smC (yM Y) c)) := h60
    have hsm := smC_le (yM Y) c hM
    have hN : ∀ i, i < yM Y → 1 ≤ yN Y i ∧ yN Y i ≤ 5 := fun i hi => ⟨(hVY.2.2.2.2.1 i hi).2.1, (hVY.2.2.2.2.1 i hi).2.2.1⟩
    -- what follows the search, out of a state whose best is that of c + 1
    have tail : ∀ (υ : MS), FR [16, 22, 23] [2, 10, 11, 12, 13, 14, 16, 25] [15] σ υ → YX υ Y → WR υ W → MKb υ (cc + 1) → (∀ i, i < yM Y → av υ 2 i = iN (vC (yM Y) c i) ∧ av υ 24 i = iN (yN Y i)) → (∀ b, bsC Y n W (c + 1) = some b → ∀ i, i < yM Y → av υ 25 i = iN (vC (yM Y) b i)) →
        ∃ τ, ((m_findNeed_L149 N0 υ (iN n) (b3 (yM Y) (bsC Y n W (c + 1))) ((gI υ 4) - 1)).bind fun q149 => if q149.2 < 0 then m_findNeed_J195 (m_findNeed_L49 f) q149.1 (iN n) (b3 (yM Y) (bsC Y n W (c + 1))) q149.2 0 else m_findNeed_J195 (m_findNeed_L49 f) q149.1 (iN n) (b3 (yM Y) (bsC Y n W (c + 1))) q149.2 1) = some (τ, b3 (yM Y) (bsC Y n W (5 ^ yM Y))) ∧ FR [16, 22, 23] [2, 10, 11, 12, 13, 14, 16, 25] [15] σ τ ∧ MKb τ (cc + d) ∧ ∀ b, bsC Y n W (5 ^ yM Y) = some b → ∀ i, i < yM Y → av τ 25 i = iN (vC (yM Y) b i) := by
      intro υ hFu hXu hWu hMu hu hu25
      obtain ⟨τ, i0, t1, t2, t3⟩ := L149_ok hVY (iN n) (b3 (yM Y) (bsC Y n W (c + 1))) (yM Y) N0 c υ (fun _ => 0) (by rw [N0_eq]; omega) (Nat.le_refl _) hfit (fun i hi => by rw [if_pos hi]; exact hu i hi)
      have t1' : m_findNeed_L149 N0 υ (iN n) (b3 (yM Y) (bsC Y n W (c + 1))) ((gI υ 4) - 1) = some (τ, i0) := by
        rw [hXu.2.1, Int32.sub_eq_add_neg]; exact t1
      rw [t1', Option.bind_some]
      -- the odometer's step knows LENGTHS between 1 and 5; outside the YARD any will do
      have hnx := nxR_ok (N := fun i => if i < yM Y then yN Y i else 1) (fun i => by
        by_cases y : i < yM Y
        · simp only [if_pos y]; exact hN i y
        · simp only [if_neg y]; omega)
      have hext : ∀ k e, k ≤ yM Y → fitR (fun i => if i < yM Y then yN Y i else 1) k e = fitR (yN Y) k e ∧ nxR (fun i => if i < yM Y then yN Y i else 1) k e = nxR (yN Y) k e := by
        intro k
        induction k with
        | zero => intro e _; exact ⟨rfl, rfl⟩
        | succ k ihk =>
          intro e hk
          obtain ⟨j1, j2⟩ := ihk (e / 5) (by omega)
          simp only [fitR, nxR, if_pos (show k < yM Y by omega), j1, j2, and_self]
      obtain ⟨n1, n2⟩ := hnx (yM Y) c (by rw [(hext _ _ (Nat.le_refl _)).1]; exact hfit) (by omega)
      rw [(hext _ _ (Nat.le_refl _)).2] at n1 n2
      rcases t3 with ⟨t3, t4⟩ | ⟨e, q, t3, t4, t5, t6⟩
      · have hno := n2 t3
        have hskip := bsC_skip (Y := Y) (n := n) (W := W) (5 ^ yM Y - (c + 1)) (c + 1) (fun g g1 g2 => by
          have := hno g (by omega) (by omega)
          rwa [(hext _ _ (Nat.le_refl _)).1] at this)
        rw [show c + 1 + (5 ^ yM Y - (c + 1)) = 5 ^ yM Y by omega] at hskip
        refine ⟨τ, ?_, FR_tr hFu (FR_mo t2 rfl rfl rfl), MKb_le (MKb_fr hMu t2 rfl) (by omega), fun b hb i hi => ?_⟩
        · obtain ⟨f2, rfl⟩ : ∃ g, f = g + 1 := ⟨f - 1, by omega⟩
          rw [if_pos t4, m_findNeed_J195, if_pos rfl, m_findNeed_L49, if_pos rfl, hskip]
        · rw [t2.2.1 25 (by decide)]
          rw [hskip] at hb
          exact hu25 b hb i hi
      · obtain ⟨m1, m2, m3, m4⟩ := n1 e t3
        rw [(hext _ _ (Nat.le_refl _)).1] at m3
        have hskip := bsC_skip (Y := Y) (n := n) (W := W) (e - (c + 1)) (c + 1) (fun g g1 g2 => by
          have := m4 g (by omega) (by omega)
          rwa [(hext _ _ (Nat.le_refl _)).1] at this)
        rw [show c + 1 + (e - (c + 1)) = e by omega] at hskip
        have fr2 : FR [] [2] [] τ (sA τ 2 (iN q) (av τ 2 q + 1)) := FR_sA (by decide)
        obtain ⟨ω, w1, w2, w3, w4⟩ := ih (5 ^ yM Y - e) (by omega) e f (cc + 1) (sA τ 2 (iN q) (av τ 2 q + 1)) (by omega) (by omega) (by omega) m3 (YX_fr (YX_fr hXu t2 rfl) fr2 rfl) (WR_fr (WR_fr hWu t2 rfl) fr2 rfl) (MKb_fr (MKb_fr hMu t2 rfl) fr2 rfl) (by omega) (fun i hi => by
          refine ⟨?_, ?_⟩
          · rw [t6 i hi, if_pos hi]
          · rw [fr2.2.1 24 (by decide), t2.2.1 24 (by decide)]; exact (hu i hi).2) (fun b hb i hi => by
          rw [hskip] at hb
          rw [fr2.2.1 25 (by decide), t2.2.1 25 (by decide)]
          exact hu25 b hb i hi)
        refine ⟨ω, ?_, FR_tr hFu (FR_tr (FR_mo t2 rfl rfl rfl) (FR_tr (FR_mo fr2 rfl rfl rfl) w2)), MKb_le w3 (by omega), w4⟩
        have hin : inb (iN q) 4 := by rw [iN_inb (by omega)]; omega
        rw [t5, if_neg (iN_nneg (by omega)), m_findNeed_J195, if_neg (by decide), if_pos ⟨hin, hin⟩, gA_av (by omega), ← hskip]
        exact w1
    have hJ : ((bsC Y n W c = none) ∨ ∃ b, bsC Y n W c = some b ∧ smC (yM Y) c < smC (yM Y) b) → ∃ τ, m_findNeed_J97 (m_findNeed_L49 f) σ (iN n) (b3 (yM Y) (bsC Y n W c)) (iN (smC (yM Y) c)) = some (τ, b3 (yM Y) (bsC Y n W (5 ^ yM Y))) ∧ FR [16, 22, 23] [2, 10, 11, 12, 13, 14, 16, 25] [15] σ τ ∧ MKb τ (cc + d) ∧ ∀ b, bsC Y n W (5 ^ yM Y) = some b → ∀ i, i < yM Y → av τ 25 i = iN (vC (yM Y) b i) := by
      intro hbest
      obtain ⟨mk, hmk, hMK2⟩ := hMK
      obtain ⟨r, υ, s1, s2, s3, s4, s5⟩ := search_ok hY1 hn (by omega) hMK2 hW (VP_st (YLn Y (vC (yM Y) c)) n)
      rw [key_st, z00] at s1
      have hr := s4 (by omega) hWn
      have hXu := YX_fr hX s2 rfl
      have hWu := WR_fr hW s2 rfl
      have hu : ∀ i, i < yM Y → av υ 2 i = iN (vC (yM Y) c i) ∧ av υ 24 i = iN (yN Y i) := fun i hi => by rw [s2.2.1 2 (by decide), s2.2.1 24 (by decide)]; exact h i hi
      rw [m_findNeed_J97, s1]
      simp only [Option.bind_some]
      cases hre : rest (YLn Y (vC (yM Y) c)) n W (st n) with
      | none =>
        have hok : okC Y n W c = false := by unfold okC; rw [hre]; rfl
        have hbs : bsC Y n W (c + 1) = bsC Y n W c := by rw [bsC, hok, Bool.and_false, if_neg (by decide)]
        rw [hr, hre, if_pos (by decide)]
        have := tail υ (FR_mo s2 rfl rfl rfl) hXu hWu ⟨mk + 1, by omega, s3⟩ hu (fun b hb i hi => by
          rw [hbs] at hb
          rw [s2.2.1 25 (by decide)]; exact h25 b hb i hi)
        rw [hbs] at this
        exact this
      | some q =>
        have hq := rest_le hY1.1 hn (VP_st _ n) hre
        have hok : okC Y n W c = true := by unfold okC; rw [hre]; rfl
        have hbs : bsC Y n W (c + 1) = some c := by
          rw [bsC, hok, hfit]
          rcases hbest with hb | ⟨b, hb, hlt⟩
          · rw [hb]; rfl
          · rw [hb]
            simp only [Bool.and_self, if_true]
            rw [if_pos hlt]
        have hne : ¬ rI (some q) < 0 := iN_nneg (by omega)
        rw [hr, hre, if_neg hne]
        obtain ⟨ω, w1, w2, w3⟩ := L112_ok (iN n) (iN (smC (yM Y) c)) (yM Y) 0 N0 υ (by rw [N0_eq]; omega) (by omega) (YX_YR hXu (fun i hi => (hu i hi).1) (fun i _ => vC_bd (yM Y) c i))
        rw [z00] at w1
        rw [w1]
        simp only [Option.bind_some]
        have := tail ω (FR_tr (FR_mo s2 rfl rfl rfl) (FR_mo w2 rfl rfl rfl)) (YX_fr hXu w2 rfl) (WR_fr hWu w2 rfl) (MKb_fr ⟨mk + 1, by omega, s3⟩ w2 rfl) (fun i hi => by rw [w2.2.1 2 (by decide), w2.2.1 24 (by decide)]; exact hu i hi) (fun b hb i hi => by
          rw [hbs] at hb
          cases hb
          rw [w3, if_pos ⟨Nat.zero_le _, hi⟩])
        rw [hbs] at this
        exact this
    rw [m_findNeed_L49, if_neg (by decide), h60']
    simp only [Option.bind_some]
    cases hb : bsC Y n W c with
    | none =>
      rw [if_pos (show b3 (yM Y) none < 0 from (show (-6 : Int32) < 0 by decide)), ← hb]
      exact hJ (Or.inl hb)
    | some b =>
      have hsb := smC_le (yM Y) b hM
      rw [if_neg (show ¬ b3 (yM Y) (some b) < 0 from iN_nneg (by omega)), show b3 (yM Y) (some b) = iN (smC (yM Y) b) from rfl, jlt (by omega) (by omega)]
      by_cases x : smC (yM Y) c < smC (yM Y) b
      · rw [if_pos x]
        have := hJ (Or.inr ⟨b, hb, x⟩)
        rw [hb] at this
        exact this
      · rw [if_neg x]
        have hbs : bsC Y n W (c + 1) = some b := by
          rw [bsC, hb]
          simp only [if_neg x]
          split <;> rfl
        have := tail σ FR_rf hX hW (MKb_le hMK (by omega)) h (fun b' hb' i hi => by
          rw [hbs] at hb'
          cases hb'
          exact h25 b hb i hi)
        rw [hbs] at this
        exact this
theorem L13_ok : ∀ (d i f : Nat) (σ : MS) (x : Int32), d < f → i + d = 4 → ∃ τ, m_findNeed_L13 f σ x (iN i) = some τ ∧ FR [] [2, 24] [] σ τ ∧ ∀ j, (av τ 2 j = if i ≤ j ∧ j < 4 then iN 1 else av σ 2 j) ∧ (av τ 24 j = if i ≤ j ∧ j < 4 then av σ 2 j else av σ 24 j) := by
  intro d
  induction d with
  | zero =>
    intro i f σ x hf hi
    obtain ⟨f, rfl⟩ : ∃ g, f = g + 1 := ⟨f - 1, by omega⟩
    refine ⟨σ, ?_, FR_rf, fun j => by rw [if_neg (by omega), if_neg (by omega)]; exact ⟨rfl, rfl⟩⟩
    rw [m_findNeed_L13, zl_4, jlt (by omega) (by omega), if_neg (by omega)]
  | succ d ih =>
    intro i f σ x hf hi
    obtain ⟨f, rfl⟩ : ∃ g, f = g + 1 := ⟨f - 1, by omega⟩
    have hin : inb (iN i) 4 := by rw [iN_inb (by omega)]; omega
    obtain ⟨τ, t1, t2, t3⟩ := ih (i + 1) f (sA (sA σ 24 (iN i) (av σ 2 i)) 2 (iN i) 1) x (by omega) (by omega)
    refine ⟨τ, ?_, FR_tr (FR_tr (FR_sA (by decide)) (FR_sA (by decide))) t2, fun j => ?_⟩
    · rw [m_findNeed_L13, zl_4, jlt (by omega) (by omega), if_pos (by omega), if_pos ⟨hin, hin, hin⟩, gA_av (by omega), zl_1, iN_add]
      exact t1
    · obtain ⟨a, b⟩ := t3 j
      rw [a, b]
      simp (disch := omega) only [gA_av, gL_wv, gI_sI, gI_sA, gI_sL, av_sA, av_sI, av_sL, wv_sL, wv_sI, wv_sA, Nat.reduceEqDiff, if_true, if_false]
      by_cases e : j = i
      · subst e
        simp only [if_neg (show ¬ (j + 1 ≤ j ∧ j < 4) by omega), if_pos (show j ≤ j ∧ j < 4 by omega), eq_self, if_true]
        exact ⟨rfl, trivial⟩
      · by_cases c : i + 1 ≤ j ∧ j < 4
        · simp only [if_pos c, if_neg e, if_pos (show i ≤ j ∧ j < 4 by omega), and_self]
        · simp only [if_neg c, if_neg e, if_neg (show ¬ (i ≤ j ∧ j < 4) by omega), and_self]
theorem L219_ok : ∀ (d i f : Nat) (σ : MS) (x : Int32), d < f → i + d = 4 → ∃ τ, m_findNeed_L219 f σ x (iN i) = some τ ∧ FR [] [2] [] σ τ ∧ ∀ j, av τ 2 j = if i ≤ j ∧ j < 4 then av σ 24 j else av σ 2 j := by
  intro d
  induction d with
  | zero =>
    intro i f σ x hf hi
    obtain ⟨f, rfl⟩ : ∃ g, f = g + 1 := ⟨f - 1, by omega⟩
    refine ⟨σ, ?_, FR_rf, fun j => by rw [if_neg (by omega)]⟩
    rw [m_findNeed_L219, zl_4, jlt (by omega) (by omega), if_neg (by omega)]
  | succ d ih =>
    intro i f σ x hf hi
    obtain ⟨f, rfl⟩ : ∃ g, f = g + 1 := ⟨f - 1, by omega⟩
    have hin : inb (iN i) 4 := by rw [iN_inb (by omega)]; omega
    obtain ⟨τ, t1, t2, t3⟩ := ih (i + 1) f (sA σ 2 (iN i) (av σ 24 i)) x (by omega) (by omega)
    refine ⟨τ, ?_, FR_tr (FR_sA (by decide)) t2, fun j => ?_⟩
    · rw [m_findNeed_L219, zl_4, jlt (by omega) (by omega), if_pos (by omega), if_pos ⟨hin, hin⟩, gA_av (by omega), zl_1, iN_add]
      exact t1
    · rw [t3]
      simp (disch := omega) only [gA_av, gL_wv, gI_sI, gI_sA, gI_sL, av_sA, av_sI, av_sL, wv_sL, wv_sI, wv_sA, Nat.reduceEqDiff, if_true, if_false]
      by_cases e : j = i
      · rw [if_neg (by omega), if_pos e, if_pos (by omega), e]
      · rw [if_neg e]
        by_cases c : i + 1 ≤ j ∧ j < 4
        · rw [if_pos c, if_pos (by omega)]
        · rw [if_neg c, if_neg (by omega)]
theorem fit_0 {N : Nat → Nat} : ∀ k, (∀ i, i < k → 1 ≤ N i) → fitR N k 0 = true := by
  intro k
  induction k with
  | zero => intro _; rfl
  | succ k ih =>
    intro h
    rw [fitR, ih (fun i hi => h i (by omega)), Bool.and_true, decide_eq_true_eq]
    exact h k (by omega)
theorem findNeed_ok {σ : MS} {A : AS} {c : Nat} (hc : c < 990000000) (h : RI σ A c) {n : Nat} (h1 : 1 ≤ n) (h5 : n ≤ 5) {t : List Nat} (ht : t ∈ pm n) : ∃ τ, m_findNeed σ (iN (num t)) (iN n) = some (b3 (yM (aY A)) (bsC (aY A) n (rel t (up n)) (5 ^ yM (aY A))), τ) ∧ RI τ A (c + 1000) ∧ ∀ b, bsC (aY A) n (rel t (up n)) (5 ^ yM (aY A)) = some b → ∀ i, i < yM (aY A) → av τ 25 i = iN (vC (yM (aY A)) b i) := by
  have hY := h.2.1
  have hM := hY.1.2.1
  have hN : ∀ i, i < yM (aY A) → 1 ≤ yN (aY A) i := fun i hi => (hY.1.2.2.2.2.1 i hi).2.1
  have hp5 : 1 ≤ 5 ^ yM (aY A) := Nat.pow_pos (by omega)
  have hp6 : 5 ^ yM (aY A) ≤ 5 ^ 4 := Nat.pow_le_pow_right (by omega) hM
  obtain ⟨τ1, a1, a2, a3⟩ := want_ok (show n < 6 by omega) ht (up_mem n) σ
  have hR1 := RI_lo h a3 rfl rfl rfl
  obtain ⟨τ2, b1, b2, b3'⟩ := L13_ok 4 0 N0 τ1 (iN n) (by rw [N0_eq]; omega) (by omega)
  have hX1 : YX τ1 (aY A) := ⟨hY.1, hR1.2.1.2.1, hR1.2.1.2.2.1, fun i hi => ⟨(hR1.2.1.2.2.2.1 i hi).1, (hR1.2.1.2.2.2.1 i hi).2.2⟩, hR1.2.1.2.2.2.2⟩
  obtain ⟨τ3, c1, c2, c3, c4⟩ := L49_ok h1 h5 (pm_len (rel_mem ht (up_mem n))) (5 ^ yM (aY A)) 0 N0 c τ2 (by rw [N0_eq]; omega) (by omega) hp5 (fit_0 _ hN) (YX_fr hX1 b2 rfl) (WR_fr a2 b2 rfl) (MKb_fr hR1.2.2.2.2.2.2.2 b2 rfl) (by omega) (fun i hi => by
    rw [(b3' i).1, (b3' i).2, if_pos (by omega), if_pos (by omega), vC_0]
    exact ⟨rfl, (hR1.2.1.2.2.2.1 i hi).2.1⟩) (fun b hb => by cases hb)
  obtain ⟨τ4, d1, d2, d3⟩ := L219_ok 4 0 N0 τ3 (b3 (yM (aY A)) (bsC (aY A) n (rel t (up n)) (5 ^ yM (aY A)))) (by rw [N0_eq]; omega) (by omega)
  have f14 : FR [16, 22, 23] [2, 10, 11, 12, 13, 14, 16, 24, 25] [15] τ1 τ4 := FR_tr (FR_mo b2 rfl rfl rfl) (FR_tr (FR_mo c2 rfl rfl rfl) (FR_mo d2 rfl rfl rfl))
  have hb2 : ∀ i, i < yM (aY A) → av τ4 2 i = iN (yN (aY A) i) := by
    intro i hi
    rw [d3, if_pos (by omega), c2.2.1 24 (by decide), (b3' i).2, if_pos (by omega)]
    exact (hR1.2.1.2.2.2.1 i hi).2.1
  have hX4 := YX_fr hX1 f14 rfl
  have hY4 : YR τ4 (aY A) := ⟨hY.1, hX4.2.1, hX4.2.2.1, fun i hi => ⟨(hX4.2.2.2.1 i hi).1, hb2 i hi, (hX4.2.2.2.1 i hi).2⟩, hX4.2.2.2.2⟩
  refine ⟨τ4, ?_, ⟨h.1, hY4, ?_, ?_, ?_, ?_, FA_fr hR1.2.2.2.2.2.2.1 f14 rfl, MKb_le (MKb_fr c3 d2 rfl) (by omega)⟩, fun b hb i hi => by rw [d2.2.1 25 (by decide)]; exact c4 b hb i hi⟩
  · rw [z00] at b1 d1
    have c1' : m_findNeed_L49 N0 τ2 (iN n) (-6) 1 = some (τ3, b3 (yM (aY A)) (bsC (aY A) n (rel t (up n)) (5 ^ yM (aY A)))) := c1
    rw [m_findNeed, sortedOf_ok (by omega)]
    simp only [Option.bind_some]
    rw [a1]
    simp only [Option.bind_some]
    rw [b1]
    simp only [Option.bind_some]
    rw [c1']
    simp only [Option.bind_some]
    rw [d1]
    rfl
  · obtain ⟨o1, o2, o3, o4⟩ := hR1.2.2.1
    exact ⟨by rw [f14.1 10 (by decide)]; exact o1, by rw [f14.1 11 (by decide)]; exact o2, fun i hi => by rw [f14.2.1 5 (by decide), f14.2.1 6 (by decide), f14.2.1 7 (by decide)]; exact o3 i hi, fun k hk => by rw [f14.2.1 8 (by decide)]; exact o4 k hk⟩
  · exact ⟨by rw [f14.1 13 (by decide)]; exact hR1.2.2.2.1.1, fun k hk => by rw [f14.2.1 9 (by decide)]; exact hR1.2.2.2.1.2 k hk⟩
  · obtain ⟨g1, g2⟩ := hR1.2.2.2.2.1
    refine ⟨by rw [f14.1 37 (by decide)]; exact g1, fun h1 => ?_⟩
    obtain ⟨p, q, r, t⟩ := g2 h1
    exact ⟨by rw [f14.1 35 (by decide)]; exact p, by rw [f14.1 36 (by decide)]; exact q, by rw [f14.1 39 (by decide)]; exact r, fun k hk => by rw [f14.2.1 27 (by decide)]; exact t k hk⟩
  · intro i hi
    obtain ⟨p, q⟩ := hR1.2.2.2.2.2.1 i hi
    exact ⟨by rw [f14.2.1 29 (by decide)]; exact p, fun im him => KR_eq (q im him) (f14.2.1 28 (by decide))⟩
def s_need (Y : Yd) (x i : Int32) : Int32 := if i ≠ -1 ∧ sdx Y i = false then -1 else match pr1 x with
  | none => -2
  | some (n, t) => match bsC Y n (rel t (up n)) (5 ^ yM Y) with
    | none => -5
    | some b => if i = -1 then iN (smC (yM Y) b) else iN (vC (yM Y) b i.toNatClampNeg)
theorem r_need {σ : MS} {A : AS} {c : Nat} (hc : c < 990000000) (h : RI σ A c) (x i : Int32) : ∃ τ, m_need σ x i = some (s_need (aY A) x i, τ) ∧ RI τ A (c + 1000) := by
  have hM := h.1.2.1.2.1
  have hJ : ¬ (i ≠ -1 ∧ sdx (aY A) i = false) → ∃ τ, m_need_J15 σ x i = some (s_need (aY A) x i, τ) ∧ RI τ A (c + 1000) := by
    intro hi
    unfold s_need
    rw [if_neg hi, m_need_J15, m_wag]
    simp only [Option.bind_some]
    cases hp : pr1 x with
    | none =>
      rw [pr1_none hp, if_pos z00]
      exact ⟨σ, rfl, RI_le h (by omega)⟩
    | some p =>
      obtain ⟨n, t⟩ := p
      obtain ⟨h1, h5, ht, rfl, hx⟩ := pr1_some hp
      rw [hx, if_neg (by rw [zl_0, iN_eq (by omega) (by omega)]; omega)]
      obtain ⟨τ, a1, a2, a3⟩ := findNeed_ok hc h h1 h5 ht
      rw [a1]
      simp only [Option.bind_some]
      cases hb : bsC (aY A) n (rel t (up n)) (5 ^ yM (aY A)) with
      | none => rw [if_pos (show b3 (yM (aY A)) none < 0 from (show (-6 : Int32) < 0 by decide))]; exact ⟨τ, rfl, a2⟩
      | some b =>
        have hsb := smC_le (yM (aY A)) b hM
        rw [if_neg (show ¬ b3 (yM (aY A)) (some b) < 0 from iN_nneg (by omega))]
        simp only
        by_cases ci : i = -1
        · rw [if_pos ci, if_pos ci]; exact ⟨τ, rfl, a2⟩
        · rw [if_neg ci, if_neg ci]
          have hs : sdx (aY A) i = true := by cases hh : sdx (aY A) i with | true => rfl | false => exact absurd ⟨ci, hh⟩ hi
          obtain ⟨k, hk, rfl, hk2⟩ := sdx_iN hM hs
          rw [if_pos (by rw [iN_inb (by omega)]; omega), gA_av (by omega), a3 b hb k hk, hk2]
          exact ⟨τ, rfl, a2⟩
  rw [m_need]
  by_cases ci : i = -1
  · rw [if_pos ci]
    exact hJ (fun h9 => h9.1 ci)
  · rw [if_neg ci, isSiding_ok h.2.1]
    simp only [Option.bind_some, bI_0]
    cases hs : sdx (aY A) i with
    | true =>
      rw [if_neg (by decide)]
      exact hJ (fun h9 => by rw [hs] at h9; exact absurd h9.2 (by decide))
    | false =>
      rw [if_pos rfl]
      refine ⟨σ, ?_, RI_le h (by omega)⟩
      unfold s_need
      rw [if_pos ⟨ci, hs⟩]
