/-! THE REFERENCE: first, rest, next, moves, move, back, play, stand, told, say, wipe -/
theorem frs_none {Y : Yd} (hY : VY Y) {n : Nat} (hn : n ≤ 5) {W : List Nat} : ∀ (k : Nat) (P : Ps), VP Y n P → (∀ r, rest Y n W P = some r → r ≤ k) → frs Y n W k P = none := by
  intro k
  induction k with
  | zero =>
    intro P hv h
    unfold frs nxt
    cases hr : rest Y n W P with
    | none => rfl
    | some r =>
      have := h r hr
      obtain rfl : r = 0 := by omega
      rfl
  | succ k ih =>
    intro P hv h
    unfold frs
    cases hr : rest Y n W P with
    | none => unfold nxt; rw [hr]
    | some r =>
      cases r with
      | zero => unfold nxt; rw [hr]
      | succ r =>
        obtain ⟨m, h1, h2, h3⟩ := nxt_some hY hn hv hr
        rw [h1]
        have hm := (mem_oks hY).mp h2
        refine ih _ (VP_mv hY hv hm.1 hm.2) (fun q hq => ?_)
        rw [h3] at hq
        cases hq
        have := h (r + 1) hr
        omega
theorem first_L67 {Y : Yd} {n : Nat} (h1n : 1 ≤ n) (hn : n ≤ 5) {W : List Nat} (hWn : W.length = n) {i r : Nat} (hir : i < r) (hr20 : r ≤ 20) : ∀ (d k f c : Nat) (σ : MS) (P : Ps) (x7 : Int32), d + 1 < f → k + d = i → c + 41 * (d + 1) < 999990000 → YR σ Y → WR σ W → VP Y n P → rest Y n W P = some (r - k) → MKb σ c →
    ∃ τ, m_first_L67 f σ (iN i) (iN n) (iN r) (iN (key (yM Y) P)) x7 (iN k) = some (τ, nI6 (frs Y n W d P)) ∧ FR [16, 22, 23] [10, 11, 12, 13, 14, 16] [15] σ τ ∧ MKb τ (c + 41 * (d + 1)) := by
  intro d
  induction d with
  | zero =>
    intro k f c σ P x7 hf hk hc hY hW hv hr hMK
    obtain ⟨f, rfl⟩ : ∃ g, f = g + 2 := ⟨f - 2, by omega⟩
    obtain ⟨q, hq⟩ : ∃ q, r - k = q + 1 := ⟨r - k - 1, by omega⟩
    rw [hq] at hr
    obtain ⟨m, g1, g2, g3⟩ := nxt_some hY.1 hn hv hr
    obtain ⟨τ1, a1, a2, a3⟩ := nextOf_ok hY h1n hn hW hWn hv hr (show c < 999990000 by omega) hMK
    obtain ⟨τ2, b1, b2⟩ := moved_ok (YR_fr hY a1 rfl) hn hv g2
    refine ⟨τ2, ?_, FR_tr a1 (FR_mo b2 rfl rfl rfl), MKb_le (MKb_fr a2 b2 rfl) (by omega)⟩
    rw [m_first_L67, jlt (by omega) (by omega), if_neg (by omega), iN_sub (by omega), hq, a3]
    simp only [Option.bind_some]
    rw [g1, show nI6 (some m) = iN m from rfl, b1]
    simp only [Option.bind_some]
    rw [m_first_L67, zl_1, iN_add, jlt (by omega) (by omega), if_pos (by omega)]
    unfold frs
    rw [g1]
    rfl
  | succ d ih =>
    intro k f c σ P x7 hf hk hc hY hW hv hr hMK
    obtain ⟨f, rfl⟩ : ∃ g, f = g + 1 := ⟨f - 1, by omega⟩
    obtain ⟨q, hq⟩ : ∃ q, r - k = q + 1 := ⟨r - k - 1, by omega⟩
    rw [hq] at hr
    obtain ⟨m, g1, g2, g3⟩ := nxt_some hY.1 hn hv hr
    have hm := (mem_oks hY.1).mp g2
    obtain ⟨τ1, a1, a2, a3⟩ := nextOf_ok hY h1n hn hW hWn hv hr (show c < 999990000 by omega) hMK
    obtain ⟨τ2, b1, b2⟩ := moved_ok (YR_fr hY a1 rfl) hn hv g2
    obtain ⟨τ3, c1, c2, c3⟩ := ih (k + 1) f (c + 41) τ2 (mv P m) (iN m) (by omega) (by omega) (by omega) (YR_fr (YR_fr hY a1 rfl) b2 rfl) (WR_fr (WR_fr hW a1 rfl) b2 rfl) (VP_mv hY.1 hv hm.1 hm.2) (by rw [g3]; congr 1; omega) (MKb_fr a2 b2 rfl)
    refine ⟨τ3, ?_, FR_tr a1 (FR_tr (FR_mo b2 rfl rfl rfl) c2), MKb_le c3 (by omega)⟩
    rw [m_first_L67, jlt (by omega) (by omega), if_neg (by omega), iN_sub (by omega), hq, a3]
    simp only [Option.bind_some]
    rw [g1, show nI6 (some m) = iN m from rfl, b1]
    simp only [Option.bind_some]
    rw [zl_1, iN_add, c1]
    congr 2
    conv => rhs; unfold frs
    rw [g1]
def rD : Option Nat → Int
  | none => -7
  | some r => (r : Int) - 1
theorem rI_dec (o : Option Nat) (h : ∀ r, o = some r → r ≤ 20) : (rI o - 1).toInt = rD o := by
  cases o with
  | none => rfl
  | some r =>
    have := h r rfl
    cases r with
    | zero => rfl
    | succ r =>
      show (iN (r + 1) - 1).toInt = _
      rw [zl_1, iN_sub (by omega), Nat.add_sub_cancel, iN_toInt (by omega)]
      show (r : Int) = ((r + 1 : Nat) : Int) - 1
      omega
theorem rest_le {Y : Yd} (hY : VY Y) {n : Nat} (hn : n ≤ 5) {W : List Nat} {P : Ps} (hv : VP Y n P) {r : Nat} (h : rest Y n W P = some r) : r ≤ 20 := by
  obtain ⟨T, w1, w2, w3⟩ := rs_walk _ _ _ h
  have := wk_lv hY _ _ _ hv w1
  have := lv_le hY hn (wk_VP hY _ _ _ hv w1)
  omega
theorem r_first {σ : MS} {A : AS} {c : Nat} (hc : c < 999000000) (h : RI σ A c) (x y i : Int32) : ∃ τ, m_first σ x y i = some (s_first (aY A) x y i, τ) ∧ RI τ A (c + 1000) := by
  rw [m_first, m_two]
  simp only [Option.bind_some, bI_0]
  unfold s_first
  cases hp : pr2 x y with
  | none =>
    rw [pr2_none hp, if_pos rfl]
    exact ⟨σ, rfl, RI_le h (by omega)⟩
  | some p =>
    obtain ⟨n, t, o⟩ := p
    obtain ⟨h1, h5, ht, ho, rfl, rfl, hx, hy, hd⟩ := pr2_some hp
    rw [hd, if_neg (by decide), m_wag, hx]
    have hY := h.2.1
    obtain ⟨τ, a1, a2, a3, a4, a5⟩ := found_ok hY h1 h5 (by omega) h.2.2.2.2.2.2.2 h.2.2.2.2.2.2.1 ht ho
    have hr := rel_mem ht ho
    have hrl := pm_len hr
    have hrk := rk_lt (by omega) hr
    have hfc := (fac_le n (by omega)).2
    obtain ⟨s, hS⟩ := a5.1
    have hlf : lf (aY A) n (rel t o) = rest (aY A) n (rel t o) (st n) := lf_rest hY.1 h5 hS hrl
    have hle : ∀ r, rest (aY A) n (rel t o) (st n) = some r → r ≤ 20 := fun r hr => rest_le hY.1 h5 (VP_st _ n) hr
    simp only [Option.bind_some]
    rw [a1]
    simp only [Option.bind_some]
    rw [if_pos (by rw [iN_inb (by omega)]; omega), gA_av (by omega), (a5.2 _ hr).1, hlf, m_in_i, Int32.toInt_toInt64, rI_dec _ hle, show (0 : Int64).toInt = 0 from rfl]
    simp only [Option.bind_some, bI_0, decide_eq_false_iff_not]
    have hRI := RI_ok h a2 rfl a4 a3
    cases hre : rest (aY A) n (rel t o) (st n) with
    | none =>
      rw [if_pos (show ¬ (0 ≤ i.toInt ∧ i.toInt ≤ rD none) from fun h9 => by have : i.toInt ≤ -7 := h9.2; omega)]
      refine ⟨τ, ?_, RI_le hRI (by omega)⟩
      by_cases ci : 0 ≤ i.toInt
      · rw [if_pos ci, frs_none hY.1 h5 _ _ (VP_st _ n) (fun r hr => by rw [hre] at hr; cases hr)]; rfl
      · rw [if_neg ci]
    | some r =>
      have hr20 := hle r hre
      by_cases ci : 0 ≤ i.toInt ∧ i.toInt ≤ rD (some r)
      · rw [if_neg (show ¬ ¬ (0 ≤ i.toInt ∧ i.toInt ≤ rD (some r)) from fun h9 => h9 ci), if_pos ci.1]
        have ci2 : i.toInt ≤ (r : Int) - 1 := ci.2
        rcases i_cases i with ⟨k, hk, rfl⟩ | hneg
        · rw [iN_toInt hk] at ci2
          rw [iN_nat hk]
          obtain ⟨τ2, b1, b2, b3⟩ := want_ok (show n < 6 by omega) ht ho τ
          rw [b1]
          simp only [Option.bind_some]
          have hY2 := YR_fr (YR_ok hY a2 rfl) b3 rfl
          obtain ⟨τ3, c1, c2, c3⟩ := first_L67 h1 h5 hrl (show k < r by omega) hr20 k 0 N0 (c + 1) τ2 (st n) (-6) (by rw [N0_eq]; omega) (by omega) (by omega) hY2 b2 (VP_st _ n) (by rw [hre]; rfl) (MKb_fr a3 b3 rfl)
          rw [key_st, z00] at c1
          have e : rI (some r) = iN r := rfl
          rw [e, c1]
          simp only [Option.bind_some]
          refine ⟨τ3, rfl, RI_ok (RI_ok (RI_ok h a2 rfl a4 a3) b3 rfl (FA_fr a4 b3 rfl) (MKb_fr a3 b3 rfl)) c2 rfl (FA_fr (FA_fr a4 b3 rfl) c2 rfl) (MKb_le c3 (by omega))⟩
        · omega
      · rw [if_pos (show ¬ (0 ≤ i.toInt ∧ i.toInt ≤ rD (some r)) from ci)]
        refine ⟨τ, ?_, RI_le hRI (by omega)⟩
        by_cases ci0 : 0 ≤ i.toInt
        · rw [if_pos ci0]
          have ci2 : ¬ i.toInt ≤ (r : Int) - 1 := fun h9 => ci ⟨ci0, h9⟩
          rcases i_cases i with ⟨k, hk, rfl⟩ | hneg
          · rw [iN_toInt hk] at ci2
            rw [iN_nat hk, frs_none hY.1 h5 _ _ (VP_st _ n) (fun q hq => by rw [hre] at hq; cases hq; omega)]; rfl
          · omega
        · rw [if_neg ci0]
/-! THE PLAY -/
theorem GP {A : AS} (h : VA A) (h1 : 1 ≤ (aG A).1) : (aG A).1 ≤ 5 ∧ (aG A).2.1 ∈ pm (aG A).1 ∧ (aG A).2.2.1 ∈ pm (aG A).1 ∧ mvok (aY A) (st (aG A).1) (aG A).2.2.2 ∧ VP (aY A) (aG A).1 (gP (aG A)) ∧ gW (aG A) ∈ pm (aG A).1 := by
  rcases h.2.2.2.1 with h0 | ⟨a, b, c, d, e⟩
  · omega
  · exact ⟨b, c, d, e, mvok_VP h.2.1 e, rel_mem c d⟩
theorem VPl_le {Y : Yd} {G : PlA} (h : VPl Y G) : G.1 ≤ 5 := by
  rcases h with h | h
  · omega
  · exact h.2.1
theorem G37 {σ : MS} {A : AS} {c : Nat} (h : RI σ A c) : (gI σ 37 = 0) = ((aG A).1 = 0) := by
  have := VPl_le h.1.2.2.2.1
  rw [h.2.2.2.2.1.1, zl_0, iN_eq (by omega) (by omega)]
theorem G_key {σ : MS} {A : AS} {c : Nat} (h : RI σ A c) (h1 : 1 ≤ (aG A).1) : gI σ 39 = iN (aG A).2.2.2.length ∧ (aG A).2.2.2.length ≤ 20 ∧ gA σ 27 (gI σ 39) = iN (key (yM (aY A)) (gP (aG A))) := by
  obtain ⟨a, b, c9, d⟩ := h.2.2.2.2.1.2 h1
  have g := GP h.1 h1
  have hl := (mvok_len h.1.2.1 g.1 g.2.2.2.1).2
  refine ⟨c9, hl, ?_⟩
  rw [c9, gA_av (by omega), d _ (Nat.le_refl _), List.take_length]
  rfl
def s_rest (Y : Yd) (G : PlA) : Int32 := if G.1 = 0 then -3 else rI (rest Y G.1 (gW G) (gP G))
def s_next (Y : Yd) (G : PlA) : Int32 := if G.1 = 0 then -3 else nI6 (nxt Y G.1 (gW G) (gP G))
theorem restOf_ok {σ : MS} {A : AS} {c : Nat} (hc : c < 999000000) (h : RI σ A c) (h1 : 1 ≤ (aG A).1) : ∃ τ, m_restOf σ = some (rI (rest (aY A) (aG A).1 (gW (aG A)) (gP (aG A))), τ) ∧ RI τ A (c + 1) ∧ WR τ (gW (aG A)) := by
  obtain ⟨k1, k2, k3⟩ := G_key h h1
  have g := GP h.1 h1
  obtain ⟨a, b, _, d⟩ := h.2.2.2.2.1.2 h1
  obtain ⟨τ1, a1, a2, a3⟩ := want_ok (show (aG A).1 < 6 by omega) g.2.1 g.2.2.1 σ
  have hR1 := RI_lo h a3 rfl rfl rfl
  obtain ⟨mk, hmk, hMK⟩ := hR1.2.2.2.2.2.2.2
  obtain ⟨r, τ2, b1, b2, b3, b4, b5⟩ := search_ok hR1.2.1 g.1 (by omega) hMK a2 g.2.2.2.2.1
  have hwl : (rel (aG A).2.1 (aG A).2.2.1).length = (aG A).1 := pm_len g.2.2.2.2.2
  have hr := b4 (by omega) hwl
  obtain ⟨k1', k2', k3'⟩ := G_key hR1 h1
  refine ⟨τ2, ?_, RI_ok hR1 b2 rfl (FA_fr hR1.2.2.2.2.2.2.1 b2 rfl) ⟨mk + 1, by omega, b3⟩, WR_fr a2 b2 rfl⟩
  rw [m_restOf, a, b, h.2.2.2.2.1.1, a1]
  simp only [Option.bind_some]
  rw [if_pos (by rw [k1', iN_inb (by omega)]; omega), k3', hR1.2.2.2.2.1.1, b1]
  simp only [Option.bind_some]
  rw [hr]
  rfl
theorem r_rest {σ : MS} {A : AS} {c : Nat} (hc : c < 999000000) (h : RI σ A c) : ∃ τ, m_rest σ = some (s_rest (aY A) (aG A), τ) ∧ RI τ A (c + 1000) := by
  unfold s_rest
  rw [m_rest]
  by_cases h0 : (aG A).1 = 0
  · rw [if_pos (by rw [G37 h]; exact h0), if_pos h0]
    exact ⟨σ, rfl, RI_le h (by omega)⟩
  · rw [if_neg (by rw [G37 h]; exact h0), if_neg h0]
    obtain ⟨τ, a1, a2, _⟩ := restOf_ok hc h (by omega)
    rw [a1]
    exact ⟨τ, rfl, RI_le a2 (by omega)⟩
theorem r_next {σ : MS} {A : AS} {c : Nat} (hc : c < 999000000) (h : RI σ A c) : ∃ τ, m_next σ = some (s_next (aY A) (aG A), τ) ∧ RI τ A (c + 1000) := by
  unfold s_next
  rw [m_next]
  by_cases h0 : (aG A).1 = 0
  · rw [if_pos (by rw [G37 h]; exact h0), if_pos h0]
    exact ⟨σ, rfl, RI_le h (by omega)⟩
  · rw [if_neg (by rw [G37 h]; exact h0), if_neg h0]
    have h1 : 1 ≤ (aG A).1 := by omega
    obtain ⟨τ, a1, a2, a3⟩ := restOf_ok hc h h1
    have g := GP h.1 h1
    obtain ⟨k1, k2, k3⟩ := G_key a2 h1
    rw [a1]
    simp only [Option.bind_some]
    cases hr : rest (aY A) (aG A).1 (gW (aG A)) (gP (aG A)) with
    | none =>
      rw [if_neg (by decide)]
      refine ⟨τ, ?_, RI_le a2 (by omega)⟩
      unfold nxt
      rw [hr]
      rfl
    | some r =>
      cases r with
      | zero =>
        rw [if_neg (by decide)]
        refine ⟨τ, ?_, RI_le a2 (by omega)⟩
        unfold nxt
        rw [hr]
        rfl
      | succ r =>
        have h20 := rest_le h.1.2.1 g.1 g.2.2.2.2.1 hr
        obtain ⟨τ2, b1, b2, b3⟩ := nextOf_ok a2.2.1 h1 g.1 a3 (pm_len g.2.2.2.2.2) g.2.2.2.2.1 hr (show c + 1 < 999990000 by omega) a2.2.2.2.2.2.2.2
        have e : rI (some (r + 1)) = iN (r + 1) := rfl
        rw [e, jlt0 (by omega), if_pos (by omega), if_pos (by rw [k1, iN_inb (by omega)]; omega), k3, a2.2.2.2.2.1.1, b3]
        refine ⟨τ2, rfl, RI_ok a2 b1 rfl (FA_fr a2.2.2.2.2.2.2.1 b1 rfl) (MKb_le b2 (by omega))⟩
/-- the MOVE that is the x-th, c of them being ahead -/
def pck : List Nat → Nat → Int32 → Option Nat
  | [], _, _ => none
  | m :: r, c, x => if iN c = x then some m else pck r (c + 1) x
def s_mvs (Y : Yd) (G : PlA) (x : Int32) : Int32 := if G.1 = 0 then -3 else match pck (oks Y (gP G)) 0 x with
  | some k => iN k
  | none => if x = -1 then iN (oks Y (gP G)).length else -6
theorem moves_L27 {Y : Yd} {σ : MS} {n : Nat} (hn : n ≤ 5) {P : Ps} (hv : VP Y n P) (hY : YR σ Y) (hP : RP σ Y P) (hg : gI σ 16 = iN (gn n P)) (h37 : gI σ 37 = iN n) (x : Int32) : ∀ (d m f c : Nat), d < f → m + d = 5000 →
    m_moves_L27 f σ x (iN c) (iN m) = some (match pck (og (oks Y P) m) c x with
      | some k => .inr (iN k, σ)
      | none => .inl (iN (c + (og (oks Y P) m).length))) := by
  intro d
  induction d with
  | zero =>
    intro m f c hf hm
    obtain ⟨f, rfl⟩ : ∃ g, f = g + 1 := ⟨f - 1, by omega⟩
    have e : og (oks Y P) m = [] := og_end (fun x hx => by have := oks_lt hx; omega)
    rw [m_moves_L27, zl_5000, jlt (by omega) (by omega), if_neg (by omega), e]
    rfl
  | succ d ih =>
    intro m f c hf hm
    obtain ⟨f, rfl⟩ : ∃ g, f = g + 1 := ⟨f - 1, by omega⟩
    have hog := og_step (oks_srt Y P) m
    rw [m_moves_L27, zl_5000, jlt (by omega) (by omega), if_pos (by omega), zl_1000, zl_100, zl_10, iN_div (by omega) (by omega), iN_div (by omega) (by omega), iN_div (by omega) (by omega), iN_irm (by omega) (by omega), iN_irm (by omega) (by omega), iN_irm (by omega) (by omega), isMove_ok hY (by omega)]
    simp only [Option.bind_some]
    rw [zl_1, iN_add, iN_add, h37]
    by_cases ci : imv Y m = true
    · have cp := ci
      unfold imv at cp
      rw [decide_eq_true_eq] at cp
      obtain ⟨c1, c2, c3, c4⟩ := cp
      have hcm : m_canMove σ (iN (m / 1000)) (iN (m / 100 % 10)) (iN (m / 10 % 10)) (iN (m % 10)) (iN n) = some (bI (cm_ Y P (mf m) (me m) (mt m) (mx m))) := canMove_ok hY hn hv hP hg c1 c2 c3 c4
      rw [ci, if_neg (by decide), hcm]
      simp only [Option.bind_some]
      by_cases cc : cm_ Y P (mf m) (me m) (mt m) (mx m) = true
      · have hmo : m ∈ oks Y P := (oks_imv hY.1).mpr ⟨ci, cc⟩
        rw [cc, if_neg (by decide), hog, if_pos hmo, pck]
        by_cases cx : iN c = x
        · rw [if_pos cx, if_pos cx]
        · rw [if_neg cx, if_neg cx, ih (m + 1) f (c + 1) (by omega) (by omega), List.length_cons, show c + 1 + (og (oks Y P) (m + 1)).length = c + ((og (oks Y P) (m + 1)).length + 1) by omega]
      · have cf : cm_ Y P (mf m) (me m) (mt m) (mx m) = false := by cases h9 : cm_ Y P (mf m) (me m) (mt m) (mx m) with | false => rfl | true => exact absurd h9 cc
        have hmo : m ∉ oks Y P := fun h9 => cc ((oks_imv hY.1).mp h9).2
        rw [cf, if_pos bF, hog, if_neg hmo]
        exact ih (m + 1) f c (by omega) (by omega)
    · have cf : imv Y m = false := by cases h9 : imv Y m with | false => rfl | true => exact absurd h9 ci
      have hmo : m ∉ oks Y P := fun h9 => ci ((oks_imv hY.1).mp h9).1
      rw [cf, if_pos bF, hog, if_neg hmo]
      exact ih (m + 1) f c (by omega) (by omega)
theorem r_moves {σ : MS} {A : AS} {c : Nat} (h : RI σ A c) (x : Int32) : ∃ τ, m_moves σ x = some (s_mvs (aY A) (aG A) x, τ) ∧ RI τ A c := by
  unfold s_mvs
  rw [m_moves]
  by_cases h0 : (aG A).1 = 0
  · rw [if_pos (by rw [G37 h]; exact h0), if_pos h0]
    exact ⟨σ, rfl, h⟩
  · rw [if_neg (by rw [G37 h]; exact h0), if_neg h0]
    have h1 : 1 ≤ (aG A).1 := by omega
    obtain ⟨k1, k2, k3⟩ := G_key h h1
    have g := GP h.1 h1
    obtain ⟨τ, t1, t2, t3, t4⟩ := decode_ok h.2.1 g.1 g.2.2.2.2.1
    have hR := RI_lo h t4 rfl rfl rfl
    have hl := moves_L27 g.1 g.2.2.2.2.1 hR.2.1 t2 t3 hR.2.2.2.2.1.1 x 5000 0 N0 0 (by rw [N0_eq]; omega) (by omega)
    rw [og_0, z00, Nat.zero_add] at hl
    rw [if_pos (by rw [k1, iN_inb (by omega)]; omega), k3, t1]
    simp only [Option.bind_some]
    rw [hl]
    simp only [Option.bind_some]
    cases pck (oks (aY A) (gP (aG A))) 0 x with
    | some k => exact ⟨τ, rfl, hR⟩
    | none =>
      simp only
      by_cases cx : x = -1
      · rw [if_pos cx, if_pos cx]; exact ⟨τ, rfl, hR⟩
      · rw [if_neg cx, if_neg cx]; exact ⟨τ, rfl, hR⟩
/-! MOVES done and taken back -/
def wG (A : AS) (G : PlA) : AS := (A.1, A.2.1, A.2.2.1, G, A.2.2.2.2)
def s_move (A : AS) (x : Int32) : Int32 × AS := if (aG A).1 = 0 then (-3, A) else if 0 ≤ x.toInt ∧ x.toNatClampNeg ∈ oks (aY A) (gP (aG A)) then (iN ((aG A).2.2.2.length + 1), wG A ((aG A).1, (aG A).2.1, (aG A).2.2.1, (aG A).2.2.2 ++ [x.toNatClampNeg])) else (-5, A)
def s_back (A : AS) : Int32 × AS := if (aG A).1 = 0 then (-3, A) else if (aG A).2.2.2 = [] then (-5, A) else (iN ((aG A).2.2.2.length - 1), wG A ((aG A).1, (aG A).2.1, (aG A).2.2.1, (aG A).2.2.2.dropLast))
theorem VA_wG {A : AS} (h : VA A) {G : PlA} (hG : VPl (aY A) G) : VA (wG A G) := ⟨h.1, h.2.1, h.2.2.1, hG, h.2.2.2.2⟩
theorem r_move {σ : MS} {A : AS} {c : Nat} (h : RI σ A c) (x : Int32) : ∃ τ, m_move σ x = some ((s_move A x).1, τ) ∧ RI τ (s_move A x).2 c := by
  unfold s_move
  rw [m_move]
  by_cases h0 : (aG A).1 = 0
  · rw [if_pos (by rw [G37 h]; exact h0), if_pos h0]
    exact ⟨σ, rfl, h⟩
  · rw [if_neg (by rw [G37 h]; exact h0), if_neg h0]
    have h1 : 1 ≤ (aG A).1 := by omega
    obtain ⟨k1, k2, k3⟩ := G_key h h1
    have g := GP h.1 h1
    rcases i_cases x with ⟨m, hm, rfl⟩ | hneg
    · rw [iN_nat hm, iN_toInt hm, if_neg (iN_nneg hm), zl_1000, zl_100, zl_10, iN_div (by omega) (by omega), iN_div (by omega) (by omega), iN_div (by omega) (by omega), iN_irm (by omega) (by omega), iN_irm (by omega) (by omega), iN_irm (by omega) (by omega), isMove_ok h.2.1 hm]
      simp only [Option.bind_some]
      by_cases ci : imv (aY A) m = true
      · have cp := ci
        unfold imv at cp
        rw [decide_eq_true_eq] at cp
        obtain ⟨c1, c2, c3, c4⟩ := cp
        obtain ⟨τ1, t1, t2, t3, t4⟩ := decode_ok h.2.1 g.1 g.2.2.2.2.1
        have hR := RI_lo h t4 rfl rfl rfl
        rw [ci, if_neg (by decide), if_pos (by rw [k1, iN_inb (by omega)]; omega), k3, t1]
        simp only [Option.bind_some]
        have hcm : m_canMove τ1 (iN (m / 1000)) (iN (m / 100 % 10)) (iN (m / 10 % 10)) (iN (m % 10)) (iN (aG A).1) = some (bI (cm_ (aY A) (gP (aG A)) (mf m) (me m) (mt m) (mx m))) := canMove_ok hR.2.1 g.1 g.2.2.2.2.1 t2 t3 c1 c2 c3 c4
        rw [hR.2.2.2.2.1.1, hcm]
        simp only [Option.bind_some]
        by_cases cc : cm_ (aY A) (gP (aG A)) (mf m) (me m) (mt m) (mx m) = true
        · have hmo : m ∈ oks (aY A) (gP (aG A)) := (oks_imv h.1.2.1).mpr ⟨ci, cc⟩
          obtain ⟨τ2, u1, u2, u3, u4⟩ := doMove_ok hR.2.1 g.1 g.2.2.2.2.1 t2 t3 c1 c2 c3 c4 cc
          rw [show mk4 (mf m) (me m) (mt m) (mx m) = m from mk4_mk m] at u2 u3
          have u1' : m_doMove τ1 (iN (m / 1000)) (iN (m / 100 % 10)) (iN (m / 10 % 10)) (iN (m % 10)) = some τ2 := u1
          have hR2 := RI_lo hR u4 rfl rfl rfl
          obtain ⟨k1', k2', k3'⟩ := G_key hR2 h1
          have hmk2 : mvok (aY A) (st (aG A).1) ((aG A).2.2.2 ++ [m]) := mvok_snoc _ _ _ g.2.2.2.1 hmo
          have hl2 := (mvok_len h.1.2.1 g.1 hmk2).2
          rw [List.length_append] at hl2
          simp only [List.length_cons, List.length_nil] at hl2
          rw [cc, if_neg (by decide), u1']
          simp only [Option.bind_some]
          rw [k1', zl_1, iN_add, if_pos ⟨by omega, hmo⟩]
          have f3 : FR [39] [] [] τ2 (sI τ2 39 (iN ((aG A).2.2.2.length + 1))) := FR_sI (by decide)
          have henc := encode_ok (YR_fr hR2.2.1 f3 rfl) (RP_fr u2 f3 rfl)
          rw [henc]
          simp only [Option.bind_some]
          rw [if_pos (by rw [iN_inb (by omega)]; omega)]
          refine ⟨_, rfl, VA_wG h.1 (Or.inr ⟨h1, g.1, g.2.1, g.2.2.1, hmk2⟩), ?_, ?_, ?_, ?_, ?_, ?_, ?_⟩
          · exact YR_fr (YR_fr hR2.2.1 f3 rfl) (ks := []) (as := [27]) (ls := []) (FR_sA (by decide)) rfl
          · exact hR2.2.2.1
          · exact hR2.2.2.2.1
          · obtain ⟨p1, p2⟩ := hR2.2.2.2.2.1
            obtain ⟨q1, q2, q3, q4⟩ := p2 h1
            refine ⟨p1, fun _ => ⟨q1, q2, ?_, fun k hk => ?_⟩⟩
            · show iN ((aG A).2.2.2.length + 1) = iN ((aG A).2.2.2 ++ [m]).length
              rw [List.length_append]; rfl
            · rw [av_sA (by omega), if_pos rfl, av_sI]
              show _ = iN (key (yM (aY A)) (posn (aG A).1 (((aG A).2.2.2 ++ [m]).take k)))
              have hk2 : k ≤ (aG A).2.2.2.length + 1 := by
                have : k ≤ ((aG A).2.2.2 ++ [m]).length := hk
                rw [List.length_append] at this
                exact this
              by_cases e : k = (aG A).2.2.2.length + 1
              · rw [if_pos e, e, List.take_of_length_le (by rw [List.length_append]; exact Nat.le_refl _), posn_snoc]
                rfl
              · rw [if_neg e, q4 k (by omega), List.take_append_of_le_length (by omega)]
          · intro i hi
            exact ⟨(hR2.2.2.2.2.2.1 i hi).1, fun im him => KR_eq ((hR2.2.2.2.2.2.1 i hi).2 im him) (fun j => by rw [av_sA (by omega), if_neg (by decide), av_sI])⟩
          · exact FA_fr (FA_fr hR2.2.2.2.2.2.2.1 f3 rfl) (ks := []) (as := [27]) (ls := []) (FR_sA (by decide)) rfl
          · exact MKb_fr (MKb_fr hR2.2.2.2.2.2.2.2 f3 rfl) (ks := []) (as := [27]) (ls := []) (FR_sA (by decide)) rfl
        · have cf : cm_ (aY A) (gP (aG A)) (mf m) (me m) (mt m) (mx m) = false := by cases h9 : cm_ (aY A) (gP (aG A)) (mf m) (me m) (mt m) (mx m) with | false => rfl | true => exact absurd h9 cc
          rw [cf, if_pos bF, if_neg (fun h9 => cc ((oks_imv h.1.2.1).mp h9.2).2)]
          exact ⟨τ1, rfl, hR⟩
      · have cf : imv (aY A) m = false := by cases h9 : imv (aY A) m with | false => rfl | true => exact absurd h9 ci
        rw [cf, if_pos bF, if_neg (fun h9 => ci ((oks_imv h.1.2.1).mp h9.2).1)]
        exact ⟨σ, rfl, h⟩
    · rw [if_pos (neg_lt hneg), if_neg (fun h9 => by omega)]
      exact ⟨σ, rfl, h⟩
theorem mvok_drop {Y : Yd} {ms : List Nat} {P : Ps} (h : mvok Y P ms) : mvok Y P ms.dropLast := by
  rw [List.dropLast_eq_take]
  exact mvok_take ms P _ h
theorem r_back {σ : MS} {A : AS} {c : Nat} (h : RI σ A c) : ∃ τ, m_back σ = some ((s_back A).1, τ) ∧ RI τ (s_back A).2 c := by
  unfold s_back
  rw [m_back]
  by_cases h0 : (aG A).1 = 0
  · rw [if_pos (by rw [G37 h]; exact h0), if_pos h0]
    exact ⟨σ, rfl, h⟩
  · rw [if_neg (by rw [G37 h]; exact h0), if_neg h0]
    have h1 : 1 ≤ (aG A).1 := by omega
    obtain ⟨k1, k2, k3⟩ := G_key h h1
    have g := GP h.1 h1
    rw [k1, jeq0 (by omega)]
    by_cases hl : (aG A).2.2.2 = []
    · rw [if_pos (by rw [hl]; rfl), if_pos hl]
      exact ⟨σ, rfl, h⟩
    · have hp := List.length_pos_iff.mpr hl
      rw [if_neg (by omega), if_neg hl, zl_1, iN_sub hp]
      have f3 : FR [39] [] [] σ (sI σ 39 (iN ((aG A).2.2.2.length - 1))) := FR_sI (by decide)
      refine ⟨_, rfl, VA_wG h.1 (Or.inr ⟨h1, g.1, g.2.1, g.2.2.1, mvok_drop g.2.2.2.1⟩), YR_fr h.2.1 f3 rfl, h.2.2.1, h.2.2.2.1, ?_, h.2.2.2.2.2.1, FA_fr h.2.2.2.2.2.2.1 f3 rfl, MKb_fr h.2.2.2.2.2.2.2 f3 rfl⟩
      obtain ⟨p1, p2⟩ := h.2.2.2.2.1
      obtain ⟨q1, q2, q3, q4⟩ := p2 h1
      refine ⟨p1, fun _ => ⟨q1, q2, ?_, fun k hk => ?_⟩⟩
      · show iN ((aG A).2.2.2.length - 1) = iN ((aG A).2.2.2.dropLast).length
        rw [List.length_dropLast]
      · have hk2 : k ≤ (aG A).2.2.2.length - 1 := by
          have : k ≤ ((aG A).2.2.2.dropLast).length := hk
          rwa [List.length_dropLast] at this
        show av σ 27 k = iN (key (yM (aY A)) (posn (aG A).1 ((aG A).2.2.2.dropLast.take k)))
        rw [q4 k (by omega), List.dropLast_eq_take, List.take_take, Nat.min_eq_left hk2]
noncomputable def s_play (A : AS) (x y : Int32) : Int32 × AS := match pr2 x y with
  | none => (-2, A)
  | some (n, t, o) => (rI (lf (aY A) n (rel t o)), wG A (n, t, o, []))
theorem r_play {σ : MS} {A : AS} {c : Nat} (hc : c < 999000000) (h : RI σ A c) (x y : Int32) : ∃ τ, m_play σ x y = some ((s_play A x y).1, τ) ∧ RI τ (s_play A x y).2 (c + 1) := by
  rw [m_play, m_two]
  simp only [Option.bind_some, bI_0]
  unfold s_play
  cases hp : pr2 x y with
  | none =>
    rw [pr2_none hp, if_pos rfl]
    exact ⟨σ, rfl, RI_le h (by omega)⟩
  | some p =>
    obtain ⟨n, t, o⟩ := p
    obtain ⟨h1, h5, ht, ho, rfl, rfl, hx, hy, hd⟩ := pr2_some hp
    rw [hd, if_neg (by decide), m_wag, hx]
    simp only [Option.bind_some]
    have f0 : FR [35, 36, 37, 39] [27] [] σ (sA (sI (sI (sI (sI σ 35 (iN (num t))) 36 (iN (num o))) 37 (iN n)) 39 0) 27 0 0) := FR_tr (FR_sI (by decide)) (FR_tr (FR_sI (by decide)) (FR_tr (FR_sI (by decide)) (FR_tr (FR_sI (by decide)) (FR_sA (by decide)))))
    have hR : RI (sA (sI (sI (sI (sI σ 35 (iN (num t))) 36 (iN (num o))) 37 (iN n)) 39 0) 27 0 0) (wG A (n, t, o, [])) c := by
      refine ⟨VA_wG h.1 (Or.inr ⟨h1, h5, ht, ho, trivial⟩), YR_fr h.2.1 f0 rfl, h.2.2.1, h.2.2.2.1, ⟨rfl, fun _ => ⟨rfl, rfl, rfl, fun k hk => ?_⟩⟩, fun i hi => ⟨(h.2.2.2.2.2.1 i hi).1, fun im him => KR_eq ((h.2.2.2.2.2.1 i hi).2 im him) (fun j => rfl)⟩, FA_fr h.2.2.2.2.2.2.1 f0 rfl, MKb_fr h.2.2.2.2.2.2.2 f0 rfl⟩
      have : k = 0 := by
        have : k ≤ ([] : List Nat).length := hk
        simpa using this
      subst this
      show _ = iN (key (yM (aY A)) (st n))
      rw [key_st]
      rfl
    generalize sA (sI (sI (sI (sI σ 35 (iN (num t))) 36 (iN (num o))) 37 (iN n)) 39 0) 27 0 0 = υ at *
    obtain ⟨τ, a1, a2, a3, a4, a5⟩ := found_ok hR.2.1 h1 h5 (by omega) hR.2.2.2.2.2.2.2 hR.2.2.2.2.2.2.1 ht ho
    have hr := rel_mem ht ho
    have hrk := rk_lt (by omega) hr
    have hfc := (fac_le n (by omega)).2
    refine ⟨τ, ?_, RI_ok hR a2 rfl a4 a3⟩
    rw [a1]
    simp only [Option.bind_some]
    rw [if_pos (by rw [iN_inb (by omega)]; omega), gA_av (by omega), (a5.2 _ hr).1]
    rfl
def s_told (A : AS) (x : Int32) : Int32 := if x = 0 then iN (aP A).length else if x = 1 then iN (yM (aY A)) else if x = 2 then iN (yT (aY A)) else if x = 3 then (if (aG A).1 = 0 then -6 else iN (aG A).2.2.2.length) else if x = 4 then iN (yM (aO A)) else -2
theorem r_told {σ : MS} {A : AS} {c : Nat} (h : RI σ A c) (x : Int32) : m_told σ x = some (s_told A x) := by
  rw [m_told, h.2.2.2.1.1, h.2.1.2.1, h.2.1.2.2.1, h.2.2.1.1]
  unfold s_told
  by_cases h0 : (aG A).1 = 0
  · rw [if_pos (show gI σ 37 = 0 by rw [G37 h]; exact h0), if_pos h0]
    (repeat' split) <;> rfl
  · rw [if_neg (show ¬ gI σ 37 = 0 by rw [G37 h]; exact h0), if_neg h0, (h.2.2.2.2.1.2 (by omega)).2.2.1]
    (repeat' split) <;> rfl
def wPd (A : AS) (p : List Nat) : AS := (p, A.2)
def s_say (A : AS) (x : Int32) : Int32 × AS := if 33 ≤ x.toInt ∧ x.toInt ≤ 126 then (if (aP A).length = 16 then (-4, A) else (iN ((aP A).length + 1), wPd A (aP A ++ [x.toNatClampNeg]))) else (-2, A)
theorem r_say {σ : MS} {A : AS} {c : Nat} (h : RI σ A c) (x : Int32) : ∃ τ, m_say σ x = some ((s_say A x).1, τ) ∧ RI τ (s_say A x).2 c := by
  have hp := h.1.1
  rw [m_say, m_in_i, show (33 : Int64).toInt = 33 from rfl, show (126 : Int64).toInt = 126 from rfl]
  simp only [Option.bind_some, bI_0, decide_eq_false_iff_not]
  unfold s_say
  by_cases cx : 33 ≤ x.toInt ∧ x.toInt ≤ 126
  · rw [if_neg (fun h9 => h9 cx), if_pos cx, h.2.2.2.1.1, zl_16, jeq (by omega) (by omega)]
    by_cases cl : (aP A).length = 16
    · rw [if_pos cl, if_pos cl]
      exact ⟨σ, rfl, h⟩
    · rw [if_neg cl, if_neg cl, if_pos (by rw [iN_inb (by omega)]; omega), zl_1, iN_add]
      rcases i_cases x with ⟨k, hk, rfl⟩ | hneg
      · rw [iN_nat hk]
        rw [iN_toInt hk] at cx
        have f0 : FR [13] [9] [] σ (sI (sA σ 9 (iN (aP A).length) (iN k)) 13 (iN ((aP A).length + 1))) := FR_tr (FR_sA (by decide)) (FR_sI (by decide))
        refine ⟨_, rfl, ⟨⟨?_, fun d hd => ?_⟩, h.1.2.1, h.1.2.2.1, h.1.2.2.2.1, h.1.2.2.2.2⟩, YR_fr h.2.1 f0 rfl, h.2.2.1, ⟨?_, fun j hj => ?_⟩, h.2.2.2.2.1, h.2.2.2.2.2.1, FA_fr h.2.2.2.2.2.2.1 f0 rfl, MKb_fr h.2.2.2.2.2.2.2 f0 rfl⟩
        · show (aP A ++ [k]).length ≤ 16
          rw [List.length_append]
          simp only [List.length_cons, List.length_nil]
          omega
        · have hd : d ∈ aP A ++ [k] := hd
          rcases List.mem_append.mp hd with hd | hd
          · exact hp.2 d hd
          · rw [List.mem_singleton] at hd; omega
        · show iN ((aP A).length + 1) = iN (aP A ++ [k]).length
          rw [List.length_append]; rfl
        · have hj : j < (aP A ++ [k]).length := hj
          rw [List.length_append] at hj
          simp only [List.length_cons, List.length_nil] at hj
          show av (sI (sA σ 9 (iN (aP A).length) (iN k)) 13 (iN ((aP A).length + 1))) 9 j = iN ((aP A ++ [k]).getD j 0)
          rw [av_sI, av_sA (by omega), if_pos rfl]
          by_cases e : j = (aP A).length
          · rw [if_pos e, e, getD_append_at]
          · rw [if_neg e, getD_append_lt (by omega)]
            exact h.2.2.2.1.2 j (by omega)
      · omega
  · rw [if_pos cx, if_neg cx]
    exact ⟨σ, rfl, h⟩
theorem r_wipe {σ : MS} {A : AS} {c : Nat} (h : RI σ A c) : ∃ τ, m_wipe σ = some (iN (aP A).length, τ) ∧ RI τ (wPd A []) c := by
  have f0 : FR [13] [] [] σ (sI σ 13 0) := FR_sI (by decide)
  refine ⟨sI σ 13 0, ?_, ⟨⟨by show ([] : List Nat).length ≤ 16; simp, fun d hd => by have hd : d ∈ ([] : List Nat) := hd; simp at hd⟩, h.1.2.1, h.1.2.2.1, h.1.2.2.2.1, h.1.2.2.2.2⟩, YR_fr h.2.1 f0 rfl, h.2.2.1, ⟨rfl, fun j hj => by have hj : j < ([] : List Nat).length := hj; simp at hj⟩, h.2.2.2.2.1, h.2.2.2.2.2.1, FA_fr h.2.2.2.2.2.2.1 f0 rfl, MKb_fr h.2.2.2.2.2.2.2 f0 rfl⟩
  rw [m_wipe, h.2.2.2.1.1]
