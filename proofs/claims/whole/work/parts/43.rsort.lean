/-! THE REFERENCE: sorted -/
def SF (σ : MS) (Y : Yd) (c : Nat) : Prop := YR σ Y ∧ FA σ Y ∧ MKb σ c
def fK : List Nat := [16, 22, 23, 25]
def fA : List Nat := [10, 11, 12, 13, 14, 16, 18, 20, 21, 22]
def fL : List Nat := [15, 19]
theorem SF_fr {ks as ls : List Nat} {σ τ : MS} {Y : Yd} {c : Nat} (h : SF σ Y c) (f : FR ks as ls σ τ) (o : okF ks as = true) (o2 : (as.contains 18 || as.contains 20 || ls.contains 19) = false) (o3 : (ks.contains 23 || as.contains 13) = false) : SF τ Y c :=
  ⟨YR_ok h.1 f o, FA_fr h.2.1 f o2, MKb_fr h.2.2 f o3⟩
noncomputable def sf (Y : Yd) (n r : Nat) : Option Nat := lf Y n (rel (ur n r) (up n))
noncomputable def gdR (Y : Yd) (n r : Nat) : Bool := (sf Y n r).isSome
theorem sortFar_ok {σ : MS} {Y : Yd} {c : Nat} (hc : c < 999000000) (h : SF σ Y c) {n : Nat} (h1 : 1 ≤ n) (h5 : n ≤ 5) {t : List Nat} (ht : t ∈ pm n) : ∃ τ, m_sortFar σ (iN (num t)) (iN n) = some (rI (lf Y n (rel t (up n))), τ) ∧ SF τ Y (c + 1) ∧ FR fK fA fL σ τ ∧ FT τ Y n := by
  obtain ⟨τ, a1, a2, a3, a4, a5⟩ := found_ok h.1 h1 h5 (by omega) h.2.2 h.2.1 ht (up_mem n)
  have hr := rel_mem ht (up_mem n)
  have hrk := rk_lt (by omega) hr
  have hfc := (fac_le n (by omega)).2
  refine ⟨τ, ?_, ⟨YR_ok h.1 a2 rfl, a4, a3⟩, a2, a5⟩
  rw [m_sortFar, sortedOf_ok (by omega)]
  simp only [Option.bind_some]
  rw [a1]
  simp only [Option.bind_some]
  rw [if_pos (by rw [iN_inb (by omega)]; omega), gA_av (by omega), (a5.2 _ hr).1]
theorem FT_le {σ : MS} {Y : Yd} (hY : VY Y) {n : Nat} (hn : n ≤ 5) (h : FT σ Y n) {l : List Nat} (hl : l.length = n) {r : Nat} (hr : lf Y n l = some r) : r ≤ 20 := by
  obtain ⟨s, hS⟩ := h.1
  rw [lf_rest hY hn hS hl] at hr
  exact rest_le hY hn (VP_st Y n) hr
theorem trainFar_ok {σ : MS} {Y : Yd} {c : Nat} (hc : c < 999000000) (h : SF σ Y c) {n r : Nat} (h1 : 1 ≤ n) (h5 : n ≤ 5) (hr : r < fac n) : ∃ τ1 τ, m_trainOf σ (iN r) (iN n) = some (iN (num (ur n r)), τ1) ∧ m_sortFar τ1 (iN (num (ur n r))) (iN n) = some (rI (sf Y n r), τ) ∧ SF τ Y (c + 1) ∧ FR fK fA fL σ τ ∧ (∀ q, sf Y n r = some q → q ≤ 20) ∧ FR [] [21] [] σ τ1 := by
  obtain ⟨τ1, a1, a2⟩ := trainOf_ok (show n < 6 by omega) hr σ
  have hu := ur_mem (show n < 6 by omega) hr
  obtain ⟨τ, b1, b2, b3, b4⟩ := sortFar_ok hc (SF_fr h a2 rfl rfl rfl) h1 h5 hu
  exact ⟨τ1, τ, a1, b1, b2, FR_tr (FR_mo a2 rfl rfl rfl) b3, fun q hq => FT_le h.1.1 h5 b4 (pm_len (rel_mem hu (up_mem n))) hq, a2⟩
theorem rI_neg (o : Option Nat) (h : ∀ q, o = some q → q ≤ 20) : (rI o < 0) = (o.isSome = false) := by
  cases o with
  | none => exact propext ⟨fun _ => rfl, fun _ => by decide⟩
  | some q =>
    have := h q rfl
    apply propext
    exact ⟨fun h9 => absurd h9 (iN_nneg (by omega)), fun h9 => by cases h9⟩
noncomputable def cG (Y : Yd) (n k : Nat) : Nat := ((List.range' k (fac n - k)).filter (gdR Y n)).length
noncomputable def bG (Y : Yd) (n k : Nat) : Option Nat := (List.range' k (fac n - k)).find? (fun r => !gdR Y n r)
noncomputable def mS (Y : Yd) (n k : Nat) : Nat := ((List.range' k (fac n - k)).map (fun r => (sf Y n r).getD 0)).sum
def nbI (n : Nat) : Option Nat → Int32
  | none => -6
  | some r => iN (num (ur n r))
theorem rng_c {F k : Nat} (h : k < F) : List.range' k (F - k) = k :: List.range' (k + 1) (F - (k + 1)) := by
  rw [show F - k = (F - (k + 1)) + 1 by omega, List.range'_succ]
theorem cG_le (Y : Yd) (n k : Nat) : cG Y n k ≤ fac n := by
  unfold cG
  have := List.length_filter_le (gdR Y n) (List.range' k (fac n - k))
  rw [List.length_range'] at this
  omega
theorem cG_s {Y : Yd} {n k : Nat} (h : k < fac n) : cG Y n k = (if gdR Y n k = true then 1 else 0) + cG Y n (k + 1) := by
  unfold cG
  rw [rng_c h]
  by_cases c : gdR Y n k = true
  · rw [List.filter_cons_of_pos c, if_pos c, List.length_cons]; omega
  · rw [List.filter_cons_of_neg c, if_neg c]; omega
theorem bG_s {Y : Yd} {n k : Nat} (h : k < fac n) : bG Y n k = if gdR Y n k = true then bG Y n (k + 1) else some k := by
  unfold bG
  rw [rng_c h]
  by_cases c : gdR Y n k = true
  · rw [List.find?_cons_of_neg (by rw [c]; decide), if_pos c]
  · rw [List.find?_cons_of_pos (by cases hh : gdR Y n k with | false => rfl | true => exact absurd hh c), if_neg c]
theorem good_L34 {Y : Yd} {n : Nat} (h1 : 1 ≤ n) (h5 : n ≤ 5) (x2 : Int32) : ∀ (i f c : Nat) (σ : MS), i < f → i ≤ fac n → c + i < 999000000 → SF σ Y c → ∃ τ, m_good_L34 f σ (iN n) x2 (iN (cG Y n i)) (nbI n (bG Y n i)) (iN i + (-1)) = some (τ, iN (cG Y n 0), nbI n (bG Y n 0)) ∧ SF τ Y (c + i) ∧ FR fK fA fL σ τ := by
  intro i
  induction i with
  | zero =>
    intro f c σ hf hi hc h
    obtain ⟨f, rfl⟩ : ∃ g, f = g + 1 := ⟨f - 1, by omega⟩
    refine ⟨σ, ?_, h, FR_rf⟩
    rw [m_good_L34, if_pos dec_0]
  | succ i ih =>
    intro f c σ hf hi hc h
    obtain ⟨f, rfl⟩ : ∃ g, f = g + 1 := ⟨f - 1, by omega⟩
    have hfc := (fac_le n (by omega)).2
    obtain ⟨τ1, τ, a1, a2, a3, a4, a5, _⟩ := trainFar_ok (show c < 999000000 by omega) h h1 h5 (show i < fac n by omega)
    obtain ⟨υ, b1, b2, b3⟩ := ih f (c + 1) τ (by omega) (by omega) (by omega) a3
    refine ⟨υ, ?_, by rw [show c + (i + 1) = c + 1 + i by omega]; exact b2, FR_tr a4 b3⟩
    rw [m_good_L34, iN_dec (show 1 ≤ i + 1 by omega), Nat.add_sub_cancel, if_neg (iN_nneg (by omega)), a1]
    simp only [Option.bind_some]
    rw [a2]
    simp only [Option.bind_some]
    have hn := rI_neg _ a5
    have hs := cG_s (Y := Y) (show i < fac n by omega)
    have hb := bG_s (Y := Y) (show i < fac n by omega)
    by_cases cg : gdR Y n i = true
    · rw [if_neg (fun h9 => by rw [hn] at h9; unfold gdR at cg; rw [cg] at h9; cases h9), zl_1, iN_add]
      rw [if_pos cg] at hs hb
      rw [hs, hb, Nat.add_comm] at b1
      exact b1
    · have cf : (sf Y n i).isSome = false := by cases hh : (sf Y n i).isSome with | false => rfl | true => exact absurd hh cg
      rw [if_pos (by rw [hn]; exact cf)]
      rw [if_neg cg] at hs hb
      rw [hs, hb, Nat.zero_add] at b1
      exact b1
def nin (x : Int32) (a b : Int) : Bool := decide (a ≤ x.toInt ∧ x.toInt ≤ b)
theorem isCount_ok (x : Int32) : m_isCount x = some (bI (nin x 1 5)) := by
  rw [m_isCount, m_in_i, show (1 : Int64).toInt = 1 from rfl, show (5 : Int64).toInt = 5 from rfl]
  simp only [Option.bind_some]
  rw [if_pos (bI_Z _)]
  rfl
theorem nin_iN {x : Int32} {a b : Nat} (hb : b < 1000000) (h : nin x a b = true) : ∃ n, a ≤ n ∧ n ≤ b ∧ x = iN n := by
  unfold nin at h
  rw [decide_eq_true_eq] at h
  rcases i_cases x with ⟨k, hk, rfl⟩ | hn
  · rw [iN_toInt hk] at h
    exact ⟨k, by omega, by omega, rfl⟩
  · omega
theorem SF_RI {σ : MS} {A : AS} {c : Nat} (h : RI σ A c) : SF σ (aY A) c := ⟨h.2.1, h.2.2.2.2.2.2.1, h.2.2.2.2.2.2.2⟩
theorem RI_SF {σ τ : MS} {A : AS} {c d : Nat} (h : RI σ A c) (f : FR fK fA fL σ τ) (s : SF τ (aY A) d) : RI τ A d := RI_ok h f rfl s.2.1 s.2.2
noncomputable def s_good (Y : Yd) (x w : Int32) : Int32 := if nin x 1 5 && nin w 0 1 then (if w = 0 then iN (cG Y x.toNatClampNeg 0) else nbI x.toNatClampNeg (bG Y x.toNatClampNeg 0)) else -2
theorem r_good {σ : MS} {A : AS} {c : Nat} (hc : c < 990000000) (h : RI σ A c) (x w : Int32) : ∃ τ, m_good σ x w = some (s_good (aY A) x w, τ) ∧ RI τ A (c + 1000) := by
  rw [m_good, isCount_ok]
  simp only [Option.bind_some, bI_0]
  unfold s_good
  cases hx : nin x 1 5 with
  | false => rw [if_pos rfl]; exact ⟨σ, rfl, RI_le h (by omega)⟩
  | true =>
    rw [if_neg (by decide), m_in_i, show (0 : Int64).toInt = 0 from rfl, show (1 : Int64).toInt = 1 from rfl]
    simp only [Option.bind_some, bI_0]
    have e : decide ((0 : Int) ≤ w.toInt ∧ w.toInt ≤ 1) = nin w 0 1 := rfl
    rw [e]
    cases hw : nin w 0 1 with
    | false => rw [if_pos rfl]; exact ⟨σ, rfl, RI_le h (by omega)⟩
    | true =>
      obtain ⟨n, h1, h5, rfl⟩ := nin_iN (a := 1) (b := 5) (by omega) hx
      have hfc := (fac_le n (by omega))
      rw [if_neg (by decide), t_pow n (by omega), iN_nat (by omega)]
      simp only [Option.bind_some]
      obtain ⟨τ, a1, a2, a3⟩ := good_L34 h1 h5 w (fac n) N0 c σ (by rw [N0_eq]; omega) (Nat.le_refl _) (by omega) (SF_RI h)
      have e1 : cG (aY A) n (fac n) = 0 := by unfold cG; rw [Nat.sub_self]; rfl
      have e2 : bG (aY A) n (fac n) = none := by unfold bG; rw [Nat.sub_self]; rfl
      rw [e1, e2] at a1
      have a1' : m_good_L34 N0 σ (iN n) w 0 (-6) (iN (fac n) - 1) = some (τ, iN (cG (aY A) n 0), nbI n (bG (aY A) n 0)) := by rw [Int32.sub_eq_add_neg]; exact a1
      rw [a1']
      simp only [Option.bind_some]
      refine ⟨τ, ?_, RI_le (RI_SF h a3 a2) (by omega)⟩
      rw [if_pos (show (true && true) = true from rfl)]
      by_cases cw : w = 0
      · rw [if_pos cw, if_pos cw]
      · rw [if_neg cw, if_neg cw]
/-! MEAN -/
theorem lI_toInt {a : Nat} (h : a < 1000000000) : (lI a).toInt = (a : Int) := Int64.toInt_ofNat_of_lt (by omega)
theorem lI_add (a b : Nat) : lI a + lI b = lI (a + b) := (Int64.ofNat_add a b).symm
theorem lI_eq {a b : Nat} (ha : a < 1000000000) (hb : b < 1000000000) : (lI a = lI b) = (a = b) := by
  apply propext
  constructor
  · intro h
    have := congrArg Int64.toInt h
    rw [lI_toInt ha, lI_toInt hb] at this
    omega
  · intro h; rw [h]
theorem lI_div {a b : Nat} (ha : a < 1000000000) (hb : b < 1000000000) : lI a / lI b = lI (a / b) := (Int64.ofNat_div (by omega) (by omega)).symm
theorem lI_mul (a b : Nat) : lI a * lI b = lI (a * b) := (Int64.ofNat_mul a b).symm
theorem lI_sub {a b : Nat} (h : b ≤ a) : lI a - lI b = lI (a - b) := (Int64.ofNat_sub a b h).symm
theorem lI_rm {a b : Nat} (ha : a < 1000000000) (hb : b < 1000000000) : lrm (lI a) (lI b) = lI (a % b) := by
  unfold lrm
  rw [lI_div ha hb, lI_mul, lI_sub (Nat.div_mul_le_self a b), Nat.mod_eq_sub_div_mul]
theorem i64_lI {a : Nat} (h : a < 1000000000) : (iN a).toInt64 = lI a := by
  apply Int64.toInt_inj.mp
  rw [Int32.toInt_toInt64, iN_toInt (by omega), lI_toInt h]
theorem low_L16 (u v : Int64) (p : Int32) : ∀ (b a f : Nat), b < f → a < 1000000000 → b < 1000000000 → m_lowest_L16 f u v p (lI a) (lI b) = some (lI (Nat.gcd a b)) := by
  intro b
  induction b using Nat.strongRecOn with
  | ind b ih =>
    intro a f hf ha hb
    obtain ⟨f, rfl⟩ : ∃ g, f = g + 1 := ⟨f - 1, by omega⟩
    rw [m_lowest_L16]
    by_cases c : b = 0
    · subst c
      rw [if_pos (by rw [eq64]; rfl), Nat.gcd_zero_right]
    · have hne : ¬ lI b = 0 := by rw [show (0 : Int64) = lI 0 from rfl, lI_eq hb (by omega)]; exact c
      have hm : a % b < b := Nat.mod_lt _ (by omega)
      rw [if_neg (by rw [eq64]; exact hne), if_pos hne, lI_rm ha hb, ih (a % b) hm b f (by omega) hb (by omega)]
      rw [Nat.gcd_comm a b, Nat.gcd_rec b a, Nat.gcd_comm]
def s_low (u v : Nat) (p : Int32) : Int64 := if v = 0 then p.toInt64 else if p = 0 then lI (u / Nat.gcd u v) else lI (v / Nat.gcd u v)
theorem low_ok {u v : Nat} (hu : u < 100000) (hv : v < 100000) (p : Int32) : m_lowest (lI u) (lI v) p = some (s_low u v p) := by
  rw [m_lowest]
  unfold s_low
  by_cases c : v = 0
  · subst c
    rw [if_pos (by rw [eq64]; rfl), if_pos rfl]
  · have hne : ¬ lI v = 0 := by rw [show (0 : Int64) = lI 0 from rfl, lI_eq (by omega) (by omega)]; exact c
    have hg : 0 < Nat.gcd u v := Nat.gcd_pos_of_pos_right _ (by omega)
    have hg2 : Nat.gcd u v ≤ v := Nat.le_of_dvd (by omega) (Nat.gcd_dvd_right u v)
    have hgn : ¬ lI (Nat.gcd u v) = 0 := by rw [show (0 : Int64) = lI 0 from rfl, lI_eq (by omega) (by omega)]; omega
    rw [if_neg (by rw [eq64]; exact hne), if_neg c, low_L16 _ _ _ v u N0 (by rw [N0_eq]; omega) (by omega) (by omega)]
    simp only [Option.bind_some]
    rw [if_pos hgn, if_pos hgn, lI_div (by omega) (by omega), lI_div (by omega) (by omega)]
    by_cases cp : p = 0
    · rw [if_pos cp, if_pos cp]
    · rw [if_neg cp, if_neg cp]
theorem mS_s {Y : Yd} {n k : Nat} (h : k < fac n) : mS Y n k = (sf Y n k).getD 0 + mS Y n (k + 1) := by
  unfold mS
  rw [rng_c h, List.map_cons, List.sum_cons]
theorem mean_L29 {Y : Yd} {n : Nat} (h1 : 1 ≤ n) (h5 : n ≤ 5) (x2 : Int32) : ∀ (d k f c a b : Nat) (σ : MS), d < f → k + d = fac n → c + d < 999000000 → a + 20 * d < 100000 → SF σ Y c → ∃ τ, m_mean_L29 f σ (iN n) x2 (lI a) (lI b) (iN k) = some (τ, lI (a + mS Y n k), lI (b + cG Y n k)) ∧ SF τ Y (c + d) ∧ FR fK fA fL σ τ ∧ mS Y n k ≤ 20 * d := by
  intro d
  induction d with
  | zero =>
    intro k f c a b σ hf hk hc ha h
    obtain ⟨f, rfl⟩ : ∃ g, f = g + 1 := ⟨f - 1, by omega⟩
    have hfc := (fac_le n (by omega)).2
    have e1 : cG Y n k = 0 := by unfold cG; rw [show fac n - k = 0 by omega]; rfl
    have e2 : mS Y n k = 0 := by unfold mS; rw [show fac n - k = 0 by omega]; rfl
    refine ⟨σ, ?_, h, FR_rf, by omega⟩
    rw [m_mean_L29, t_pow n (by omega)]
    simp only [Option.bind_some]
    rw [jlt (by omega) (by omega), if_neg (by omega), e1, e2]
    rfl
  | succ d ih =>
    intro k f c a b σ hf hk hc ha h
    obtain ⟨f, rfl⟩ : ∃ g, f = g + 1 := ⟨f - 1, by omega⟩
    have hfc := (fac_le n (by omega)).2
    have hkf : k < fac n := by omega
    obtain ⟨τ1, τ, a1, a2, a3, a4, a5, _⟩ := trainFar_ok (show c < 999000000 by omega) h h1 h5 hkf
    have hn := rI_neg _ a5
    have hs := cG_s (Y := Y) hkf
    have hm := mS_s (Y := Y) hkf
    cases hsf : sf Y n k with
    | none =>
      have hg : gdR Y n k = false := by unfold gdR; rw [hsf]; rfl
      rw [hg, if_neg (by decide), Nat.zero_add] at hs
      rw [hsf, Option.getD_none, Nat.zero_add] at hm
      obtain ⟨υ, b1, b2, b3, b4⟩ := ih (k + 1) f (c + 1) a b τ (by omega) (by omega) (by omega) (by omega) a3
      refine ⟨υ, ?_, by rw [show c + (d + 1) = c + 1 + d by omega]; exact b2, FR_tr a4 b3, by omega⟩
      rw [m_mean_L29, t_pow n (by omega)]
      simp only [Option.bind_some]
      rw [jlt (by omega) (by omega), if_pos (by omega), a1]
      simp only [Option.bind_some]
      rw [a2, hsf]
      simp only [Option.bind_some]
      rw [if_pos (by decide), m_mean_J65, if_pos (by decide), zl_1, iN_add, Int64.add_zero, Int64.add_zero, b1, hs, hm]
    | some q =>
      have hq := a5 q hsf
      have hg : gdR Y n k = true := by unfold gdR; rw [hsf]; rfl
      rw [hg, if_pos rfl] at hs
      rw [hsf, Option.getD_some] at hm
      obtain ⟨υ, b1, b2, b3, b4⟩ := ih (k + 1) f (c + 1) (a + q) (b + 1) τ (by omega) (by omega) (by omega) (by omega) a3
      refine ⟨υ, ?_, by rw [show c + (d + 1) = c + 1 + d by omega]; exact b2, FR_tr a4 b3, by omega⟩
      have hnn : ¬ rI (some q) < 0 := iN_nneg (by omega)
      rw [m_mean_L29, t_pow n (by omega)]
      simp only [Option.bind_some]
      rw [jlt (by omega) (by omega), if_pos (by omega), a1]
      simp only [Option.bind_some]
      rw [a2, hsf]
      simp only [Option.bind_some]
      rw [if_neg hnn, m_mean_J65, if_neg hnn, zl_1, iN_add, show (rI (some q)).toInt64 = lI q from i64_lI (by omega), lI_add, show (1 : Int64) = lI 1 from rfl, lI_add, b1, hs, hm, Nat.add_assoc, Nat.add_assoc]
noncomputable def s_mean (Y : Yd) (x p : Int32) : Int64 := if nin x 1 5 && nin p 0 1 then s_low (mS Y x.toNatClampNeg 0) (cG Y x.toNatClampNeg 0) p else -1000000000000000002
theorem r_mean {σ : MS} {A : AS} {c : Nat} (hc : c < 990000000) (h : RI σ A c) (x w : Int32) : ∃ τ, m_mean σ x w = some (s_mean (aY A) x w, τ) ∧ RI τ A (c + 1000) ∧ (∀ n, 1 ≤ n → n ≤ 5 → x = iN n → nin w 0 1 = true → mS (aY A) n 0 ≤ 2400) := by
  rw [m_mean, isCount_ok]
  simp only [Option.bind_some, bI_0]
  unfold s_mean
  cases hx : nin x 1 5 with
  | false =>
    rw [if_pos rfl]
    refine ⟨σ, rfl, RI_le h (by omega), fun n a b e => ?_⟩
    rw [e] at hx
    unfold nin at hx
    rw [iN_toInt (by omega), decide_eq_false_iff_not] at hx
    omega
  | true =>
    rw [if_neg (by decide), m_in_i, show (0 : Int64).toInt = 0 from rfl, show (1 : Int64).toInt = 1 from rfl]
    simp only [Option.bind_some, bI_0]
    have e : decide ((0 : Int) ≤ w.toInt ∧ w.toInt ≤ 1) = nin w 0 1 := rfl
    rw [e]
    cases hw : nin w 0 1 with
    | false => rw [if_pos rfl]; exact ⟨σ, rfl, RI_le h (by omega), fun n a b e h9 => by cases h9⟩
    | true =>
      obtain ⟨n, h1, h5, rfl⟩ := nin_iN (a := 1) (b := 5) (by omega) hx
      have hfc := (fac_le n (by omega))
      rw [if_neg (by decide), iN_nat (by omega)]
      obtain ⟨τ, a1, a2, a3, a4⟩ := mean_L29 h1 h5 w (fac n) 0 N0 c 0 0 σ (by rw [N0_eq]; omega) (by omega) (by omega) (by omega) (SF_RI h)
      have a1' : m_mean_L29 N0 σ (iN n) w 0 0 0 = some (τ, lI (0 + mS (aY A) n 0), lI (0 + cG (aY A) n 0)) := a1
      have hcg := cG_le (aY A) n 0
      rw [a1']
      simp only [Option.bind_some]
      rw [Nat.zero_add, Nat.zero_add, low_ok (by omega) (by omega)]
      refine ⟨τ, rfl, RI_le (RI_SF h a3 a2) (by omega), fun m m1 m5 e _ => ?_⟩
      have : n = m := iN_inj (by omega) (by omega) e
      subst this
      omega
