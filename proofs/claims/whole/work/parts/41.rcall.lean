/-! THE REFERENCE: its state, and its calls -/
def OR (σ : MS) (Y : Yd) : Prop := gI σ 10 = iN (yM Y) ∧ gI σ 11 = iN (yT Y) ∧ (∀ i, i < yM Y → av σ 5 i = iN (yL Y i) ∧ av σ 6 i = iN (yN Y i) ∧ av σ 7 i = iN (yS Y i)) ∧ ∀ k, k < yT Y → av σ 8 k = bI (yD Y k)
def PR (σ : MS) (p : List Nat) : Prop := gI σ 13 = iN p.length ∧ ∀ k, k < p.length → av σ 9 k = iN (p.getD k 0)
def GR (σ : MS) (Y : Yd) (G : PlA) : Prop := gI σ 37 = iN G.1 ∧ (1 ≤ G.1 → gI σ 35 = iN (num G.2.1) ∧ gI σ 36 = iN (num G.2.2.1) ∧ gI σ 39 = iN G.2.2.2.length ∧ ∀ k, k ≤ G.2.2.2.length → av σ 27 k = iN (key (yM Y) (posn G.1 (G.2.2.2.take k))))
/-- what an IMAGE holds, from the cell b on -/
def KR (σ : MS) (b : Nat) (im : ImA) : Prop :=
  av σ 28 b = iN (yM im.1) ∧ av σ 28 (b + 1) = iN (yT im.1) ∧ av σ 28 (b + 2) = iN (yM im.2.1) ∧ av σ 28 (b + 3) = iN (yT im.2.1) ∧
  av σ 28 (b + 6) = iN im.2.2.1 ∧
  (1 ≤ im.2.2.1 → av σ 28 (b + 4) = iN (num im.2.2.2.1) ∧ av σ 28 (b + 5) = iN (num im.2.2.2.2.1) ∧ av σ 28 (b + 7) = iN im.2.2.2.2.2.length ∧ ∀ k, k ≤ im.2.2.2.2.2.length → av σ 28 (b + 38 + k) = iN (key (yM im.1) (posn im.2.2.1 (im.2.2.2.2.2.take k)))) ∧
  (∀ i, i < yM im.1 → av σ 28 (b + 8 + 6 * i) = iN (yL im.1 i) ∧ av σ 28 (b + 9 + 6 * i) = iN (yN im.1 i) ∧ av σ 28 (b + 10 + 6 * i) = iN (yS im.1 i)) ∧
  (∀ i, i < yM im.2.1 → av σ 28 (b + 11 + 6 * i) = iN (yL im.2.1 i) ∧ av σ 28 (b + 12 + 6 * i) = iN (yN im.2.1 i) ∧ av σ 28 (b + 13 + 6 * i) = iN (yS im.2.1 i)) ∧
  (∀ k, k < yT im.1 → av σ 28 (b + 32 + 2 * k) = bI (yD im.1 k)) ∧
  (∀ k, k < yT im.2.1 → av σ 28 (b + 33 + 2 * k) = bI (yD im.2.1 k))
def IR (σ : MS) (I : Nat → Option ImA) : Prop := ∀ i, i < 2 → av σ 29 i = bI (I i).isSome ∧ ∀ im, I i = some im → KR σ (100 * i) im
def RI (σ : MS) (A : AS) (c : Nat) : Prop := VA A ∧ YR σ (aY A) ∧ OR σ (aO A) ∧ PR σ (aP A) ∧ GR σ (aY A) (aG A) ∧ IR σ (aI A) ∧ FA σ (aY A) ∧ MKb σ c
/-- what may be written without harm -/
def okF (ks as : List Nat) : Bool := ks.all (fun k => [16, 22, 23, 25, 42, 43].contains k) && as.all (fun k => [10, 11, 12, 13, 14, 16, 17, 18, 20, 21, 22, 23, 24, 25, 26].contains k)
theorem okF_k {ks as : List Nat} (h : okF ks as = true) (k : Nat) (hk : [16, 22, 23, 25, 42, 43].contains k = false) : k ∉ ks := by
  simp only [okF, Bool.and_eq_true, List.all_eq_true] at h
  intro h9
  have := h.1 k h9
  rw [hk] at this
  cases this
theorem okF_a {ks as : List Nat} (h : okF ks as = true) (k : Nat) (hk : [10, 11, 12, 13, 14, 16, 17, 18, 20, 21, 22, 23, 24, 25, 26].contains k = false) : k ∉ as := by
  simp only [okF, Bool.and_eq_true, List.all_eq_true] at h
  intro h9
  have := h.2 k h9
  rw [hk] at this
  cases this
theorem YR_ok {ks as ls : List Nat} {σ τ : MS} {Y : Yd} (h : YR σ Y) (f : FR ks as ls σ τ) (o : okF ks as = true) : YR τ Y := by
  obtain ⟨v, y1, y2, y3, y4⟩ := h
  refine ⟨v, by rw [f.1 4 (okF_k o 4 rfl), y1], by rw [f.1 5 (okF_k o 5 rfl), y2], fun i hi => ?_, fun k hk => ?_⟩
  · rw [f.2.1 1 (okF_a o 1 rfl), f.2.1 2 (okF_a o 2 rfl), f.2.1 3 (okF_a o 3 rfl)]; exact y3 i hi
  · rw [f.2.1 4 (okF_a o 4 rfl)]; exact y4 k hk
theorem OR_ok {ks as ls : List Nat} {σ τ : MS} {Y : Yd} (h : OR σ Y) (f : FR ks as ls σ τ) (o : okF ks as = true) : OR τ Y := by
  obtain ⟨y1, y2, y3, y4⟩ := h
  refine ⟨by rw [f.1 10 (okF_k o 10 rfl), y1], by rw [f.1 11 (okF_k o 11 rfl), y2], fun i hi => ?_, fun k hk => ?_⟩
  · rw [f.2.1 5 (okF_a o 5 rfl), f.2.1 6 (okF_a o 6 rfl), f.2.1 7 (okF_a o 7 rfl)]; exact y3 i hi
  · rw [f.2.1 8 (okF_a o 8 rfl)]; exact y4 k hk
theorem PR_ok {ks as ls : List Nat} {σ τ : MS} {p : List Nat} (h : PR σ p) (f : FR ks as ls σ τ) (o : okF ks as = true) : PR τ p :=
  ⟨by rw [f.1 13 (okF_k o 13 rfl)]; exact h.1, fun k hk => by rw [f.2.1 9 (okF_a o 9 rfl)]; exact h.2 k hk⟩
theorem GR_ok {ks as ls : List Nat} {σ τ : MS} {Y : Yd} {G : PlA} (h : GR σ Y G) (f : FR ks as ls σ τ) (o : okF ks as = true) : GR τ Y G := by
  obtain ⟨g1, g2⟩ := h
  refine ⟨by rw [f.1 37 (okF_k o 37 rfl), g1], fun h1 => ?_⟩
  obtain ⟨a, b, c, d⟩ := g2 h1
  exact ⟨by rw [f.1 35 (okF_k o 35 rfl), a], by rw [f.1 36 (okF_k o 36 rfl), b], by rw [f.1 39 (okF_k o 39 rfl), c], fun k hk => by rw [f.2.1 27 (okF_a o 27 rfl)]; exact d k hk⟩
theorem KR_eq {σ τ : MS} {b : Nat} {im : ImA} (h : KR σ b im) (e : ∀ j, av τ 28 j = av σ 28 j) : KR τ b im := by
  unfold KR at h ⊢
  simp only [e]
  exact h
theorem IR_ok {ks as ls : List Nat} {σ τ : MS} {I : Nat → Option ImA} (h : IR σ I) (f : FR ks as ls σ τ) (o : okF ks as = true) : IR τ I := by
  intro i hi
  obtain ⟨a, b⟩ := h i hi
  exact ⟨by rw [f.2.1 29 (okF_a o 29 rfl)]; exact a, fun im him => KR_eq (b im him) (f.2.1 28 (okF_a o 28 rfl))⟩
theorem RI_ok {ks as ls : List Nat} {σ τ : MS} {A : AS} {c d : Nat} (h : RI σ A c) (f : FR ks as ls σ τ) (o : okF ks as = true) (hF : FA τ (aY A)) (hM : MKb τ d) : RI τ A d := by
  obtain ⟨a1, a2, a3, a4, a5, a6, a7, a8⟩ := h
  exact ⟨a1, YR_ok a2 f o, OR_ok a3 f o, PR_ok a4 f o, GR_ok a5 f o, IR_ok a6 f o, hF, hM⟩
/-- what may be written, the tables of LEAST as well untouched -/
theorem RI_lo {ks as ls : List Nat} {σ τ : MS} {A : AS} {c : Nat} (h : RI σ A c) (f : FR ks as ls σ τ) (o : okF ks as = true) (o2 : (as.contains 18 || as.contains 20 || ls.contains 19) = false) (o3 : (ks.contains 23 || as.contains 13) = false) : RI τ A c :=
  RI_ok h f o (FA_fr h.2.2.2.2.2.2.1 f o2) (MKb_fr h.2.2.2.2.2.2.2 f o3)
theorem RI_le {σ : MS} {A : AS} {c d : Nat} (h : RI σ A c) (hd : c ≤ d) : RI σ A d := by
  obtain ⟨a1, a2, a3, a4, a5, a6, a7, a8⟩ := h
  exact ⟨a1, a2, a3, a4, a5, a6, a7, MKb_le a8 hd⟩
theorem i64 (k : Nat) (h : k < 2147483648) : (iN k).toInt64.toInt = k := by rw [Int32.toInt_toInt64, iN_toInt h]
theorem isSiding_ok {σ : MS} {Y : Yd} (hY : YR σ Y) (x : Int32) : m_isSiding σ x = some (bI (sdx Y x)) := by
  have h1 := hY.1.1
  have h2 := hY.1.2.1
  rw [m_isSiding, hY.2.1, zl_1, iN_sub h1, m_in_i, i64 _ (by omega)]
  simp only [Option.bind_some]
  rw [if_pos (bI_Z _)]
  congr 2
  unfold sdx
  apply decide_eq_decide.mpr
  rw [show (0 : Int64).toInt = 0 from rfl]
  omega
theorem sdx_iN {Y : Yd} (hM : yM Y ≤ 4) {x : Int32} (h : sdx Y x = true) : ∃ k, k < yM Y ∧ x = iN k ∧ x.toNatClampNeg = k := by
  unfold sdx at h
  rw [decide_eq_true_eq] at h
  rcases i_cases x with ⟨k, hk, rfl⟩ | hn
  · rw [iN_toInt hk] at h
    exact ⟨k, by omega, rfl, iN_nat hk⟩
  · omega
theorem r_siding {σ : MS} {Y : Yd} (hY : YR σ Y) (x w : Int32) : m_siding σ x w = some (s_siding Y x w) := by
  have h2 := hY.1.2.1
  rw [m_siding, isSiding_ok hY]
  simp only [Option.bind_some, bI_0]
  unfold s_siding
  cases h : sdx Y x with
  | false => rw [if_pos rfl, if_neg (by decide)]
  | true =>
    obtain ⟨k, hk, rfl, hc⟩ := sdx_iN h2 h
    have hin : inb (iN k) 4 := by rw [iN_inb (by omega)]; omega
    rw [if_neg (by decide), if_pos rfl, if_pos hin, if_pos hin, if_pos hin, gA_av (by omega), gA_av (by omega), gA_av (by omega), (hY.2.2.2.1 k hk).1, (hY.2.2.2.1 k hk).2.1, (hY.2.2.2.1 k hk).2.2, hc]
    split
    · rfl
    · split
      · rfl
      · split <;> rfl
theorem r_leads {σ : MS} {Y : Yd} (hY : YR σ Y) (x y : Int32) : m_leads σ x y = some (s_leads Y x y) := by
  have h1 := hY.1.1
  have h2 := hY.1.2.1
  have hsub : ∀ z : Int32, 1 ≤ z.toInt → z.toInt ≤ 4 → (sdx Y (z - 1) = true ↔ msg Y z = false) := by
    intro z hz1 hz4
    rcases i_cases z with ⟨k, hk, rfl⟩ | hn
    · rw [iN_toInt hk] at hz1 hz4
      rw [zl_1, iN_sub (by omega)]
      unfold sdx msg
      rw [iN_toInt (by omega), iN_toInt (by omega), decide_eq_true_eq, decide_eq_false_iff_not]
      omega
    · omega
  have hno : ∀ z : Int32, ¬ (1 ≤ z.toInt ∧ z.toInt ≤ 4) → msg Y z = false := by
    intro z hz
    unfold msg
    rw [decide_eq_false_iff_not]
    omega
  have e46 : m_leads_J46 σ x y = if msg Y x = true ∨ msg Y y = true then m_leads_J46 σ x y else some (s_leads Y x y) := by
    by_cases c : msg Y x = true ∨ msg Y y = true
    · rw [if_pos c]
    · rw [if_neg c]
      have cx : msg Y x = false := by cases h : msg Y x with | false => rfl | true => exact absurd (Or.inl h) c
      have cy : msg Y y = false := by cases h : msg Y y with | false => rfl | true => exact absurd (Or.inr h) c
      unfold s_leads
      rw [cx, cy, m_leads_J46, m_in_i]
      simp only [Option.bind_some, bI_0]
      rw [show (0 : Int64).toInt = 0 from rfl, show (4 : Int64).toInt = 4 from rfl, m_in_i, show (1 : Int64).toInt = 1 from rfl, show (5 : Int64).toInt = 5 from rfl]
      simp only [Option.bind_some, bI_0, decide_eq_false_iff_not]
      by_cases d1 : 0 ≤ x.toInt ∧ x.toInt ≤ 4
      · rw [if_neg (fun h => h d1)]
        by_cases d2 : 1 ≤ y.toInt ∧ y.toInt ≤ 5
        · rw [if_neg (fun h => h d2)]
          rcases i_cases x with ⟨k, hk, rfl⟩ | hn
          · rcases i_cases y with ⟨j, hj, rfl⟩ | hn2
            · unfold msg at cx cy
              rw [decide_eq_false_iff_not] at cx cy
              rw [iN_toInt hk] at d1 cx ⊢
              rw [iN_toInt hj] at d2 cy ⊢
              rw [goes_ok hY (show k ≤ yM Y by omega) (by omega)]
              simp only [Option.bind_some, bI_0]
              rw [if_neg (show ¬ ((false || false) = true) by decide), if_pos (show 0 ≤ (k : Int) ∧ (k : Int) ≤ 4 ∧ 1 ≤ (j : Int) ∧ (j : Int) ≤ 5 by omega), iN_nat hk, iN_nat hj]
              cases go Y k j <;> rfl
            · omega
          · omega
        · rw [if_pos d2, if_neg (by decide), if_neg (by omega)]
      · rw [if_pos d1, if_neg (by decide), if_neg (by omega)]
  have e22 : m_leads_J22 σ x y = if msg Y x = true then m_leads_J22 σ x y else some (s_leads Y x y) := by
    by_cases c : msg Y x = true
    · rw [if_pos c]
    · rw [if_neg c]
      have cx : msg Y x = false := by cases h : msg Y x with | false => rfl | true => exact absurd h c
      rw [m_leads_J22, m_in_i, show (1 : Int64).toInt = 1 from rfl, show (4 : Int64).toInt = 4 from rfl]
      simp only [Option.bind_some, bI_0, decide_eq_false_iff_not]
      by_cases d : 1 ≤ y.toInt ∧ y.toInt ≤ 4
      · rw [if_neg (fun h => h d), isSiding_ok hY]
        simp only [Option.bind_some, bI_0]
        cases hy : msg Y y with
        | false =>
          rw [(hsub y d.1 d.2).mpr hy, if_neg (by decide), e46, if_neg (by rw [cx, hy]; decide)]
        | true =>
          have : sdx Y (y - 1) = false := by
            cases h : sdx Y (y - 1) with
            | false => rfl
            | true => rw [(hsub y d.1 d.2).mp h] at hy; cases hy
          rw [this, if_pos rfl]
          unfold s_leads
          rw [hy, Bool.or_true, if_pos rfl]
      · rw [if_pos d, e46, if_neg (by rw [cx, hno y d]; decide)]
  rw [m_leads, m_in_i, show (1 : Int64).toInt = 1 from rfl, show (4 : Int64).toInt = 4 from rfl]
  simp only [Option.bind_some, bI_0, decide_eq_false_iff_not]
  by_cases d : 1 ≤ x.toInt ∧ x.toInt ≤ 4
  · rw [if_neg (fun h => h d), isSiding_ok hY]
    simp only [Option.bind_some, bI_0]
    cases hx : msg Y x with
    | false => rw [(hsub x d.1 d.2).mpr hx, if_neg (by decide), e22, if_neg (by rw [hx]; decide)]
    | true =>
      have : sdx Y (x - 1) = false := by
        cases h : sdx Y (x - 1) with
        | false => rfl
        | true => rw [(hsub x d.1 d.2).mp h] at hx; cases hx
      rw [this, if_pos rfl]
      unfold s_leads
      rw [hx, Bool.true_or, if_pos rfl]
  · rw [if_pos d, e22, if_neg (by rw [hno x d]; decide)]
theorem r_least {σ : MS} {A : AS} {c : Nat} (hc : c < 1000000000) (h : RI σ A c) (x y : Int32) : ∃ τ, m_least σ x y = some (s_least (aY A) x y, τ) ∧ RI τ A (c + 1) := by
  rw [m_least, m_two]
  simp only [Option.bind_some, bI_0]
  unfold s_least
  cases hp : pr2 x y with
  | none =>
    rw [pr2_none hp, if_pos rfl]
    exact ⟨σ, rfl, RI_le h (by omega)⟩
  | some p =>
    obtain ⟨n, t, o⟩ := p
    obtain ⟨h1, h5, ht, ho, rfl, rfl, hx, hy, hd⟩ := pr2_some hp
    rw [hd, if_neg (by decide), m_wag, hx]
    obtain ⟨τ, a1, a2, a3, a4, a5⟩ := found_ok h.2.1 h1 h5 hc h.2.2.2.2.2.2.2 h.2.2.2.2.2.2.1 ht ho
    have hr := rel_mem ht ho
    have hrk := rk_lt (by omega) hr
    have hfc := (fac_le n (by omega)).2
    refine ⟨τ, ?_, RI_ok h a2 rfl a4 a3⟩
    simp only [Option.bind_some]
    rw [a1]
    simp only [Option.bind_some]
    rw [if_pos (by rw [iN_inb (by omega)]; omega), gA_av (by omega), (a5.2 _ hr).1]
theorem r_ways {σ : MS} {A : AS} {c : Nat} (hc : c < 1000000000) (h : RI σ A c) (x y : Int32) : ∃ τ, m_ways σ x y = some (s_ways (aY A) x y, τ) ∧ RI τ A (c + 1) := by
  rw [m_ways, m_two]
  simp only [Option.bind_some, bI_0]
  unfold s_ways
  cases hp : pr2 x y with
  | none =>
    rw [pr2_none hp, if_pos rfl]
    exact ⟨σ, rfl, RI_le h (by omega)⟩
  | some p =>
    obtain ⟨n, t, o⟩ := p
    obtain ⟨h1, h5, ht, ho, rfl, rfl, hx, hy, hd⟩ := pr2_some hp
    rw [hd, if_neg (by decide), m_wag, hx]
    obtain ⟨τ, a1, a2, a3, a4, a5⟩ := found_ok h.2.1 h1 h5 hc h.2.2.2.2.2.2.2 h.2.2.2.2.2.2.1 ht ho
    have hr := rel_mem ht ho
    have hrk := rk_lt (by omega) hr
    have hfc := (fac_le n (by omega)).2
    refine ⟨τ, ?_, RI_ok h a2 rfl a4 a3⟩
    simp only [Option.bind_some]
    rw [a1]
    simp only [Option.bind_some]
    rw [if_pos (by rw [iN_inb (by omega)]; omega), gL_wv (by omega), (a5.2 _ hr).2]
/-! NEXT, FIRST -/
def imv (Y : Yd) (m : Nat) : Bool := decide (mf m ≤ yM Y ∧ me m < 2 ∧ (mt m = 5 ∨ (1 ≤ mt m ∧ mt m ≤ yM Y)) ∧ mx m < 2)
theorem isMove_ok {σ : MS} {Y : Yd} (hY : YR σ Y) {m : Nat} (hm : m < 2147483648) : m_isMove σ (iN (m / 1000)) (iN (m / 100 % 10)) (iN (m / 10 % 10)) (iN (m % 10)) = some (bI (imv Y m)) := by
  have h2 := hY.1.2.1
  rw [m_isMove, hY.2.1, m_in_i, i64 _ (by omega), iN_toInt (by omega), m_in_i, i64 _ (by omega), iN_toInt (by omega)]
  simp only [Option.bind_some, bI_0, decide_eq_false_iff_not]
  rw [show (0 : Int64).toInt = 0 from rfl, show (1 : Int64).toInt = 1 from rfl, zl_2, jlt (by omega) (by omega), zl_5, jeq (by omega) (by omega), jlt (by omega) (by omega)]
  unfold imv mf me mt mx
  by_cases c1 : m / 1000 ≤ yM Y
  · rw [if_neg (by omega)]
    by_cases c2 : m / 100 % 10 < 2
    · rw [if_pos c2]
      by_cases c3 : m / 10 % 10 = 5
      · rw [if_pos c3]
        by_cases c4 : m % 10 < 2
        · rw [if_pos c4, decide_eq_true ⟨c1, c2, Or.inl c3, c4⟩]; rfl
        · rw [if_neg c4, decide_eq_false (fun h => c4 h.2.2.2)]; rfl
      · rw [if_neg c3]
        by_cases c5 : 1 ≤ m / 10 % 10 ∧ m / 10 % 10 ≤ yM Y
        · rw [if_neg (by omega)]
          by_cases c4 : m % 10 < 2
          · rw [if_pos c4, decide_eq_true ⟨c1, c2, Or.inr c5, c4⟩]; rfl
          · rw [if_neg c4, decide_eq_false (fun h => c4 h.2.2.2)]; rfl
        · rw [if_pos (by omega), decide_eq_false (fun h => h.2.2.1.elim c3 c5)]; rfl
    · rw [if_neg c2, decide_eq_false (fun h => c2 h.2.1)]; rfl
  · rw [if_pos (by omega), decide_eq_false (fun h => c1 h.1)]; rfl
theorem oks_imv {Y : Yd} (hY : VY Y) {P : Ps} {m : Nat} : m ∈ oks Y P ↔ imv Y m = true ∧ cm_ Y P (mf m) (me m) (mt m) (mx m) = true := by
  rw [mem_oks hY]
  have hM := hY.2.1
  unfold imv
  rw [decide_eq_true_eq]
  constructor
  · rintro ⟨a, b⟩
    have g := gm_parts a
    refine ⟨⟨g.1, g.2.1, g.2.2.1, g.2.2.2.1⟩, ?_⟩
    rw [cmv_eq hM g.1 g.2.1 g.2.2.1 g.2.2.2.1, mk4_mk, a, b]
    rfl
  · rintro ⟨⟨a1, a2, a3, a4⟩, b⟩
    rw [cmv_eq hM a1 a2 a3 a4, mk4_mk, Bool.and_eq_true] at b
    exact b
theorem mk4_div (m : Nat) : mf m = m / 1000 ∧ me m = m / 100 % 10 ∧ mt m = m / 10 % 10 ∧ mx m = m % 10 := ⟨rfl, rfl, rfl, rfl⟩
theorem nextOf_L3 {Y : Yd} {n : Nat} (h1n : 1 ≤ n) (hn : n ≤ 5) {W : List Nat} (hWn : W.length = n) {P : Ps} (hv : VP Y n P) {r : Nat} (hr : r < 100) : ∀ (d m f c : Nat) (σ : MS), d < f → m + d = 5000 → c + d < 1000000000 → YR σ Y → WR σ W → MKb σ c →
    ∃ τ, FR [16, 22, 23] [10, 11, 12, 13, 14, 16] [15] σ τ ∧ MKb τ (c + (og (oks Y P) m).length) ∧
    m_nextOf_L3 f σ (iN (key (yM Y) P)) (iN n) (iN (r + 1)) (iN m) = some (match (og (oks Y P) m).find? (fun k => decide (rest Y n W (mv P k) = some r)) with
      | some k => .inr (iN k, τ)
      | none => .inl τ) := by
  intro d
  induction d with
  | zero =>
    intro m f c σ hf hm hc hY hW hMK
    obtain ⟨f, rfl⟩ : ∃ g, f = g + 1 := ⟨f - 1, by omega⟩
    have e : og (oks Y P) m = [] := og_end (fun x hx => by have := oks_lt hx; omega)
    refine ⟨σ, FR_rf, MKb_le hMK (Nat.le_add_right _ _), ?_⟩
    rw [m_nextOf_L3, zl_5000, jlt (by omega) (by omega), if_neg (by omega), e]
    rfl
  | succ d ih =>
    intro m f c σ hf hm hc hY hW hMK
    obtain ⟨f, rfl⟩ : ∃ g, f = g + 1 := ⟨f - 1, by omega⟩
    have hog := og_step (oks_srt Y P) m
    have hbase : m_nextOf_L3 (f + 1) σ (iN (key (yM Y) P)) (iN n) (iN (r + 1)) (iN m) = (if bI (imv Y m) = 0 then m_nextOf_L3 f σ (iN (key (yM Y) P)) (iN n) (iN (r + 1)) (iN (m + 1)) else
          (m_decode σ (iN (key (yM Y) P))).bind fun q63 =>
            (m_canMove q63 (iN (m / 1000)) (iN (m / 100 % 10)) (iN (m / 10 % 10)) (iN (m % 10)) (iN n)).bind fun q76 =>
              if q76 = 0 then
                m_nextOf_L3 f q63 (iN (key (yM Y) P)) (iN n) (iN (r + 1)) (iN (m + 1))
              else
                (m_doMove q63 (iN (m / 1000)) (iN (m / 100 % 10)) (iN (m / 10 % 10)) (iN (m % 10))).bind fun q91 =>
                  (m_encode q91).bind fun q96 =>
                    (m_search q91 q96 (iN n)).bind fun q100 =>
                      if q100.1 = (iN (r + 1) - 1) then
                        some (.inr (iN m, q100.2))
                      else
                        m_nextOf_L3 f q100.2 (iN (key (yM Y) P)) (iN n) (iN (r + 1)) (iN (m + 1))) := by
      rw [m_nextOf_L3, zl_5000, jlt (by omega) (by omega), if_pos (by omega), zl_1000, zl_100, zl_10, iN_div (by omega) (by omega), iN_div (by omega) (by omega), iN_div (by omega) (by omega), iN_irm (by omega) (by omega), iN_irm (by omega) (by omega), iN_irm (by omega) (by omega), isMove_ok hY (by omega)]
      simp only [Option.bind_some]
      rw [zl_1, iN_add]
    rw [hbase]
    have hmk : mk4 (m / 1000) (m / 100 % 10) (m / 10 % 10) (m % 10) = m := mk4_mk m
    by_cases ci : imv Y m = true
    · have cp := ci
      unfold imv at cp
      rw [decide_eq_true_eq] at cp
      obtain ⟨c1, c2, c3, c4⟩ := cp
      obtain ⟨τ1, t1, t2, t3, t4⟩ := decode_ok hY hn hv
      have hY1 := YR_fr hY t4 rfl
      have hcm := canMove_ok hY1 hn hv t2 t3 c1 c2 c3 c4
      rw [ci, if_neg (by decide), t1]
      simp only [Option.bind_some]
      have hcm' : m_canMove τ1 (iN (m / 1000)) (iN (m / 100 % 10)) (iN (m / 10 % 10)) (iN (m % 10)) (iN n) = some (bI (cm_ Y P (mf m) (me m) (mt m) (mx m))) := hcm
      rw [hcm']
      simp only [Option.bind_some]
      by_cases cc : cm_ Y P (mf m) (me m) (mt m) (mx m) = true
      · have hmo : m ∈ oks Y P := (oks_imv hY.1).mpr ⟨ci, cc⟩
        have hmg := (mem_oks hY.1).mp hmo
        obtain ⟨τ2, u1, u2, u3, u4⟩ := doMove_ok hY1 hn hv t2 t3 c1 c2 c3 c4 cc
        rw [show mk4 (mf m) (me m) (mt m) (mx m) = m from mk4_mk m] at u2 u3
        have u1' : m_doMove τ1 (iN (m / 1000)) (iN (m / 100 % 10)) (iN (m / 10 % 10)) (iN (m % 10)) = some τ2 := u1
        rw [cc, if_neg (by decide), u1']
        simp only [Option.bind_some]
        have hY2 := YR_fr hY1 u4 rfl
        have hW2 := WR_fr (WR_fr hW t4 rfl) u4 rfl
        have hvT := VP_mv hY.1 hv hmg.1 hmg.2
        rw [encode_ok hY2 u2]
        simp only [Option.bind_some]
        obtain ⟨mk, hmk2, hMK2⟩ := MKb_fr (MKb_fr hMK t4 rfl) u4 rfl
        obtain ⟨ra, τ3, v1, v2, v3, v4, v5⟩ := search_ok hY2 hn (by omega) hMK2 hW2 hvT
        rw [v1]
        simp only [Option.bind_some]
        have hra := v4 (by omega) hWn
        have f13 : FR [16, 22, 23] [10, 11, 12, 13, 14, 16] [15] σ τ3 := FR_tr (FR_mo t4 rfl rfl rfl) (FR_tr (FR_mo u4 rfl rfl rfl) v2)
        rw [hog, if_pos hmo]
        have hdec : (ra = iN (r + 1) - 1) ↔ rest Y n W (mv P m) = some r := by
          rw [hra, zl_1, iN_sub (by omega), Nat.add_sub_cancel]
          cases hq : rest Y n W (mv P m) with
          | none =>
            constructor
            · intro h9
              exfalso
              have := congrArg Int32.toInt h9
              rw [iN_toInt (by omega)] at this
              rw [show (rI none).toInt = -6 from rfl] at this
              omega
            · intro h9; cases h9
          | some q =>
            have hq20 : q ≤ 20 := by
              obtain ⟨T, w1, w2, w3⟩ := rs_walk _ _ _ hq
              have := wk_lv hY.1 _ _ _ hvT w1
              have := lv_le hY.1 hn (wk_VP hY.1 _ _ _ hvT w1)
              omega
            show iN q = iN r ↔ _
            rw [iN_eq (by omega) (by omega), Option.some.injEq]
        by_cases cd : rest Y n W (mv P m) = some r
        · refine ⟨τ3, f13, ⟨mk + 1, by rw [List.length_cons]; omega, v3⟩, ?_⟩
          rw [if_pos (hdec.mpr cd), List.find?_cons_of_pos (by simpa using cd)]
        · obtain ⟨υ, w1, w2, w3⟩ := ih (m + 1) f (c + 1) τ3 (by omega) (by omega) (by omega) (YR_fr hY2 v2 rfl) (WR_fr hW2 v2 rfl) ⟨mk + 1, by omega, v3⟩
          refine ⟨υ, FR_tr f13 w1, MKb_le w2 (by rw [List.length_cons]; omega), ?_⟩
          rw [if_neg (fun h9 => cd (hdec.mp h9)), List.find?_cons_of_neg (by simpa using cd)]
          exact w3
      · have cf : cm_ Y P (mf m) (me m) (mt m) (mx m) = false := by cases h9 : cm_ Y P (mf m) (me m) (mt m) (mx m) with | false => rfl | true => exact absurd h9 cc
        have hmo : m ∉ oks Y P := fun h9 => cc ((oks_imv hY.1).mp h9).2
        rw [cf, if_pos bF, hog, if_neg hmo]
        obtain ⟨υ, w1, w2, w3⟩ := ih (m + 1) f c τ1 (by omega) (by omega) (by omega) hY1 (WR_fr hW t4 rfl) (MKb_fr hMK t4 rfl)
        exact ⟨υ, FR_tr (FR_mo t4 rfl rfl rfl) w1, w2, w3⟩
    · have cf : imv Y m = false := by cases h9 : imv Y m with | false => rfl | true => exact absurd h9 ci
      have hmo : m ∉ oks Y P := fun h9 => ci ((oks_imv hY.1).mp h9).1
      rw [cf, if_pos bF, hog, if_neg hmo]
      exact ih (m + 1) f c σ (by omega) (by omega) (by omega) hY hW hMK
theorem nextOf_ok {σ : MS} {Y : Yd} (hY : YR σ Y) {n : Nat} (h1n : 1 ≤ n) (hn : n ≤ 5) {W : List Nat} (hW : WR σ W) (hWn : W.length = n) {P : Ps} (hv : VP Y n P) {r c : Nat} (hr : rest Y n W P = some (r + 1)) (hc : c < 999990000) (hMK : MKb σ c) :
    ∃ τ, FR [16, 22, 23] [10, 11, 12, 13, 14, 16] [15] σ τ ∧ MKb τ (c + 41) ∧ m_nextOf σ (iN (key (yM Y) P)) (iN n) (iN (r + 1)) = some (nI6 (nxt Y n W P), τ) := by
  have hr20 : r + 1 ≤ 20 := by
    obtain ⟨T, w1, w2, w3⟩ := rs_walk _ _ _ hr
    have := wk_lv hY.1 _ _ _ hv w1
    have := lv_le hY.1 hn (wk_VP hY.1 _ _ _ hv w1)
    omega
  obtain ⟨τ, a1, a2, a3⟩ := nextOf_L3 h1n hn hWn hv (show r < 100 by omega) 5000 0 N0 c σ (by rw [N0_eq]; omega) (by omega) (by omega) hY hW hMK
  rw [og_0] at a2 a3
  have hl := oks_len Y P
  refine ⟨τ, a1, MKb_le a2 (by omega), ?_⟩
  rw [z00] at a3
  rw [m_nextOf, a3]
  unfold nxt
  rw [hr]
  simp only [Option.bind_some]
  cases (oks Y P).find? (fun m => decide (rest Y n W (mv P m) = some r)) <;> rfl
theorem moved_ok {σ : MS} {Y : Yd} (hY : YR σ Y) {n : Nat} (hn : n ≤ 5) {P : Ps} (hv : VP Y n P) {m : Nat} (hm : m ∈ oks Y P) : ∃ τ, m_moved σ (iN (key (yM Y) P)) (iN m) = some (iN (key (yM Y) (mv P m)), τ) ∧ FR [16] [10, 11] [] σ τ := by
  have hlt := oks_lt hm
  obtain ⟨ci, cc⟩ := (oks_imv hY.1).mp hm
  unfold imv at ci
  rw [decide_eq_true_eq] at ci
  obtain ⟨c1, c2, c3, c4⟩ := ci
  obtain ⟨τ1, t1, t2, t3, t4⟩ := decode_ok hY hn hv
  have hY1 := YR_fr hY t4 rfl
  obtain ⟨τ2, u1, u2, u3, u4⟩ := doMove_ok hY1 hn hv t2 t3 c1 c2 c3 c4 cc
  rw [show mk4 (mf m) (me m) (mt m) (mx m) = m from mk4_mk m] at u2 u3
  have u1' : m_doMove τ1 (iN (m / 1000)) (iN (m / 100 % 10)) (iN (m / 10 % 10)) (iN (m % 10)) = some τ2 := u1
  refine ⟨τ2, ?_, FR_tr t4 u4⟩
  rw [m_moved, t1]
  simp only [Option.bind_some]
  rw [zl_1000, zl_100, zl_10, iN_div (by omega) (by omega), iN_div (by omega) (by omega), iN_div (by omega) (by omega), iN_irm (by omega) (by omega), iN_irm (by omega) (by omega), iN_irm (by omega) (by omega), u1']
  simp only [Option.bind_some]
  rw [encode_ok (YR_fr hY1 u4 rfl) u2]
  rfl
