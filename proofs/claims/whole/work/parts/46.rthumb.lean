/-! THE REFERENCE: stand, draw, thumbs -/
def s_stand (Y : Yd) (G : PlA) (x : Int32) : Int32 := if msg Y x then -1 else if 0 ≤ x.toInt ∧ x.toInt ≤ 5 then (if G.1 = 0 then -3 else iN (num (nm G.2.1 (gP G x.toNatClampNeg)))) else -2
theorem nm_snoc (t l : List Nat) (w : Nat) : nm t (l ++ [w]) = nm t l ++ [t.getD (w - 1) 0] := by simp [nm]
theorem stand_L85 {σ : MS} {t : List Nat} {n : Nat} (hn : n < 6) (hl : t.length = n) (hT : TW σ t) (h37 : gI σ 37 = iN n) {g : Nat} (hg : g ≤ n) : ∀ (d k f : Nat), d < f → k + d = n → g ≤ k → m_stand_L85 f σ (iN (num (nm t (List.range' (g + 1) (k - g))))) (iN k) = some (iN (num (nm t (List.range' (g + 1) (n - g))))) := by
  intro d
  induction d with
  | zero =>
    intro k f hf hk hgk
    obtain ⟨f, rfl⟩ : ∃ g, f = g + 1 := ⟨f - 1, by omega⟩
    obtain rfl : k = n := by omega
    rw [m_stand_L85, h37, jlt (by omega) (by omega), if_neg (by omega)]
  | succ d ih =>
    intro k f hf hk hgk
    obtain ⟨f, rfl⟩ : ∃ g, f = g + 1 := ⟨f - 1, by omega⟩
    rw [m_stand_L85, h37, jlt (by omega) (by omega), if_pos (by omega), if_pos (by rw [iN_inb (by omega)]; omega), gA_av (by omega), hT k (by omega), zl_10, zl_1, iN_mul, iN_add, iN_add]
    have := ih (k + 1) f (by omega) (by omega) (by omega)
    rw [show k + 1 - g = (k - g) + 1 by omega, List.range'_concat, nm_snoc, num_app, show g + 1 + 1 * (k - g) - 1 = k by omega] at this
    exact this
theorem stand_L132 {σ : MS} {t l : List Nat} {p : Nat} (hp : p < 5) (hT : TW σ t) (htl : t.length ≤ 5) (h : RLs σ p l) (hd : ∀ d ∈ l, 1 ≤ d ∧ d ≤ t.length) : ∀ (d k f : Nat), d < f → k + d = l.length → m_stand_L132 f σ (iN (num (nm t (l.take k)))) (iN p) (iN k) = some (iN (num (nm t l))) := by
  obtain ⟨h1, h2, h3⟩ := h
  intro d
  induction d with
  | zero =>
    intro k f hf hk
    obtain ⟨f, rfl⟩ : ∃ g, f = g + 1 := ⟨f - 1, by omega⟩
    rw [m_stand_L132, if_pos (by rw [iN_inb (by omega)]; omega), gA_av (by omega), h2, jlt (by omega) (by omega), if_neg (by omega), List.take_of_length_le (by omega)]
  | succ d ih =>
    intro k f hf hk
    obtain ⟨f, rfl⟩ : ∃ g, f = g + 1 := ⟨f - 1, by omega⟩
    have hm : l.getD k 0 ∈ l := by
      rw [List.getD_eq_getElem?_getD, List.getElem?_eq_getElem (by omega)]
      exact List.getElem_mem (show k < l.length by omega)
    have hb := hd _ hm
    rw [m_stand_L132, if_pos (by rw [iN_inb (by omega)]; omega), gA_av (by omega), h2, jlt (by omega) (by omega), if_pos (by omega), zl_5, iN_mul, iN_add, gA_av (by omega), h3 k (by omega), zl_1, iN_sub hb.1, if_pos ⟨by rw [iN_inb (by omega)]; omega, by rw [iN_inb (by omega)]; omega⟩, gA_av (by omega), hT _ (by omega), zl_10, iN_mul, iN_add, iN_add]
    have := ih (k + 1) f (by omega) (by omega)
    rw [take_snoc (by omega), nm_snoc, num_app] at this
    exact this
theorem r_stand {σ : MS} {A : AS} {c : Nat} (h : RI σ A c) (x : Int32) : ∃ τ, m_stand σ x = some (s_stand (aY A) (aG A) x, τ) ∧ RI τ A c := by
  have hY := h.2.1
  have h1 := hY.1.1
  have h2 := hY.1.2.1
  have hJ : msg (aY A) x = false → ∃ τ, m_stand_J24 σ x = some (s_stand (aY A) (aG A) x, τ) ∧ RI τ A c := by
    intro hm
    unfold s_stand
    rw [hm, if_neg (by decide), m_stand_J24, m_in_i, show (0 : Int64).toInt = 0 from rfl, show (5 : Int64).toInt = 5 from rfl]
    simp only [Option.bind_some, bI_0, decide_eq_false_iff_not]
    by_cases cx : 0 ≤ x.toInt ∧ x.toInt ≤ 5
    · rw [if_neg (fun h9 => h9 cx), if_pos cx]
      by_cases h0 : (aG A).1 = 0
      · rw [if_pos (by rw [G37 h]; exact h0), if_pos h0]
        exact ⟨σ, rfl, h⟩
      · rw [if_neg (by rw [G37 h]; exact h0), if_neg h0]
        have hg1 : 1 ≤ (aG A).1 := by omega
        obtain ⟨k1, k2, k3⟩ := G_key h hg1
        have g := GP h.1 hg1
        obtain ⟨τ, t1, t2, t3, t4⟩ := decode_ok hY g.1 g.2.2.2.2.1
        have hR := RI_lo h t4 rfl rfl rfl
        obtain ⟨τ2, b1, b2, b3⟩ := layTrain_ok (show (aG A).1 < 6 by omega) g.2.1 τ
        have hR2 := RI_lo hR b3 rfl rfl rfl
        obtain ⟨p1, p2, p3, p4⟩ := hR.2.2.2.2.1.2 hg1
        have htl := pm_len g.2.1
        have hRP2 := RP_fr t2 b3 rfl
        have hdig : ∀ p, p < 6 → ∀ d ∈ gP (aG A) p, 1 ≤ d ∧ d ≤ (aG A).2.1.length := fun p hp d hd => by
          have := VP_mem g.2.2.2.2.1 hp hd
          rw [htl]; exact this
        rw [if_pos (by rw [k1, iN_inb (by omega)]; omega), k3, t1]
        simp only [Option.bind_some]
        rw [p1, hR.2.2.2.2.1.1, b1]
        simp only [Option.bind_some]
        rcases i_cases x with ⟨k, hk, rfl⟩ | hneg
        · rw [iN_toInt hk] at cx
          rw [iN_nat hk]
          refine ⟨τ2, ?_, hR2⟩
          by_cases ck0 : k = 0
          · subst ck0
            rw [if_pos z00]
            have h16 : gI τ2 16 = iN (gn (aG A).1 (gP (aG A))) := by rw [b3.1 16 (by decide), t3]
            have hgn : gn (aG A).1 (gP (aG A)) ≤ (aG A).1 := Nat.sub_le _ _
            have hl := stand_L85 (show (aG A).1 < 6 by omega) htl b2 hR2.2.2.2.2.1.1 hgn ((aG A).1 - gn (aG A).1 (gP (aG A))) (gn (aG A).1 (gP (aG A))) N0 (by rw [N0_eq]; omega) (by omega) (Nat.le_refl _)
            rw [Nat.sub_self] at hl
            have hl' : m_stand_L85 N0 τ2 0 (iN (gn (aG A).1 (gP (aG A)))) = some (iN (num (nm (aG A).2.1 (List.range' (gn (aG A).1 (gP (aG A)) + 1) ((aG A).1 - gn (aG A).1 (gP (aG A))))))) := hl
            rw [h16, hl']
            simp only [Option.bind_some]
            have e0 := (VP_0 g.2.2.2.2.1)
            have hgg : (gP (aG A) 0).length = (aG A).1 - gn (aG A).1 (gP (aG A)) := by unfold gn; omega
            rw [e0.2, hgg, show (aG A).1 - ((aG A).1 - gn (aG A).1 (gP (aG A))) = gn (aG A).1 (gP (aG A)) by omega]
          · rw [if_neg (by rw [zl_0, iN_eq (by omega) (by omega)]; exact ck0)]
            by_cases ck5 : k = 5
            · subst ck5
              rw [if_pos (by rfl)]
              have hl := stand_L132 (p := yM (aY A)) (by omega) b2 (by omega) (RP_5 hRP2) (hdig 5 (by omega)) (gP (aG A) 5).length 0 N0 (by rw [N0_eq]; have := (RP_5 hRP2).1; omega) (by omega)
              have hl' : m_stand_L132 N0 τ2 0 (iN (yM (aY A))) 0 = some (iN (num (nm (aG A).2.1 (gP (aG A) 5)))) := hl
              rw [hR2.2.1.2.1, hl']
              rfl
            · rw [if_neg (by rw [zl_5, iN_eq (by omega) (by omega)]; exact ck5), zl_1, iN_sub (by omega)]
              unfold msg at hm
              rw [iN_toInt hk, decide_eq_false_iff_not] at hm
              have hl := stand_L132 (p := k - 1) (by omega) b2 (by omega) (RP_l hRP2 (f := k) (by omega) (by omega)) (hdig k (by omega)) (gP (aG A) k).length 0 N0 (by rw [N0_eq]; have := (RP_l hRP2 (f := k) (by omega) (by omega)).1; omega) (by omega)
              have hl' : m_stand_L132 N0 τ2 0 (iN (k - 1)) 0 = some (iN (num (nm (aG A).2.1 (gP (aG A) k)))) := hl
              rw [hl']
              rfl
        · omega
    · rw [if_pos cx, if_neg cx]
      exact ⟨σ, rfl, h⟩
  rw [m_stand, m_in_i, show (1 : Int64).toInt = 1 from rfl, show (4 : Int64).toInt = 4 from rfl]
  simp only [Option.bind_some, bI_0, decide_eq_false_iff_not]
  by_cases d : 1 ≤ x.toInt ∧ x.toInt ≤ 4
  · rw [if_neg (fun h => h d), isSiding_ok hY]
    simp only [Option.bind_some, bI_0]
    rcases i_cases x with ⟨k, hk, rfl⟩ | hneg
    · rw [iN_toInt hk] at d
      have e : sdx (aY A) (iN k - 1) = !msg (aY A) (iN k) := by
        unfold sdx msg
        rw [zl_1, iN_sub (by omega), iN_toInt (by omega), iN_toInt (by omega)]
        by_cases c9 : k ≤ yM (aY A)
        · rw [decide_eq_true (by omega), decide_eq_false (by omega)]; rfl
        · rw [decide_eq_false (by omega), decide_eq_true (by omega)]; rfl
      rw [e]
      cases hm : msg (aY A) (iN k) with
      | false => rw [if_neg (by decide)]; exact hJ hm
      | true =>
        rw [if_pos (by decide)]
        refine ⟨σ, ?_, h⟩
        unfold s_stand
        rw [hm, if_pos rfl]
    · omega
  · rw [if_pos d]
    refine hJ ?_
    unfold msg
    rw [decide_eq_false_iff_not]
    omega
/-! DRAWN -/
def drw : Nat → Nat → Nat → Nat → Nat
  | 0, _, _, w => w
  | f + 1, u, l, w => if u.testBit w = true then drw f u l (w + 1) else if 0 < l then drw f u (l - 1) (w + 1) else w
def drA (n : Nat) : Nat → Nat → Nat → Nat → Nat
  | 0, _, _, a => a
  | k + 1, s, u, a => drA n k ((75 * s + 74) % 65537) (u ||| 2 ^ (drw 16 u (((75 * s + 74) % 65537) % (k + 1)) 1)) (10 * a + drw 16 u (((75 * s + 74) % 65537) % (k + 1)) 1)
def tdB (n u i : Nat) : Bool := !(decide (u &&& (2 ^ (n + 1) - 2) = u) && decide (i < n - pop6 u)) || (decide (1 ≤ (drw 16 u i 1)) && (decide ((drw 16 u i 1) ≤ n) && (decide ((u ||| 2 ^ (drw 16 u i 1)) < 64) && (decide ((u ||| 2 ^ (drw 16 u i 1)) &&& (2 ^ (n + 1) - 2) = (u ||| 2 ^ (drw 16 u i 1))) && (decide (pop6 (u ||| 2 ^ (drw 16 u i 1)) = pop6 u + 1) && (decide (pop6 u < n) && (decide (rw_pick (iN ((2 ^ (n + 1) - 2) ^^^ u)) (iN i) = some (iN (drw 16 u i 1))) && (decide (iN ((2 ^ (n + 1) - 2) ^^^ u) &&& (((1 : Int32) <<< (iN (drw 16 u i 1) &&& 31)) ^^^ (-1)) = iN ((2 ^ (n + 1) - 2) ^^^ (u ||| 2 ^ (drw 16 u i 1))))))))))))
theorem tdB_all : ∀ n, n < 6 → ∀ u, u < 64 → ∀ i, i < 5 → tdB n u i = true := by decide +kernel
theorem t_drw (n : Nat) (hn : n < 6) (u : Nat) (hu : u < 64) (h1 : u &&& (2 ^ (n + 1) - 2) = u) (i : Nat) (hi : i < 5) (h2 : i < n - pop6 u) : (1 ≤ (drw 16 u i 1)) ∧ ((drw 16 u i 1) ≤ n) ∧ ((u ||| 2 ^ (drw 16 u i 1)) < 64) ∧ ((u ||| 2 ^ (drw 16 u i 1)) &&& (2 ^ (n + 1) - 2) = (u ||| 2 ^ (drw 16 u i 1))) ∧ (pop6 (u ||| 2 ^ (drw 16 u i 1)) = pop6 u + 1) ∧ (pop6 u < n) ∧ (rw_pick (iN ((2 ^ (n + 1) - 2) ^^^ u)) (iN i) = some (iN (drw 16 u i 1))) ∧ (iN ((2 ^ (n + 1) - 2) ^^^ u) &&& (((1 : Int32) <<< (iN (drw 16 u i 1) &&& 31)) ^^^ (-1)) = iN ((2 ^ (n + 1) - 2) ^^^ (u ||| 2 ^ (drw 16 u i 1)))) := by
  have h := tdB_all n hn u hu i hi
  unfold tdB at h
  rw [decide_eq_true h1, decide_eq_true h2] at h
  simp only [Bool.and_self, Bool.not_true, Bool.false_or, Bool.and_eq_true, decide_eq_true_eq] at h
  exact h
theorem tb_iN {u w : Nat} (hu : u < 2147483648) (hw : w < 32) : (((iN u >>> (iN w &&& 31)) &&& 1) = 1) = (u.testBit w = true) := by
  rw [iN_shr hu hw, zl_1, iN_and]
  have h1 : u / 2 ^ w &&& 1 = u / 2 ^ w % 2 := Nat.and_one_is_mod _
  have h2 : u / 2 ^ w % 2 < 2 := Nat.mod_lt _ (by omega)
  rw [h1, iN_eq (by omega) (by omega), Nat.testBit_eq_decide_div_mod_eq, decide_eq_true_eq]
theorem draw_L62 {σ : MS} {u : Nat} (hu : u < 64) (x2 x3 x5 x6 : Int32) : ∀ (f F l w : Nat), f ≤ F → l + (6 - w) < f → w ≤ 6 + (19 - l) → l ≤ 19 → m_draw_L62 F σ x2 x3 (iN u) x5 x6 (iN l) (iN w) = some (iN (drw f u l w)) := by
  intro f
  induction f with
  | zero => intro F l w _ h; omega
  | succ f ih =>
    intro F l w hF h hw hl
    obtain ⟨F, rfl⟩ : ∃ g, F = g + 1 := ⟨F - 1, by omega⟩
    rw [m_draw_L62, drw, m_draw_J78]
    have ht := tb_iN (u := u) (w := w) (by omega) (by omega)
    by_cases c : u.testBit w = true
    · have hw6 : w < 6 := by
        rcases Nat.lt_or_ge w 6 with h9 | h9
        · exact h9
        · have : u < 2 ^ w := Nat.lt_of_lt_of_le (show u < 2 ^ 6 by omega) (Nat.pow_le_pow_right (by omega) h9)
          rw [Nat.testBit_lt_two_pow this] at c
          cases c
      rw [if_pos (by rw [ht]; exact c), if_pos (by rw [ht]; exact c), if_pos c, zl_1, iN_add]
      have := ih F l (w + 1) (by omega) (by omega) (by omega) hl
      rw [show iN l - 0 = iN l by rw [zl_0, iN_sub (by omega)]; rfl]
      exact this
    · rw [if_neg (by rw [ht]; exact c), if_neg c, jlt0 (by omega)]
      by_cases c2 : 0 < l
      · rw [if_pos c2, if_pos c2, if_neg (by rw [ht]; exact c), zl_1, iN_add, iN_sub c2]
        exact ih F (l - 1) (w + 1) (by omega) (by omega) (by omega) (by omega)
      · rw [if_neg c2, if_neg c2]
theorem draw_L33 {σ : MS} {n : Nat} (hn : n < 6) : ∀ (d k f s u a : Nat), d < f → k + d = n → s < 65537 → u < 64 → u &&& (2 ^ (n + 1) - 2) = u → pop6 u = k → m_draw_L33 f σ (iN n) (iN s) (iN u) (iN a) (iN k) = some (iN (drA n d s u a)) := by
  intro d
  induction d with
  | zero =>
    intro k f s u a hf hk hs hu hu2 hp
    obtain ⟨f, rfl⟩ : ∃ g, f = g + 1 := ⟨f - 1, by omega⟩
    rw [m_draw_L33, jlt (by omega) (by omega), if_neg (by omega)]
    rfl
  | succ d ih =>
    intro k f s u a hf hk hs hu hu2 hp
    obtain ⟨f, rfl⟩ : ∃ g, f = g + 1 := ⟨f - 1, by omega⟩
    have hs2 : (75 * s + 74) % 65537 < 65537 := Nat.mod_lt _ (by omega)
    have hi : (75 * s + 74) % 65537 % (d + 1) < d + 1 := Nat.mod_lt _ (by omega)
    obtain ⟨w1, w2, w3, w4, w5, w6, _, _⟩ := t_drw n hn u hu hu2 ((75 * s + 74) % 65537 % (d + 1)) (by omega) (by omega)
    have h62 := draw_L62 (σ := σ) hu (iN n) (iN ((75 * s + 74) % 65537)) (iN a) (iN k) 16 N0 ((75 * s + 74) % 65537 % (d + 1)) 1 (by rw [N0_eq]; omega) (by omega) (by omega) (by omega)
    rw [m_draw_L33, jlt (by omega) (by omega), if_pos (by omega), iN_sub (by omega), zl_75, zl_74, zl_65537, iN_mul, iN_add, iN_irm (by omega) (by omega), show n - k = d + 1 by omega, iN_irm (by omega) (by omega), if_pos (by rw [zl_0, iN_eq (by omega) (by omega)]; omega)]
    have h62' : m_draw_L62 N0 σ (iN n) (iN ((75 * s + 74) % 65537)) (iN u) (iN a) (iN k) (iN ((75 * s + 74) % 65537 % (d + 1))) 1 = some (iN (drw 16 u ((75 * s + 74) % 65537 % (d + 1)) 1)) := h62
    rw [h62']
    simp only [Option.bind_some]
    rw [drA]
    generalize drw 16 u ((75 * s + 74) % 65537 % (d + 1)) 1 = w at *
    simp (disch := omega) only [zl_0, zl_1, zl_2, zl_3, zl_4, zl_5, zl_6, zl_7, zl_8, zl_9, zl_10, zl_11, zl_12, zl_15, zl_16, zl_20, zl_24, zl_25, zl_31, zl_32, zl_33, zl_40, zl_45, zl_48, zl_49, zl_50, zl_53, zl_57, zl_59, zl_62, zl_63, zl_64, zl_74, zl_75, zl_99, zl_100, zl_113, zl_115, zl_120, zl_126, zl_153, zl_160, zl_200, zl_255, zl_720, zl_1000, zl_4999, zl_5000, zl_17046, zl_32768, zl_54321, zl_65535, zl_65536, zl_65537, zl_9999, iN_add, iN_mul, iN_sub, iN_dec, iN_dec2, iN_div, iN_irm, iN_lt, iN_le, iN_eq, iN_inb, iN_nat, iN_and, iN_or, iN_shl, iN_shr, iN_shl2, iN_shr2]
    rw [Nat.one_mul]
    exact ih (k + 1) f _ _ _ (by omega) (by omega) hs2 w3 w4 (by omega)
def s_draw (x y : Int32) : Int32 := if nin x 0 9999 && nin y 1 5 then iN (drA y.toNatClampNeg y.toNatClampNeg x.toNatClampNeg 0 0) else -2
theorem r_draw (σ : MS) (x y : Int32) : m_draw σ x y = some (s_draw x y) := by
  rw [m_draw, m_in_i, show (0 : Int64).toInt = 0 from rfl, show (9999 : Int64).toInt = 9999 from rfl, isCount_ok]
  simp only [Option.bind_some, bI_0]
  have e : decide ((0 : Int) ≤ x.toInt ∧ x.toInt ≤ 9999) = nin x 0 9999 := rfl
  rw [e]
  unfold s_draw
  cases hx : nin x 0 9999 with
  | false => rw [if_pos rfl]; rfl
  | true =>
    rw [if_neg (by decide)]
    cases hy : nin y 1 5 with
    | false => rw [if_pos rfl]; rfl
    | true =>
      obtain ⟨s, _, hs, rfl⟩ := nin_iN (a := 0) (b := 9999) (by omega) hx
      obtain ⟨n, h1, h5, rfl⟩ := nin_iN (a := 1) (b := 5) (by omega) hy
      rw [if_neg (by decide), iN_nat (by omega), iN_nat (by omega), if_pos (show (true && true) = true from rfl)]
      have := draw_L33 (σ := σ) (n := n) (by omega) n 0 N0 s 0 0 (by rw [N0_eq]; omega) (by omega) (by omega) (by omega) (by simp) (by decide)
      have h' : m_draw_L33 N0 σ (iN n) (iN s) 0 0 0 = some (iN (drA n n s 0 0)) := this
      rw [h']
      rfl
/-! THUMBS -/
theorem og_gap {l : List Nat} {a b : Nat} (hab : a ≤ b) (h : ∀ x ∈ l, a ≤ x → b ≤ x) : og l a = og l b := by
  unfold og
  apply List.filter_congr
  intro x hx
  have := h x hx
  exact decide_eq_decide.mpr (by omega)
def cLet (Y : Yd) (t : List Nat) (P : Ps) : List Nat := (mvs Y).filter (fun m => decide (mt m = 5 ∧ P (mf m) ≠ [] ∧ t.getD (wg P m - 1) 0 = (P 5).length + 1))
def room (Y : Yd) (P : Ps) (i : Nat) : Bool := decide ((P (i + 1)).length < yN Y i) && go Y 0 (i + 1)
def hgh (t : List Nat) (P : Ps) (i w : Nat) : Bool := (P (i + 1)).all (fun x => decide (w < t.getD (x - 1) 0))
def s1f (i : Nat) : Option Nat → Option Nat
  | none => some i
  | some j => some j
def s2f (P : Ps) (i : Nat) : Option Nat → Option Nat
  | none => some i
  | some j => if (P (i + 1)).length < (P (j + 1)).length then some i else some j
def s3f (t : List Nat) (P : Ps) (w i : Nat) : Option Nat → Option Nat
  | none => if hgh t P i w = true then some i else none
  | some j => some j
def st3 (t : List Nat) (P : Ps) (w : Nat) (s : Option Nat × Option Nat × Option Nat) (i : Nat) : Option Nat × Option Nat × Option Nat := (s1f i s.1, s2f P i s.2.1, s3f t P w i s.2.2)
def cIn (Y : Yd) (P : Ps) (k : Nat) : List Nat := (List.range' k (yM Y - k)).filter (room Y P)
def enW (t : List Nat) (P : Ps) : Nat := t.getD ((P 0).headD 0 - 1) 0
def fIn (rule : Nat) (s : Option Nat × Option Nat × Option Nat) : Option Nat := if rule = 2 then s.2.1 else if rule = 1 then (match s.2.2 with
    | some h => some h
    | none => s.1) else s.1
def pIn (Y : Yd) (t : List Nat) (P : Ps) (rule : Nat) : Option Nat := if P 0 = [] then none else fIn rule ((cIn Y P 0).foldl (st3 t P (enW t P)) (none, none, none))
def cOn (Y : Yd) (P : Ps) : List Nat := (oks Y P).filter (fun m => decide (mf m ≠ 0 ∧ mt m ≠ 5))
def chs (Y : Yd) (t : List Nat) (rule : Nat) (P : Ps) : Option Nat := match (cLet Y t P).head? with
  | some m => some m
  | none => match pIn Y t P rule with
    | some i => some (mk4 0 0 (i + 1) 0)
    | none => (cOn Y P).head?
def thF (Y : Yd) (t : List Nat) (rule : Nat) : Nat → Ps → Ps
  | 0, P => P
  | f + 1, P => match chs Y t rule P with
    | none => P
    | some m => thF Y t rule f (mv P m)
def thR (Y : Yd) (n : Nat) (t : List Nat) (rule : Nat) : Nat := (thF Y t rule 21 (st n) 5).length
theorem cLet_gm {Y : Yd} (hY : VY Y) {t : List Nat} {P : Ps} {m : Nat} (h : m ∈ cLet Y t P) : gm Y m = true ∧ can Y P m = true ∧ mt m = 5 := by
  obtain ⟨h1, h2⟩ := List.mem_filter.mp h
  rw [decide_eq_true_eq] at h2
  refine ⟨(mem_mvs hY m).mp h1, ?_, h2.1⟩
  unfold can
  rw [decide_eq_true h2.2.1, decide_eq_true h2.1]
  rfl
theorem cLet_srt (Y : Yd) (t : List Nat) (P : Ps) : (cLet Y t P).Pairwise (· < ·) := (mvs_srt Y).filter _
theorem wagonAt_M {σ : MS} {t : List Nat} (hT : TW σ t) {p : Nat} (h1 : 1 ≤ p) (h2 : p ≤ t.length) (h5 : t.length ≤ 5) : m_wagonAt σ (iN p) = some (iN (t.getD (p - 1) 0)) := by
  rw [m_wagonAt, zl_1, iN_sub h1, if_pos (by rw [iN_inb (by omega)]; omega), gA_av (by omega), hT _ (by omega)]
/-- the state of a thumb's run -/
def TS (σ : MS) (Y : Yd) (n : Nat) (t : List Nat) (P : Ps) : Prop := YR σ Y ∧ t ∈ pm n ∧ TW σ t ∧ VP Y n P ∧ RP σ Y P ∧ gI σ 16 = iN (gn n P)
theorem TS_mv {σ τ : MS} {Y : Yd} {n : Nat} {t : List Nat} {P : Ps} (h : TS σ Y n t P) {m : Nat} (hm : gm Y m = true) (hc : can Y P m = true) (h1 : RP τ Y (mv P m)) (h2 : gI τ 16 = iN (gn n (mv P m))) (f : FR [16] [10, 11] [] σ τ) : TS τ Y n t (mv P m) :=
  ⟨YR_fr h.1 f rfl, h.2.1, TW_fr h.2.2.1 f rfl, VP_mv h.1.1 h.2.2.2.1 hm hc, h1, h2⟩
theorem mk4_mf (f e t x : Nat) (he : e < 10) (ht : t < 10) (hx : x < 10) : mf (mk4 f e t x) = f := (mk4_of f e t x he ht hx).1
/-- at a MOVE to the EXIT: may it go, and is it wanted -/
theorem let_mem {Y : Yd} (hY : VY Y) {t : List Nat} {P : Ps} {f e : Nat} (hf : f ≤ yM Y) (he : e < 2) : mk4 f e 5 0 ∈ cLet Y t P ↔ (P f ≠ [] ∧ oE Y f e = true ∧ go Y f 5 = true ∧ t.getD (tk (P f) (decide (e = 1)) - 1) 0 = (P 5).length + 1) := by
  have hM := hY.2.1
  obtain ⟨q1, q2, q3, q4⟩ := mk4_of f e 5 0 (by omega) (by omega) (by omega)
  unfold cLet
  rw [List.mem_filter, mem_mvs hY, decide_eq_true_eq, q1, q3]
  have hwg : wg P (mk4 f e 5 0) = tk (P f) (decide (e = 1)) := by unfold wg fT; rw [q1, q2]
  rw [hwg]
  unfold gm
  rw [q1, q2, q3, q4]
  have hi : iE Y 5 0 = true := rfl
  rw [hi, decide_eq_true hf, decide_eq_true he]
  constructor
  · rintro ⟨h1, _, h2, h3⟩
    have h1' : (oE Y f e && true && go Y f 5) = true := h1
    rw [Bool.and_true, Bool.and_eq_true] at h1'
    exact ⟨h2, h1'.1, h1'.2, h3⟩
  · rintro ⟨h1, h2, h3, h4⟩
    refine ⟨?_, rfl, h1, h4⟩
    rw [h2, h3]
    rfl
theorem cLet_num {Y : Yd} (hY : VY Y) {t : List Nat} {P : Ps} {m : Nat} (h : m ∈ cLet Y t P) : m / 1000 ≤ yM Y ∧ m / 100 % 10 < 2 ∧ m / 10 % 10 = 5 ∧ m % 10 = 0 := by
  obtain ⟨h1, h2, h3⟩ := cLet_gm hY h
  have g := gm_parts h1
  refine ⟨g.1, g.2.1, h3, ?_⟩
  have := g.2.2.2.2.2.1
  unfold iE at this
  rw [h3] at this
  by_cases c : mx m = 0
  · exact c
  · rw [decide_eq_false c] at this
    simp at this
theorem tk_f (l : List Nat) : tk l false = l.headD 0 := rfl
theorem let_L65 {Y : Yd} {n : Nat} (hn : n ≤ 5) {t : List Nat} {P : Ps} {σ : MS} (h : TS σ Y n t P) {i : Nat} (hi : i < yM Y) : ∀ (d e f : Nat), d < f → e + d = 2 →
    (∃ m τ, (og (cLet Y t P) (mk4 (i + 1) e 5 0)).head? = some m ∧ m < mk4 (i + 2) 0 0 0 ∧ m_letOut_L65 f σ (iN ((P 5).length + 1)) (iN i) (iN e) = some (.inr (1, τ)) ∧ TS τ Y n t (mv P m) ∧ FR [16] [10, 11] [] σ τ) ∨
    (og (cLet Y t P) (mk4 (i + 1) e 5 0) = og (cLet Y t P) (mk4 (i + 2) 0 0 0) ∧ m_letOut_L65 f σ (iN ((P 5).length + 1)) (iN i) (iN e) = some (.inl σ)) := by
  obtain ⟨hY, ht, hT, hv, hP, hg⟩ := id h
  have hM := hY.1.2.1
  have htl := pm_len ht
  have hl := RP_l hP (f := i + 1) (by omega) (by omega)
  rw [Nat.add_sub_cancel] at hl
  intro d
  induction d with
  | zero =>
    intro e f hf he
    obtain ⟨f, rfl⟩ : ∃ g, f = g + 1 := ⟨f - 1, by omega⟩
    obtain rfl : e = 2 := by omega
    right
    refine ⟨og_gap (by unfold mk4; omega) (fun x hx hle => ?_), ?_⟩
    · have := cLet_num hY.1 hx
      unfold mk4 at hle ⊢
      omega
    · rw [m_letOut_L65, if_neg (by decide)]
  | succ d ih =>
    intro e f hf he
    obtain ⟨f, rfl⟩ : ∃ g, f = g + 1 := ⟨f - 1, by omega⟩
    have hmem := let_mem hY.1 (t := t) (P := P) (show i + 1 ≤ yM Y by omega) (show e < 2 by omega)
    have hin : inb (iN i) 5 := by rw [iN_inb (by omega)]; omega
    have hnext : mk4 (i + 1) e 5 0 ∉ cLet Y t P → og (cLet Y t P) (mk4 (i + 1) e 5 0) = og (cLet Y t P) (mk4 (i + 1) (e + 1) 5 0) := by
      intro hno
      refine og_gap (by unfold mk4; omega) (fun x hx hle => ?_)
      have := cLet_num hY.1 hx
      have hne : x ≠ mk4 (i + 1) e 5 0 := fun h9 => hno (h9 ▸ hx)
      unfold mk4 at hle hne ⊢
      omega
    have hskip : mk4 (i + 1) e 5 0 ∉ cLet Y t P → m_letOut_L65 (f + 1) σ (iN ((P 5).length + 1)) (iN i) (iN e) = m_letOut_L65 f σ (iN ((P 5).length + 1)) (iN i) (iN (e + 1)) → (∃ m τ, (og (cLet Y t P) (mk4 (i + 1) e 5 0)).head? = some m ∧ m < mk4 (i + 2) 0 0 0 ∧ m_letOut_L65 (f + 1) σ (iN ((P 5).length + 1)) (iN i) (iN e) = some (.inr (1, τ)) ∧ TS τ Y n t (mv P m) ∧ FR [16] [10, 11] [] σ τ) ∨
    (og (cLet Y t P) (mk4 (i + 1) e 5 0) = og (cLet Y t P) (mk4 (i + 2) 0 0 0) ∧ m_letOut_L65 (f + 1) σ (iN ((P 5).length + 1)) (iN i) (iN e) = some (.inl σ)) := by
      intro hno heq
      rw [hnext hno, heq]
      exact ih (e + 1) f (by omega) (by omega)
    have hstart : m_letOut_L65 (f + 1) σ (iN ((P 5).length + 1)) (iN i) (iN e) = if 0 < (P (i + 1)).length then (if oE Y (i + 1) e = false then m_letOut_L65 f σ (iN ((P 5).length + 1)) (iN i) (iN (e + 1)) else if go Y (i + 1) 5 = false then m_letOut_L65 f σ (iN ((P 5).length + 1)) (iN i) (iN (e + 1)) else m_letOut_J134 (m_letOut_L65 f) σ (iN ((P 5).length + 1)) (iN i) (iN e) (iN (tk (P (i + 1)) (decide (e = 1))))) else m_letOut_L65 f σ (iN ((P 5).length + 1)) (iN i) (iN (e + 1)) := by
      rw [m_letOut_L65, zl_2, jlt (by omega) (by omega), if_pos (by omega), if_pos hin, gA_av (by omega), hl.2.1, jlt0 (by have := hl.1; omega)]
      by_cases c : 0 < (P (i + 1)).length
      · rw [if_pos c, if_pos c, isOut_ok hY hi (by omega)]
        simp only [Option.bind_some, bI_0]
        have hgo : m_goes σ (iN (i + 1)) 5 = some (bI (go Y (i + 1) 5)) := goes_ok hY (show i + 1 ≤ yM Y by omega) (Or.inl rfl)
        rw [zl_1, iN_add, iN_add, hgo]
        simp only [Option.bind_some, bI_0]
        have hl5 := hl.1
        rcases (show e = 0 ∨ e = 1 by omega) with rfl | rfl
        · have e0 : gA σ 10 (5 * iN i) = iN (tk (P (i + 1)) (decide (0 = 1))) := by
            rw [zl_5, iN_mul, gA_av (by omega)]
            have := hl.2.2 0 c
            rw [Nat.add_zero] at this
            rw [this]
            cases hq : P (i + 1) with
            | nil => rw [hq] at c; exact absurd c (Nat.lt_irrefl _)
            | cons a r => rfl
          rw [if_pos z00, e0, if_pos (show inb (5 * iN i) 25 by rw [zl_5, iN_mul, iN_inb (by omega)]; omega)]
        · have e1 : gA σ 10 (5 * iN i + iN (P (i + 1)).length - iN 1) = iN (tk (P (i + 1)) (decide (1 = 1))) := by
            rw [zl_5, iN_mul, iN_add, iN_sub (by omega), gA_av (by omega)]
            have := hl.2.2 ((P (i + 1)).length - 1) (by omega)
            rw [show 5 * i + (P (i + 1)).length - 1 = 5 * i + ((P (i + 1)).length - 1) by omega, this]
            rw [show tk (P (i + 1)) (decide (1 = 1)) = (P (i + 1)).getD ((P (i + 1)).length - 1) 0 by simp [tk, List.getLastD_eq_getLast?, List.getLast?_eq_getElem?, List.getD_eq_getElem?_getD]]
          rw [if_neg (show ¬ iN 1 = 0 by decide), e1, if_pos (show inb (iN i) 5 ∧ inb (5 * iN i + iN (P (i + 1)).length - iN 1) 25 from ⟨hin, by rw [zl_5, iN_mul, iN_add, iN_sub (by omega), iN_inb (by omega)]; omega⟩)]
      · rw [if_neg c, if_neg c, zl_1, iN_add]
    rw [hstart] at hskip ⊢
    by_cases c1 : 0 < (P (i + 1)).length
    · rw [if_pos c1] at hskip ⊢
      by_cases c2 : oE Y (i + 1) e = true
      · rw [if_neg (by rw [c2]; decide)] at hskip ⊢
        by_cases c3 : go Y (i + 1) 5 = true
        · rw [if_neg (by rw [c3]; decide)] at hskip ⊢
          have hne : P (i + 1) ≠ [] := List.length_pos_iff.mp c1
          have htkm : tk (P (i + 1)) (decide (e = 1)) ∈ P (i + 1) := by
            have := pt_tr hne (decide (e = 1))
            have h1 : tk (P (i + 1)) (decide (e = 1)) ∈ pt (tr (P (i + 1)) (decide (e = 1))) (tk (P (i + 1)) (decide (e = 1))) (decide (e = 1)) := mem_pt.mpr (Or.inl rfl)
            rwa [this] at h1
          have hwb := VP_mem hv (p := i + 1) (by omega) htkm
          have ht6 := getD_lt (b := 6) (l := t) (fun x hx => by have := (pm_mem ht).mp hx; omega) (by omega) (tk (P (i + 1)) (decide (e = 1)) - 1)
          have h5le := VP_le hv (p := 5) (by omega)
          rw [m_letOut_J134, wagonAt_M hT hwb.1 (by omega) (by omega)] at hskip ⊢
          simp only [Option.bind_some] at hskip ⊢
          rw [jeq (by omega) (by omega)] at hskip ⊢
          by_cases c4 : t.getD (tk (P (i + 1)) (decide (e = 1)) - 1) 0 = (P 5).length + 1
          · left
            have hin2 := hmem.mpr ⟨hne, c2, c3, c4⟩
            have hg2 := cLet_gm hY.1 hin2
            have hcm : cm_ Y P (i + 1) e 5 0 = true := by
              rw [cmv_eq hM (by omega) (by omega) (Or.inl rfl) (by omega), hg2.1, hg2.2.1]; rfl
            obtain ⟨τ, u1, u2, u3, u4⟩ := doMove_ok hY hn hv hP hg (show i + 1 ≤ yM Y by omega) (show e < 2 by omega) (Or.inl rfl) (show 0 < 2 by omega) hcm
            refine ⟨mk4 (i + 1) e 5 0, τ, ?_, ?_, ?_, TS_mv h hg2.1 hg2.2.1 u2 u3 u4, u4⟩
            · rw [og_step (cLet_srt Y t P), if_pos hin2]; rfl
            · unfold mk4; omega
            · rw [if_pos c4, zl_1, iN_add]
              have u1' : m_doMove σ (iN (i + 1)) (iN e) 5 0 = some τ := u1
              rw [u1']
              rfl
          · rw [if_neg c4, zl_1, iN_add] at hskip ⊢
            exact hskip (fun h9 => c4 (hmem.mp h9).2.2.2) rfl
        · have cf : go Y (i + 1) 5 = false := by cases hh : go Y (i + 1) 5 with | false => rfl | true => exact absurd hh c3
          rw [if_pos cf] at hskip ⊢
          exact hskip (fun h9 => c3 (hmem.mp h9).2.2.1) rfl
      · have cf : oE Y (i + 1) e = false := by cases hh : oE Y (i + 1) e with | false => rfl | true => exact absurd hh c2
        rw [if_pos cf] at hskip ⊢
        exact hskip (fun h9 => c2 (hmem.mp h9).2.1) rfl
    · rw [if_neg c1] at hskip ⊢
      exact hskip (fun h9 => c1 (List.length_pos_iff.mpr (hmem.mp h9).1)) rfl
