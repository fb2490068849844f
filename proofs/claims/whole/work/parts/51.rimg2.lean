/-! THE REFERENCE: image, restore, the calls -/
def SD (F : Nat → Int32) (im : ImA) : Prop :=
  F 0 = iN (yM im.1) ∧ F 1 = iN (yT im.1) ∧ F 2 = iN (yM im.2.1) ∧ F 3 = iN (yT im.2.1) ∧ F 6 = iN im.2.2.1 ∧
  (1 ≤ im.2.2.1 → F 4 = iN (num im.2.2.2.1) ∧ F 5 = iN (num im.2.2.2.2.1) ∧ F 7 = iN im.2.2.2.2.2.length ∧ ∀ k, k ≤ im.2.2.2.2.2.length → F (38 + k) = iN (key (yM im.1) (posn im.2.2.1 (im.2.2.2.2.2.take k)))) ∧
  (∀ i, i < yM im.1 → F (8 + 6 * i) = iN (yL im.1 i) ∧ F (9 + 6 * i) = iN (yN im.1 i) ∧ F (10 + 6 * i) = iN (yS im.1 i)) ∧
  (∀ i, i < yM im.2.1 → F (11 + 6 * i) = iN (yL im.2.1 i) ∧ F (12 + 6 * i) = iN (yN im.2.1 i) ∧ F (13 + 6 * i) = iN (yS im.2.1 i)) ∧
  (∀ k, k < yT im.1 → F (32 + 2 * k) = bI (yD im.1 k)) ∧ (∀ k, k < yT im.2.1 → F (33 + 2 * k) = bI (yD im.2.1 k))
def VI (im : ImA) : Prop := VY im.1 ∧ VY im.2.1 ∧ VPl im.1 im.2.2
theorem VI_len {im : ImA} (h : VI im) (h1 : 1 ≤ im.2.2.1) : im.2.2.2.2.2.length ≤ 20 := by
  rcases h.2.2 with h0 | ⟨_, b, _, _, e⟩
  · omega
  · exact (mvok_len h.1 b e).2
theorem SD_congr {F G : Nat → Int32} {im : ImA} (v : VI im) (h : SD F im) (e : ∀ k, k < 79 → G k = F k) : SD G im := by
  obtain ⟨h0, h1, h2, h3, h6, h4, hA, hB, hC, hD⟩ := h
  have m1 := v.1.2.1
  have m2 := v.2.1.2.1
  have t1 := v.1.2.2.2.1
  have t2 := v.2.1.2.2.2.1
  refine ⟨by rw [e 0 (by omega), h0], by rw [e 1 (by omega), h1], by rw [e 2 (by omega), h2], by rw [e 3 (by omega), h3], by rw [e 6 (by omega), h6], fun h9 => ?_, fun i hi => ?_, fun i hi => ?_, fun k hk => ?_, fun k hk => ?_⟩
  · have hl := VI_len v h9
    obtain ⟨a, b, c, d⟩ := h4 h9
    exact ⟨by rw [e 4 (by omega), a], by rw [e 5 (by omega), b], by rw [e 7 (by omega), c], fun k hk => by rw [e _ (by omega), d k hk]⟩
  · rw [e _ (by omega), e _ (by omega), e _ (by omega)]; exact hA i hi
  · rw [e _ (by omega), e _ (by omega), e _ (by omega)]; exact hB i hi
  · rw [e _ (by omega)]; exact hC k hk
  · rw [e _ (by omega)]; exact hD k hk
theorem KR_SD {σ : MS} {b : Nat} {im : ImA} : KR σ b im ↔ SD (fun k => av σ 28 (b + k)) im := by
  unfold KR SD
  simp only [Nat.add_zero, Nat.add_assoc]
theorem SD_of {σ : MS} {im : ImA} (hY : YR σ im.1) (hO : OR σ im.2.1) (hG : GR σ im.1 im.2.2) (v : VI im) : SD (fld σ) im := by
  have m1 := v.1.2.1
  have m2 := v.2.1.2.1
  have t1 := v.1.2.2.2.1
  have t2 := v.2.1.2.2.2.1
  obtain ⟨_, y1, y2, y3, y4⟩ := hY
  obtain ⟨o1, o2, o3, o4⟩ := hO
  obtain ⟨g1, g2⟩ := hG
  refine ⟨y1, y2, o1, o2, g1, fun h9 => ?_, fun i hi => ?_, fun i hi => ?_, fun k hk => ?_, fun k hk => ?_⟩
  · obtain ⟨a, b, c, d⟩ := g2 h9
    have hl := VI_len v h9
    refine ⟨a, b, c, fun k hk => ?_⟩
    obtain ⟨c0, x0⟩ := t_fl252 k (by omega)
    rw [fld_a (by omega) c0 x0]; exact d k hk
  · obtain ⟨c0, c1, c2, c3, c4, c5, x0, x1, x2, x3, x4, x5⟩ := t_fl98 i (by omega)
    rw [fld_a (by omega) c0 x0, fld_a (by omega) c1 x1, fld_a (by omega) c2 x2]; exact y3 i hi
  · obtain ⟨c0, c1, c2, c3, c4, c5, x0, x1, x2, x3, x4, x5⟩ := t_fl98 i (by omega)
    rw [fld_a (by omega) c3 x3, fld_a (by omega) c4 x4, fld_a (by omega) c5 x5]; exact o3 i hi
  · obtain ⟨c0, c1, x0, x1⟩ := t_fl207 k (by omega)
    rw [fld_a (by omega) c0 x0]; exact y4 k hk
  · obtain ⟨c0, c1, x0, x1⟩ := t_fl207 k (by omega)
    rw [fld_a (by omega) c1 x1]; exact o4 k hk
theorem of_SD {σ : MS} {im : ImA} (h : SD (fld σ) im) (v : VI im) : YR σ im.1 ∧ OR σ im.2.1 ∧ GR σ im.1 im.2.2 := by
  have m1 := v.1.2.1
  have m2 := v.2.1.2.1
  have t1 := v.1.2.2.2.1
  have t2 := v.2.1.2.2.2.1
  obtain ⟨h0, h1, h2, h3, h6, h4, hA, hB, hC, hD⟩ := h
  refine ⟨⟨v.1, h0, h1, fun i hi => ?_, fun k hk => ?_⟩, ⟨h2, h3, fun i hi => ?_, fun k hk => ?_⟩, h6, fun h9 => ?_⟩
  · obtain ⟨c0, c1, c2, c3, c4, c5, x0, x1, x2, x3, x4, x5⟩ := t_fl98 i (by omega)
    have := hA i hi
    rw [fld_a (by omega) c0 x0, fld_a (by omega) c1 x1, fld_a (by omega) c2 x2] at this; exact this
  · obtain ⟨c0, c1, x0, x1⟩ := t_fl207 k (by omega)
    have := hC k hk
    rw [fld_a (by omega) c0 x0] at this; exact this
  · obtain ⟨c0, c1, c2, c3, c4, c5, x0, x1, x2, x3, x4, x5⟩ := t_fl98 i (by omega)
    have := hB i hi
    rw [fld_a (by omega) c3 x3, fld_a (by omega) c4 x4, fld_a (by omega) c5 x5] at this; exact this
  · obtain ⟨c0, c1, x0, x1⟩ := t_fl207 k (by omega)
    have := hD k hk
    rw [fld_a (by omega) c1 x1] at this; exact this
  · obtain ⟨a, b, c, d⟩ := h4 h9
    have hl := VI_len v h9
    refine ⟨a, b, c, fun k hk => ?_⟩
    obtain ⟨c0, x0⟩ := t_fl252 k (by omega)
    have := d k hk
    rw [fld_a (by omega) c0 x0] at this; exact this
theorem passed {b : Nat} (hb : b + 79 ≤ 200) {σ : MS} (h42 : gI σ 42 = iN b) : ∃ τ, m_passAll σ = some τ ∧ (∀ k, k < 79 → fld τ k = vN b σ k) ∧ (∀ k, av τ 28 k = if b ≤ k ∧ k < b + 79 then vN b σ (k - b) else av σ 28 k) ∧ (∀ k, k ∉ [4, 5, 10, 11, 35, 36, 37, 39, 42] → gI τ k = gI σ k) ∧ (∀ a, a ∉ [1, 2, 3, 4, 5, 6, 7, 8, 20, 27, 28] → ∀ k, av τ a k = av σ a k) ∧ (∀ a k, wv τ a k = wv σ a k) ∧ ∀ j, j < 6 → av τ 20 j = iN 0 := by
  obtain ⟨_, i2, i3, i4, i5, i6, i7⟩ := stN_ok hb h42 79 (Nat.le_refl _)
  obtain ⟨τ, a1, a2, a3⟩ := forget_ok (stN b σ 79)
  refine ⟨τ, ?_, fun k hk => ?_, fun k => ?_, fun k hk => ?_, fun a ha k => ?_, fun a k => ?_, a3⟩
  · rw [passAll_ok hb h42, a1]; rfl
  · have h1 : fld τ k = fld (stN b σ 79) k := by
      have h20 : fa k ≠ 20 := by
        have := (fa_no k hk).2.1
        intro e
        rw [e] at this
        exact absurd this (by decide)
      unfold fld
      by_cases ck : k < 8
      · rw [if_pos ck, if_pos ck, a2.1 _ (by simp)]
      · rw [if_neg ck, if_neg ck, a2.2.1 _ (by simpa using h20)]
    rw [h1, i3 k hk, if_pos hk]
  · rw [a2.2.1 28 (by decide)]; exact i4 k
  · rw [a2.1 k (by simp)]; exact i5 k hk
  · have h20 : a ≠ 20 := fun e => ha (by rw [e]; decide)
    rw [a2.2.1 a (by simpa using h20)]
    refine i6 a (fun h9 => ha ?_) k
    revert h9
    simp only [List.mem_cons, List.not_mem_nil, or_false]
    omega
  · rw [a2.2.2 a (by simp)]; exact i7 a k
def wIm (A : AS) (i : Nat) (im : ImA) : AS := (A.1, A.2.1, A.2.2.1, A.2.2.2.1, fun j => if j = i then some im else aI A j)
def s_image (A : AS) (x : Int32) : Int32 × AS := if nin x 0 1 = true then (1, wIm A x.toNatClampNeg (aY A, aO A, aG A)) else (-2, A)
def s_restore (A : AS) (x : Int32) : Int32 × AS := if nin x 0 1 = true then (match aI A x.toNatClampNeg with
  | none => (-3, A)
  | some im => (1, (aP A, im.1, im.2.1, im.2.2, aI A))) else (-2, A)
theorem r_image {σ : MS} {A : AS} {c : Nat} (h : RI σ A c) (x : Int32) : ∃ τ, m_image σ x = some ((s_image A x).1, τ) ∧ RI τ (s_image A x).2 c := by
  rw [m_image, m_in_i, show (0 : Int64).toInt = 0 from rfl, show (1 : Int64).toInt = 1 from rfl]
  simp only [Option.bind_some, bI_0]
  have e : decide ((0 : Int) ≤ x.toInt ∧ x.toInt ≤ 1) = nin x 0 1 := rfl
  rw [e]
  unfold s_image
  cases hx : nin x 0 1 with
  | false => rw [if_pos rfl, if_neg (by decide)]; exact ⟨σ, rfl, h⟩
  | true =>
    obtain ⟨n, _, hn, rfl⟩ := nin_iN (a := 0) (b := 1) (by omega) hx
    rw [if_neg (by decide), if_pos rfl]
    simp only [iN_nat (show n < 2147483648 by omega)]
    rw [zl_100, iN_mul]
    have v : VI (aY A, aO A, aG A) := ⟨h.1.2.1, h.1.2.2.1, h.1.2.2.2.1⟩
    have f0 : FR [42, 43] [] [] σ (sI (sI σ 42 (iN (100 * n))) 43 1) := FR_tr (FR_sI (by decide)) (FR_sI (by decide))
    have hfl : ∀ k, k < 79 → fld (sI (sI σ 42 (iN (100 * n))) 43 1) k = fld σ k := by
      intro k hk
      unfold fld
      by_cases ck : k < 8
      · rw [if_pos ck, if_pos ck, gI_sI, if_neg (fi_no k ck).2.1, gI_sI, if_neg (fi_no k ck).1]
      · rw [if_neg ck, if_neg ck, av_sI, av_sI]
    obtain ⟨τ, a1, a2, a3, a4, a5, a6, a7⟩ := passed (b := 100 * n) (by omega) (σ := sI (sI σ 42 (iN (100 * n))) 43 1) rfl
    have hv : ∀ k, k < 79 → vN (100 * n) (sI (sI σ 42 (iN (100 * n))) 43 1) k = fld σ k := by
      intro k hk
      unfold vN
      rw [if_neg (show ¬ gI (sI (sI σ 42 (iN (100 * n))) 43 1) 43 = 0 from by rw [gI_sI, if_pos rfl]; decide)]
      exact hfl k hk
    have hSD := SD_of (im := (aY A, aO A, aG A)) h.2.1 h.2.2.1 h.2.2.2.2.1 v
    obtain ⟨rY, rO, rG⟩ := of_SD (SD_congr v hSD (fun k hk => by rw [a2 k hk, hv k hk])) v
    have hin : inb (iN n) 2 := by rw [iN_inb (by omega)]; omega
    have f29 : FR [] [29] [] τ (sA τ 29 (iN n) (narZ 1)) := FR_sA (by decide)
    refine ⟨sA τ 29 (iN n) (narZ 1), ?_, ⟨h.1.1, h.1.2.1, h.1.2.2.1, h.1.2.2.2.1, fun i im him => ?_⟩, YR_fr rY f29 rfl, ?_, ?_, ?_, ?_, ?_, ?_⟩
    · rw [a1]
      simp only [Option.bind_some]
      rw [if_pos hin]
    · have him : (if i = n then some (aY A, aO A, aG A) else aI A i) = some im := him
      by_cases ei : i = n
      · rw [if_pos ei] at him
        cases him
        exact v
      · rw [if_neg ei] at him
        exact h.1.2.2.2.2 i im him
    · obtain ⟨o1, o2, o3, o4⟩ := rO
      exact ⟨o1, o2, fun i hi => by rw [f29.2.1 5 (by decide), f29.2.1 6 (by decide), f29.2.1 7 (by decide)]; exact o3 i hi, fun k hk => by rw [f29.2.1 8 (by decide)]; exact o4 k hk⟩
    · refine ⟨by show gI τ 13 = _; rw [a4 13 (by decide)]; exact h.2.2.2.1.1, fun k hk => ?_⟩
      rw [f29.2.1 9 (by decide), a5 9 (by decide)]
      exact h.2.2.2.1.2 k hk
    · obtain ⟨g1, g2⟩ := rG
      refine ⟨g1, fun h9 => ?_⟩
      obtain ⟨p, q, r, t⟩ := g2 h9
      exact ⟨p, q, r, fun k hk => by rw [f29.2.1 27 (by decide)]; exact t k hk⟩
    · intro i hi
      refine ⟨?_, fun im him => ?_⟩
      · show av (sA τ 29 (iN n) (narZ 1)) 29 i = bI ((if i = n then some (aY A, aO A, aG A) else aI A i)).isSome
        rw [av_sA (by omega), if_pos rfl]
        by_cases ei : i = n
        · rw [if_pos ei, if_pos ei]; rfl
        · rw [if_neg ei, if_neg ei, a5 29 (by decide)]
          exact (h.2.2.2.2.2.1 i hi).1
      · have him : (if i = n then some (aY A, aO A, aG A) else aI A i) = some im := him
        rw [KR_SD]
        by_cases ei : i = n
        · rw [if_pos ei] at him
          cases him
          rw [ei]
          refine SD_congr v hSD (fun k hk => ?_)
          show av (sA τ 29 (iN n) (narZ 1)) 28 (100 * n + k) = fld σ k
          rw [f29.2.1 28 (by decide), a3, if_pos (by omega), Nat.add_sub_cancel_left, hv k hk]
        · rw [if_neg ei] at him
          have vi := h.1.2.2.2.2 i im him
          refine SD_congr vi (KR_SD.mp ((h.2.2.2.2.2.1 i hi).2 im him)) (fun k hk => ?_)
          show av (sA τ 29 (iN n) (narZ 1)) 28 (100 * i + k) = av σ 28 (100 * i + k)
          rw [f29.2.1 28 (by decide), a3, if_neg (by omega)]
          rfl
    · exact FA_0 (fun j hj => by rw [f29.2.1 20 (by decide)]; exact a7 j hj)
    · obtain ⟨mk, m1, m2, m3⟩ := h.2.2.2.2.2.2.2
      refine ⟨mk, m1, by show gI τ 23 = _; rw [a4 23 (by decide)]; exact m2, fun a ha => ?_⟩
      rw [f29.2.1 13 (by decide), a5 13 (by decide)]
      exact m3 a ha
theorem r_restore {σ : MS} {A : AS} {c : Nat} (h : RI σ A c) (x : Int32) : ∃ τ, m_restore σ x = some ((s_restore A x).1, τ) ∧ RI τ (s_restore A x).2 c := by
  rw [m_restore, m_in_i, show (0 : Int64).toInt = 0 from rfl, show (1 : Int64).toInt = 1 from rfl]
  simp only [Option.bind_some, bI_0]
  have e : decide ((0 : Int) ≤ x.toInt ∧ x.toInt ≤ 1) = nin x 0 1 := rfl
  rw [e]
  unfold s_restore
  cases hx : nin x 0 1 with
  | false => rw [if_pos rfl, if_neg (by decide)]; exact ⟨σ, rfl, h⟩
  | true =>
    obtain ⟨n, _, hn, rfl⟩ := nin_iN (a := 0) (b := 1) (by omega) hx
    have hin : inb (iN n) 2 := by rw [iN_inb (by omega)]; omega
    obtain ⟨i1, i2⟩ := h.2.2.2.2.2.1 n (by omega)
    rw [if_neg (by decide), if_pos hin, if_pos rfl, iN_nat (by omega), gA_av (by omega), i1]
    cases him : aI A n with
    | none => rw [if_pos (by rfl)]; exact ⟨σ, rfl, h⟩
    | some im =>
      rw [if_neg (show ¬ bI (some im).isSome = 0 from (by show ¬ (1 : Int32) = 0; decide)), zl_100, iN_mul]
      have v := h.1.2.2.2.2 n im him
      have hKR := KR_SD.mp (i2 im him)
      obtain ⟨τ, a1, a2, a3, a4, a5, a6, a7⟩ := passed (b := 100 * n) (by omega) (σ := sI (sI σ 42 (iN (100 * n))) 43 0) rfl
      have hv : ∀ k, vN (100 * n) (sI (sI σ 42 (iN (100 * n))) 43 0) k = av σ 28 (100 * n + k) := by
        intro k
        unfold vN
        rw [if_pos (show gI (sI (sI σ 42 (iN (100 * n))) 43 0) 43 = 0 from by rw [gI_sI, if_pos rfl])]
        rfl
      have h28 : ∀ k, av τ 28 k = av σ 28 k := by
        intro k
        rw [a3]
        by_cases c9 : 100 * n ≤ k ∧ k < 100 * n + 79
        · rw [if_pos c9, hv, show 100 * n + (k - 100 * n) = k by omega]
        · rw [if_neg c9]; rfl
      obtain ⟨rY, rO, rG⟩ := of_SD (SD_congr v hKR (fun k hk => by rw [a2 k hk, hv])) v
      refine ⟨τ, by rw [a1]; rfl, ⟨h.1.1, v.1, v.2.1, v.2.2, h.1.2.2.2.2⟩, rY, rO, ⟨by rw [a4 13 (by decide)]; exact h.2.2.2.1.1, fun k hk => by rw [a5 9 (by decide)]; exact h.2.2.2.1.2 k hk⟩, rG, fun i hi => ?_, FA_0 a7, ?_⟩
      · exact ⟨by rw [a5 29 (by decide)]; exact (h.2.2.2.2.2.1 i hi).1, fun im2 him2 => KR_eq ((h.2.2.2.2.2.1 i hi).2 im2 him2) h28⟩
      · obtain ⟨mk, m1, m2, m3⟩ := h.2.2.2.2.2.2.2
        refine ⟨mk, m1, by rw [a4 23 (by decide)]; exact m2, fun a ha => ?_⟩
        rw [a5 13 (by decide)]
        exact m3 a ha
