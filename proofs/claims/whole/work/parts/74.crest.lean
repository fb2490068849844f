/-! THE CLASS: thumbs' calls, DRAWN, IMAGES, told -/
theorem x_thumb {s : SoS} {A : AS} {c : Nat} (hV : VA A) (h : CJ s A c) (yr : Nat) (x r : Int32) : ∃ s2, so_thumb s yr x r = some (s_thumb (aY A) x r, s2) ∧ CJ s2 A c := by
  rw [so_thumb, rw_wag]
  simp only [Option.bind_some]
  unfold s_thumb
  cases hp : pr1 x with
  | none => rw [pr1_none hp, if_pos z00]; exact ⟨s, rfl, h⟩
  | some p =>
    obtain ⟨n, t⟩ := p
    obtain ⟨h1, h5, ht, rfl, hx⟩ := pr1_some hp
    rw [hx, if_neg (by rw [zl_0, iN_eq (by omega) (by omega)]; omega), rng_t (a' := 0) (b' := 2) (by rfl) (by rfl)]
    simp only
    cases hr : nin r 0 2 with
    | false => rw [if_neg (by decide), if_neg (by decide)]; exact ⟨s, rfl, h⟩
    | true =>
      obtain ⟨q, _, hq, rfl⟩ := nin_iN (a := 0) (b := 2) (by omega) hr
      obtain ⟨p', a1⟩ := out_ok hV.2.1 h.2.1.1 h.2.1.2.1 h5 ht hq s.2.2.2.2.2.2.2.2.2
      rw [if_pos rfl, if_pos rfl, t_ofN n (by omega) t ht, iN_nat (by omega)]
      simp only [Option.bind_some]
      rw [a1]
      exact ⟨_, rfl, h⟩
theorem thR_le {Y : Yd} (hY : VY Y) {n : Nat} {t : List Nat} {rule : Nat} : thR Y n t rule ≤ n := by
  have : ∀ (f : Nat) (P : Ps), VP Y n P → VP Y n (thF Y t rule f P) := by
    intro f
    induction f with
    | zero => intro P h; exact h
    | succ f ih =>
      intro P h
      cases hc : chs Y t rule P with
      | none => rw [thF, hc]; exact h
      | some m =>
        obtain ⟨h1, h2⟩ := chs_ok hY hc
        rw [thF, hc]
        exact ih _ (VP_mv hY h h1 h2)
  unfold thR
  exact VP_le (this 21 (st n) (VP_st Y n)) (by omega)
theorem csorts_L33 {A : AS} {c : Nat} (hY : VY (aY A)) {n : Nat} (h5 : n ≤ 5) {rule : Nat} (hr : rule ≤ 2) (yr : Nat) : ∀ (d k f a : Nat) (s : SoS), d < f → k + d = fac n → CJ s A c → ∃ s2, so_sorts_L33 f s yr (iN n) (iN rule) (iN (fac n)) (iN a) (iN k) = some (s2, iN (a + tG (aY A) n rule k)) ∧ CJ s2 A c := by
  intro d
  induction d with
  | zero =>
    intro k f a s hf hk h
    obtain ⟨f, rfl⟩ : ∃ g, f = g + 1 := ⟨f - 1, by omega⟩
    have hfc := (fac_le n (by omega)).2
    have e1 : tG (aY A) n rule k = 0 := by unfold tG; rw [show fac n - k = 0 by omega]; rfl
    refine ⟨s, ?_, h⟩
    rw [so_sorts_L33, jlt (by omega) (by omega), if_neg (by omega), e1]
    rfl
  | succ d ih =>
    intro k f a s hf hk h
    obtain ⟨f, rfl⟩ : ∃ g, f = g + 1 := ⟨f - 1, by omega⟩
    have hfc := (fac_le n (by omega)).2
    have hkf : k < fac n := by omega
    have hu := ur_mem (show n < 6 by omega) hkf
    have hs := tG_s (Y := aY A) (rule := rule) hkf
    have hth := thR_le hY (n := n) (t := ur n k) (rule := rule)
    obtain ⟨p', a1⟩ := out_ok hY h.2.1.1 h.2.1.2.1 h5 hu hr s.2.2.2.2.2.2.2.2.2
    rw [so_sorts_L33, jlt (by omega) (by omega), if_pos hkf, t_ofR n (by omega) k hkf]
    simp only [Option.bind_some]
    rw [a1]
    simp only [Option.bind_some]
    rw [jeq (by omega) (by omega), show iN k + 1 = iN (k + 1) from iN_add k 1, show iN a + 1 = iN (a + 1) from iN_add a 1]
    by_cases ct : thR (aY A) n (ur n k) rule = n
    · rw [if_pos ct] at hs ⊢
      obtain ⟨s2, b1, b2⟩ := ih (k + 1) f (a + 1) (s.1, s.2.1, s.2.2.1, s.2.2.2.1, s.2.2.2.2.1, s.2.2.2.2.2.1, s.2.2.2.2.2.2.1, s.2.2.2.2.2.2.2.1, s.2.2.2.2.2.2.2.2.1, p') (by omega) (by omega) h
      exact ⟨s2, by rw [b1, hs, Nat.add_assoc], b2⟩
    · rw [if_neg ct] at hs ⊢
      obtain ⟨s2, b1, b2⟩ := ih (k + 1) f a (s.1, s.2.1, s.2.2.1, s.2.2.2.1, s.2.2.2.2.1, s.2.2.2.2.2.1, s.2.2.2.2.2.2.1, s.2.2.2.2.2.2.2.1, s.2.2.2.2.2.2.2.2.1, p') (by omega) (by omega) h
      exact ⟨s2, by rw [b1, hs, Nat.zero_add], b2⟩
theorem x_sorts {s : SoS} {A : AS} {c : Nat} (hV : VA A) (h : CJ s A c) (yr : Nat) (x r : Int32) : ∃ s2, so_sorts s yr x r = some (s_sorts (aY A) x r, s2) ∧ CJ s2 A c := by
  rw [so_sorts, rng_t (a' := 1) (b' := 5) (by rfl) (by rfl), rng_t (a' := 0) (b' := 2) (by rfl) (by rfl)]
  unfold s_sorts
  cases hx : nin x 1 5 with
  | false => rw [if_neg (by decide), Bool.false_and, if_neg (by decide)]; exact ⟨s, rfl, h⟩
  | true =>
    rw [if_pos rfl, Bool.true_and]
    cases hr : nin r 0 2 with
    | false => rw [if_neg (by decide), if_neg (by decide)]; exact ⟨s, rfl, h⟩
    | true =>
      obtain ⟨n, h1, h5, rfl⟩ := nin_iN (a := 1) (b := 5) (by omega) hx
      obtain ⟨q, _, hq, rfl⟩ := nin_iN (a := 0) (b := 2) (by omega) hr
      have hfc := (fac_le n (by omega)).2
      rw [if_pos rfl, if_pos rfl, iN_nat (by omega), iN_nat (by omega), t_fac n (by omega)]
      simp only [Option.bind_some]
      obtain ⟨s2, a1, a2⟩ := csorts_L33 hV.2.1 h5 hq yr (fac n) 0 N0 0 s (by rw [N0_eq]; omega) (by omega) h
      rw [Nat.zero_add] at a1
      have a1' : so_sorts_L33 N0 s yr (iN n) (iN q) (iN (fac n)) 0 0 = some (s2, iN (tG (aY A) n q 0)) := a1
      rw [a1']
      exact ⟨s2, rfl, a2⟩
theorem t_sut : ∀ n, n < 6 → rw_setUpTo (iN n) = some (iN ((2 ^ (n + 1) - 2) ^^^ 0)) := by decide +kernel
theorem cdraw_L38 (z : SoS) (yr : Nat) {n : Nat} (hn : n < 6) : ∀ (d f s u a : Nat), d < f → pop6 u + d = n → s < 65537 → u < 64 → u &&& (2 ^ (n + 1) - 2) = u → so_draw_L38 f z yr (iN s) (iN ((2 ^ (n + 1) - 2) ^^^ u)) (iN a) (iN d) = some (iN (drA n d s u a)) := by
  intro d
  induction d with
  | zero =>
    intro f s u a hf hk hs hu hu2
    obtain ⟨f, rfl⟩ : ∃ g, f = g + 1 := ⟨f - 1, by omega⟩
    rw [so_draw_L38, jlt0 (by omega), if_neg (by omega)]
    rfl
  | succ d ih =>
    intro f s u a hf hk hs hu hu2
    obtain ⟨f, rfl⟩ : ∃ g, f = g + 1 := ⟨f - 1, by omega⟩
    have hs2 : (75 * s + 74) % 65537 < 65537 := Nat.mod_lt _ (by omega)
    have hi : (75 * s + 74) % 65537 % (d + 1) < d + 1 := Nat.mod_lt _ (by omega)
    obtain ⟨w1, w2, w3, w4, w5, w6, w7, w8⟩ := t_drw n hn u hu hu2 ((75 * s + 74) % 65537 % (d + 1)) (by omega) (by omega)
    have e1 : irm ((iN s * 75) + 74) 65537 = iN ((75 * s + 74) % 65537) := by
      rw [zl_75, zl_74, zl_65537, iN_mul, iN_add, iN_irm (by omega) (by omega), Nat.mul_comm s 75]
    have e2 : irm (iN ((75 * s + 74) % 65537)) (iN (d + 1)) = iN ((75 * s + 74) % 65537 % (d + 1)) := iN_irm (by omega) (by omega)
    rw [so_draw_L38, jlt0 (by omega), if_pos (by omega), if_pos (by rw [zl_0, iN_eq (by omega) (by omega)]; omega), e1, e2, w7]
    simp only [Option.bind_some]
    rw [w8, drA]
    have e3 : iN a * 10 + iN (drw 16 u ((75 * s + 74) % 65537 % (d + 1)) 1) = iN (10 * a + drw 16 u ((75 * s + 74) % 65537 % (d + 1)) 1) := by
      rw [zl_10, iN_mul, iN_add, Nat.mul_comm a 10]
    rw [e3, iN_dec (by omega), Nat.add_sub_cancel]
    exact ih f _ _ _ (by omega) (by omega) hs2 w3 w4
theorem x_draw (s : SoS) (yr : Nat) (x y : Int32) : so_draw s yr x y = some (s_draw x y) := by
  rw [so_draw, rng_t (a' := 0) (b' := 9999) (by rfl) (by rfl), rng_t (a' := 1) (b' := 5) (by rfl) (by rfl)]
  unfold s_draw
  cases hx : nin x 0 9999 with
  | false => rw [if_neg (by decide), Bool.false_and, if_neg (by decide)]
  | true =>
    rw [if_pos rfl, Bool.true_and]
    cases hy : nin y 1 5 with
    | false => rw [if_neg (by decide), if_neg (by decide)]
    | true =>
      obtain ⟨q, _, hq, rfl⟩ := nin_iN (a := 0) (b := 9999) (by omega) hx
      obtain ⟨n, h1, h5, rfl⟩ := nin_iN (a := 1) (b := 5) (by omega) hy
      rw [if_pos rfl, if_pos rfl, iN_nat (by omega), iN_nat (by omega), t_sut n (by omega)]
      simp only [Option.bind_some]
      have hp0 : pop6 0 = 0 := by decide
      have := cdraw_L38 s yr (n := n) (by omega) n N0 q 0 0 (by rw [N0_eq]; omega) (by omega) (by omega) (by omega) (by simp)
      have h' : so_draw_L38 N0 s yr (iN q) (iN ((2 ^ (n + 1) - 2) ^^^ 0)) 0 (iN n) = some (iN (drA n n q 0 0)) := this
      rw [h']
      rfl
/-! IMAGES -/
theorem VPl_20 {Y : Yd} (hY : VY Y) {G : PlA} (h : VPl Y G) (h1 : 1 ≤ G.1) : G.2.2.2.length ≤ 20 := by
  rcases h with h | ⟨_, b, _, _, e⟩
  · omega
  · exact (mvok_len hY b e).2
theorem copyG_ok {f : PyS} {G : PlA} (h : CG f G) (hl : 1 ≤ G.1 → G.2.2.2.length ≤ 20) (p : PyS) : ∃ p', py_copyFrom p f = some p' ∧ CG p' G := by
  have hz : isZ f.1 := by
    rcases Nat.eq_zero_or_pos G.1 with e | e
    · rw [h.1 e]; exact isZ_0
    · rw [(h.2 e).1]; exact isZ_1
  refine ⟨(f.1, f.2.1, f.2.2.1, f.2.2.2.1, f.2.2.2.2.1, (cpy 20 f.2.2.2.2.2.1 p.2.2.2.2.2.1), ((cpy 6 f.2.2.2.2.2.2.1 p.2.2.2.2.2.2.1), (cpy 6 f.2.2.2.2.2.2.2 p.2.2.2.2.2.2.2))), ?_, h.1, fun h1 => ?_⟩
  · rw [py_copyFrom, if_pos hz, pl_copyFrom]
    rfl
  · obtain ⟨a, b, c, d, e, g, i⟩ := h.2 h1
    have h20 := hl h1
    refine ⟨a, b, c, d, e, fun k hk => ?_, ?_⟩
    · have hk : k < G.2.2.2.length := hk
      show cpy 20 f.2.2.2.2.2.1 p.2.2.2.2.2.1 k = _
      rw [cpy_at (by omega), if_pos (by omega)]
      exact g k hk
    · obtain ⟨p', q1, q2⟩ := copyPl_ok i p.2.2.2.2.2.2
      rw [pl_copyFrom] at q1
      have e9 := Option.some.inj q1
      rw [← e9] at q2
      exact q2
theorem nin_01 {x : Int32} (h : nin x 0 1 = false) : ¬ x = 0 := by
  rintro rfl
  exact absurd h (by decide)
theorem ne_10 : ¬ iN 1 = (0 : Int32) := by decide
theorem x_image {s : SoS} {A : AS} {c : Nat} (hV : VA A) (h : CJ s A c) (yr : Nat) (x : Int32) : ∃ s2, (if x = 0 then so_image0 s yr x else so_image1 s yr x) = some ((s_image A x).1, s2) ∧ CJ s2 (s_image A x).2 c := by
  unfold s_image
  cases hx : nin x 0 1 with
  | false =>
    rw [if_neg (nin_01 hx), so_image1, rng_t (a' := 0) (b' := 1) (by rfl) (by rfl), hx, if_neg (by decide), if_neg (by decide)]
    exact ⟨s, rfl, h⟩
  | true =>
    obtain ⟨n, _, hn, rfl⟩ := nin_iN (a := 0) (b := 1) (by omega) hx
    have hl := fun h1 => VPl_20 hV.2.1 hV.2.2.2.1 h1
    rw [if_pos rfl, iN_nat (by omega)]
    rcases (show n = 0 ∨ n = 1 by omega) with rfl | rfl
    · obtain ⟨y1, a1, a2⟩ := copyY_ok hV.2.1 h.2.1 s.2.2.2.2.1.2.1
      obtain ⟨y2, b1, b2⟩ := copyY_ok hV.2.2.1 h.2.2.1 s.2.2.2.2.1.2.2.1
      obtain ⟨g1, c1, c2⟩ := copyG_ok h.2.2.2.1 hl s.2.2.2.2.1.2.2.2
      rw [if_pos z00, so_image0, rng_t (a' := 0) (b' := 1) (by rfl) (by rfl), hx, if_pos rfl, a1]
      simp only [Option.bind_some]
      rw [b1]
      simp only [Option.bind_some]
      rw [c1]
      refine ⟨_, rfl, h.1, h.2.1, h.2.2.1, h.2.2.2.1, ⟨?_, ?_⟩, h.2.2.2.2.2.1, h.2.2.2.2.2.2⟩
      · show CIm (1, y1, y2, g1) (some (aY A, aO A, aG A))
        exact ⟨rfl, fun im e => by cases e; exact ⟨a2, b2, c2⟩⟩
      · exact h.2.2.2.2.1.2
    · obtain ⟨y1, a1, a2⟩ := copyY_ok hV.2.1 h.2.1 s.2.2.2.2.2.1.2.1
      obtain ⟨y2, b1, b2⟩ := copyY_ok hV.2.2.1 h.2.2.1 s.2.2.2.2.2.1.2.2.1
      obtain ⟨g1, c1, c2⟩ := copyG_ok h.2.2.2.1 hl s.2.2.2.2.2.1.2.2.2
      rw [if_neg ne_10, so_image1, rng_t (a' := 0) (b' := 1) (by rfl) (by rfl), hx, if_pos rfl, a1]
      simp only [Option.bind_some]
      rw [b1]
      simp only [Option.bind_some]
      rw [c1]
      refine ⟨_, rfl, h.1, h.2.1, h.2.2.1, h.2.2.2.1, ⟨?_, ?_⟩, h.2.2.2.2.2.1, h.2.2.2.2.2.2⟩
      · exact h.2.2.2.2.1.1
      · show CIm (1, y1, y2, g1) (some (aY A, aO A, aG A))
        exact ⟨rfl, fun im e => by cases e; exact ⟨a2, b2, c2⟩⟩
theorem x_restore {s : SoS} {A : AS} {c : Nat} (hV : VA A) (h : CJ s A c) (yr : Nat) (x : Int32) : ∃ s2, (if x = 0 then so_restore0 s yr x else so_restore1 s yr x) = some ((s_restore A x).1, s2) ∧ CJ s2 (s_restore A x).2 c := by
  unfold s_restore
  cases hx : nin x 0 1 with
  | false =>
    rw [if_neg (nin_01 hx), so_restore1, rng_t (a' := 0) (b' := 1) (by rfl) (by rfl), hx, if_neg (by decide), if_neg (by decide)]
    exact ⟨s, rfl, h⟩
  | true =>
    obtain ⟨n, _, hn, rfl⟩ := nin_iN (a := 0) (b := 1) (by omega) hx
    rw [if_pos rfl, iN_nat (by omega)]
    have hIV := hV.2.2.2.2
    rcases (show n = 0 ∨ n = 1 by omega) with rfl | rfl
    · obtain ⟨i1, i2⟩ := h.2.2.2.2.1.1
      rw [if_pos z00, so_restore0, rng_t (a' := 0) (b' := 1) (by rfl) (by rfl), hx, if_pos rfl, i1]
      cases hi : aI A 0 with
      | none =>
        rw [if_pos (show bI (none : Option ImA).isSome = 0 from rfl)]
        exact ⟨s, rfl, h⟩
      | some im =>
        obtain ⟨v1, v2, v3⟩ := hIV 0 im hi
        obtain ⟨j1, j2, j3⟩ := i2 im hi
        obtain ⟨y1, a1, a2⟩ := copyY_ok v1 j1 s.2.1
        obtain ⟨y2, b1, b2⟩ := copyY_ok v2 j2 s.2.2.1
        obtain ⟨g1, c1, c2⟩ := copyG_ok j3 (fun h1 => VPl_20 v1 v3 h1) s.2.2.2.1
        rw [if_neg (show ¬ bI (some im).isSome = 0 from bT), a1]
        simp only [Option.bind_some]
        rw [b1]
        simp only [Option.bind_some]
        rw [c1]
        simp only [Option.bind_some]
        obtain ⟨s2, d1, d2, _⟩ := forgetF_ok (s := (s.1, y1, y2, g1, s.2.2.2.2.1, s.2.2.2.2.2.1, s.2.2.2.2.2.2.1, s.2.2.2.2.2.2.2.1, s.2.2.2.2.2.2.2.2.1, s.2.2.2.2.2.2.2.2.2)) (A := A) (B := (aP A, im.1, im.2.1, im.2.2, aI A)) h.2.2.2.2.2.1 h.1 a2 b2 c2 h.2.2.2.2.1 yr
        rw [d1]
        exact ⟨s2, rfl, d2⟩
    · obtain ⟨i1, i2⟩ := h.2.2.2.2.1.2
      rw [if_neg ne_10, so_restore1, rng_t (a' := 0) (b' := 1) (by rfl) (by rfl), hx, if_pos rfl, i1]
      cases hi : aI A 1 with
      | none =>
        rw [if_pos (show bI (none : Option ImA).isSome = 0 from rfl)]
        exact ⟨s, rfl, h⟩
      | some im =>
        obtain ⟨v1, v2, v3⟩ := hIV 1 im hi
        obtain ⟨j1, j2, j3⟩ := i2 im hi
        obtain ⟨y1, a1, a2⟩ := copyY_ok v1 j1 s.2.1
        obtain ⟨y2, b1, b2⟩ := copyY_ok v2 j2 s.2.2.1
        obtain ⟨g1, c1, c2⟩ := copyG_ok j3 (fun h1 => VPl_20 v1 v3 h1) s.2.2.2.1
        rw [if_neg (show ¬ bI (some im).isSome = 0 from bT), a1]
        simp only [Option.bind_some]
        rw [b1]
        simp only [Option.bind_some]
        rw [c1]
        simp only [Option.bind_some]
        obtain ⟨s2, d1, d2, _⟩ := forgetF_ok (s := (s.1, y1, y2, g1, s.2.2.2.2.1, s.2.2.2.2.2.1, s.2.2.2.2.2.2.1, s.2.2.2.2.2.2.2.1, s.2.2.2.2.2.2.2.2.1, s.2.2.2.2.2.2.2.2.2)) (A := A) (B := (aP A, im.1, im.2.1, im.2.2, aI A)) h.2.2.2.2.2.1 h.1 a2 b2 c2 h.2.2.2.2.1 yr
        rw [d1]
        exact ⟨s2, rfl, d2⟩
theorem x_told {s : SoS} {A : AS} {c : Nat} (h : CJ s A c) (yr : Nat) (x : Int32) : so_told s yr x = some (s_told A x) := by
  have hCG := h.2.2.2.1
  rw [so_told, h.1.1, h.2.1.1.1, h.2.1.1.2.1, h.2.2.1.1.1]
  unfold s_told
  by_cases h0 : (aG A).1 = 0
  · rw [if_pos (show s.2.2.2.1.1 = 0 by rw [CG_on hCG]; exact h0), if_pos h0]
    (repeat' split) <;> rfl
  · rw [if_neg (show ¬ s.2.2.2.1.1 = 0 by rw [CG_on hCG]; exact h0), if_neg h0, (hCG.2 (by omega)).2.2.2.2.1]
    (repeat' split) <;> rfl
