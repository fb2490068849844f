/-! THE CLASS: ORDERS, GOOD, MEAN, UNLIKE -/
noncomputable def olk (Y : Yd) (n : Nat) (t : List Nat) (k : Nat) : List Nat := ((List.range' k (fac n - k)).filter (okO Y n t)).map (fun r => num (ur n r))
theorem olk_s {Y : Yd} {n : Nat} {t : List Nat} {k : Nat} (h : k < fac n) : olk Y n t k = if okO Y n t k = true then num (ur n k) :: olk Y n t (k + 1) else olk Y n t (k + 1) := by
  unfold olk
  rw [rng_c h]
  by_cases c : okO Y n t k = true
  · rw [List.filter_cons_of_pos c, if_pos c, List.map_cons]
  · rw [List.filter_cons_of_neg c, if_neg c]
theorem olk_0 (Y : Yd) (n : Nat) (t : List Nat) : olk Y n t 0 = ordL Y n t := by
  unfold olk ordL
  rw [List.range_eq_range', Nat.sub_zero]
def ordR (o : Option Nat) (s2 : SoS) (a : Nat) : (SoS × Int32) ⊕ (Int32 × SoS) := match o with
  | some v => .inr (iN v, s2)
  | none => .inl (s2, iN a)
theorem ord_L30 {A : AS} {c : Nat} (hY : VY (aY A)) {n : Nat} (h1 : 1 ≤ n) (h5 : n ≤ 5) {t : List Nat} (ht : t ∈ pm n) (x : Int32) (yr : Nat) : ∀ (d k f a : Nat) (s : SoS), d < f → k + d = fac n → CJ s A c → ∃ s2, so_orders_L30 f s yr x (iN n) (iN (pk t)) (iN (fac n)) (iN a) (iN k) = some (ordR (pck (olk (aY A) n t k) a x) s2 (a + (olk (aY A) n t k).length)) ∧ CJ s2 A c := by
  intro d
  induction d with
  | zero =>
    intro k f a s hf hk h
    obtain ⟨f, rfl⟩ : ∃ g, f = g + 1 := ⟨f - 1, by omega⟩
    have hfc := (fac_le n (by omega)).2
    have e : olk (aY A) n t k = [] := by unfold olk; rw [show fac n - k = 0 by omega]; rfl
    refine ⟨s, ?_, h⟩
    rw [so_orders_L30, jlt (by omega) (by omega), if_neg (by omega), e]
    rfl
  | succ d ih =>
    intro k f a s hf hk h
    obtain ⟨f, rfl⟩ : ∃ g, f = g + 1 := ⟨f - 1, by omega⟩
    have hfc := (fac_le n (by omega)).2
    have hkf : k < fac n := by omega
    have hu := ur_mem (show n < 6 by omega) hkf
    have hs := olk_s (Y := aY A) (t := t) hkf
    obtain ⟨s1, a1, a2, a3⟩ := leastY_ok hY h h1 h5 ht hu yr
    have hg := gd_if (α := Option ((SoS × Int32) ⊕ (Int32 × SoS))) hY h1 h5 a3 (pm_len (rel_mem ht hu))
    have step : so_orders_L30 (f + 1) s yr x (iN n) (iN (pk t)) (iN (fac n)) (iN a) (iN k) = if okO (aY A) n t k = true then (if iN a = x then some (.inr (iN (num (ur n k)), s1)) else so_orders_L30 f s1 yr x (iN n) (iN (pk t)) (iN (fac n)) (iN (a + 1)) (iN (k + 1))) else so_orders_L30 f s1 yr x (iN n) (iN (pk t)) (iN (fac n)) (iN a) (iN (k + 1)) := by
      rw [so_orders_L30, jlt (by omega) (by omega), if_pos hkf, t_ofR n (by omega) k hkf]
      simp only [Option.bind_some]
      rw [a1]
      simp only [Option.bind_some]
      rw [hg, t_toN n (by omega) _ hu, zl_1, iN_add, iN_add]
      rfl
    rw [step]
    by_cases c1 : okO (aY A) n t k = true
    · rw [if_pos c1] at hs ⊢
      by_cases e : iN a = x
      · refine ⟨s1, ?_, a2⟩
        rw [if_pos e, hs, pck, if_pos e]
        rfl
      · obtain ⟨s2, b1, b2⟩ := ih (k + 1) f (a + 1) s1 (by omega) (by omega) a2
        refine ⟨s2, ?_, b2⟩
        rw [if_neg e, b1, hs, pck, if_neg e, List.length_cons, show a + ((olk (aY A) n t (k + 1)).length + 1) = a + 1 + (olk (aY A) n t (k + 1)).length by omega]
    · rw [if_neg c1] at hs ⊢
      obtain ⟨s2, b1, b2⟩ := ih (k + 1) f a s1 (by omega) (by omega) a2
      exact ⟨s2, by rw [b1, hs], b2⟩
theorem x_orders {s : SoS} {A : AS} {c : Nat} (hV : VA A) (h : CJ s A c) (yr : Nat) (x k : Int32) : ∃ s2, so_orders s yr x k = some (s_orders (aY A) x k, s2) ∧ CJ s2 A c := by
  rw [so_orders, rw_wag]
  simp only [Option.bind_some]
  unfold s_orders
  cases hp : pr1 x with
  | none => rw [pr1_none hp, if_pos z00]; exact ⟨s, rfl, h⟩
  | some p =>
    obtain ⟨n, t⟩ := p
    obtain ⟨h1, h5, ht, rfl, hx⟩ := pr1_some hp
    rw [hx, if_neg (by rw [zl_0, iN_eq (by omega) (by omega)]; omega), t_ofN n (by omega) t ht]
    simp only [Option.bind_some]
    rw [t_fac n (by omega)]
    simp only [Option.bind_some]
    have hfc := (fac_le n (by omega)).2
    obtain ⟨s2, a1, a2⟩ := ord_L30 hV.2.1 h1 h5 ht k yr (fac n) 0 N0 0 s (by rw [N0_eq]; omega) (by omega) h
    rw [olk_0, Nat.zero_add] at a1
    have a1' : so_orders_L30 N0 s yr k (iN n) (iN (pk t)) (iN (fac n)) 0 0 = some (ordR (pck (ordL (aY A) n t) 0 k) s2 (ordL (aY A) n t).length) := a1
    rw [a1']
    simp only [Option.bind_some]
    refine ⟨s2, ?_, a2⟩
    cases pck (ordL (aY A) n t) 0 k with
    | some v => rfl
    | none =>
      show (if k = -1 then some (iN (ordL (aY A) n t).length, s2) else some (-6, s2)) = some ((if k = -1 then iN (ordL (aY A) n t).length else -6), s2)
      by_cases ck : k = -1
      · rw [if_pos ck, if_pos ck]
      · rw [if_neg ck, if_neg ck]
/-! GOOD -/
def goodR (n : Nat) (o : Option Nat) (s2 : SoS) (a : Nat) : (SoS × Int32) ⊕ (Int32 × SoS) := match o with
  | some r => .inr (iN (num (ur n r)), s2)
  | none => .inl (s2, iN a)
theorem cgood_L33 {A : AS} {c : Nat} (hY : VY (aY A)) {n : Nat} (h1 : 1 ≤ n) (h5 : n ≤ 5) (w : Int32) (yr : Nat) : ∀ (d k f a : Nat) (s : SoS), d < f → k + d = fac n → CJ s A c → ∃ s2, so_good_L33 f s yr (iN n) w (iN (fac n)) (iN a) (iN k) = some (goodR n (if w = 1 then bG (aY A) n k else none) s2 (a + cG (aY A) n k)) ∧ CJ s2 A c := by
  intro d
  induction d with
  | zero =>
    intro k f a s hf hk h
    obtain ⟨f, rfl⟩ : ∃ g, f = g + 1 := ⟨f - 1, by omega⟩
    have hfc := (fac_le n (by omega)).2
    have e1 : cG (aY A) n k = 0 := by unfold cG; rw [show fac n - k = 0 by omega]; rfl
    have e2 : bG (aY A) n k = none := by unfold bG; rw [show fac n - k = 0 by omega]; rfl
    refine ⟨s, ?_, h⟩
    rw [so_good_L33, jlt (by omega) (by omega), if_neg (by omega), e1, e2]
    by_cases cw : w = 1
    · rw [if_pos cw]; rfl
    · rw [if_neg cw]; rfl
  | succ d ih =>
    intro k f a s hf hk h
    obtain ⟨f, rfl⟩ : ∃ g, f = g + 1 := ⟨f - 1, by omega⟩
    have hfc := (fac_le n (by omega)).2
    have hkf : k < fac n := by omega
    have hu := ur_mem (show n < 6 by omega) hkf
    have hs := cG_s (Y := aY A) hkf
    have hb := bG_s (Y := aY A) hkf
    obtain ⟨s1, a1, a2, a3⟩ := sortY_ok hY h h1 h5 hu yr
    have hg := gd_if (α := Option ((SoS × Int32) ⊕ (Int32 × SoS))) hY h1 h5 a3 (pm_len (rel_mem hu (up_mem n)))
    have step : so_good_L33 (f + 1) s yr (iN n) w (iN (fac n)) (iN a) (iN k) = if gdR (aY A) n k = true then so_good_L33 f s1 yr (iN n) w (iN (fac n)) (iN (a + 1)) (iN (k + 1)) else (if w = 1 then some (.inr (iN (num (ur n k)), s1)) else so_good_L33 f s1 yr (iN n) w (iN (fac n)) (iN a) (iN (k + 1))) := by
      rw [so_good_L33, jlt (by omega) (by omega), if_pos hkf, t_ofR n (by omega) k hkf]
      simp only [Option.bind_some]
      rw [a1]
      simp only [Option.bind_some]
      rw [hg, t_toN n (by omega) _ hu, show iN a + 1 = iN (a + 1) from iN_add a 1, show iN k + 1 = iN (k + 1) from iN_add k 1]
      rfl
    rw [step]
    by_cases c1 : gdR (aY A) n k = true
    · rw [if_pos c1] at hs hb ⊢
      obtain ⟨s2, b1, b2⟩ := ih (k + 1) f (a + 1) s1 (by omega) (by omega) a2
      refine ⟨s2, ?_, b2⟩
      rw [b1, hb, hs, Nat.add_assoc]
    · rw [if_neg c1] at hs hb ⊢
      by_cases cw : w = 1
      · refine ⟨s1, ?_, a2⟩
        rw [if_pos cw, if_pos cw, hb]
        rfl
      · obtain ⟨s2, b1, b2⟩ := ih (k + 1) f a s1 (by omega) (by omega) a2
        refine ⟨s2, ?_, b2⟩
        rw [if_neg cw] at b1 ⊢
        rw [if_neg cw, b1, hs, Nat.zero_add]
theorem x_good {s : SoS} {A : AS} {c : Nat} (hV : VA A) (h : CJ s A c) (yr : Nat) (x w : Int32) : ∃ s2, so_good s yr x w = some (s_good (aY A) x w, s2) ∧ CJ s2 A c := by
  rw [so_good, rng_t (a' := 1) (b' := 5) (by rfl) (by rfl), rng_t (a' := 0) (b' := 1) (by rfl) (by rfl)]
  unfold s_good
  cases hx : nin x 1 5 with
  | false => rw [if_neg (by decide), Bool.false_and, if_neg (by decide)]; exact ⟨s, rfl, h⟩
  | true =>
    rw [if_pos rfl, Bool.true_and]
    cases hw : nin w 0 1 with
    | false => rw [if_neg (by decide), if_neg (by decide)]; exact ⟨s, rfl, h⟩
    | true =>
      obtain ⟨n, h1, h5, rfl⟩ := nin_iN (a := 1) (b := 5) (by omega) hx
      have hfc := (fac_le n (by omega)).2
      rw [if_pos rfl, if_pos rfl, iN_nat (by omega), t_fac n (by omega)]
      simp only [Option.bind_some]
      obtain ⟨s2, a1, a2⟩ := cgood_L33 hV.2.1 h1 h5 w yr (fac n) 0 N0 0 s (by rw [N0_eq]; omega) (by omega) h
      rw [Nat.zero_add] at a1
      have a1' : so_good_L33 N0 s yr (iN n) w (iN (fac n)) 0 0 = some (goodR n (if w = 1 then bG (aY A) n 0 else none) s2 (cG (aY A) n 0)) := a1
      rw [a1']
      simp only [Option.bind_some]
      refine ⟨s2, ?_, a2⟩
      by_cases c0 : w = 0
      · have hw1 : ¬ w = 1 := by rw [c0]; decide
        rw [if_neg hw1, if_pos c0]
        show (if w = 0 then some (iN (cG (aY A) n 0), s2) else some (-6, s2)) = some (iN (cG (aY A) n 0), s2)
        rw [if_pos c0]
      · have hw1 : w = 1 := by
          obtain ⟨m, _, hm, rfl⟩ := nin_iN (a := 0) (b := 1) (by omega) hw
          rcases (show m = 0 ∨ m = 1 by omega) with e | e
          · exact absurd (by rw [e]; rfl) c0
          · rw [e]; rfl
        rw [if_pos hw1, if_neg c0]
        cases bG (aY A) n 0 with
        | none =>
          show (if w = 0 then some (iN (cG (aY A) n 0), s2) else some (-6, s2)) = some (-6, s2)
          rw [if_neg c0]
        | some r => rfl
/-! MEAN -/
theorem clow_L8 (x0 x1 x2 : Int32) : ∀ (k a b i f : Nat), b < 2 ^ k → a < 2000000 → k ≤ 20 → i + 2 * k ≤ 60 → 2 * k + 2 ≤ f → so_inLowestTerms_L8 f x0 x1 x2 (iN a) (iN b) (iN i) = some (iN (Nat.gcd a b)) := by
  intro k
  induction k with
  | zero =>
    intro a b i f hb ha hk hi hf
    obtain ⟨f, rfl⟩ : ∃ g, f = g + 1 := ⟨f - 1, by omega⟩
    obtain rfl : b = 0 := by have : b < 1 := hb; omega
    rw [so_inLowestTerms_L8, zl_64, jlt (by omega) (by omega), if_pos (by omega), jlt0 (by omega), if_neg (by omega), Nat.gcd_zero_right]
  | succ k ih =>
    intro a b i f hb ha hk hi hf
    obtain ⟨f, rfl⟩ : ∃ g, f = g + 1 := ⟨f - 1, by omega⟩
    have hpw : 2 ^ (k + 1) = 2 * 2 ^ k := by rw [Nat.pow_succ, Nat.mul_comm]
    have hp20 : 2 ^ (k + 1) ≤ 2 ^ 20 := Nat.pow_le_pow_right (by omega) hk
    have hp1 : 1 ≤ 2 ^ k := Nat.one_le_two_pow
    have h20 : (2 : Nat) ^ 20 = 1048576 := by decide
    by_cases c : b = 0
    · subst c
      rw [so_inLowestTerms_L8, zl_64, jlt (by omega) (by omega), if_pos (by omega), jlt0 (by omega), if_neg (by omega), Nat.gcd_zero_right]
    · have hm : a % b < b := Nat.mod_lt _ (by omega)
      have hg1 : Nat.gcd a b = Nat.gcd b (a % b) := by rw [Nat.gcd_comm a b, Nat.gcd_rec b a, Nat.gcd_comm]
      rw [so_inLowestTerms_L8, zl_64, jlt (by omega) (by omega), if_pos (by omega), jlt0 (by omega), if_pos (by omega), if_pos (by rw [zl_0, iN_eq (by omega) (by omega)]; exact c), iN_irm (by omega) (by omega), show iN i + 1 = iN (i + 1) from iN_add i 1, hg1]
      by_cases c2 : a % b = 0
      · rw [c2]
        exact ih b 0 (i + 1) f (by omega) (by omega) (by omega) (by omega) (by omega)
      · obtain ⟨f, rfl⟩ : ∃ g, f = g + 1 := ⟨f - 1, by omega⟩
        generalize a % b = r at *
        have hm2 : b % r < r := Nat.mod_lt _ (by omega)
        have hm3 : b % r + r ≤ b := by
          have h9 := Nat.div_add_mod b r
          have h8 : 1 ≤ b / r := Nat.div_pos (by omega) (by omega)
          have h7 : r * 1 ≤ r * (b / r) := Nat.mul_le_mul_left r h8
          omega
        have hg2 : Nat.gcd b r = Nat.gcd r (b % r) := by rw [Nat.gcd_comm b r, Nat.gcd_rec r b, Nat.gcd_comm]
        rw [so_inLowestTerms_L8, zl_64, jlt (by omega) (by omega), if_pos (by omega), jlt0 (by omega), if_pos (by omega), if_pos (by rw [zl_0, iN_eq (by omega) (by omega)]; exact c2), iN_irm (by omega) (by omega), show iN (i + 1) + 1 = iN (i + 1 + 1) from iN_add (i + 1) 1, hg2]
        exact ih r (b % r) (i + 1 + 1) f (by omega) (by omega) (by omega) (by omega) (by omega)
theorem clow_ok {u v : Nat} (hu : u < 100000) (hv : v < 1000) (p : Int32) : so_inLowestTerms (iN u) (iN v) p = some (s_low u v p) := by
  have h8 := clow_L8 (iN u) (iN v) p 10 u v 0 N0 (by have : (2 : Nat) ^ 10 = 1024 := by decide
                                                     omega) (by omega) (by omega) (by omega) (by rw [N0_eq]; omega)
  have h8' : so_inLowestTerms_L8 N0 (iN u) (iN v) p (iN u) (iN v) 0 = some (iN (Nat.gcd u v)) := h8
  rw [so_inLowestTerms, h8']
  simp only [Option.bind_some]
  rw [so_inLowestTerms_J39]
  unfold s_low
  have hgu : Nat.gcd u v < 1000000 := by
    rcases Nat.eq_zero_or_pos v with e | e
    · rw [e, Nat.gcd_zero_right]; omega
    · have := Nat.le_of_dvd e (Nat.gcd_dvd_right u v); omega
  rw [zl_1, jlt (by omega) (by omega), jlt (by omega) (by omega)]
  by_cases c : v = 0
  · rw [if_pos c, if_pos (show v < 1 by omega)]
    by_cases c1 : Nat.gcd u v < 1
    · rw [if_pos c1]
    · rw [if_neg c1]
  · have hg : 0 < Nat.gcd u v := Nat.gcd_pos_of_pos_right _ (by omega)
    have hne : ¬ iN (Nat.gcd u v) = 0 := by rw [zl_0, iN_eq (by omega) (by omega)]; omega
    rw [if_neg c, if_neg (show ¬ Nat.gcd u v < 1 by omega), if_neg (show ¬ v < 1 by omega), if_pos hne, if_pos hne, iN_div (by omega) (by omega), iN_div (by omega) (by omega)]
    have d1 : u / Nat.gcd u v ≤ u := Nat.div_le_self _ _
    have d2 : v / Nat.gcd u v ≤ v := Nat.div_le_self _ _
    rw [i64_lI (by omega), i64_lI (by omega)]
    by_cases cp : p = 0
    · rw [if_pos cp, if_pos cp]
    · rw [if_neg cp, if_neg cp]
theorem cmean_L37 {A : AS} {c : Nat} (hY : VY (aY A)) {n : Nat} (h1 : 1 ≤ n) (h5 : n ≤ 5) (w : Int32) (yr : Nat) : ∀ (d k f a b : Nat) (s : SoS), d < f → k + d = fac n → CJ s A c → ∃ s2, so_mean_L37 f s yr (iN n) w (iN (fac n)) (iN a) (iN b) (iN k) = some (s2, iN (a + cG (aY A) n k), iN (b + mS (aY A) n k)) ∧ CJ s2 A c ∧ mS (aY A) n k ≤ 20 * d := by
  intro d
  induction d with
  | zero =>
    intro k f a b s hf hk h
    obtain ⟨f, rfl⟩ : ∃ g, f = g + 1 := ⟨f - 1, by omega⟩
    have hfc := (fac_le n (by omega)).2
    have e1 : cG (aY A) n k = 0 := by unfold cG; rw [show fac n - k = 0 by omega]; rfl
    have e2 : mS (aY A) n k = 0 := by unfold mS; rw [show fac n - k = 0 by omega]; rfl
    refine ⟨s, ?_, h, by omega⟩
    rw [so_mean_L37, jlt (by omega) (by omega), if_neg (by omega), e1, e2]
    rfl
  | succ d ih =>
    intro k f a b s hf hk h
    obtain ⟨f, rfl⟩ : ∃ g, f = g + 1 := ⟨f - 1, by omega⟩
    have hfc := (fac_le n (by omega)).2
    have hkf : k < fac n := by omega
    have hu := ur_mem (show n < 6 by omega) hkf
    have hs := cG_s (Y := aY A) hkf
    have hm := mS_s (Y := aY A) hkf
    obtain ⟨s1, a1, a2, a3⟩ := sortY_ok hY h h1 h5 hu yr
    have hsf : sf (aY A) n k = lf (aY A) n (rel (ur n k) (up n)) := rfl
    have hgd : gdR (aY A) n k = (lf (aY A) n (rel (ur n k) (up n))).isSome := rfl
    rw [so_mean_L37, jlt (by omega) (by omega), if_pos hkf, t_ofR n (by omega) k hkf]
    simp only [Option.bind_some]
    rw [a1]
    simp only [Option.bind_some]
    rw [hsf] at hm
    rw [hgd] at hs
    rcases pos_lf hY h1 h5 a3 (pm_len (rel_mem hu (up_mem n))) with e | ⟨r, e, r1, r2⟩
    · rw [e] at hm hs ⊢
      rw [Option.getD_none, Nat.zero_add] at hm
      rw [if_neg (by decide), Nat.zero_add] at hs
      obtain ⟨s2, b1, b2, b3⟩ := ih (k + 1) f a b s1 (by omega) (by omega) a2
      refine ⟨s2, ?_, b2, by omega⟩
      rw [Option.getD_none, if_neg (by decide), show iN k + 1 = iN (k + 1) from iN_add k 1, b1, hs, hm]
    · rw [e] at hm hs ⊢
      rw [Option.getD_some] at hm ⊢
      rw [if_pos (by rfl)] at hs
      obtain ⟨s2, b1, b2, b3⟩ := ih (k + 1) f (a + 1) (b + r) s1 (by omega) (by omega) a2
      refine ⟨s2, ?_, b2, by omega⟩
      rw [jlt0 (by omega), if_pos (by omega), show iN k + 1 = iN (k + 1) from iN_add k 1, show iN a + 1 = iN (a + 1) from iN_add a 1, iN_add, b1, hs, hm, Nat.add_assoc, Nat.add_assoc]
theorem x_mean {s : SoS} {A : AS} {c : Nat} (hV : VA A) (h : CJ s A c) (yr : Nat) (x w : Int32) : ∃ s2, so_mean s yr x w = some (s_mean (aY A) x w, s2) ∧ CJ s2 A c := by
  rw [so_mean, rng_t (a' := 1) (b' := 5) (by rfl) (by rfl), rng_t (a' := 0) (b' := 1) (by rfl) (by rfl)]
  unfold s_mean
  cases hx : nin x 1 5 with
  | false => rw [if_neg (by decide), Bool.false_and, if_neg (by decide)]; exact ⟨s, rfl, h⟩
  | true =>
    rw [if_pos rfl, Bool.true_and]
    cases hw : nin w 0 1 with
    | false => rw [if_neg (by decide), if_neg (by decide)]; exact ⟨s, rfl, h⟩
    | true =>
      obtain ⟨n, h1, h5, rfl⟩ := nin_iN (a := 1) (b := 5) (by omega) hx
      have hfc := (fac_le n (by omega)).2
      have hcg := cG_le (aY A) n 0
      rw [if_pos rfl, if_pos rfl, iN_nat (by omega), t_fac n (by omega)]
      simp only [Option.bind_some]
      obtain ⟨s2, a1, a2, a3⟩ := cmean_L37 hV.2.1 h1 h5 w yr (fac n) 0 N0 0 0 s (by rw [N0_eq]; omega) (by omega) h
      rw [Nat.zero_add, Nat.zero_add] at a1
      have a1' : so_mean_L37 N0 s yr (iN n) w (iN (fac n)) 0 0 0 = some (s2, iN (cG (aY A) n 0), iN (mS (aY A) n 0)) := a1
      rw [a1']
      simp only [Option.bind_some]
      rw [clow_ok (by omega) (by omega)]
      exact ⟨s2, rfl, a2⟩
/-! UNLIKE -/
theorem uG_s {Y O : Yd} {n k : Nat} (h : k < fac n) : uG Y O n k = if gdR O n k = gdR Y n k then uG Y O n (k + 1) else some k := by
  unfold uG
  rw [rng_c h]
  by_cases c : gdR O n k = gdR Y n k
  · rw [if_pos c, List.find?_cons_of_neg (by simp [c])]
  · rw [if_neg c, List.find?_cons_of_pos (by simpa using c)]
def unlR (n : Nat) (o : Option Nat) (s2 : SoS) : (SoS) ⊕ (Int32 × SoS) := match o with
  | some r => .inr (iN (num (ur n r)), s2)
  | none => .inl s2
theorem cunl_L20 {A : AS} {c : Nat} (hY : VY (aY A)) (hO : VY (aO A)) {n : Nat} (h1 : 1 ≤ n) (h5 : n ≤ 5) (yr : Nat) : ∀ (d k f : Nat) (s : SoS), d < f → k + d = fac n → CJ s A c → ∃ s2, so_unlike_L20 f s yr (iN n) (iN (fac n)) (iN k) = some (unlR n (uG (aY A) (aO A) n k) s2) ∧ CJ s2 A c := by
  intro d
  induction d with
  | zero =>
    intro k f s hf hk h
    obtain ⟨f, rfl⟩ : ∃ g, f = g + 1 := ⟨f - 1, by omega⟩
    have hfc := (fac_le n (by omega)).2
    have e : uG (aY A) (aO A) n k = none := by unfold uG; rw [show fac n - k = 0 by omega]; rfl
    refine ⟨s, ?_, h⟩
    rw [so_unlike_L20, jlt (by omega) (by omega), if_neg (by omega), e]
    rfl
  | succ d ih =>
    intro k f s hf hk h
    obtain ⟨f, rfl⟩ : ∃ g, f = g + 1 := ⟨f - 1, by omega⟩
    have hfc := (fac_le n (by omega)).2
    have hkf : k < fac n := by omega
    have hu := ur_mem (show n < 6 by omega) hkf
    have hs := uG_s (Y := aY A) (O := aO A) hkf
    obtain ⟨s1, a1, a2, a3⟩ := sortY_ok hY h h1 h5 hu yr
    obtain ⟨s2, b1, b2, b3⟩ := sortO_ok hO a2 h1 h5 hu yr
    have hg := gd_if (α := Option ((SoS) ⊕ (Int32 × SoS))) hY h1 h5 a3 (pm_len (rel_mem hu (up_mem n)))
    have hg2 := gd_if (α := Option ((SoS) ⊕ (Int32 × SoS))) hO h1 h5 b3 (pm_len (rel_mem hu (up_mem n)))
    have hgd : gdR (aY A) n k = (lf (aY A) n (rel (ur n k) (up n))).isSome := rfl
    have hgo : gdR (aO A) n k = (lf (aO A) n (rel (ur n k) (up n))).isSome := rfl
    have j72 : ∀ (u v : Int32), so_unlike_J72 (so_unlike_L20 f) s2 yr (iN n) (iN (fac n)) (iN k) (iN (pk (ur n k))) u v = if u = v then so_unlike_L20 f s2 yr (iN n) (iN (fac n)) (iN (k + 1)) else some (.inr (iN (num (ur n k)), s2)) := by
      intro u v
      rw [so_unlike_J72, show iN k + 1 = iN (k + 1) from iN_add k 1, t_toN n (by omega) _ hu]
      rfl
    have step : so_unlike_L20 (f + 1) s yr (iN n) (iN (fac n)) (iN k) = if gdR (aO A) n k = gdR (aY A) n k then so_unlike_L20 f s2 yr (iN n) (iN (fac n)) (iN (k + 1)) else some (.inr (iN (num (ur n k)), s2)) := by
      rw [so_unlike_L20, jlt (by omega) (by omega), if_pos hkf, t_ofR n (by omega) k hkf]
      simp only [Option.bind_some]
      rw [a1]
      simp only [Option.bind_some]
      rw [hg, so_unlike_J51, so_unlike_J51, b1]
      simp only [Option.bind_some]
      rw [hg2, hg2, j72, j72, j72, j72, hgd, hgo]
      cases (lf (aY A) n (rel (ur n k) (up n))).isSome with
      | true =>
        rw [if_pos rfl]
        cases (lf (aO A) n (rel (ur n k) (up n))).isSome with
        | true => rw [if_pos rfl, if_pos rfl, if_pos rfl]
        | false => rw [if_neg (by decide), if_neg (by decide), if_neg (by decide)]
      | false =>
        rw [if_neg (by decide)]
        cases (lf (aO A) n (rel (ur n k) (up n))).isSome with
        | true => rw [if_pos rfl, if_neg (by decide), if_neg (by decide)]
        | false => rw [if_neg (by decide), if_pos rfl, if_pos rfl]
    rw [step, hs]
    by_cases c1 : gdR (aO A) n k = gdR (aY A) n k
    · rw [if_pos c1, if_pos c1]
      exact ih (k + 1) f s2 (by omega) (by omega) b2
    · rw [if_neg c1, if_neg c1]
      exact ⟨s2, rfl, b2⟩
theorem x_unlike {s : SoS} {A : AS} {c : Nat} (hV : VA A) (h : CJ s A c) (yr : Nat) (x : Int32) : ∃ s2, so_unlike s yr x = some (s_unlike (aY A) (aO A) x, s2) ∧ CJ s2 A c := by
  rw [so_unlike, rng_t (a' := 1) (b' := 5) (by rfl) (by rfl)]
  unfold s_unlike
  cases hx : nin x 1 5 with
  | false => rw [if_neg (by decide), if_neg (by decide)]; exact ⟨s, rfl, h⟩
  | true =>
    obtain ⟨n, h1, h5, rfl⟩ := nin_iN (a := 1) (b := 5) (by omega) hx
    have hfc := (fac_le n (by omega)).2
    rw [if_pos rfl, if_pos rfl, iN_nat (by omega), t_fac n (by omega)]
    simp only [Option.bind_some]
    obtain ⟨s2, a1, a2⟩ := cunl_L20 hV.2.1 hV.2.2.1 h1 h5 yr (fac n) 0 N0 s (by rw [N0_eq]; omega) (by omega) h
    have a1' : so_unlike_L20 N0 s yr (iN n) (iN (fac n)) 0 = some (unlR n (uG (aY A) (aO A) n 0) s2) := a1
    rw [a1']
    simp only [Option.bind_some]
    refine ⟨s2, ?_, a2⟩
    cases uG (aY A) (aO A) n 0 with
    | none => rfl
    | some r => rfl
