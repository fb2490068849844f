/-! THE CLASS: need -/
theorem oks_YL {Y : Yd} {v : Nat → Nat} (h : ∀ i, i < yM Y → v i = yN Y i) (P : Ps) : oks (YLn Y v) P = oks Y P := by
  show (mvs Y).filter (can (YLn Y v) P) = (mvs Y).filter (can Y P)
  apply List.filter_congr
  intro m hm
  have hg := gm_parts (List.mem_filter.mp hm).2
  unfold can
  by_cases c : mt m = 5
  · rw [decide_eq_true c, Bool.true_or, Bool.true_or]
  · have : yN (YLn Y v) (mt m - 1) = yN Y (mt m - 1) := h _ (by omega)
    rw [this]
theorem rest_YL {Y : Yd} {v : Nat → Nat} (h : ∀ i, i < yM Y → v i = yN Y i) (n : Nat) (W : List Nat) (P : Ps) : rest (YLn Y v) n W P = rest Y n W P := by
  unfold rest
  have : ∀ (f : Nat) (P : Ps), rs (YLn Y v) n W f P = rs Y n W f P := by
    intro f
    induction f with
    | zero => intro P; rfl
    | succ f ih =>
      intro P
      rw [rs, rs, oks_YL h]
      have : (fun a m => om a ((rs (YLn Y v) n W f (mv P m)).map (· + 1))) = (fun a m => om a ((rs Y n W f (mv P m)).map (· + 1))) := by
        funext a m
        rw [ih]
      rw [this]
  exact this 21 P
theorem oks_sub {Y : Yd} {v : Nat → Nat} (h : ∀ i, i < yM Y → v i ≤ yN Y i) {P : Ps} {m : Nat} (hm : m ∈ oks (YLn Y v) P) : m ∈ oks Y P := by
  have h1 : m ∈ mvs Y ∧ can (YLn Y v) P m = true := List.mem_filter.mp hm
  have hg := gm_parts (List.mem_filter.mp h1.1).2
  refine List.mem_filter.mpr ⟨h1.1, ?_⟩
  have hc := can_parts h1.2
  unfold can
  rw [decide_eq_true hc.1, Bool.true_and]
  rcases hc.2 with c | c
  · rw [decide_eq_true c, Bool.true_or]
  · by_cases d : mt m = 5
    · rw [decide_eq_true d, Bool.true_or]
    · have h2 := h (mt m - 1) (by omega)
      have c : (P (mt m)).length < v (mt m - 1) := c
      rw [decide_eq_true (show (P (mt m)).length < yN Y (mt m - 1) by omega), Bool.or_true]
theorem wk_sub {Y : Yd} {v : Nat → Nat} (h : ∀ i, i < yM Y → v i ≤ yN Y i) : ∀ (k : Nat) (P T : Ps), wk (YLn Y v) k P T → wk Y k P T := by
  intro k
  induction k with
  | zero => intro P T h; exact h
  | succ k ih => intro P T ⟨m, hm, hw⟩; exact ⟨m, oks_sub h hm, ih _ _ hw⟩
theorem vC_s (k c i : Nat) (hi : i < k) : vC (k + 1) c i = vC k (c / 5) i := by
  unfold vC
  rw [show k + 1 - 1 - i = (k - 1 - i) + 1 by omega, Nat.pow_succ, Nat.mul_comm, ← Nat.div_div_eq_div_mul]
theorem vC_l (k c : Nat) : vC (k + 1) c k = c % 5 + 1 := by
  unfold vC
  rw [show k + 1 - 1 - k = 0 by omega, Nat.pow_zero, Nat.div_one]
theorem fitR_iff {N : Nat → Nat} : ∀ (k c : Nat), fitR N k c = true ↔ ∀ i, i < k → vC k c i ≤ N i := by
  intro k
  induction k with
  | zero => intro c; exact ⟨fun _ i hi => absurd hi (by omega), fun _ => rfl⟩
  | succ k ih =>
    intro c
    rw [fitR, Bool.and_eq_true, decide_eq_true_eq, ih]
    constructor
    · rintro ⟨h1, h2⟩ i hi
      by_cases e : i = k
      · rw [e, vC_l]; exact h1
      · rw [vC_s k c i (by omega)]; exact h2 i (by omega)
    · intro h
      refine ⟨by have := h k (by omega); rwa [vC_l] at this, fun i hi => by have := h i (by omega); rwa [vC_s k c i hi] at this⟩
theorem code_of {N : Nat → Nat} : ∀ k, (∀ i, i < k → 1 ≤ N i ∧ N i ≤ 5) → ∃ c, c < 5 ^ k ∧ ∀ i, i < k → vC k c i = N i := by
  intro k
  induction k with
  | zero => intro _; exact ⟨0, by decide, fun i hi => absurd hi (by omega)⟩
  | succ k ih =>
    intro h
    obtain ⟨c, c1, c2⟩ := ih (fun i hi => h i (by omega))
    have hk := h k (by omega)
    refine ⟨5 * c + (N k - 1), by rw [Nat.pow_succ]; omega, fun i hi => ?_⟩
    by_cases e : i = k
    · rw [e, vC_l]; omega
    · rw [vC_s k _ i (by omega), show (5 * c + (N k - 1)) / 5 = c by omega]
      exact c2 i (by omega)
def vld (Y : Yd) (n : Nat) (W : List Nat) (c : Nat) : Bool := fitR (yN Y) (yM Y) c && okC Y n W c
theorem bsC_is {Y : Yd} {n : Nat} {W : List Nat} : ∀ K, (∀ b, bsC Y n W K = some b → b < K ∧ vld Y n W b = true ∧ ∀ c, c < K → vld Y n W c = true → smC (yM Y) b < smC (yM Y) c ∨ (smC (yM Y) b = smC (yM Y) c ∧ b ≤ c)) ∧ (bsC Y n W K = none → ∀ c, c < K → vld Y n W c = false) := by
  intro K
  induction K with
  | zero => exact ⟨fun b h => (nomatch h), fun _ c hc => absurd hc (by omega)⟩
  | succ K ih =>
    obtain ⟨i1, i2⟩ := ih
    rw [bsC]
    show (∀ b, (if vld Y n W K = true then _ else _) = some b → _) ∧ ((if vld Y n W K = true then _ else _) = none → _)
    cases hv : vld Y n W K with
    | false =>
      rw [if_neg (by decide)]
      refine ⟨fun b hb => ?_, fun hb c hc => ?_⟩
      · obtain ⟨a1, a2, a3⟩ := i1 b hb
        refine ⟨by omega, a2, fun c hc hcv => ?_⟩
        by_cases e : c = K
        · rw [e, hv] at hcv; cases hcv
        · exact a3 c (by omega) hcv
      · by_cases e : c = K
        · rw [e]; exact hv
        · exact i2 hb c (by omega)
    | true =>
      rw [if_pos rfl]
      cases hb : bsC Y n W K with
      | none =>
        refine ⟨fun b h => ?_, fun h => (nomatch h)⟩
        have h : some K = some b := h
        cases h
        refine ⟨by omega, hv, fun c hc hcv => ?_⟩
        by_cases e : c = K
        · rw [e]; exact Or.inr ⟨rfl, Nat.le_refl _⟩
        · rw [i2 hb c (by omega)] at hcv; cases hcv
      | some b0 =>
        obtain ⟨a1, a2, a3⟩ := i1 b0 hb
        show (∀ b, (if smC (yM Y) K < smC (yM Y) b0 then some K else some b0) = some b → _) ∧ ((if smC (yM Y) K < smC (yM Y) b0 then some K else some b0) = none → _)
        by_cases x : smC (yM Y) K < smC (yM Y) b0
        · rw [if_pos x]
          refine ⟨fun b h => ?_, fun h => (nomatch h)⟩
          cases h
          refine ⟨by omega, hv, fun c hc hcv => ?_⟩
          by_cases e : c = K
          · rw [e]; exact Or.inr ⟨rfl, Nat.le_refl _⟩
          · have := a3 c (by omega) hcv
            omega
        · rw [if_neg x]
          refine ⟨fun b h => ?_, fun h => (nomatch h)⟩
          cases h
          refine ⟨by omega, a2, fun c hc hcv => ?_⟩
          by_cases e : c = K
          · rw [e]; omega
          · exact a3 c (by omega) hcv
theorem smR_ge (M : Nat) {v : Nat → Nat} (hv : ∀ i, 1 ≤ v i) : ∀ k, k ≤ smR M v k := by
  intro k
  induction k with
  | zero => exact Nat.le_refl _
  | succ k ih => have := hv k; simp only [smR]; omega
theorem smR_mono (M : Nat) {v u : Nat → Nat} : ∀ k, (∀ i, i < k → v i ≤ u i) → smR M v k ≤ smR M u k := by
  intro k
  induction k with
  | zero => intro _; exact Nat.le_refl _
  | succ k ih =>
    intro h
    have h1 := ih (fun i hi => h i (by omega))
    have h2 := h k (by omega)
    simp only [smR]; omega
def NB (nd : NdS) (Y : Yd) : Prop := ∃ v, CB nd.2.2 (YLn Y v) ∧ CN nd.2.2 (mvs Y)
theorem setLen_L16 {Y : Yd} (hY : VY Y) {y : YdS} (hB : CB y Y) {c : Nat} (hc : c < 100000) : ∀ (k f : Nat) (nd : NdS) (tot : Nat) (b : Bool) (v : Nat → Nat), k < f → k ≤ yM Y → CB nd.2.2 (YLn Y v) → CN nd.2.2 (mvs Y) → (∀ i, k ≤ i → i < yM Y → v i = vC (yM Y) c i) →
    ∃ nd', nd_setLengths_L16 f nd y (iN (c / 5 ^ (yM Y - k))) (iN tot) (bI b) (iN k + (-1)) = some (nd', iN (tot + smR (yM Y) (vC (yM Y) c) k), bI (b && fitR (yN Y) k (c / 5 ^ (yM Y - k)))) ∧ nd'.1 = nd.1 ∧ nd'.2.1 = nd.2.1 ∧ CN nd'.2.2 (mvs Y) ∧ ∃ v', CB nd'.2.2 (YLn Y v') ∧ ∀ i, i < yM Y → v' i = vC (yM Y) c i := by
  have hM := hY.2.1
  intro k
  induction k with
  | zero =>
    intro f nd tot b v hf hk hC hN hv
    obtain ⟨f, rfl⟩ : ∃ g, f = g + 1 := ⟨f - 1, by omega⟩
    refine ⟨nd, ?_, rfl, rfl, hN, v, hC, fun i hi => hv i (by omega) hi⟩
    rw [nd_setLengths_L16, if_pos (show iN 0 + (-1) < 0 by decide), fitR, Bool.and_true]; rfl
  | succ k ih =>
    intro f nd tot b v hf hk hC hN hv
    obtain ⟨f, rfl⟩ : ∃ g, f = g + 1 := ⟨f - 1, by omega⟩
    have hin : inb (iN k) 4 := by rw [iN_inb (by omega)]; omega
    have hdv : c / 5 ^ (yM Y - (k + 1)) < 100000 := Nat.lt_of_le_of_lt (Nat.div_le_self _ _) hc
    have hvk : c / 5 ^ (yM Y - (k + 1)) % 5 + 1 = vC (yM Y) c k := by unfold vC; rw [show yM Y - 1 - k = yM Y - (k + 1) by omega]
    have hdd : c / 5 ^ (yM Y - (k + 1)) / 5 = c / 5 ^ (yM Y - k) := by
      rw [Nat.div_div_eq_div_mul, ← Nat.pow_succ, show (yM Y - (k + 1)).succ = yM Y - k by omega]
    have hvb := vC_bd (yM Y) c k
    have hN2 := (hY.2.2.2.2.1 k (by omega)).2
    have e1 : (irm (iN (c / 5 ^ (yM Y - (k + 1)))) 5) + 1 = iN (vC (yM Y) c k) := by
      rw [zl_5, iN_irm (by omega) (by omega), zl_1, iN_add, hvk]
    have e2 : iN (c / 5 ^ (yM Y - (k + 1))) / 5 = iN (c / 5 ^ (yM Y - k)) := by rw [zl_5, iN_div (by omega) (by omega), hdd]
    have hset : yd_setLength nd.2.2 (iN k) (iN (vC (yM Y) c k)) = some (nd.2.2.1, nd.2.2.2.1, nd.2.2.2.2.1, nd.2.2.2.2.2.1, nd.2.2.2.2.2.2.1, (wr nd.2.2.2.2.2.2.2.1 (iN k) (iN (vC (yM Y) c k))), nd.2.2.2.2.2.2.2.2.1, nd.2.2.2.2.2.2.2.2.2.1, nd.2.2.2.2.2.2.2.2.2.2) := by
      rw [yd_setLength, if_neg (iN_nneg (by omega)), show nI 4 = iN 4 from rfl, jlt (by omega) (by omega), if_pos (by omega), if_pos hin]
    have hnx : ∀ b2 : Bool, ∃ nd', nd_setLengths_L16 f (nd.1, nd.2.1, (nd.2.2.1, nd.2.2.2.1, nd.2.2.2.2.1, nd.2.2.2.2.2.1, nd.2.2.2.2.2.2.1, (wr nd.2.2.2.2.2.2.2.1 (iN k) (iN (vC (yM Y) c k))), nd.2.2.2.2.2.2.2.2.1, nd.2.2.2.2.2.2.2.2.2.1, nd.2.2.2.2.2.2.2.2.2.2)) y (iN (c / 5 ^ (yM Y - k))) (iN (tot + vC (yM Y) c k)) (bI b2) (iN k + (-1)) = some (nd', iN (tot + vC (yM Y) c k + smR (yM Y) (vC (yM Y) c) k), bI (b2 && fitR (yN Y) k (c / 5 ^ (yM Y - k)))) ∧ nd'.1 = nd.1 ∧ nd'.2.1 = nd.2.1 ∧ CN nd'.2.2 (mvs Y) ∧ ∃ v', CB nd'.2.2 (YLn Y v') ∧ ∀ i, i < yM Y → v' i = vC (yM Y) c i := by
      intro b2
      refine ih f _ (tot + vC (yM Y) c k) b2 (fun i => if i = k then vC (yM Y) c k else v i) (by omega) (by omega) ⟨hC.1, hC.2.1, hC.2.2.1, fun i hi => ?_⟩ hN (fun i h1 h2 => ?_)
      · have hi : i < yM Y := hi
        show nd.2.2.2.2.2.2.1 i = _ ∧ wr nd.2.2.2.2.2.2.2.1 (iN k) (iN (vC (yM Y) c k)) i = iN (if i = k then vC (yM Y) c k else v i) ∧ nd.2.2.2.2.2.2.2.2.1 i = _
        obtain ⟨q1, q2, q3⟩ := hC.2.2.2 i hi
        rw [wr_iN (by omega)]
        refine ⟨q1, ?_, q3⟩
        by_cases e : i = k
        · rw [if_pos e, if_pos e]
        · rw [if_neg e, if_neg e]; exact q2
      · show (if i = k then vC (yM Y) c k else v i) = _
        by_cases e : i = k
        · rw [if_pos e, e]
        · rw [if_neg e]; exact hv i (by omega) h2
    have hsm : tot + smR (yM Y) (vC (yM Y) c) (k + 1) = tot + vC (yM Y) c k + smR (yM Y) (vC (yM Y) c) k := by simp only [smR]; omega
    have hfr : fitR (yN Y) (k + 1) (c / 5 ^ (yM Y - (k + 1))) = (decide (vC (yM Y) c k ≤ yN Y k) && fitR (yN Y) k (c / 5 ^ (yM Y - k))) := by rw [fitR, hvk, hdd]
    rw [nd_setLengths_L16, iN_dec (show 1 ≤ k + 1 by omega), Nat.add_sub_cancel, if_neg (iN_nneg (by omega)), e1, e2, hset, hsm, hfr]
    simp only [Option.bind_some]
    rw [iN_add]
    cases b with
    | false =>
      rw [if_pos bF]
      have := hnx false
      rw [Bool.false_and] at this ⊢
      exact this
    | true =>
      rw [if_neg bT, lengthAt_ok hB hM (by omega), Bool.true_and]
      simp only [Option.bind_some]
      rw [jlt (by omega) (by omega)]
      by_cases x : yN Y k < vC (yM Y) c k
      · rw [if_pos x, decide_eq_false (by omega), Bool.false_and]
        have := hnx false
        rw [Bool.false_and] at this
        exact this
      · rw [if_neg x, decide_eq_true (by omega), Bool.true_and]
        have := hnx true
        rw [Bool.true_and] at this
        exact this
theorem YLn_cb {z : YdS} {Y : Yd} {v u : Nat → Nat} (h : CB z (YLn Y v)) (e : ∀ i, i < yM Y → v i = u i) : CB z (YLn Y u) := by
  refine ⟨h.1, h.2.1, h.2.2.1, fun i hi => ?_⟩
  have h9 := h.2.2.2 i hi
  have e9 : yN (YLn Y v) i = yN (YLn Y u) i := e i hi
  rw [e9] at h9
  exact h9
theorem setLen_ok {Y : Yd} (hY : VY Y) {y : YdS} (hB : CB y Y) {c : Nat} (hc : c < 100000) {nd : NdS} (h : NB nd Y) : ∃ nd', nd_setLengths nd y (iN c) = some (iN (if fitR (yN Y) (yM Y) c = true then smC (yM Y) c else 0), nd') ∧ nd'.1 = nd.1 ∧ nd'.2.1 = nd.2.1 ∧ CN nd'.2.2 (mvs Y) ∧ CB nd'.2.2 (YLn Y (vC (yM Y) c)) := by
  have hM := hY.2.1
  obtain ⟨v, h1, h2⟩ := h
  obtain ⟨nd', a1, a2, a3, a4, v', a5, a6⟩ := setLen_L16 hY hB hc (yM Y) N0 nd 0 true v (by rw [N0_eq]; omega) (Nat.le_refl _) h1 h2 (fun i h3 h4 => by omega)
  rw [Nat.sub_self, Nat.pow_zero, Nat.div_one, Bool.true_and, Nat.zero_add] at a1
  refine ⟨nd', ?_, a2, a3, a4, YLn_cb a5 a6⟩
  have a1' : nd_setLengths_L16 N0 nd y (iN c) 0 1 (iN (yM Y) + (-1)) = some (nd', iN (smR (yM Y) (vC (yM Y) c) (yM Y)), bI (fitR (yN Y) (yM Y) c)) := a1
  have e : iN (yM Y) - 1 = iN (yM Y) + (-1) := by
    rw [iN_dec hY.1, zl_1, iN_sub hY.1]
  rw [nd_setLengths, hB.1, e, a1']
  simp only [Option.bind_some]
  cases fitR (yN Y) (yM Y) c with
  | true => rw [if_neg bT, if_pos rfl]; rfl
  | false => rw [if_pos bF, if_neg (show ¬ false = true by decide)]; rfl
def CZ (e : SeS) (c : Nat) : Prop := ∃ Y, CS e Y c
theorem CZ_le {e : SeS} {c d : Nat} (h : CZ e c) (hd : c ≤ d) : CZ e d := by
  obtain ⟨Y, t, a, b⟩ := h
  exact ⟨Y, t, by omega, b⟩
theorem CS_le {e : SeS} {Y : Yd} {c d : Nat} (h : CS e Y c) (hd : c ≤ d) : CS e Y d := by
  obtain ⟨t, a, b⟩ := h
  exact ⟨t, by omega, b⟩
theorem smC_ge (M c : Nat) : M ≤ smC M c := smR_ge M (fun i => (vC_bd M c i).1) M
/-- a code is found at this sum -/
def FC (Y : Yd) (n : Nat) (W : List Nat) (tot c b : Nat) : Prop := c ≤ b ∧ b < 5 ^ yM Y ∧ vld Y n W b = true ∧ smC (yM Y) b = tot ∧ ∀ j, c ≤ j → j < b → vld Y n W j = true → smC (yM Y) j ≠ tot
def FN (Y : Yd) (n : Nat) (W : List Nat) (tot c : Nat) : Prop := ∀ j, c ≤ j → j < 5 ^ yM Y → vld Y n W j = true → smC (yM Y) j ≠ tot
theorem need_L73 {Y : Yd} (hY : VY Y) {y : YdS} (hB : CB y Y) {n : Nat} (h1n : 1 ≤ n) (hn : n ≤ 5) {W : List Nat} (hW : W ∈ pm n) (x5 : Int32) {tot : Nat} (htot : yM Y ≤ tot) (htot2 : tot ≤ 1000) : ∀ (d c f T : Nat) (nd : NdS) (e : SeS) (yr : Nat), d < f → c + d = 5 ^ yM Y → T + d ≤ 19000000 → NB nd Y → CZ e T →
    ∃ nd' e' yr' fo, nd_find_L73 f nd y e yr (iN n) (iN (pk W)) x5 (iN (5 ^ yM Y)) 0 (iN tot) (iN c) = some (nd', e', yr', bI fo) ∧ NB nd' Y ∧ nd'.1 = nd.1 ∧ CZ e' (T + d) ∧ (yr' = yr ∨ yr' = 1) ∧ ((fo = false ∧ FN Y n W tot c) ∨ (fo = true ∧ ∃ b, FC Y n W tot c b ∧ nd'.2.1 = iN tot ∧ CB nd'.2.2 (YLn Y (vC (yM Y) b)))) := by
  have hM := hY.2.1
  have hp5 : 5 ^ yM Y ≤ 5 ^ 4 := Nat.pow_le_pow_right (by omega) hM
  intro d
  induction d with
  | zero =>
    intro c f T nd e yr hf hc hT hN hZ
    obtain ⟨f, rfl⟩ : ∃ g, f = g + 1 := ⟨f - 1, by omega⟩
    refine ⟨nd, e, yr, false, ?_, hN, rfl, hZ, Or.inl rfl, Or.inl ⟨rfl, fun j h1 h2 => by omega⟩⟩
    rw [nd_find_L73, jlt (by omega) (by omega), if_neg (by omega)]; rfl
  | succ d ih =>
    intro c f T nd e yr hf hc hT hN hZ
    obtain ⟨f, rfl⟩ : ∃ g, f = g + 1 := ⟨f - 1, by omega⟩
    obtain ⟨nd1, a1, a2, a3, a4, a5⟩ := setLen_ok hY hB (c := c) (by omega) hN
    have hN1 : NB nd1 Y := ⟨_, a5, a4⟩
    have hsm := smC_le (yM Y) c hM
    have hge := smC_ge (yM Y) c
    have hval : (if fitR (yN Y) (yM Y) c = true then smC (yM Y) c else 0) ≤ 20 := by
      cases fitR (yN Y) (yM Y) c with
      | true => rw [if_pos rfl]; exact hsm
      | false => rw [if_neg (show ¬ false = true by decide)]; omega
    rw [nd_find_L73, jlt (by omega) (by omega), if_pos (by omega), if_pos rfl, a1]
    simp only [Option.bind_some]
    rw [jeq (by omega) (by omega), zl_1, iN_add]
    by_cases x : (if fitR (yN Y) (yM Y) c = true then smC (yM Y) c else 0) = tot
    · have hfit : fitR (yN Y) (yM Y) c = true := by
        cases hh : fitR (yN Y) (yM Y) c with
        | true => rfl
        | false =>
          have := hY.1
          rw [hh, if_neg (show ¬ false = true by decide)] at x
          omega
      rw [hfit, if_pos rfl] at x
      rw [if_pos (by rw [hfit, if_pos rfl]; exact x)]
      obtain ⟨Y0, hZ0⟩ := hZ
      have hvb : ∀ i, i < yM Y → 1 ≤ vC (yM Y) c i ∧ vC (yM Y) c i ≤ 5 := fun i _ => vC_bd (yM Y) c i
      have hYL := YL_VY hY hvb
      obtain ⟨e1, b1, b2⟩ := forgetS_ok (Y' := YLn Y (vC (yM Y) c)) hZ0
      obtain ⟨e2, t, c1, c2, c3⟩ := aim_ok b2 h1n hn hW
      obtain ⟨e3, d1, d2⟩ := comesOut_ok hYL (y := nd1.2.2) a5 a4 hn hW (t := t) (by omega) c2
      have hZ3 : CZ e3 (T + 1) := ⟨_, CS_of d2 h1n hn hW c3⟩
      rw [b1]
      simp only [Option.bind_some]
      rw [c1]
      simp only [Option.bind_some]
      rw [d1]
      simp only [Option.bind_some]
      have hok : okC Y n W c = decide (rest (YLn Y (vC (yM Y) c)) n W (st n) ≠ none) := by
        unfold okC
        cases rest (YLn Y (vC (yM Y) c)) n W (st n) <;> rfl
      rw [← hok]
      cases hoc : okC Y n W c with
      | false =>
        obtain ⟨nd', e', yr', fo, q1, q2, q3, q4, q5, q6⟩ := ih (c + 1) f (T + 1) (nd1.1, iN tot, nd1.2.2) e3 1 (by omega) (by omega) (by omega) ⟨_, a5, a4⟩ hZ3
        have hvl : vld Y n W c = false := by unfold vld; rw [hoc, Bool.and_false]
        refine ⟨nd', e', yr', fo, q1, q2, by rw [q3]; exact a2, CZ_le q4 (by omega), Or.inr (by omega), ?_⟩
        rcases q6 with ⟨r1, r2⟩ | ⟨r1, b, r2, r3, r4⟩
        · refine Or.inl ⟨r1, fun j h1 h2 h3 => ?_⟩
          by_cases ej : j = c
          · rw [ej, hvl] at h3; cases h3
          · exact r2 j (by omega) h2 h3
        · refine Or.inr ⟨r1, b, ⟨by have := r2.1; omega, r2.2.1, r2.2.2.1, r2.2.2.2.1, fun j h1 h2 h3 => ?_⟩, r3, r4⟩
          by_cases ej : j = c
          · rw [ej, hvl] at h3; cases h3
          · exact r2.2.2.2.2 j (by omega) h2 h3
      | true =>
        have hvl : vld Y n W c = true := by unfold vld; rw [hoc, hfit]; rfl
        obtain ⟨f, rfl⟩ : ∃ g, f = g + 1 := ⟨f - 1, by omega⟩
        refine ⟨(nd1.1, iN tot, nd1.2.2), e3, 1, true, ?_, ⟨_, a5, a4⟩, a2, CZ_le hZ3 (by omega), Or.inr rfl, Or.inr ⟨rfl, c, ⟨Nat.le_refl _, by omega, hvl, x, fun j h1 h2 => by omega⟩, rfl, a5⟩⟩
        rw [nd_find_L73, if_neg (show ¬ bI true = 0 from bT)]
        split <;> rfl
    · rw [if_neg x]
      obtain ⟨nd', e', yr', fo, q1, q2, q3, q4, q5, q6⟩ := ih (c + 1) f T nd1 e yr (by omega) (by omega) (by omega) hN1 hZ
      have hno : vld Y n W c = true → smC (yM Y) c ≠ tot := fun h9 h8 => by
        have hfit : fitR (yN Y) (yM Y) c = true := by
          unfold vld at h9
          rw [Bool.and_eq_true] at h9
          exact h9.1
        rw [hfit, if_pos rfl] at x
        exact x h8
      refine ⟨nd', e', yr', fo, q1, q2, by rw [q3]; exact a2, CZ_le q4 (by omega), q5, ?_⟩
      rcases q6 with ⟨r1, r2⟩ | ⟨r1, b, r2, r3, r4⟩
      · refine Or.inl ⟨r1, fun j h1 h2 h3 => ?_⟩
        by_cases ej : j = c
        · rw [ej] at h3 ⊢; exact hno h3
        · exact r2 j (by omega) h2 h3
      · refine Or.inr ⟨r1, b, ⟨by have := r2.1; omega, r2.2.1, r2.2.2.1, r2.2.2.2.1, fun j h1 h2 h3 => ?_⟩, r3, r4⟩
        by_cases ej : j = c
        · rw [ej] at h3 ⊢; exact hno h3
        · exact r2.2.2.2.2 j (by omega) h2 h3
theorem need_L58 {Y : Yd} (hY : VY Y) {y : YdS} (hB : CB y Y) {n : Nat} (h1n : 1 ≤ n) (hn : n ≤ 5) {W : List Nat} (hW : W ∈ pm n) {most : Nat} (hmo : most ≤ 20) {b : Nat} (hb : bsC Y n W (5 ^ yM Y) = some b) (hbm : smC (yM Y) b ≤ most) : ∀ (d tot f T : Nat) (nd : NdS) (e : SeS) (yr : Nat), d + 1 < f → tot + d = smC (yM Y) b → yM Y ≤ tot → T + 625 * (d + 1) ≤ 19000000 → NB nd Y → CZ e T →
    ∃ nd' e' yr', nd_find_L58 f nd y e yr (iN n) (iN (pk W)) (iN most) (iN (5 ^ yM Y)) 0 (iN tot) = some (nd', e', yr') ∧ NB nd' Y ∧ nd'.1 = nd.1 ∧ CZ e' (T + 625 * (d + 1)) ∧ (yr' = yr ∨ yr' = 1) ∧ nd'.2.1 = iN (smC (yM Y) b) ∧ CB nd'.2.2 (YLn Y (vC (yM Y) b)) := by
  have hM := hY.2.1
  have hp5 : 5 ^ yM Y ≤ 5 ^ 4 := Nat.pow_le_pow_right (by omega) hM
  obtain ⟨g1, g2, g3⟩ := (bsC_is (5 ^ yM Y)).1 b hb
  intro d
  induction d with
  | zero =>
    intro tot f T nd e yr hf ht hge hT hN hZ
    obtain ⟨f, rfl⟩ : ∃ g, f = g + 1 + 1 := ⟨f - 2, by omega⟩
    obtain ⟨nd1, e1, yr1, fo, a1, a2, a3, a4, a5, a6⟩ := need_L73 hY hB h1n hn hW (iN most) (tot := tot) hge (by omega) (5 ^ yM Y) 0 N0 T nd e yr (by rw [N0_eq]; omega) (by omega) (by omega) hN hZ
    have a1' : nd_find_L73 N0 nd y e yr (iN n) (iN (pk W)) (iN most) (iN (5 ^ yM Y)) 0 (iN tot) 0 = some (nd1, e1, yr1, bI fo) := a1
    rw [nd_find_L58, jlt (by omega) (by omega), if_neg (by omega), if_pos rfl, a1']
    simp only [Option.bind_some]
    rcases a6 with ⟨_, r2⟩ | ⟨r1, b', r2, r3, r4⟩
    · exact absurd (by omega) (r2 b (by omega) g1 g2)
    · have hbb : b' = b := by
        have h1 := g3 b' r2.2.1 r2.2.2.1
        have h2 := r2.2.2.2.1
        rcases h1 with h1 | h1
        · omega
        · by_cases e9 : b' = b
          · exact e9
          · exact absurd (by omega) (r2.2.2.2.2 b (by omega) (by omega) g2)
      rw [hbb] at r4
      refine ⟨nd1, e1, yr1, ?_, a2, a3, CZ_le a4 (by omega), a5, by rw [r3, show tot = smC (yM Y) b by omega], r4⟩
      rw [r1, nd_find_L58, if_neg (show ¬ bI true = 0 from bT)]
      split <;> rfl
  | succ d ih =>
    intro tot f T nd e yr hf ht hge hT hN hZ
    obtain ⟨f, rfl⟩ : ∃ g, f = g + 1 := ⟨f - 1, by omega⟩
    obtain ⟨nd1, e1, yr1, fo, a1, a2, a3, a4, a5, a6⟩ := need_L73 hY hB h1n hn hW (iN most) (tot := tot) hge (by omega) (5 ^ yM Y) 0 N0 T nd e yr (by rw [N0_eq]; omega) (by omega) (by omega) hN hZ
    have a1' : nd_find_L73 N0 nd y e yr (iN n) (iN (pk W)) (iN most) (iN (5 ^ yM Y)) 0 (iN tot) 0 = some (nd1, e1, yr1, bI fo) := a1
    rw [nd_find_L58, jlt (by omega) (by omega), if_neg (by omega), if_pos rfl, a1']
    simp only [Option.bind_some]
    rcases a6 with ⟨r1, _⟩ | ⟨_, b', r2, _, _⟩
    · have a4' : CZ e1 (T + 625) := CZ_le a4 (Nat.add_le_add_left hp5 T)
      have hTe : T + 625 + 625 * (d + 1) = T + 625 * (d + 1 + 1) := by rw [Nat.mul_succ 625 (d + 1), Nat.add_assoc, Nat.add_comm 625]
      obtain ⟨nd2, e2, yr2, q1, q2, q3, q4, q5, q6, q7⟩ := ih (tot + 1) f (T + 625) nd1 e1 yr1 (by omega) (by omega) (by omega) (by rw [hTe]; exact hT) a2 a4'
      rw [hTe] at q4
      refine ⟨nd2, e2, yr2, ?_, q2, by rw [q3, a3], q4, ?_, q6, q7⟩
      · rw [r1, zl_1, iN_add]
        exact q1
      · rcases q5 with q5 | q5
        · rw [q5]; exact a5
        · exact Or.inr q5
    · have h1 := g3 b' r2.2.1 r2.2.2.1
      have h2 := r2.2.2.2.1
      omega
theorem need_L17 {Y : Yd} (hY : VY Y) {y : YdS} (hB : CB y Y) (nd : NdS) (e : SeS) (yr : Nat) (x3 x4 : Int32) : ∀ (d k f : Nat), d < f → k + d = yM Y → nd_find_L17 f nd y e yr x3 x4 (iN (smR (yM Y) (yN Y) k)) (iN (5 ^ k)) (iN k) = some (iN (smR (yM Y) (yN Y) (yM Y)), iN (5 ^ yM Y)) := by
  have hM := hY.2.1
  intro d
  induction d with
  | zero =>
    intro k f hf hk
    obtain ⟨f, rfl⟩ : ∃ g, f = g + 1 := ⟨f - 1, by omega⟩
    rw [nd_find_L17, hB.1, jlt (by omega) (by omega), if_neg (by omega), show k = yM Y by omega]
  | succ d ih =>
    intro k f hf hk
    obtain ⟨f, rfl⟩ : ∃ g, f = g + 1 := ⟨f - 1, by omega⟩
    rw [nd_find_L17, hB.1, jlt (by omega) (by omega), if_pos (by omega), lengthAt_ok hB hM (by omega)]
    simp only [Option.bind_some]
    rw [iN_add, zl_5, iN_mul, zl_1, iN_add, ← Nat.pow_succ]
    exact ih (k + 1) f (by omega) (by omega)
theorem find_ok {Y : Yd} (hY : VY Y) {y : YdS} (hB : CY y Y) {n : Nat} (h1n : 1 ≤ n) (hn : n ≤ 5) {W : List Nat} (hW : W ∈ pm n) {b : Nat} (hb : bsC Y n W (5 ^ yM Y) = some b) {nd : NdS} {e : SeS} {T : Nat} (hT : T ≤ 10300000) (hZ : CS e Y T) (yr : Nat) : ∃ nd' e' yr', nd_find nd y e yr (iN n) (iN (pk W)) = some (nd', e', yr') ∧ CS e' Y (T + 15000) ∧ (yr' = yr ∨ yr' = 1) ∧ nd'.2.1 = iN (smC (yM Y) b) ∧ CB nd'.2.2 (YLn Y (vC (yM Y) b)) := by
  have hM := hY.2.1
  obtain ⟨g1, g2, g3⟩ := (bsC_is (5 ^ yM Y)).1 b hb
  obtain ⟨z, a1, a2⟩ := copyY_ok hY hB nd.2.2
  have h17 := need_L17 hY hB.1 (nd.1, nd.2.1, z) e yr (iN n) (iN (pk W)) (yM Y) 0 N0 (by rw [N0_eq]; omega) (by omega)
  have h17' : nd_find_L17 N0 (nd.1, nd.2.1, z) y e yr (iN n) (iN (pk W)) 0 1 0 = some (iN (smR (yM Y) (yN Y) (yM Y)), iN (5 ^ yM Y)) := h17
  have hle : smR (yM Y) (vC (yM Y) b) (yM Y) ≤ smR (yM Y) (yN Y) (yM Y) := by
    unfold vld at g2
    rw [Bool.and_eq_true] at g2
    exact smR_mono _ _ ((fitR_iff _ _).mp g2.1)
  have hmo : smR (yM Y) (yN Y) (yM Y) ≤ 20 := by
    obtain ⟨c, c1, c2⟩ := code_of (N := yN Y) (yM Y) (fun i hi => ⟨(hY.2.2.2.2.1 i hi).2.1, (hY.2.2.2.2.1 i hi).2.2.1⟩)
    have := smR_mono (yM Y) (v := yN Y) (u := vC (yM Y) c) (yM Y) (fun i hi => by rw [c2 i hi]; exact Nat.le_refl _)
    have := smC_le (yM Y) c hM
    unfold smC at this
    omega
  have hge := smC_ge (yM Y) b
  have hsl := smC_le (yM Y) b hM
  obtain ⟨nd', e', yr', q1, q2, q3, q4, q5, q6, q7⟩ := need_L58 hY hB.1 h1n hn hW hmo hb hle (smC (yM Y) b - yM Y) (yM Y) N0 T (nd.1, nd.2.1, z) e yr (by rw [N0_eq]; omega) (by omega) (Nat.le_refl _) (by omega) ⟨yN Y, a2.1, a2.2.1⟩ ⟨Y, hZ⟩
  obtain ⟨Y0, q4⟩ := q4
  obtain ⟨e2, r1, r2⟩ := forgetS_ok (Y' := Y) q4
  refine ⟨nd', e2, yr', ?_, CS_le r2 (by omega), q5, q6, q7⟩
  rw [nd_find, a1]
  simp only [Option.bind_some]
  rw [h17']
  simp only [Option.bind_some]
  rw [hB.1.1, q1]
  simp only [Option.bind_some]
  rw [r1]
  rfl
theorem bsC_lf {Y : Yd} (hY : VY Y) {n : Nat} (hn : n ≤ 5) {W : List Nat} : bsC Y n W (5 ^ yM Y) = none ↔ rest Y n W (st n) = none := by
  constructor
  · intro h
    obtain ⟨c, c1, c2⟩ := code_of (N := yN Y) (yM Y) (fun i hi => ⟨(hY.2.2.2.2.1 i hi).2.1, (hY.2.2.2.2.1 i hi).2.2.1⟩)
    have h1 := (bsC_is (5 ^ yM Y)).2 h c c1
    unfold vld okC at h1
    rw [(fitR_iff _ _).mpr (fun i hi => by rw [c2 i hi]; exact Nat.le_refl _), Bool.true_and, rest_YL c2] at h1
    cases hr : rest Y n W (st n) with
    | none => rfl
    | some r => rw [hr] at h1; cases h1
  · intro h
    cases hb : bsC Y n W (5 ^ yM Y) with
    | none => rfl
    | some b =>
      obtain ⟨g1, g2, g3⟩ := (bsC_is (5 ^ yM Y)).1 b hb
      unfold vld okC at g2
      rw [Bool.and_eq_true] at g2
      obtain ⟨r, hr⟩ := Option.isSome_iff_exists.mp g2.2
      obtain ⟨T, w1, w2, w3⟩ := rs_walk _ _ _ hr
      have hle := (fitR_iff _ _).mp g2.1
      have hno := (rs_none hY hn (VP_st Y n) (show 21 ≤ 21 + lv Y (st n) by omega)).mp h r T (wk_sub hle _ _ _ w1) w2
      exact absurd w3 hno
