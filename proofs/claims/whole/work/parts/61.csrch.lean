/-! THE CLASS: the search for REST -/
theorem sub_neg {a b : Nat} (h : a < b) (hb : b < 1000000000) : iN a - iN b < 0 := by
  apply neg_lt
  rw [Int32.toInt_sub, iN_toInt (by omega), iN_toInt (by omega)]
  rw [Int.bmod_def]
  split <;> omega
def eI : Option Nat → Int32
  | none => -1
  | some r => iN r
def ec : Option Nat → Nat
  | none => 0
  | some r => r + 1
/-- what the search knows -/
def SK (s : SeS) (Y : Yd) (n : Nat) (W : List Nat) (t : Nat) : Prop := s.2.2.1 = iN t ∧ s.2.2.2.1 = iN n ∧ s.2.2.2.2 = iN (pk W) ∧ ∀ i, i < 17046 → ∃ v, s.1 i = iN v ∧ v < 32 * (t + 1) ∧ ∀ P, VP Y n P → ix (yM Y) n P = i → 32 * t ≤ v → v = 32 * t + ec (rest Y n W P)
theorem SK_pl {s : SeS} {Y : Yd} {n : Nat} {W : List Nat} {t : Nat} (h : SK s Y n W t) (p : PlS) : SK (s.1, p, s.2.2.1, s.2.2.2.1, s.2.2.2.2) Y n W t := h
/-- a MOVE that fits -/
def ft (Y : Yd) (W : List Nat) (P : Ps) (m : Nat) : Bool := can Y P m && (decide (mt m ≠ 5) || decide (wg P m = W.getD (P 5).length 0))
theorem wg_lt {Y : Yd} {n : Nat} {P : Ps} (h : VP Y n P) {m : Nat} (hf : mf m < 6) (hne : P (mf m) ≠ []) : 1 ≤ wg P m ∧ wg P m ≤ n := VP_mem h hf (tk_mem hne _)
theorem pm_d8 {n : Nat} (hn : n ≤ 5) {W : List Nat} (hW : W ∈ pm n) : (∀ d ∈ W, d < 8) ∧ W.length ≤ 5 := ⟨fun d hd => by have := (pm_mem hW).mp hd; omega, by rw [pm_len hW]; omega⟩
theorem fits_ok {Y : Yd} (hY : VY Y) {y : YdS} (hB : CB y Y) {n : Nat} (hn : n ≤ 5) {W : List Nat} (hW : W ∈ pm n) {s : SeS} (hs : s.2.2.2.2 = iN (pk W)) {P : Ps} (hP : VP Y n P) (hC : CPl s.2.1 P) (h5 : (P 5).length < 5) {m : Nat} (hm : gm Y m = true) : se_fits s y (iN m) = some (bI (ft Y W P m)) := by
  have hmm := mvs_lt ((mem_mvs hY m).mpr hm)
  have h6 := gm_t6 hY hm
  have hWd := pm_d8 hn hW
  rw [se_fits, allows_ok hY hB hC hm, mt_iN hmm]
  simp only [Option.bind_some]
  unfold ft
  cases hc : can Y P m with
  | false => rw [if_pos bF, Bool.false_and]; rfl
  | true =>
    have hcp := can_parts hc
    rw [if_neg bT, Bool.true_and, zl_5, jeq (by omega) (by omega)]
    by_cases d : mt m = 5
    · have hw := wg_lt hP (show mf m < 6 by omega) hcp.1
      have hg : W.getD (P 5).length 0 < 8 := getD_lt hWd.1 (by omega) _
      rw [if_pos d, decide_eq_false (fun h9 => h9 d), Bool.false_or, wagonOf_ok hC hmm (by omega), if_neg hcp.1]
      simp only [Option.bind_some]
      rw [countAt_ok hC (by omega)]
      simp only [Option.bind_some]
      rw [hs, wagonAt_ok hWd.1 hWd.2 h5]
      simp only [Option.bind_some]
      rw [jeq (by omega) (by omega)]
      by_cases e : wg P m = W.getD (P 5).length 0
      · rw [if_pos e, decide_eq_true e]; rfl
      · rw [if_neg e, decide_eq_false e]; rfl
    · rw [if_neg d, decide_eq_true d, Bool.true_or]; rfl
theorem astray_ok {Y : Yd} {n : Nat} (hn : n ≤ 5) {W : List Nat} (hW : W ∈ pm n) {s : SeS} (hs : s.2.2.2.2 = iN (pk W)) {P : Ps} (hP : VP Y n P) (hC : CPl s.2.1 P) : se_isAstray s = some (bI (!(P 5).isPrefixOf W)) := by
  have hWd := pm_d8 hn hW
  have h5 := VP_d8 hP hn (show 5 < 6 by omega)
  have hle := VP_le hP (show 5 < 6 by omega)
  have hb := pk_b hWd.1 hWd.2
  have hb2 := pk_b (d8 h5.2) h5.1
  rw [se_isAstray, zl_5, countAt_ok hC (by omega)]
  simp only [Option.bind_some]
  rw [rowAt_ok hC (by omega)]
  simp only [Option.bind_some]
  have e1 : ((1 : Int32) <<< (((3 : Int32) * iN (P 5).length) &&& 31)) - 1 = iN (2 ^ (3 * (P 5).length) - 1) := by
    rw [zl_3, iN_mul, zl_1, iN_shl (by omega), Nat.one_mul, iN_sub (show 1 ≤ 2 ^ (3 * (P 5).length) from Nat.pow_pos (by omega))]
  have hb3 := pk_b (l := W.take (P 5).length) (fun d hd => hWd.1 d (List.mem_of_mem_take hd)) (by rw [List.length_take]; omega)
  rw [e1, hs, iN_and, Nat.and_two_pow_sub_one_eq_mod, p8, pk_take W hWd.1, jeq (by omega) (by omega)]
  have hiff : pk (P 5) = pk (W.take (P 5).length) ↔ (P 5).isPrefixOf W = true := by
    rw [List.isPrefixOf_iff_prefix, List.prefix_iff_eq_take]
    constructor
    · intro h
      exact pk_inj _ _ h5.2 (fun d hd => ⟨((pm_mem hW).mp (List.mem_of_mem_take hd)).1, hWd.1 d (List.mem_of_mem_take hd)⟩) h
    · intro h; rw [← h]
  by_cases c : pk (P 5) = pk (W.take (P 5).length)
  · rw [if_pos c, hiff.mp c]; rfl
  · rw [if_neg c]
    cases hx : (P 5).isPrefixOf W with
    | true => exact absurd (hiff.mpr hx) c
    | false => rfl
/-- MOVES that don't fit lead nowhere -/
theorem ft_rest {Y : Yd} (hY : VY Y) {n : Nat} (hn : n ≤ 5) {W : List Nat} (hW : W ∈ pm n) {P : Ps} (hP : VP Y n P) {m : Nat} (hm : m ∈ oks Y P) (hf : ft Y W P m = false) : rest Y n W (mv P m) = none := by
  have h1 := (mem_oks hY).mp hm
  have hv := VP_mv hY hP h1.1 h1.2
  unfold ft at hf
  rw [h1.2, Bool.true_and, Bool.or_eq_false_iff, decide_eq_false_iff_not, decide_eq_false_iff_not] at hf
  have h5 : mt m = 5 := Classical.not_not.mp hf.1
  rw [rest_eq hY hn hv, mv_exit hY h1.1, if_pos h5, if_neg]
  intro h9
  rw [List.isPrefixOf_iff_prefix] at h9
  obtain ⟨z, hz⟩ := h9
  apply hf.2
  rw [← hz, List.append_assoc, List.getD_eq_getElem?_getD, List.getElem?_append_right (Nat.le_refl _), Nat.sub_self]
  rfl
theorem fold_ft {Y : Yd} (hY : VY Y) {n : Nat} (hn : n ≤ 5) {W : List Nat} (hW : W ∈ pm n) {P : Ps} (hP : VP Y n P) : (oks Y P).foldl (fun a m => om a ((rest Y n W (mv P m)).map (· + 1))) none = ((mvs Y).filter (ft Y W P)).foldl (fun a m => om a ((rest Y n W (mv P m)).map (· + 1))) none := by
  have : ∀ (l : List Nat) (a : Option Nat), (∀ m ∈ l, m ∈ mvs Y) → (l.filter (can Y P)).foldl (fun a m => om a ((rest Y n W (mv P m)).map (· + 1))) a = (l.filter (ft Y W P)).foldl (fun a m => om a ((rest Y n W (mv P m)).map (· + 1))) a := by
    intro l
    induction l with
    | nil => intro a _; rfl
    | cons x r ih =>
      intro a h
      have hr := fun a => ih a (fun m hm => h m (List.mem_cons_of_mem _ hm))
      cases hc : can Y P x with
      | false =>
        have hf : ft Y W P x = false := by unfold ft; rw [hc, Bool.false_and]
        rw [List.filter_cons_of_neg (by rw [hc]; decide), List.filter_cons_of_neg (by rw [hf]; decide)]
        exact hr a
      | true =>
        rw [List.filter_cons_of_pos hc, List.foldl_cons]
        cases hf : ft Y W P x with
        | true => rw [List.filter_cons_of_pos hf, List.foldl_cons]; exact hr _
        | false =>
          have hx : x ∈ oks Y P := List.mem_filter.mpr ⟨h x List.mem_cons_self, hc⟩
          rw [List.filter_cons_of_neg (by rw [hf]; decide), ft_rest hY hn hW hP hx hf]
          have : om a ((none : Option Nat).map (· + 1)) = a := by cases a <;> rfl
          rw [this]
          exact hr a
  exact this (mvs Y) none (fun m h => h)
/-- what is said of a search from P -/
def RC (Y : Yd) (n : Nat) (W : List Nat) (t : Nat) (P : Ps) (r : Option Nat) (o : Option (Int32 × SeS)) : Prop := ∃ s', o = some (eI r, s') ∧ CPl s'.2.1 P ∧ SK s' Y n W t
theorem rem_L87 {Y : Yd} (hY : VY Y) {y : YdS} (hB : CB y Y) (hN : CN y (mvs Y)) {n : Nat} (hn : n ≤ 5) {W : List Nat} (hW : W ∈ pm n) {t : Nat} {P : Ps} (hP : VP Y n P) (h5 : (P 5).length < 5) {rec : SeS → YdS → Int32 → Option (Int32 × SeS)} {x : Nat} (x2 : Int32) (hrec : ∀ (m : Nat) (s : SeS), m ∈ oks Y P → CPl s.2.1 (mv P m) → SK s Y n W t → RC Y n W t (mv P m) (rest Y n W (mv P m)) (rec s y (iN (x + 1)))) : ∀ (d k f : Nat) (s : SeS) (a : Option Nat), d < f → k + d = (mvs Y).length → (∀ r, a = some r → r ≤ 100) → CPl s.2.1 P → SK s Y n W t →
    ∃ s', se_remaining_L87 rec f s y (iN x) x2 (eI a) (iN k) = some (s', eI ((((mvs Y).drop k).filter (ft Y W P)).foldl (fun a m => om a ((rest Y n W (mv P m)).map (· + 1))) a)) ∧ CPl s'.2.1 P ∧ SK s' Y n W t := by
  have hml := mvs_len Y
  intro d
  induction d with
  | zero =>
    intro k f s a hf hk ha hC hS
    obtain ⟨f, rfl⟩ : ∃ g, f = g + 1 := ⟨f - 1, by omega⟩
    refine ⟨s, ?_, hC, hS⟩
    rw [se_remaining_L87, hN.1, jlt (by omega) (by omega), if_neg (by omega), List.drop_eq_nil_of_le (by omega)]
    rfl
  | succ d ih =>
    intro k f s a hf hk ha hC hS
    obtain ⟨f, rfl⟩ : ∃ g, f = g + 1 := ⟨f - 1, by omega⟩
    have hkl : k < (mvs Y).length := by omega
    have hmem : (mvs Y).getD k 0 ∈ mvs Y := by
      rw [List.getD_eq_getElem?_getD, List.getElem?_eq_getElem hkl]
      exact List.getElem_mem hkl
    have hdr := drop_cons hkl
    have hmv := moveAt_ok hN (by omega) hkl
    generalize hm : (mvs Y).getD k 0 = m at *
    have hgm := (mem_mvs hY m).mp hmem
    have hfit := fits_ok hY hB hn hW hS.2.2.1 hP hC h5 hgm
    rw [se_remaining_L87, hN.1, jlt (by omega) (by omega), if_pos hkl, hmv]
    simp only [Option.bind_some]
    rw [hfit]
    simp only [Option.bind_some]
    rw [zl_1, iN_add, iN_add, hdr]
    cases hc : ft Y W P m with
    | false =>
      rw [if_pos bF, List.filter_cons_of_neg (by rw [hc]; decide)]
      exact ih (k + 1) f s a (by omega) (by omega) ha hC hS
    | true =>
      rw [if_neg bT, List.filter_cons_of_pos hc, List.foldl_cons]
      have hcan : can Y P m = true := by
        unfold ft at hc
        rw [Bool.and_eq_true] at hc
        exact hc.1
      have hok : m ∈ oks Y P := (mem_oks hY).mpr ⟨hgm, hcan⟩
      obtain ⟨o1, o2, o3, o4, o5, o6, o7, o8⟩ := okm hY hn hP hok
      obtain ⟨p1, b1, b2⟩ := shift_ok hC o1 o2 o3 o4 o5 o6
      obtain ⟨s1, c1, c2, c3⟩ := hrec m (s.1, p1, s.2.2.1, s.2.2.2.1, s.2.2.2.2) hok b2 (SK_pl hS p1)
      obtain ⟨p2, d1, d2⟩ := unshift_ok (P := P) c2 o1 o2 o3 o4 o5 o7
      rw [b1]
      simp only [Option.bind_some]
      rw [c1]
      simp only [Option.bind_some]
      rw [d1]
      simp only [Option.bind_some]
      have hnx : ∀ b : Option Nat, (∀ r, b = some r → r ≤ 100) → ∃ s', se_remaining_L87 rec f (s1.1, p2, s1.2.2.1, s1.2.2.2.1, s1.2.2.2.2) y (iN x) x2 (eI b) (iN (k + 1)) = some (s', eI ((((mvs Y).drop (k + 1)).filter (ft Y W P)).foldl (fun a m => om a ((rest Y n W (mv P m)).map (· + 1))) b)) ∧ CPl s'.2.1 P ∧ SK s' Y n W t := fun b hb => ih (k + 1) f _ b (by omega) (by omega) hb d2 (SK_pl c3 p2)
      cases hr : rest Y n W (mv P m) with
      | none =>
        rw [if_pos (show eI none < 0 by decide)]
        have : om a ((none : Option Nat).map (· + 1)) = a := by cases a <;> rfl
        rw [this]
        exact hnx a ha
      | some r =>
        have hr20 := rest_le hY hn o8 hr
        rw [if_neg (show ¬ eI (some r) < 0 from iN_nneg (by omega))]
        show ∃ s', (if eI a < 0 then se_remaining_L87 rec f _ y (iN x) x2 (iN r + iN 1) (iN (k + 1)) else if iN r + iN 1 < eI a then se_remaining_L87 rec f _ y (iN x) x2 (iN r + iN 1) (iN (k + 1)) else se_remaining_L87 rec f _ y (iN x) x2 (eI a) (iN (k + 1))) = _ ∧ _
        rw [iN_add]
        cases a with
        | none =>
          rw [if_pos (show eI none < 0 by decide)]
          exact hnx (some (r + 1)) (fun q hq => by cases hq; omega)
        | some u =>
          have hu := ha u rfl
          have e9 : om (some u) ((some r).map (· + 1)) = some (if r + 1 < u then r + 1 else u) := rfl
          rw [if_neg (show ¬ eI (some u) < 0 from iN_nneg (by omega)), e9]
          show ∃ s', (if iN (r + 1) < iN u then _ else _) = _ ∧ _
          rw [jlt (by omega) (by omega)]
          by_cases e8 : r + 1 < u
          · rw [if_pos e8, if_pos e8]
            exact hnx (some (r + 1)) (fun q hq => by cases hq; omega)
          · rw [if_neg e8, if_neg e8]
            exact hnx (some u) ha
