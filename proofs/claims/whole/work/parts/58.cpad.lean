/-! THE CLASS: signs, THE FAULT, laying out, what is known of a YARD -/
def CP (d : PdS) (p : List Nat) : Prop := d.2 = iN p.length ∧ ∀ i, i < p.length → d.1 i = iN (p.getD i 0)
theorem signAt_ok {d : PdS} {p : List Nat} (h : CP d p) (hl : p.length ≤ 16) {i : Nat} (hi : i < 100) : pd_signAt d (iN i) = some (iN (p.getD i 0)) := by
  rw [pd_signAt, if_neg (iN_nneg (by omega)), h.1, jlt (by omega) (by omega), show nI 16 = iN 16 from rfl, jlt (by omega) (by omega), jin (by omega)]
  by_cases c : i < p.length
  · rw [if_pos c, if_pos (by omega), if_pos (by omega), rd_iN (by omega), h.2 i c]
  · rw [if_neg c, List.getD_eq_getElem?_getD, List.getElem?_eq_none (by omega)]; rfl
theorem isLetter_C {c : Nat} (h : c < 1000) : pd_isLetter (iN c) = some (bI (ltr c)) := by
  rw [pd_isLetter, zl_115, zl_113, zl_100, jeq (by omega) (by omega), jeq (by omega) (by omega), jeq (by omega) (by omega)]
  unfold ltr
  by_cases a : c = 115
  · rw [if_pos a, decide_eq_true (Or.inl a)]; rfl
  · rw [if_neg a]
    by_cases b : c = 113
    · rw [if_pos b, decide_eq_true (Or.inr (Or.inl b))]; rfl
    · rw [if_neg b]
      by_cases d : c = 100
      · rw [if_pos d, decide_eq_true (Or.inr (Or.inr d))]; rfl
      · rw [if_neg d, decide_eq_false (by omega)]; rfl
theorem oc_forget_L7_ok : ∀ (d k f : Nat) (o : OcS), d < f → k + d = 153 → ∃ o', oc_forget_L7 f o (iN k) = some o' ∧ o'.1 = o.1 ∧ ∀ j, (o'.2.1 j = if k ≤ j ∧ j < 153 then 0 else o.2.1 j) ∧ (o'.2.2 j = if k ≤ j ∧ j < 153 then 0 else o.2.2 j) := by
  intro d
  induction d with
  | zero =>
    intro k f o hf hk
    obtain ⟨f, rfl⟩ : ∃ g, f = g + 1 := ⟨f - 1, by omega⟩
    refine ⟨o, ?_, rfl, fun j => ⟨by rw [if_neg (by omega)], by rw [if_neg (by omega)]⟩⟩
    rw [oc_forget_L7, zl_153, jlt (by omega) (by omega), if_neg (by omega)]
  | succ d ih =>
    intro k f o hf hk
    obtain ⟨f, rfl⟩ : ∃ g, f = g + 1 := ⟨f - 1, by omega⟩
    obtain ⟨o', a1, a2, a3⟩ := ih (k + 1) f (o.1, (wr o.2.1 (iN k) 0), (wrL o.2.2 (iN k) 0)) (by omega) (by omega)
    have hin : inb (iN k) 153 := by rw [iN_inb (by omega)]; omega
    refine ⟨o', ?_, a2, fun j => ?_⟩
    · rw [oc_forget_L7, zl_153, jlt (by omega) (by omega), if_pos (by omega), if_pos ⟨hin, hin⟩, zl_1, iN_add]
      exact a1
    · rw [(a3 j).1, (a3 j).2]
      show (if k + 1 ≤ j ∧ j < 153 then 0 else wr o.2.1 (iN k) 0 j) = _ ∧ (if k + 1 ≤ j ∧ j < 153 then 0 else wrL o.2.2 (iN k) 0 j) = _
      rw [wr_iN (by omega), wrL_iN (by omega)]
      by_cases c : k + 1 ≤ j ∧ j < 153
      · rw [if_pos c, if_pos c, if_pos (by omega), if_pos (by omega)]; exact ⟨rfl, rfl⟩
      · rw [if_neg c, if_neg c]
        by_cases e : j = k
        · rw [if_pos e, if_pos e, if_pos (by omega), if_pos (by omega)]; exact ⟨rfl, rfl⟩
        · rw [if_neg e, if_neg e, if_neg (by omega), if_neg (by omega)]; exact ⟨rfl, rfl⟩
/-- what is known of a YARD -/
def CO (o : OcS) (Y : Yd) : Prop := ∃ S, S < 64 ∧ o.1 = iN S ∧ ∀ n, 1 ≤ n → n ≤ 5 → (S.testBit n = true → ∃ s, Sol Y n s) ∧ ∀ l, l ∈ pm n → o.2.1 (ofs n + rk l) = iN (if S.testBit n = true then (lf Y n l).getD 0 else 0) ∧ o.2.2 (ofs n + rk l) = if S.testBit n = true then lw Y n l else 0
theorem oc_forget_ok (o : OcS) (Y : Yd) : ∃ o', oc_forget o = some o' ∧ CO o' Y := by
  obtain ⟨o', a1, a2, a3⟩ := oc_forget_L7_ok 153 0 N0 (0, o.2.1, o.2.2) (by rw [N0_eq]; omega) (by omega)
  rw [z00] at a1
  refine ⟨o', by rw [oc_forget, a1]; rfl, 0, by omega, a2, fun n h1 h5 => ⟨fun h => by rw [Nat.zero_testBit] at h; exact absurd h (by decide), fun l hl => ?_⟩⟩
  have hc := t_ofs n (by omega) h1
  have hr := rk_lt (show n < 6 by omega) hl
  rw [(a3 _).1, (a3 _).2, if_pos (show 0 ≤ ofs n + rk l ∧ ofs n + rk l < 153 by omega), if_pos (show 0 ≤ ofs n + rk l ∧ ofs n + rk l < 153 by omega), Nat.zero_testBit, if_neg (show ¬ false = true by decide), if_neg (show ¬ false = true by decide)]
  exact ⟨rfl, rfl⟩
theorem oc_copy_L21 {g : OcS} : ∀ (d k f : Nat) (o : OcS), d < f → k + d = 153 → ∃ o', oc_copyFrom_L21 f o g (iN k) = some o' ∧ o'.1 = o.1 ∧ o'.2.1 = o.2.1 ∧ ∀ j, (o'.2.2 j = if k ≤ j ∧ j < 153 then g.2.2 j else o.2.2 j) := by
  intro d
  induction d with
  | zero =>
    intro k f o hf hk
    obtain ⟨f, rfl⟩ : ∃ g, f = g + 1 := ⟨f - 1, by omega⟩
    refine ⟨o, ?_, rfl, rfl, fun j => by rw [if_neg (by omega)]⟩
    rw [oc_copyFrom_L21, zl_153, jlt (by omega) (by omega), if_neg (by omega)]
  | succ d ih =>
    intro k f o hf hk
    obtain ⟨f, rfl⟩ : ∃ g, f = g + 1 := ⟨f - 1, by omega⟩
    obtain ⟨o', a1, a2, a3, a4⟩ := ih (k + 1) f (o.1, o.2.1, (wrL o.2.2 (iN k) (rd g.2.2 (iN k)))) (by omega) (by omega)
    have hin : inb (iN k) 153 := by rw [iN_inb (by omega)]; omega
    refine ⟨o', ?_, a2, a3, fun j => ?_⟩
    · rw [oc_copyFrom_L21, zl_153, jlt (by omega) (by omega), if_pos (by omega), if_pos ⟨hin, hin⟩, zl_1, iN_add]
      exact a1
    · rw [a4 j]
      show (if k + 1 ≤ j ∧ j < 153 then g.2.2 j else wrL o.2.2 (iN k) (rd g.2.2 (iN k)) j) = _
      rw [wrL_iN (by omega), rd_iN (by omega)]
      by_cases c : k + 1 ≤ j ∧ j < 153
      · rw [if_pos c, if_pos (by omega)]
      · rw [if_neg c]
        by_cases e : j = k
        · rw [if_pos e, if_pos (by omega), e]
        · rw [if_neg e, if_neg (by omega)]
theorem cpy_at2 {n : Nat} (hn : n < 200) (f g : Nat → Int32) (j : Nat) : cpy n f g j = if j < n then f j else g j := by
  unfold cpy va_cpy
  simp
theorem oc_copy_ok {g : OcS} {Y : Yd} (h : CO g Y) (o : OcS) : ∃ o', oc_copyFrom o g = some o' ∧ CO o' Y := by
  obtain ⟨o', a1, a2, a3, a4⟩ := oc_copy_L21 (g := g) 153 0 N0 (g.1, (cpy 153 g.2.1 o.2.1), o.2.2) (by rw [N0_eq]; omega) (by omega)
  rw [z00] at a1
  obtain ⟨S, b1, b2, b3⟩ := h
  refine ⟨o', by rw [oc_copyFrom, a1]; rfl, S, b1, by rw [a2]; exact b2, fun n h1 h5 => ⟨(b3 n h1 h5).1, fun l hl => ?_⟩⟩
  have hc := t_ofs n (by omega) h1
  have hr := rk_lt (show n < 6 by omega) hl
  rw [a3, a4]
  show cpy 153 g.2.1 o.2.1 _ = _ ∧ _
  rw [cpy_at2 (by omega), if_pos (show ofs n + rk l < 153 by omega), if_pos (show 0 ≤ ofs n + rk l ∧ ofs n + rk l < 153 by omega)]
  exact (b3 n h1 h5).2 l hl
/-- a YARD of the class -/
def CY (y : YdS) (Y : Yd) : Prop := CB y Y ∧ CN y (mvs Y) ∧ CO (yO y) Y
theorem CB_cpy {f : YdS} {Y : Yd} (hM : yM Y ≤ 4) (h : CB f Y) (y : YdS) (n : Nat → Int32) (o : OcS) (c : Int32) : CB (f.1, f.2.1, c, f.2.2.2.1, (cpy 4 f.2.2.2.2.1 y.2.2.2.2.1), (cpy 4 f.2.2.2.2.2.1 y.2.2.2.2.2.1), (cpy 4 f.2.2.2.2.2.2.1 y.2.2.2.2.2.2.1), n, o) Y := by
  refine ⟨h.1, h.2.1, h.2.2.1, fun i hi => ?_⟩
  show cpy 4 f.2.2.2.2.1 y.2.2.2.2.1 i = _ ∧ cpy 4 f.2.2.2.2.2.1 y.2.2.2.2.2.1 i = _ ∧ cpy 4 f.2.2.2.2.2.2.1 y.2.2.2.2.2.2.1 i = _
  rw [cpy_at2 (by omega), cpy_at2 (by omega), cpy_at2 (by omega), if_pos (by omega), if_pos (by omega), if_pos (by omega)]
  exact h.2.2.2 i hi
theorem copyY_ok {f : YdS} {Y : Yd} (hY : VY Y) (h : CY f Y) (y : YdS) : ∃ y', yd_copyFrom y f = some y' ∧ CY y' Y := by
  obtain ⟨o', a1, a2⟩ := oc_copy_ok h.2.2 (yO y)
  have a1' : oc_copyFrom y.2.2.2.2.2.2.2.2 f.2.2.2.2.2.2.2.2 = some o' := a1
  refine ⟨_, by rw [yd_copyFrom, a1']; rfl, CB_cpy hY.2.1 h.1 y _ o' _, ⟨h.2.1.1, fun k hk => ?_⟩, a2⟩
  show cpy 64 f.2.2.2.2.2.2.2.1 y.2.2.2.2.2.2.2.1 k = _
  have := mvs_len Y
  rw [cpy_at2 (by omega), if_pos (by omega)]
  exact h.2.1.2 k hk
theorem CB_add {y : YdS} {Y : Yd} (h : CB y Y) (hM : yM Y < 4) (hT : 1 ≤ yT Y) (hT3 : yT Y ≤ 3) {c n : Nat} : ∃ y', yd_addSiding y (iN c) (iN n) = some y' ∧ CB y' (addS Y c n) ∧ yO y' = yO y := by
  have hin : inb (iN (yM Y)) 4 := by rw [iN_inb (by omega)]; exact hM
  refine ⟨((iN (yM Y) + 1), y.2.1, y.2.2.1, y.2.2.2.1, (wr y.2.2.2.2.1 (iN (yM Y)) (iN c)), (wr y.2.2.2.2.2.1 (iN (yM Y)) (iN n)), (wr y.2.2.2.2.2.2.1 (iN (yM Y)) (iN (yT Y) - 1)), y.2.2.2.2.2.2.2.1, y.2.2.2.2.2.2.2.2), ?_, ⟨?_, h.2.1, h.2.2.1, fun i hi => ?_⟩, rfl⟩
  · rw [yd_addSiding, h.1, h.2.1, if_neg (iN_nneg (by omega)), zl_4, jlt (by omega) (by omega), if_pos hM, if_pos ⟨hin, hin, hin⟩]
  · show iN (yM Y) + 1 = iN (yM Y + 1)
    rw [zl_1, iN_add]
  · have hi : i < yM Y + 1 := hi
    show wr y.2.2.2.2.1 (iN (yM Y)) (iN c) i = iN (if i = yM Y then c else yL Y i) ∧ wr y.2.2.2.2.2.1 (iN (yM Y)) (iN n) i = iN (if i = yM Y then n else yN Y i) ∧ wr y.2.2.2.2.2.2.1 (iN (yM Y)) (iN (yT Y) - 1) i = iN (if i = yM Y then yT Y - 1 else yS Y i)
    rw [wr_iN (by omega), wr_iN (by omega), wr_iN (by omega), zl_1, iN_sub hT]
    by_cases e : i = yM Y
    · simp only [if_pos e]; exact ⟨trivial, trivial, trivial⟩
    · simp only [if_neg e]; exact h.2.2.2 i (by omega)
theorem layOut_L6 {d : PdS} {p : List Nat} (hp : CP d p) (hl : p.length ≤ 16) (hb : ∀ c ∈ p, 33 ≤ c ∧ c ≤ 126) : ∀ (k i f s a : Nat) (on : Bool) (y : YdS) (Y : Yd), k < f → i + k = p.length → PV Y → CB y Y → yT Y = a + 1 → ftF (p.drop i) i s (yM Y) a on = none → ∃ y', pd_layOut_L6 f d y (iN i) = some y' ∧ CB y' (pY (p.drop i) Y) ∧ yO y' = yO y := by
  intro k
  induction k with
  | zero =>
    intro i f s a on y Y hf hi hV h hT hft
    obtain ⟨f, rfl⟩ : ∃ g, f = g + 1 := ⟨f - 1, by omega⟩
    rw [List.drop_eq_nil_of_le (by omega)]
    refine ⟨y, ?_, h, rfl⟩
    rw [pd_layOut_L6, hp.1, jlt (by omega) (by omega), if_neg (by omega)]
  | succ k ih =>
    intro i f s a on y Y hf hi hV h hT hft
    obtain ⟨f, rfl⟩ : ∃ g, f = g + 1 := ⟨f - 1, by omega⟩
    have hm : p.getD i 0 ∈ p := by
      rw [List.getD_eq_getElem?_getD, List.getElem?_eq_getElem (by omega)]
      exact List.getElem_mem (show i < p.length by omega)
    have hb2 := hb _ hm
    have hsg := signAt_ok hp hl (show i < 100 by omega)
    generalize hc : p.getD i 0 = c at *
    have hdr : p.drop i = c :: p.drop (i + 1) := by rw [drop_cons (show i < p.length by omega), hc]
    rw [hdr, ftF] at hft
    rw [hdr, pY]
    have hM := hV.1
    have hT1 := hV.2.1
    have hT3 := hV.2.2.1
    have e1 : iN i + (1 : Int32) = iN (i + 1) := by rw [zl_1, iN_add]
    rw [pd_layOut_L6, hp.1, jlt (by omega) (by omega), if_pos (by omega), hsg, e1]
    simp only [Option.bind_some]
    rw [zl_59, jeq (by omega) (by omega), zl_45, jeq (by omega) (by omega), isLetter_C (by omega)]
    simp only [Option.bind_some]
    by_cases x1 : s = 2
    · rw [if_pos x1] at hft
      have x2 : 49 ≤ c ∧ c ≤ 53 := by
        by_cases x2 : 49 ≤ c ∧ c ≤ 53
        · exact x2
        · rw [if_neg x2] at hft; cases hft
      rw [if_pos x2] at hft
      have hlt : ltr c = false := by unfold ltr; rw [decide_eq_false_iff_not]; omega
      rw [if_neg (by omega), if_neg (by omega), hlt, if_pos bF, if_neg (by omega), if_neg (by omega), if_neg (by decide)]
      exact ih (i + 1) f 1 a on y Y (by omega) (by omega) hV h hT hft
    · rw [if_neg x1] at hft
      by_cases x2 : ltr c = true ∧ yM Y < 4
      · rw [if_pos x2] at hft
        have hcl := ltr_or x2.1
        rw [if_neg (by omega), if_neg (by omega), x2.1, if_neg bT, if_neg (by omega), if_neg (by omega), if_pos rfl, signAt_ok hp hl (show i + 1 < 100 by omega)]
        simp only [Option.bind_some]
        have hnext : ∃ g, p.drop (i + 1) = g :: p.drop (i + 2) ∧ 49 ≤ g ∧ g ≤ 53 ∧ p.getD (i + 1) 0 = g := by
          rcases Nat.lt_or_ge (i + 1) p.length with h8 | h8
          · refine ⟨p.getD (i + 1) 0, drop_cons h8, ?_⟩
            rw [drop_cons h8, ftF, if_pos rfl] at hft
            by_cases x3 : 49 ≤ p.getD (i + 1) 0 ∧ p.getD (i + 1) 0 ≤ 53
            · exact ⟨x3.1, x3.2, rfl⟩
            · rw [if_neg x3] at hft; cases hft
          · rw [List.drop_eq_nil_of_le (by omega), ftF, if_neg (by omega)] at hft
            cases hft
        obtain ⟨g, g1, g2, g3, g4⟩ := hnext
        have hhd : (p.drop (i + 1)).headD 0 = g := by rw [g1]; rfl
        rw [hhd, g4, zl_48, iN_sub (by omega)]
        obtain ⟨y1, a1, a2, a3⟩ := CB_add h x2.2 hT1 hT3 (c := c) (n := g - 48)
        rw [a1]
        simp only [Option.bind_some]
        obtain ⟨y2, b1, b2, b3⟩ := ih (i + 1) f 2 a on y1 (addS Y c (g - 48)) (by omega) (by omega) (PV_add hV x2.2 x2.1 (by omega) (by omega)) a2 hT hft
        exact ⟨y2, b1, b2, by rw [b3, a3]⟩
      · rw [if_neg x2] at hft
        by_cases x3 : c = 45 ∧ on = false
        · rw [if_pos x3] at hft
          rw [if_neg (by omega), if_pos x3.1, if_neg (by omega), if_pos x3.1, yd_addDash]
          simp only [Option.bind_some]
          refine ih (i + 1) f 1 a true _ _ (by omega) (by omega) ⟨hV.1, hV.2.1, hV.2.2.1, hV.2.2.2.1, hV.2.2.2.2.1, fun k hk => by
              have hk : yT Y ≤ k := hk
              show (if k = yT Y - 1 then true else yD Y k) = false
              rw [if_neg (by omega)]; exact hV.2.2.2.2.2 k hk⟩ ⟨h.1, h.2.1, ?_, h.2.2.2⟩ hT hft
          obtain ⟨D, d1, d2, d3⟩ := h.2.2.1
          refine ⟨D ||| 2 ^ (yT Y - 1), ?_, ?_, fun k hk => ?_⟩
          · refine Nat.or_lt_two_pow (n := 3) d1 ?_
            have : 2 ^ (yT Y - 1) ≤ 2 ^ 2 := Nat.pow_le_pow_right (by omega) (by omega)
            omega
          · show y.2.2.2.1 ||| ((1 : Int32) <<< ((y.2.1 - 1) &&& 31)) = _
            rw [d2, h.2.1, zl_1, iN_sub hT1, iN_shl (by omega), Nat.one_mul, iN_or]
          · show _ = if k = yT Y - 1 then true else yD Y k
            rw [Nat.testBit_or, Nat.testBit_two_pow, d3 k hk]
            by_cases e : k = yT Y - 1
            · rw [if_pos e, decide_eq_true e.symm, Bool.or_true]
            · rw [if_neg e, decide_eq_false (fun h9 => e h9.symm), Bool.or_false]
        · rw [if_neg x3] at hft
          by_cases x4 : c = 59 ∧ s = 1 ∧ a < 2
          · rw [if_pos x4] at hft
            rw [if_pos x4.1, if_pos x4.1]
            refine ih (i + 1) f 0 (a + 1) false _ _ (by omega) (by omega) ⟨hV.1, by show 1 ≤ yT Y + 1; omega, by show yT Y + 1 ≤ 3; omega, fun j hj => by
                have := hV.2.2.2.1 j hj
                refine ⟨this.1, this.2.1, this.2.2.1, ?_⟩
                show yS Y j < yT Y + 1
                omega, hV.2.2.2.2.1, fun k hk => by
                have hk : yT Y + 1 ≤ k := hk
                exact hV.2.2.2.2.2 k (by omega)⟩ ⟨h.1, by show y.2.1 + 1 = iN (yT Y + 1); rw [h.2.1, zl_1, iN_add], h.2.2.1, h.2.2.2⟩ (by show yT Y + 1 = a + 1 + 1; omega) hft
          · rw [if_neg x4] at hft; cases hft
theorem layOut_ok {d : PdS} {p : List Nat} (hp : CP d p) (hl : p.length ≤ 16) (hb : ∀ c ∈ p, 33 ≤ c ∧ c ≤ 126) (hft : ftA p = none) (hY : VY (pY p y0)) (y : YdS) : ∃ y', pd_layOut d y = some y' ∧ CY y' (pY p y0) := by
  obtain ⟨o, a1, a2⟩ := oc_forget_ok (yO y) (pY p y0)
  have a1' : oc_forget y.2.2.2.2.2.2.2.2 = some o := a1
  obtain ⟨y1, b1, b2, b3⟩ := layOut_L6 hp hl hb p.length 0 N0 0 0 false (0, 1, 0, 0, y.2.2.2.2.1, y.2.2.2.2.2.1, y.2.2.2.2.2.2.1, y.2.2.2.2.2.2.2.1, o) y0 (by rw [N0_eq]; omega) (by omega) ⟨by decide, by decide, by decide, fun i hi => by have hi : i < 0 := hi; omega, fun i j hij hj => by have hj : j < 0 := hj; omega, fun k _ => rfl⟩ ⟨rfl, rfl, ⟨0, by omega, rfl, fun k _ => by rw [Nat.zero_testBit]; rfl⟩, fun i hi => by have hi : i < 0 := hi; omega⟩ rfl (by rw [List.drop_zero]; exact hft)
  rw [List.drop_zero] at b2
  rw [z00] at b1
  obtain ⟨y2, c1, c2, c3, c4⟩ := listMoves_ok hY b2
  refine ⟨y2, ?_, c2, c3, by rw [c4, b3]; exact a2⟩
  rw [pd_layOut, yd_clear, a1']
  simp only [Option.bind_some]
  rw [b1]
  simp only [Option.bind_some]
  rw [c1]
  rfl
