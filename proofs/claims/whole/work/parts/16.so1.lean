/-! C: pl_put -/
def pl_put (p : PlS) (x1 : Int32) (x2 : Int32) (x3 : Int32) : Option (PlS) :=
  if x1 < 0 then
    some p
  else
    if x1 < 6 then
      if x2 = 0 then
        some p
      else
        if x3 = 0 then
          if inb x1 6 then
            if inb x1 6 ∧ inb x1 6 ∧ inb x1 6 then
              some ((wr p.1 x1 (((rd p.1 x1) <<< (3 &&& 31)) ||| x2)), (wr p.2 x1 ((rd p.2 x1) + 1)))
            else none
          else none
        else
          if inb x1 6 ∧ inb x1 6 then
            if inb x1 6 ∧ inb x1 6 ∧ inb x1 6 then
              some ((wr p.1 x1 ((rd p.1 x1) ||| (x2 <<< (((3 : Int32) * (rd p.2 x1)) &&& 31)))), (wr p.2 x1 ((rd p.2 x1) + 1)))
            else none
          else none
    else
      some p
set_option maxRecDepth 100000 in
set_option maxHeartbeats 1000000 in
theorem t_pl_put {X : CTX} {K : Option Value → AH → Prop} (C : CX X cX4_put yX4_put.cls (decide (yX4_put.name = "<init>")) 0 0) (hq : RQ X none K) (p : PlS) (x1 : Int32) (x2 : Int32) (x3 : Int32) (out : PlS) (hm : pl_put p x1 x2 x3 = some out) (hp : K none (hPl 0 out)) : MW X (0, [some (.ref 0), some (.int x1), some (.int x2), some (.int x3)], [], (hPl 0 p), 0, 0) := by
  unfold pl_put at hm
  refine MW_run C okX4_put 0 1 (gs := []) (cf' := (1, [some (.ref 0), some (.int x1), some (.int x2), some (.int x3)], [.int x1], (hPl 0 p), 0, 0)) rfl trivial ?_
  obtain ⟨hmt1, hmf1⟩ := of_if hm
  refine MW_brT C okX4_put 1 rfl rfl (fun hb1 => ?_) (fun hb1 => ?_)
  · have hm := hmt1 hb1
    obtain rfl := Option.some.inj hm
    exact MW_vret C okX4_put hq 7 rfl hp
  · have hm := hmf1 hb1
    refine MW_run C okX4_put 2 2 (gs := []) (cf' := (7, [some (.ref 0), some (.int x1), some (.int x2), some (.int x3)], [.int 6, .int x1], (hPl 0 p), 0, 0)) rfl trivial ?_
    obtain ⟨hmt7, hmf7⟩ := of_if hm
    refine MW_brF C okX4_put 4 rfl rfl (fun hb7 => ?_) (fun hb7 => ?_)
    · have hm := hmt7 hb7
      refine MW_run C okX4_put 5 1 (gs := []) (cf' := (11, [some (.ref 0), some (.int x1), some (.int x2), some (.int x3)], [.int x2], (hPl 0 p), 0, 0)) rfl trivial ?_
      obtain ⟨hmt11, hmf11⟩ := of_if hm
      refine MW_brF C okX4_put 6 rfl rfl (fun hb11 => ?_) (fun hb11 => ?_)
      · have hm := hmt11 hb11
        obtain rfl := Option.some.inj hm
        exact MW_vret C okX4_put hq 7 rfl hp
      · have hm := hmf11 hb11
        refine MW_run C okX4_put 8 4 (gs := []) (cf' := (21, [some (.ref 0), some (.int x1), some (.int x2), some (.int x3)], [.int x3, .int x1, .ref 1], (hPl 0 p), 0, 0)) rfl trivial ?_
        obtain ⟨hmt21, hmf21⟩ := of_if hm
        refine MW_brT C okX4_put 12 rfl rfl (fun hb21 => ?_) (fun hb21 => ?_)
        · have hm := hmt21 hb21
          obtain ⟨hg54, hm⟩ := of_guard hm
          refine MW_run C okX4_put 27 8 (gs := [inb x1 6]) (cf' := (54, [some (.ref 0), some (.int x1), some (.int x2), some (.int x3)], [.int (((rd p.1 x1) <<< (3 &&& 31)) ||| x2), .int x1, .ref 1], (hPl 0 p), 0, 0)) rfl hg54 ?_
          obtain ⟨hg65, hm⟩ := of_guard hm
          refine MW_run C okX4_put 35 9 (gs := [inb x1 6, inb x1 6, inb x1 6]) (cf' := (65, [some (.ref 0), some (.int x1), some (.int x2), some (.int x3)], [], (hPl 0 ((wr p.1 x1 (((rd p.1 x1) <<< (3 &&& 31)) ||| x2)), (wr p.2 x1 ((rd p.2 x1) + 1)))), 0, 0)) rfl ⟨hg65.1, hg65.2.1, hg65.2.2⟩ ?_
          obtain rfl := Option.some.inj hm
          exact MW_vret C okX4_put hq 44 rfl hp
        · have hm := hmf21 hb21
          obtain ⟨hg54, hm⟩ := of_guard hm
          refine MW_run C okX4_put 13 14 (gs := [inb x1 6, inb x1 6]) (cf' := (54, [some (.ref 0), some (.int x1), some (.int x2), some (.int x3)], [.int ((rd p.1 x1) ||| (x2 <<< (((3 : Int32) * (rd p.2 x1)) &&& 31))), .int x1, .ref 1], (hPl 0 p), 0, 0)) rfl ⟨hg54.1, hg54.2⟩ ?_
          obtain ⟨hg65, hm⟩ := of_guard hm
          refine MW_run C okX4_put 35 9 (gs := [inb x1 6, inb x1 6, inb x1 6]) (cf' := (65, [some (.ref 0), some (.int x1), some (.int x2), some (.int x3)], [], (hPl 0 ((wr p.1 x1 ((rd p.1 x1) ||| (x2 <<< (((3 : Int32) * (rd p.2 x1)) &&& 31)))), (wr p.2 x1 ((rd p.2 x1) + 1)))), 0, 0)) rfl ⟨hg65.1, hg65.2.1, hg65.2.2⟩ ?_
          obtain rfl := Option.some.inj hm
          exact MW_vret C okX4_put hq 44 rfl hp
    · have hm := hmf7 hb7
      obtain rfl := Option.some.inj hm
      exact MW_vret C okX4_put hq 7 rfl hp
theorem c_pl_put (p : PlS) (x1 : Int32) (x2 : Int32) (x3 : Int32) (out : PlS) (hm : pl_put p x1 x2 x3 = some out) : CT yX4_put cX4_put 4 none 0 0 0 0 [.ref 0, .int x1, .int x2, .int x3] (hPl 0 p) (fun v h => v = none ∧ h = (hPl 0 out)) :=
  CT_of (by decide +kernel) (vs0 := [some (.ref 0), some (.int x1), some (.int x2), some (.int x3)]) rfl rfl (fun X C hq => t_pl_put C hq p x1 x2 x3 out hm ⟨rfl, rfl⟩)
/-! C: pl_shift -/
def pl_shift (p : PlS) (x1 : Int32) : Option (PlS) :=
  (pl_isFarTake x1).bind fun q15 =>
    (pl_take p (x1 / 1000) q15).bind fun q18 =>
      (pl_isFarPut x1).bind fun q22 =>
        (pl_put q18.2 (irm (x1 / 10) 10) q18.1 q22).bind fun q25 =>
          some q25
set_option maxRecDepth 100000 in
set_option maxHeartbeats 1000000 in
theorem t_pl_shift {X : CTX} {K : Option Value → AH → Prop} (C : CX X cX4_shift yX4_shift.cls (decide (yX4_shift.name = "<init>")) 1 24) (hq : RQ X none K) (p : PlS) (x1 : Int32) (out : PlS) (hm : pl_shift p x1 = some out) (hp : K none (hPl 0 out)) : MW X (0, [some (.ref 0), some (.int x1)], [], (hPl 0 p), 0, 0) := by
  unfold pl_shift at hm
  refine MW_run C okX4_shift 0 11 (gs := [¬ (10 : Int32) = 0, ¬ (10 : Int32) = 0, ¬ (1000 : Int32) = 0]) (cf' := (15, [some (.ref 0), some (.int x1)], [.int x1, .int (x1 / 1000), .ref 0, .int (irm (x1 / 10) 10), .ref 0], (hPl 0 p), 0, 0)) rfl ⟨(show ¬ (10 : Int32) = 0 by decide), (show ¬ (10 : Int32) = 0 by decide), (show ¬ (1000 : Int32) = 0 by decide)⟩ ?_
  obtain ⟨q15, hc15, hm⟩ := of_bind hm
  refine MW_callS0 C okX4_shift 11 rfl (v0 := some (.int q15)) (c_pl_isFarTake x1 q15 hc15) lkX4_34 1 dpX4_isFarTake (by decide) (rest := [.int (x1 / 1000), .ref 0, .int (irm (x1 / 10) 10), .ref 0]) rfl rfl rfl rfl rfl ?_
  obtain ⟨q18, hc18, hm⟩ := of_bind hm
  refine MW_callV0 C okX4_shift 12 rfl (v0 := some (.int q18.1)) (h0 := (hPl 0 q18.2)) (c_pl_take p (x1 / 1000) q15 q18 hc18) lkX4_44 2 dpX4_take (by decide) (rest := [.int (irm (x1 / 10) 10), .ref 0]) rfl rfl rfl rfl rfl rfl rfl rfl ?_
  refine MW_run C okX4_shift 13 1 (gs := []) (cf' := (22, [some (.ref 0), some (.int x1)], [.int x1, .int q18.1, .int (irm (x1 / 10) 10), .ref 0], (hPl 0 q18.2), 0, 0)) rfl trivial ?_
  obtain ⟨q22, hc22, hm⟩ := of_bind hm
  refine MW_callS0 C okX4_shift 14 rfl (v0 := some (.int q22)) (c_pl_isFarPut x1 q22 hc22) lkX4_48 1 dpX4_isFarPut (by decide) (rest := [.int q18.1, .int (irm (x1 / 10) 10), .ref 0]) rfl rfl rfl rfl rfl ?_
  obtain ⟨q25, hc25, hm⟩ := of_bind hm
  refine MW_callV0 C okX4_shift 15 rfl (v0 := none) (h0 := (hPl 0 q25)) (c_pl_put q18.2 (irm (x1 / 10) 10) q18.1 q22 q25 hc25) lkX4_51 3 dpX4_put (by decide) (rest := []) rfl rfl rfl rfl rfl rfl rfl rfl ?_
  obtain rfl := Option.some.inj hm
  exact MW_vret C okX4_shift hq 16 rfl hp
theorem c_pl_shift (p : PlS) (x1 : Int32) (out : PlS) (hm : pl_shift p x1 = some out) : CT yX4_shift cX4_shift 2 none 1 24 0 0 [.ref 0, .int x1] (hPl 0 p) (fun v h => v = none ∧ h = (hPl 0 out)) :=
  CT_of (by decide +kernel) (vs0 := [some (.ref 0), some (.int x1)]) rfl rfl (fun X C hq => t_pl_shift C hq p x1 out hm ⟨rfl, rfl⟩)
/-! C: pl_unshift -/
def pl_unshift (p : PlS) (x1 : Int32) : Option (PlS) :=
  (pl_isFarPut x1).bind fun q15 =>
    (pl_take p (irm (x1 / 10) 10) q15).bind fun q18 =>
      (pl_isFarTake x1).bind fun q22 =>
        (pl_put q18.2 (x1 / 1000) q18.1 q22).bind fun q25 =>
          some q25
set_option maxRecDepth 100000 in
set_option maxHeartbeats 1000000 in
theorem t_pl_unshift {X : CTX} {K : Option Value → AH → Prop} (C : CX X cX4_unshift yX4_unshift.cls (decide (yX4_unshift.name = "<init>")) 1 24) (hq : RQ X none K) (p : PlS) (x1 : Int32) (out : PlS) (hm : pl_unshift p x1 = some out) (hp : K none (hPl 0 out)) : MW X (0, [some (.ref 0), some (.int x1)], [], (hPl 0 p), 0, 0) := by
  unfold pl_unshift at hm
  refine MW_run C okX4_unshift 0 11 (gs := [¬ (1000 : Int32) = 0, ¬ (10 : Int32) = 0, ¬ (10 : Int32) = 0]) (cf' := (15, [some (.ref 0), some (.int x1)], [.int x1, .int (irm (x1 / 10) 10), .ref 0, .int (x1 / 1000), .ref 0], (hPl 0 p), 0, 0)) rfl ⟨(show ¬ (1000 : Int32) = 0 by decide), (show ¬ (10 : Int32) = 0 by decide), (show ¬ (10 : Int32) = 0 by decide)⟩ ?_
  obtain ⟨q15, hc15, hm⟩ := of_bind hm
  refine MW_callS0 C okX4_unshift 11 rfl (v0 := some (.int q15)) (c_pl_isFarPut x1 q15 hc15) lkX4_48 1 dpX4_isFarPut (by decide) (rest := [.int (irm (x1 / 10) 10), .ref 0, .int (x1 / 1000), .ref 0]) rfl rfl rfl rfl rfl ?_
  obtain ⟨q18, hc18, hm⟩ := of_bind hm
  refine MW_callV0 C okX4_unshift 12 rfl (v0 := some (.int q18.1)) (h0 := (hPl 0 q18.2)) (c_pl_take p (irm (x1 / 10) 10) q15 q18 hc18) lkX4_44 2 dpX4_take (by decide) (rest := [.int (x1 / 1000), .ref 0]) rfl rfl rfl rfl rfl rfl rfl rfl ?_
  refine MW_run C okX4_unshift 13 1 (gs := []) (cf' := (22, [some (.ref 0), some (.int x1)], [.int x1, .int q18.1, .int (x1 / 1000), .ref 0], (hPl 0 q18.2), 0, 0)) rfl trivial ?_
  obtain ⟨q22, hc22, hm⟩ := of_bind hm
  refine MW_callS0 C okX4_unshift 14 rfl (v0 := some (.int q22)) (c_pl_isFarTake x1 q22 hc22) lkX4_34 1 dpX4_isFarTake (by decide) (rest := [.int q18.1, .int (x1 / 1000), .ref 0]) rfl rfl rfl rfl rfl ?_
  obtain ⟨q25, hc25, hm⟩ := of_bind hm
  refine MW_callV0 C okX4_unshift 15 rfl (v0 := none) (h0 := (hPl 0 q25)) (c_pl_put q18.2 (x1 / 1000) q18.1 q22 q25 hc25) lkX4_51 3 dpX4_put (by decide) (rest := []) rfl rfl rfl rfl rfl rfl rfl rfl ?_
  obtain rfl := Option.some.inj hm
  exact MW_vret C okX4_unshift hq 16 rfl hp
theorem c_pl_unshift (p : PlS) (x1 : Int32) (out : PlS) (hm : pl_unshift p x1 = some out) : CT yX4_unshift cX4_unshift 2 none 1 24 0 0 [.ref 0, .int x1] (hPl 0 p) (fun v h => v = none ∧ h = (hPl 0 out)) :=
  CT_of (by decide +kernel) (vs0 := [some (.ref 0), some (.int x1)]) rfl rfl (fun X C hq => t_pl_unshift C hq p x1 out hm ⟨rfl, rfl⟩)
/-! C: se_remaining -/
def se_remaining_L87 (rec : SeS → YdS → Int32 → Option (Int32 × SeS)) : Nat → SeS → YdS → Int32 → Int32 → Int32 → Int32 → Option (SeS × Int32)
  | 0, _, _, _, _, _, _ => none
  | n + 1, s, y, x1, x2, x4, x5 =>
    if x5 < y.2.2.1 then
      (yd_moveAt y x5).bind fun q105 =>
        (se_fits s y q105).bind fun q113 =>
          if q113 = 0 then
            se_remaining_L87 rec n s y x1 x2 x4 (x5 + 1)
          else
            (pl_shift s.2.1 q105).bind fun q125 =>
              (rec (s.1, q125, s.2.2.1, s.2.2.2.1, s.2.2.2.2) y (x1 + 1)).bind fun q132 =>
                (pl_unshift q132.2.2.1 q105).bind fun q143 =>
                  if q132.1 < 0 then
                    se_remaining_L87 rec n (q132.2.1, q143, q132.2.2.2.1, q132.2.2.2.2.1, q132.2.2.2.2.2) y x1 x2 x4 (x5 + 1)
                  else
                    if x4 < 0 then
                      se_remaining_L87 rec n (q132.2.1, q143, q132.2.2.2.1, q132.2.2.2.2.1, q132.2.2.2.2.2) y x1 x2 (q132.1 + 1) (x5 + 1)
                    else
                      if (q132.1 + 1) < x4 then
                        se_remaining_L87 rec n (q132.2.1, q143, q132.2.2.2.1, q132.2.2.2.2.1, q132.2.2.2.2.2) y x1 x2 (q132.1 + 1) (x5 + 1)
                      else
                        se_remaining_L87 rec n (q132.2.1, q143, q132.2.2.2.1, q132.2.2.2.2.1, q132.2.2.2.2.2) y x1 x2 x4 (x5 + 1)
    else
      some (s, x4)
set_option maxRecDepth 100000 in
set_option maxHeartbeats 1000000 in
theorem l_se_remaining_87 {X : CTX} {K : Option Value → AH → Prop} {fr lo fr2 lo2 : Nat} (hF : 3 ≤ fr) (hL : 65 ≤ lo) (hF2 : fr2 + 1 ≤ fr) (hL2 : 27 + lo2 ≤ lo) (C : CX X cX7_remaining yX7_remaining.cls (decide (yX7_remaining.name = "<init>")) fr lo) (hq : RQ X (some .int) K) {rec : SeS → YdS → Int32 → Option (Int32 × SeS)} (hrec : ∀ (s : SeS) (y : YdS) (x1 : Int32) (out : Int32 × SeS), rec s y x1 = some out → CT yX7_remaining cX7_remaining 8 (some .int) fr2 lo2 0 0 [.ref 0, .int x1] (hSe 0 5 s ++ (hYd 5 y)) (fun v h => v = (some (.int out.1)) ∧ h = (hSe 0 5 out.2 ++ (hYd 5 y)))) : ∀ (n : Nat) (s : SeS) (y : YdS) (x1 : Int32) (x2 : Int32) (x4 : Int32) (x5 : Int32) (out : SeS × Int32) (hm : se_remaining_L87 rec n s y x1 x2 x4 x5 = some out) (hp : MW X (177, [some (.ref 0), none, some (.int x2), none, some (.int out.2), none, none, none], [], (hSe 0 5 out.1 ++ (hYd 5 y)), 0, 0)), MW X (87, [some (.ref 0), some (.int x1), some (.int x2), none, some (.int x4), some (.int x5), none, none], [], (hSe 0 5 s ++ (hYd 5 y)), 0, 0) := by
  intro n
  induction n with
  | zero => intro s y x1 x2 x4 x5 out hm hp; rw [se_remaining_L87] at hm; cases hm
  | succ n ih =>
    intro s y x1 x2 x4 x5 out hm hp
    rw [se_remaining_L87] at hm
    refine MW_run C okX7_remaining 49 4 (gs := []) (cf' := (96, [some (.ref 0), some (.int x1), some (.int x2), none, some (.int x4), some (.int x5), none, none], [.int y.2.2.1, .int x5], (hSe 0 5 s ++ (hYd 5 y)), 0, 0)) rfl trivial ?_
    obtain ⟨hmt96, hmf96⟩ := of_if hm
    refine MW_brF C okX7_remaining 53 rfl rfl (fun hb96 => ?_) (fun hb96 => ?_)
    · have hm := hmt96 hb96
      refine MW_run C okX7_remaining 54 3 (gs := []) (cf' := (105, [some (.ref 0), some (.int x1), some (.int x2), none, some (.int x4), some (.int x5), none, none], [.int x5, .ref 5], (hSe 0 5 s ++ (hYd 5 y)), 0, 0)) rfl trivial ?_
      obtain ⟨q105, hc105, hm⟩ := of_bind hm
      refine MW_callV1 C okX7_remaining 57 rfl [5, 6, 7, 8, 9, 10, 11, 12] (v0 := some (.int q105)) (h0 := (hYd 0 y)) (c_yd_moveAt y x5 q105 hc105) lkX7_84 1 dpX10_moveAt (by simp only [Nat.ble_eq, Bool.and_eq_true]; omega) (rest := []) rfl rfl rfl rfl rfl rfl rfl rfl rfl rfl rfl (st2 := [.int q105]) (h2 := (hSe 0 5 s ++ (hYd 5 y))) rfl rfl ?_
      refine MW_run C okX7_remaining 58 3 (gs := []) (cf' := (113, [some (.ref 0), some (.int x1), some (.int x2), none, some (.int x4), some (.int x5), some (.int q105), none], [.int q105, .ref 0], (hSe 0 5 s ++ (hYd 5 y)), 0, 0)) rfl trivial ?_
      obtain ⟨q113, hc113, hm⟩ := of_bind hm
      refine MW_callV0 C okX7_remaining 61 rfl (v0 := some (.int q113)) (h0 := (hSe 0 5 s ++ (hYd 5 y))) (c_se_fits s y q105 q113 hc113) lkX7_87 1 dpX7_fits (by simp only [Nat.ble_eq, Bool.and_eq_true]; omega) (rest := []) rfl rfl rfl rfl rfl rfl rfl rfl ?_
      obtain ⟨hmt116, hmf116⟩ := of_if hm
      refine MW_brT C okX7_remaining 62 rfl rfl (fun hb116 => ?_) (fun hb116 => ?_)
      · have hm := hmt116 hb116
        refine MW_run C okX7_remaining 90 2 (gs := []) (cf' := (87, [some (.ref 0), some (.int x1), some (.int x2), none, some (.int x4), some (.int (x5 + 1)), some (.int q105), none], [], (hSe 0 5 s ++ (hYd 5 y)), 0, 0)) rfl trivial ?_
        refine MW_pick [true, true, true, true, true, true, false, true] rfl (vs' := [some (.ref 0), some (.int x1), some (.int x2), none, some (.int x4), some (.int (x5 + 1)), none, none]) rfl ?_
        exact ih s y x1 x2 x4 (x5 + 1) _ hm hp
      · have hm := hmf116 hb116
        refine MW_run C okX7_remaining 63 3 (gs := []) (cf' := (125, [some (.ref 0), some (.int x1), some (.int x2), none, some (.int x4), some (.int x5), some (.int q105), none], [.int q105, .ref 2], (hSe 0 5 s ++ (hYd 5 y)), 0, 0)) rfl trivial ?_
        obtain ⟨q125, hc125, hm⟩ := of_bind hm
        refine MW_callV1 C okX7_remaining 66 rfl [2, 3, 4] (v0 := none) (h0 := (hPl 0 q125)) (c_pl_shift s.2.1 q105 q125 hc125) lkX7_58 1 dpX4_shift (by simp only [Nat.ble_eq, Bool.and_eq_true]; omega) (rest := []) rfl rfl rfl rfl rfl rfl rfl rfl rfl rfl rfl (st2 := []) (h2 := (hSe 0 5 (s.1, q125, s.2.2.1, s.2.2.2.1, s.2.2.2.2) ++ (hYd 5 y))) rfl rfl ?_
        refine MW_run C okX7_remaining 67 4 (gs := []) (cf' := (132, [some (.ref 0), some (.int x1), some (.int x2), none, some (.int x4), some (.int x5), some (.int q105), none], [.int (x1 + 1), .ref 0], (hSe 0 5 (s.1, q125, s.2.2.1, s.2.2.2.1, s.2.2.2.2) ++ (hYd 5 y)), 0, 0)) rfl trivial ?_
        obtain ⟨q132, hc132, hm⟩ := of_bind hm
        refine MW_callS1 C okX7_remaining 71 rfl [0, 1, 2, 3, 4, 5, 6, 7, 8, 9, 10, 11, 12] (v0 := some (.int q132.1)) (h0 := (hSe 0 5 q132.2 ++ (hYd 5 y))) (hrec (s.1, q125, s.2.2.1, s.2.2.2.1, s.2.2.2.2) y (x1 + 1) q132 hc132) lkX7_46 2 dpX7_remaining (by simp only [Nat.ble_eq, Bool.and_eq_true]; omega) (rest := []) rfl rfl rfl rfl rfl rfl rfl (st2 := [.int q132.1]) (h2 := (hSe 0 5 q132.2 ++ (hYd 5 y))) rfl rfl ?_
        refine MW_run C okX7_remaining 72 4 (gs := []) (cf' := (143, [some (.ref 0), some (.int x1), some (.int x2), none, some (.int x4), some (.int x5), some (.int q105), some (.int q132.1)], [.int q105, .ref 2], (hSe 0 5 q132.2 ++ (hYd 5 y)), 0, 0)) rfl trivial ?_
        obtain ⟨q143, hc143, hm⟩ := of_bind hm
        refine MW_callV1 C okX7_remaining 76 rfl [2, 3, 4] (v0 := none) (h0 := (hPl 0 q143)) (c_pl_unshift q132.2.2.1 q105 q143 hc143) lkX7_91 1 dpX4_unshift (by simp only [Nat.ble_eq, Bool.and_eq_true]; omega) (rest := []) rfl rfl rfl rfl rfl rfl rfl rfl rfl rfl rfl (st2 := []) (h2 := (hSe 0 5 (q132.2.1, q143, q132.2.2.2.1, q132.2.2.2.2.1, q132.2.2.2.2.2) ++ (hYd 5 y))) rfl rfl ?_
        refine MW_run C okX7_remaining 77 1 (gs := []) (cf' := (148, [some (.ref 0), some (.int x1), some (.int x2), none, some (.int x4), some (.int x5), some (.int q105), some (.int q132.1)], [.int q132.1], (hSe 0 5 (q132.2.1, q143, q132.2.2.2.1, q132.2.2.2.2.1, q132.2.2.2.2.2) ++ (hYd 5 y)), 0, 0)) rfl trivial ?_
        obtain ⟨hmt148, hmf148⟩ := of_if hm
        refine MW_brT C okX7_remaining 78 rfl rfl (fun hb148 => ?_) (fun hb148 => ?_)
        · have hm := hmt148 hb148
          refine MW_run C okX7_remaining 90 2 (gs := []) (cf' := (87, [some (.ref 0), some (.int x1), some (.int x2), none, some (.int x4), some (.int (x5 + 1)), some (.int q105), some (.int q132.1)], [], (hSe 0 5 (q132.2.1, q143, q132.2.2.2.1, q132.2.2.2.2.1, q132.2.2.2.2.2) ++ (hYd 5 y)), 0, 0)) rfl trivial ?_
          refine MW_pick [true, true, true, true, true, true, false, false] rfl (vs' := [some (.ref 0), some (.int x1), some (.int x2), none, some (.int x4), some (.int (x5 + 1)), none, none]) rfl ?_
          exact ih (q132.2.1, q143, q132.2.2.2.1, q132.2.2.2.2.1, q132.2.2.2.2.2) y x1 x2 x4 (x5 + 1) _ hm hp
        · have hm := hmf148 hb148
          refine MW_run C okX7_remaining 79 1 (gs := []) (cf' := (153, [some (.ref 0), some (.int x1), some (.int x2), none, some (.int x4), some (.int x5), some (.int q105), some (.int q132.1)], [.int x4], (hSe 0 5 (q132.2.1, q143, q132.2.2.2.1, q132.2.2.2.2.1, q132.2.2.2.2.2) ++ (hYd 5 y)), 0, 0)) rfl trivial ?_
          obtain ⟨hmt153, hmf153⟩ := of_if hm
          refine MW_brT C okX7_remaining 80 rfl rfl (fun hb153 => ?_) (fun hb153 => ?_)
          · have hm := hmt153 hb153
            refine MW_run C okX7_remaining 86 4 (gs := []) (cf' := (171, [some (.ref 0), some (.int x1), some (.int x2), none, some (.int (q132.1 + 1)), some (.int x5), some (.int q105), some (.int q132.1)], [], (hSe 0 5 (q132.2.1, q143, q132.2.2.2.1, q132.2.2.2.2.1, q132.2.2.2.2.2) ++ (hYd 5 y)), 0, 0)) rfl trivial ?_
            refine MW_run C okX7_remaining 90 2 (gs := []) (cf' := (87, [some (.ref 0), some (.int x1), some (.int x2), none, some (.int (q132.1 + 1)), some (.int (x5 + 1)), some (.int q105), some (.int q132.1)], [], (hSe 0 5 (q132.2.1, q143, q132.2.2.2.1, q132.2.2.2.2.1, q132.2.2.2.2.2) ++ (hYd 5 y)), 0, 0)) rfl trivial ?_
            refine MW_pick [true, true, true, true, true, true, false, false] rfl (vs' := [some (.ref 0), some (.int x1), some (.int x2), none, some (.int (q132.1 + 1)), some (.int (x5 + 1)), none, none]) rfl ?_
            exact ih (q132.2.1, q143, q132.2.2.2.1, q132.2.2.2.2.1, q132.2.2.2.2.2) y x1 x2 (q132.1 + 1) (x5 + 1) _ hm hp
          · have hm := hmf153 hb153
            refine MW_run C okX7_remaining 81 4 (gs := []) (cf' := (162, [some (.ref 0), some (.int x1), some (.int x2), none, some (.int x4), some (.int x5), some (.int q105), some (.int q132.1)], [.int x4, .int (q132.1 + 1)], (hSe 0 5 (q132.2.1, q143, q132.2.2.2.1, q132.2.2.2.2.1, q132.2.2.2.2.2) ++ (hYd 5 y)), 0, 0)) rfl trivial ?_
            obtain ⟨hmt162, hmf162⟩ := of_if hm
            refine MW_brF C okX7_remaining 85 rfl rfl (fun hb162 => ?_) (fun hb162 => ?_)
            · have hm := hmt162 hb162
              refine MW_run C okX7_remaining 86 4 (gs := []) (cf' := (171, [some (.ref 0), some (.int x1), some (.int x2), none, some (.int (q132.1 + 1)), some (.int x5), some (.int q105), some (.int q132.1)], [], (hSe 0 5 (q132.2.1, q143, q132.2.2.2.1, q132.2.2.2.2.1, q132.2.2.2.2.2) ++ (hYd 5 y)), 0, 0)) rfl trivial ?_
              refine MW_run C okX7_remaining 90 2 (gs := []) (cf' := (87, [some (.ref 0), some (.int x1), some (.int x2), none, some (.int (q132.1 + 1)), some (.int (x5 + 1)), some (.int q105), some (.int q132.1)], [], (hSe 0 5 (q132.2.1, q143, q132.2.2.2.1, q132.2.2.2.2.1, q132.2.2.2.2.2) ++ (hYd 5 y)), 0, 0)) rfl trivial ?_
              refine MW_pick [true, true, true, true, true, true, false, false] rfl (vs' := [some (.ref 0), some (.int x1), some (.int x2), none, some (.int (q132.1 + 1)), some (.int (x5 + 1)), none, none]) rfl ?_
              exact ih (q132.2.1, q143, q132.2.2.2.1, q132.2.2.2.2.1, q132.2.2.2.2.2) y x1 x2 (q132.1 + 1) (x5 + 1) _ hm hp
            · have hm := hmf162 hb162
              refine MW_run C okX7_remaining 90 2 (gs := []) (cf' := (87, [some (.ref 0), some (.int x1), some (.int x2), none, some (.int x4), some (.int (x5 + 1)), some (.int q105), some (.int q132.1)], [], (hSe 0 5 (q132.2.1, q143, q132.2.2.2.1, q132.2.2.2.2.1, q132.2.2.2.2.2) ++ (hYd 5 y)), 0, 0)) rfl trivial ?_
              refine MW_pick [true, true, true, true, true, true, false, false] rfl (vs' := [some (.ref 0), some (.int x1), some (.int x2), none, some (.int x4), some (.int (x5 + 1)), none, none]) rfl ?_
              exact ih (q132.2.1, q143, q132.2.2.2.1, q132.2.2.2.2.1, q132.2.2.2.2.2) y x1 x2 x4 (x5 + 1) _ hm hp
    · have hm := hmf96 hb96
      obtain rfl := Option.some.inj hm
      refine MW_pick [true, false, true, true, true, false, true, true] rfl (vs' := [some (.ref 0), none, some (.int x2), none, some (.int x4), none, none, none]) rfl ?_
      exact hp
def se_remaining_B (rec : SeS → YdS → Int32 → Option (Int32 × SeS)) (s : SeS) (y : YdS) (x1 : Int32) : Option (Int32 × SeS) :=
  (pl_index s.2.1 y.1).bind fun q11 =>
    if (20 : Int32) < x1 then
      some ((-1), s)
    else
      if q11 < 0 then
        some ((-1), s)
      else
        if q11 < 17046 then
          (se_isAstray s).bind fun q33 =>
            if q33 = 0 then
              (pl_countAt s.2.1 5).bind fun q46 =>
                if q46 = s.2.2.2.1 then
                  some (0, s)
                else
                  if inb q11 17046 then
                    if ((rd s.1 q11) - ((32 : Int32) * s.2.2.1)) < 0 then
                      (se_remaining_L87 rec N0 s y x1 q11 (-1) 0).bind fun q87 =>
                        if inb q11 17046 then
                          some (q87.2, ((wr q87.1.1 q11 ((((32 : Int32) * q87.1.2.2.1) + q87.2) + 1)), q87.1.2.1, q87.1.2.2.1, q87.1.2.2.2.1, q87.1.2.2.2.2))
                        else none
                    else
                      some ((((rd s.1 q11) - ((32 : Int32) * s.2.2.1)) - 1), s)
                  else none
            else
              some ((-1), s)
        else
          some ((-1), s)
def se_remaining : Nat → SeS → YdS → Int32 → Option (Int32 × SeS)
  | 0, _, _, _ => none
  | d + 1, s, y, x1 => se_remaining_B (se_remaining d) s y x1
set_option maxRecDepth 100000 in
set_option maxHeartbeats 1000000 in
theorem t_se_remaining {X : CTX} {K : Option Value → AH → Prop} {fr lo fr2 lo2 : Nat} (hF : 3 ≤ fr) (hL : 65 ≤ lo) (hF2 : fr2 + 1 ≤ fr) (hL2 : 27 + lo2 ≤ lo) (C : CX X cX7_remaining yX7_remaining.cls (decide (yX7_remaining.name = "<init>")) fr lo) (hq : RQ X (some .int) K) {rec : SeS → YdS → Int32 → Option (Int32 × SeS)} (hrec : ∀ (s : SeS) (y : YdS) (x1 : Int32) (out : Int32 × SeS), rec s y x1 = some out → CT yX7_remaining cX7_remaining 8 (some .int) fr2 lo2 0 0 [.ref 0, .int x1] (hSe 0 5 s ++ (hYd 5 y)) (fun v h => v = (some (.int out.1)) ∧ h = (hSe 0 5 out.2 ++ (hYd 5 y)))) (s : SeS) (y : YdS) (x1 : Int32) (out : Int32 × SeS) (hm : se_remaining_B rec s y x1 = some out) (hp : K (some (.int out.1)) (hSe 0 5 out.2 ++ (hYd 5 y))) : MW X (0, [some (.ref 0), some (.int x1), none, none, none, none, none, none], [], (hSe 0 5 s ++ (hYd 5 y)), 0, 0) := by
  unfold se_remaining_B at hm
  refine MW_run C okX7_remaining 0 5 (gs := []) (cf' := (11, [some (.ref 0), some (.int x1), none, none, none, none, none, none], [.int y.1, .ref 2], (hSe 0 5 s ++ (hYd 5 y)), 0, 0)) rfl trivial ?_
  obtain ⟨q11, hc11, hm⟩ := of_bind hm
  refine MW_callV1 C okX7_remaining 5 rfl [2, 3, 4] (v0 := some (.int q11)) (h0 := (hPl 0 s.2.1)) (c_pl_index s.2.1 y.1 q11 hc11) lkX7_97 1 dpX4_index (by simp only [Nat.ble_eq, Bool.and_eq_true]; omega) (rest := []) rfl rfl rfl rfl rfl rfl rfl rfl rfl rfl rfl (st2 := [.int q11]) (h2 := (hSe 0 5 s ++ (hYd 5 y))) rfl rfl ?_
  refine MW_run C okX7_remaining 6 3 (gs := []) (cf' := (18, [some (.ref 0), some (.int x1), some (.int q11), none, none, none, none, none], [.int 20, .int x1], (hSe 0 5 s ++ (hYd 5 y)), 0, 0)) rfl trivial ?_
  obtain ⟨hmt18, hmf18⟩ := of_if hm
  refine MW_brT C okX7_remaining 9 rfl rfl (fun hb18 => ?_) (fun hb18 => ?_)
  · have hm := hmt18 hb18
    refine MW_run C okX7_remaining 18 1 (gs := []) (cf' := (40, [some (.ref 0), some (.int x1), some (.int q11), none, none, none, none, none], [.int (-1)], (hSe 0 5 s ++ (hYd 5 y)), 0, 0)) rfl trivial ?_
    obtain rfl := Option.some.inj hm
    exact MW_iret C okX7_remaining hq 19 rfl hp
  · have hm := hmf18 hb18
    refine MW_run C okX7_remaining 10 1 (gs := []) (cf' := (22, [some (.ref 0), some (.int x1), some (.int q11), none, none, none, none, none], [.int q11], (hSe 0 5 s ++ (hYd 5 y)), 0, 0)) rfl trivial ?_
    obtain ⟨hmt22, hmf22⟩ := of_if hm
    refine MW_brT C okX7_remaining 11 rfl rfl (fun hb22 => ?_) (fun hb22 => ?_)
    · have hm := hmt22 hb22
      refine MW_run C okX7_remaining 18 1 (gs := []) (cf' := (40, [some (.ref 0), some (.int x1), some (.int q11), none, none, none, none, none], [.int (-1)], (hSe 0 5 s ++ (hYd 5 y)), 0, 0)) rfl trivial ?_
      obtain rfl := Option.some.inj hm
      exact MW_iret C okX7_remaining hq 19 rfl hp
    · have hm := hmf22 hb22
      refine MW_run C okX7_remaining 12 2 (gs := []) (cf' := (29, [some (.ref 0), some (.int x1), some (.int q11), none, none, none, none, none], [.int 17046, .int q11], (hSe 0 5 s ++ (hYd 5 y)), 0, 0)) rfl trivial ?_
      obtain ⟨hmt29, hmf29⟩ := of_if hm
      refine MW_brF C okX7_remaining 14 rfl rfl (fun hb29 => ?_) (fun hb29 => ?_)
      · have hm := hmt29 hb29
        refine MW_run C okX7_remaining 15 1 (gs := []) (cf' := (33, [some (.ref 0), some (.int x1), some (.int q11), none, none, none, none, none], [.ref 0], (hSe 0 5 s ++ (hYd 5 y)), 0, 0)) rfl trivial ?_
        obtain ⟨q33, hc33, hm⟩ := of_bind hm
        refine MW_callV1 C okX7_remaining 16 rfl [0, 1, 2, 3, 4, 5] (v0 := some (.int q33)) (h0 := (hSe 0 5 s)) (c_se_isAstray s q33 hc33) lkX7_100 0 dpX7_isAstray (by simp only [Nat.ble_eq, Bool.and_eq_true]; omega) (rest := []) rfl rfl rfl rfl rfl rfl rfl rfl rfl rfl rfl (st2 := [.int q33]) (h2 := (hSe 0 5 s ++ (hYd 5 y))) rfl rfl ?_
        obtain ⟨hmt36, hmf36⟩ := of_if hm
        refine MW_brT C okX7_remaining 17 rfl rfl (fun hb36 => ?_) (fun hb36 => ?_)
        · have hm := hmt36 hb36
          refine MW_run C okX7_remaining 20 3 (gs := []) (cf' := (46, [some (.ref 0), some (.int x1), some (.int q11), none, none, none, none, none], [.int 5, .ref 2], (hSe 0 5 s ++ (hYd 5 y)), 0, 0)) rfl trivial ?_
          obtain ⟨q46, hc46, hm⟩ := of_bind hm
          refine MW_callV1 C okX7_remaining 23 rfl [2, 3, 4] (v0 := some (.int q46)) (h0 := (hPl 0 s.2.1)) (c_pl_countAt s.2.1 5 q46 hc46) lkX7_69 1 dpX4_countAt (by simp only [Nat.ble_eq, Bool.and_eq_true]; omega) (rest := []) rfl rfl rfl rfl rfl rfl rfl rfl rfl rfl rfl (st2 := [.int q46]) (h2 := (hSe 0 5 s ++ (hYd 5 y))) rfl rfl ?_
          refine MW_run C okX7_remaining 24 2 (gs := []) (cf' := (53, [some (.ref 0), some (.int x1), some (.int q11), none, none, none, none, none], [.int s.2.2.2.1, .int q46], (hSe 0 5 s ++ (hYd 5 y)), 0, 0)) rfl trivial ?_
          obtain ⟨hmt53, hmf53⟩ := of_if hm
          refine MW_brF C okX7_remaining 26 rfl rfl (fun hb53 => ?_) (fun hb53 => ?_)
          · have hm := hmt53 hb53
            refine MW_run C okX7_remaining 27 1 (gs := []) (cf' := (57, [some (.ref 0), some (.int x1), some (.int q11), none, none, none, none, none], [.int 0], (hSe 0 5 s ++ (hYd 5 y)), 0, 0)) rfl trivial ?_
            obtain rfl := Option.some.inj hm
            exact MW_iret C okX7_remaining hq 28 rfl hp
          · have hm := hmf53 hb53
            obtain ⟨hg74, hm⟩ := of_guard hm
            refine MW_run C okX7_remaining 29 11 (gs := [inb q11 17046]) (cf' := (74, [some (.ref 0), some (.int x1), some (.int q11), some (.int ((rd s.1 q11) - ((32 : Int32) * s.2.2.1))), none, none, none, none], [.int ((rd s.1 q11) - ((32 : Int32) * s.2.2.1))], (hSe 0 5 s ++ (hYd 5 y)), 0, 0)) rfl hg74 ?_
            obtain ⟨hmt74, hmf74⟩ := of_if hm
            refine MW_brT C okX7_remaining 40 rfl rfl (fun hb74 => ?_) (fun hb74 => ?_)
            · have hm := hmt74 hb74
              refine MW_run C okX7_remaining 45 4 (gs := []) (cf' := (87, [some (.ref 0), some (.int x1), some (.int q11), some (.int ((rd s.1 q11) - ((32 : Int32) * s.2.2.1))), some (.int (-1)), some (.int 0), none, none], [], (hSe 0 5 s ++ (hYd 5 y)), 0, 0)) rfl trivial ?_
              obtain ⟨q87, hc87, hm⟩ := of_bind hm
              refine MW_pick [true, true, true, false, true, true, true, true] rfl (vs' := [some (.ref 0), some (.int x1), some (.int q11), none, some (.int (-1)), some (.int 0), none, none]) rfl ?_
              refine l_se_remaining_87 hF hL hF2 hL2 C hq hrec N0 s y x1 q11 (-1) 0 q87 hc87 ?_
              obtain ⟨hg197, hm⟩ := of_guard hm
              refine MW_run C okX7_remaining 92 13 (gs := [inb q11 17046]) (cf' := (197, [some (.ref 0), none, some (.int q11), none, some (.int q87.2), none, none, none], [.int q87.2], (hSe 0 5 ((wr q87.1.1 q11 ((((32 : Int32) * q87.1.2.2.1) + q87.2) + 1)), q87.1.2.1, q87.1.2.2.1, q87.1.2.2.2.1, q87.1.2.2.2.2) ++ (hYd 5 y)), 0, 0)) rfl hg197 ?_
              obtain rfl := Option.some.inj hm
              exact MW_iret C okX7_remaining hq 105 rfl hp
            · have hm := hmf74 hb74
              refine MW_run C okX7_remaining 41 3 (gs := []) (cf' := (80, [some (.ref 0), some (.int x1), some (.int q11), some (.int ((rd s.1 q11) - ((32 : Int32) * s.2.2.1))), none, none, none, none], [.int (((rd s.1 q11) - ((32 : Int32) * s.2.2.1)) - 1)], (hSe 0 5 s ++ (hYd 5 y)), 0, 0)) rfl trivial ?_
              obtain rfl := Option.some.inj hm
              exact MW_iret C okX7_remaining hq 44 rfl hp
        · have hm := hmf36 hb36
          refine MW_run C okX7_remaining 18 1 (gs := []) (cf' := (40, [some (.ref 0), some (.int x1), some (.int q11), none, none, none, none, none], [.int (-1)], (hSe 0 5 s ++ (hYd 5 y)), 0, 0)) rfl trivial ?_
          obtain rfl := Option.some.inj hm
          exact MW_iret C okX7_remaining hq 19 rfl hp
      · have hm := hmf29 hb29
        refine MW_run C okX7_remaining 18 1 (gs := []) (cf' := (40, [some (.ref 0), some (.int x1), some (.int q11), none, none, none, none, none], [.int (-1)], (hSe 0 5 s ++ (hYd 5 y)), 0, 0)) rfl trivial ?_
        obtain rfl := Option.some.inj hm
        exact MW_iret C okX7_remaining hq 19 rfl hp
theorem c_se_remaining : ∀ (d : Nat) (s : SeS) (y : YdS) (x1 : Int32) (out : Int32 × SeS) (hm : se_remaining d s y x1 = some out), CT yX7_remaining cX7_remaining 8 (some .int) (3 + d) (65 + 27 * d) 0 0 [.ref 0, .int x1] (hSe 0 5 s ++ (hYd 5 y)) (fun v h => v = (some (.int out.1)) ∧ h = (hSe 0 5 out.2 ++ (hYd 5 y))) := by
  intro d
  induction d with
  | zero => intro s y x1 out hm; cases hm
  | succ d ih =>
    intro s y x1 out hm
    exact CT_of (by decide +kernel) (vs0 := [some (.ref 0), some (.int x1), none, none, none, none, none, none]) rfl rfl (fun X C hq => t_se_remaining (fr := 3 + (d + 1)) (lo := 65 + 27 * (d + 1)) (fr2 := 3 + d) (lo2 := 65 + 27 * d) (by omega) (by omega) (by omega) (by omega) C hq (fun s y x1 out h9 => ih s y x1 out h9) s y x1 out hm ⟨rfl, rfl⟩)
/-! C: se_comesOut -/
def se_comesOut (s : SeS) (y : YdS) : Option (Int32 × SeS) :=
  (rw_upTo s.2.2.2.1).bind fun q8 =>
    (pl_begin s.2.1 q8 s.2.2.2.1).bind fun q15 =>
      (se_remaining 24 (s.1, q15, s.2.2.1, s.2.2.2.1, s.2.2.2.2) y 0).bind fun q20 =>
        if q20.1 < 0 then
          some (0, q20.2)
        else
          some (1, q20.2)
set_option maxRecDepth 100000 in
set_option maxHeartbeats 1000000 in
theorem t_se_comesOut {X : CTX} {K : Option Value → AH → Prop} (C : CX X cX7_comesOut yX7_comesOut.cls (decide (yX7_comesOut.name = "<init>")) 28 740) (hq : RQ X (some .boolean) K) (s : SeS) (y : YdS) (out : Int32 × SeS) (hm : se_comesOut s y = some out) (hp : K (some (.int out.1)) (hSe 0 5 out.2 ++ (hYd 5 y))) : MW X (0, [some (.ref 0)], [], (hSe 0 5 s ++ (hYd 5 y)), 0, 0) := by
  unfold se_comesOut at hm
  refine MW_run C okX7_comesOut 0 4 (gs := []) (cf' := (8, [some (.ref 0)], [.int s.2.2.2.1, .ref 2], (hSe 0 5 s ++ (hYd 5 y)), 0, 0)) rfl trivial ?_
  obtain ⟨q8, hc8, hm⟩ := of_bind hm
  refine MW_callS0 C okX7_comesOut 4 rfl (v0 := some (.int q8)) (c_rw_upTo s.2.2.2.1 q8 hc8) lkX7_36 1 dpX6_upTo (by decide) (rest := [.ref 2]) rfl rfl rfl rfl rfl ?_
  refine MW_run C okX7_comesOut 5 2 (gs := []) (cf' := (15, [some (.ref 0)], [.int s.2.2.2.1, .int q8, .ref 2], (hSe 0 5 s ++ (hYd 5 y)), 0, 0)) rfl trivial ?_
  obtain ⟨q15, hc15, hm⟩ := of_bind hm
  refine MW_callV1 C okX7_comesOut 7 rfl [2, 3, 4] (v0 := none) (h0 := (hPl 0 q15)) (c_pl_begin s.2.1 q8 s.2.2.2.1 q15 hc15) lkX7_42 2 dpX4_begin (by decide) (rest := []) rfl rfl rfl rfl rfl rfl rfl rfl rfl rfl rfl (st2 := []) (h2 := (hSe 0 5 (s.1, q15, s.2.2.1, s.2.2.2.1, s.2.2.2.2) ++ (hYd 5 y))) rfl rfl ?_
  refine MW_run C okX7_comesOut 8 2 (gs := []) (cf' := (20, [some (.ref 0)], [.int 0, .ref 0], (hSe 0 5 (s.1, q15, s.2.2.1, s.2.2.2.1, s.2.2.2.2) ++ (hYd 5 y)), 0, 0)) rfl trivial ?_
  obtain ⟨q20, hc20, hm⟩ := of_bind hm
  refine MW_callS1 C okX7_comesOut 10 rfl [0, 1, 2, 3, 4, 5, 6, 7, 8, 9, 10, 11, 12] (v0 := some (.int q20.1)) (h0 := (hSe 0 5 q20.2 ++ (hYd 5 y))) (c_se_remaining 24 (s.1, q15, s.2.2.1, s.2.2.2.1, s.2.2.2.2) y 0 q20 hc20) lkX7_46 2 dpX7_remaining (by decide) (rest := []) rfl rfl rfl rfl rfl rfl rfl (st2 := [.int q20.1]) (h2 := (hSe 0 5 q20.2 ++ (hYd 5 y))) rfl rfl ?_
  obtain ⟨hmt23, hmf23⟩ := of_if hm
  refine MW_brT C okX7_comesOut 11 rfl rfl (fun hb23 => ?_) (fun hb23 => ?_)
  · have hm := hmt23 hb23
    refine MW_run C okX7_comesOut 14 1 (gs := []) (cf' := (31, [some (.ref 0)], [.int 0], (hSe 0 5 q20.2 ++ (hYd 5 y)), 0, 0)) rfl trivial ?_
    obtain rfl := Option.some.inj hm
    exact MW_zret C okX7_comesOut hq 15 rfl (by decide) hp
  · have hm := hmf23 hb23
    refine MW_run C okX7_comesOut 12 2 (gs := []) (cf' := (31, [some (.ref 0)], [.int 1], (hSe 0 5 q20.2 ++ (hYd 5 y)), 0, 0)) rfl trivial ?_
    obtain rfl := Option.some.inj hm
    exact MW_zret C okX7_comesOut hq 15 rfl (by decide) hp
theorem c_se_comesOut (s : SeS) (y : YdS) (out : Int32 × SeS) (hm : se_comesOut s y = some out) : CT yX7_comesOut cX7_comesOut 1 (some .boolean) 28 740 0 0 [.ref 0] (hSe 0 5 s ++ (hYd 5 y)) (fun v h => v = (some (.int out.1)) ∧ h = (hSe 0 5 out.2 ++ (hYd 5 y))) :=
  CT_of (by decide +kernel) (vs0 := [some (.ref 0)]) rfl rfl (fun X C hq => t_se_comesOut C hq s y out hm ⟨rfl, rfl⟩)
/-! C: nd_find -/
def nd_find_L17 : Nat → NdS → YdS → SeS → Nat → Int32 → Int32 → Int32 → Int32 → Int32 → Option (Int32 × Int32)
  | 0, _, _, _, _, _, _, _, _, _ => none
  | n + 1, s, y, e, yr, x3, x4, x5, x6, x7 =>
    if x7 < y.1 then
      (yd_lengthAt y x7).bind fun q31 =>
        nd_find_L17 n s y e yr x3 x4 (x5 + q31) (x6 * 5) (x7 + 1)
    else
      some (x5, x6)
set_option maxRecDepth 100000 in
set_option maxHeartbeats 1000000 in
theorem l_nd_find_17 {X : CTX} {K : Option Value → AH → Prop} (C : CX X cX1_find yX1_find.cls (decide (yX1_find.name = "<init>")) 29 760) (hq : RQ X none K) : ∀ (n : Nat) (s : NdS) (y : YdS) (e : SeS) (yr : Nat) (x3 : Int32) (x4 : Int32) (x5 : Int32) (x6 : Int32) (x7 : Int32) (out : Int32 × Int32) (hm : nd_find_L17 n s y e yr x3 x4 x5 x6 x7 = some out) (hp : MW X (49, [some (.ref 0), some (.ref 9), some (.ref 17), some (.int x3), some (.int x4), some (.int out.1), some (.int out.2), none, none, none], [], (hNd 0 s ++ (hYd 9 y ++ (hSe 17 yr e))), 0, 0)), MW X (17, [some (.ref 0), some (.ref 9), some (.ref 17), some (.int x3), some (.int x4), some (.int x5), some (.int x6), some (.int x7), none, none], [], (hNd 0 s ++ (hYd 9 y ++ (hSe 17 yr e))), 0, 0) := by
  intro n
  induction n with
  | zero => intro s y e yr x3 x4 x5 x6 x7 out hm hp; rw [nd_find_L17] at hm; cases hm
  | succ n ih =>
    intro s y e yr x3 x4 x5 x6 x7 out hm hp
    rw [nd_find_L17] at hm
    refine MW_run C okX1_find 10 3 (gs := []) (cf' := (23, [some (.ref 0), some (.ref 9), some (.ref 17), some (.int x3), some (.int x4), some (.int x5), some (.int x6), some (.int x7), none, none], [.int y.1, .int x7], (hNd 0 s ++ (hYd 9 y ++ (hSe 17 yr e))), 0, 0)) rfl trivial ?_
    obtain ⟨hmt23, hmf23⟩ := of_if hm
    refine MW_brF C okX1_find 13 rfl rfl (fun hb23 => ?_) (fun hb23 => ?_)
    · have hm := hmt23 hb23
      refine MW_run C okX1_find 14 3 (gs := []) (cf' := (31, [some (.ref 0), some (.ref 9), some (.ref 17), some (.int x3), some (.int x4), some (.int x5), some (.int x6), some (.int x7), none, none], [.int x7, .ref 9, .int x5], (hNd 0 s ++ (hYd 9 y ++ (hSe 17 yr e))), 0, 0)) rfl trivial ?_
      obtain ⟨q31, hc31, hm⟩ := of_bind hm
      refine MW_callV1 C okX1_find 17 rfl [9, 10, 11, 12, 13, 14, 15, 16] (v0 := some (.int q31)) (h0 := (hYd 0 y)) (c_yd_lengthAt y x7 q31 hc31) lkX1_26 1 dpX10_lengthAt (by decide) (rest := [.int x5]) rfl rfl rfl rfl rfl rfl rfl rfl rfl rfl rfl (st2 := [.int q31, .int x5]) (h2 := (hNd 0 s ++ (hYd 9 y ++ (hSe 17 yr e)))) rfl rfl ?_
      refine MW_run C okX1_find 18 8 (gs := []) (cf' := (17, [some (.ref 0), some (.ref 9), some (.ref 17), some (.int x3), some (.int x4), some (.int (x5 + q31)), some (.int (x6 * 5)), some (.int (x7 + 1)), none, none], [], (hNd 0 s ++ (hYd 9 y ++ (hSe 17 yr e))), 0, 0)) rfl trivial ?_
      exact ih s y e yr x3 x4 (x5 + q31) (x6 * 5) (x7 + 1) _ hm hp
    · have hm := hmf23 hb23
      obtain rfl := Option.some.inj hm
      refine MW_pick [true, true, true, true, true, true, true, false, true, true] rfl (vs' := [some (.ref 0), some (.ref 9), some (.ref 17), some (.int x3), some (.int x4), some (.int x5), some (.int x6), none, none, none]) rfl ?_
      exact hp
def nd_find_L73 : Nat → NdS → YdS → SeS → Nat → Int32 → Int32 → Int32 → Int32 → Int32 → Int32 → Int32 → Option (NdS × SeS × Nat × Int32)
  | 0, _, _, _, _, _, _, _, _, _, _, _ => none
  | n + 1, s, y, e, yr, x3, x4, x5, x6, x7, x8, x9 =>
    if x9 < x6 then
      if x7 = 0 then
        (nd_setLengths s y x9).bind fun q89 =>
          if q89.1 = x8 then
            (se_forget e).bind fun q98 =>
              (se_aim q98 x3 x4).bind fun q109 =>
                (se_comesOut q109 q89.2.2.2).bind fun q113 =>
                  nd_find_L73 n (q89.2.1, x8, q89.2.2.2) y q113.2 1 x3 x4 x5 x6 q113.1 x8 (x9 + 1)
          else
            nd_find_L73 n q89.2 y e yr x3 x4 x5 x6 x7 x8 (x9 + 1)
      else
        some (s, e, yr, x7)
    else
      some (s, e, yr, x7)
set_option maxRecDepth 100000 in
set_option maxHeartbeats 1000000 in
theorem l_nd_find_73 {X : CTX} {K : Option Value → AH → Prop} (C : CX X cX1_find yX1_find.cls (decide (yX1_find.name = "<init>")) 29 760) (hq : RQ X none K) : ∀ (n : Nat) (s : NdS) (y : YdS) (e : SeS) (yr : Nat) (x3 : Int32) (x4 : Int32) (x5 : Int32) (x6 : Int32) (x7 : Int32) (x8 : Int32) (x9 : Int32) (out : NdS × SeS × Nat × Int32) (hm : nd_find_L73 n s y e yr x3 x4 x5 x6 x7 x8 x9 = some out) (hp : MW X (130, [some (.ref 0), some (.ref 9), some (.ref 17), some (.int x3), some (.int x4), some (.int x5), some (.int x6), some (.int out.2.2.2), some (.int x8), none], [], (hNd 0 out.1 ++ (hYd 9 y ++ (hSe 17 out.2.2.1 out.2.1))), 0, 0)), MW X (73, [some (.ref 0), some (.ref 9), some (.ref 17), some (.int x3), some (.int x4), some (.int x5), some (.int x6), some (.int x7), some (.int x8), some (.int x9)], [], (hNd 0 s ++ (hYd 9 y ++ (hSe 17 yr e))), 0, 0) := by
  intro n
  induction n with
  | zero => intro s y e yr x3 x4 x5 x6 x7 x8 x9 out hm hp; rw [nd_find_L73] at hm; cases hm
  | succ n ih =>
    intro s y e yr x3 x4 x5 x6 x7 x8 x9 out hm hp
    rw [nd_find_L73] at hm
    refine MW_run C okX1_find 38 2 (gs := []) (cf' := (77, [some (.ref 0), some (.ref 9), some (.ref 17), some (.int x3), some (.int x4), some (.int x5), some (.int x6), some (.int x7), some (.int x8), some (.int x9)], [.int x6, .int x9], (hNd 0 s ++ (hYd 9 y ++ (hSe 17 yr e))), 0, 0)) rfl trivial ?_
    obtain ⟨hmt77, hmf77⟩ := of_if hm
    refine MW_brF C okX1_find 40 rfl rfl (fun hb77 => ?_) (fun hb77 => ?_)
    · have hm := hmt77 hb77
      refine MW_run C okX1_find 41 1 (gs := []) (cf' := (82, [some (.ref 0), some (.ref 9), some (.ref 17), some (.int x3), some (.int x4), some (.int x5), some (.int x6), some (.int x7), some (.int x8), some (.int x9)], [.int x7], (hNd 0 s ++ (hYd 9 y ++ (hSe 17 yr e))), 0, 0)) rfl trivial ?_
      obtain ⟨hmt82, hmf82⟩ := of_if hm
      refine MW_brF C okX1_find 42 rfl rfl (fun hb82 => ?_) (fun hb82 => ?_)
      · have hm := hmt82 hb82
        refine MW_run C okX1_find 43 3 (gs := []) (cf' := (89, [some (.ref 0), some (.ref 9), some (.ref 17), some (.int x3), some (.int x4), some (.int x5), some (.int x6), some (.int x7), some (.int x8), some (.int x9)], [.int x9, .ref 9, .ref 0], (hNd 0 s ++ (hYd 9 y ++ (hSe 17 yr e))), 0, 0)) rfl trivial ?_
        obtain ⟨q89, hc89, hm⟩ := of_bind hm
        refine MW_callV1 C okX1_find 46 rfl [0, 1, 2, 3, 4, 5, 6, 7, 8, 9, 10, 11, 12, 13, 14, 15, 16] (v0 := some (.int q89.1)) (h0 := (hNd 0 q89.2 ++ (hYd 9 y))) (c_nd_setLengths s y x9 q89 hc89) lkX1_30 2 dpX1_setLengths (by decide) (rest := []) rfl rfl rfl rfl rfl rfl rfl rfl rfl rfl rfl (st2 := [.int q89.1]) (h2 := (hNd 0 q89.2 ++ (hYd 9 y ++ (hSe 17 yr e)))) rfl rfl ?_
        refine MW_run C okX1_find 47 1 (gs := []) (cf' := (94, [some (.ref 0), some (.ref 9), some (.ref 17), some (.int x3), some (.int x4), some (.int x5), some (.int x6), some (.int x7), some (.int x8), some (.int x9)], [.int x8, .int q89.1], (hNd 0 q89.2 ++ (hYd 9 y ++ (hSe 17 yr e))), 0, 0)) rfl trivial ?_
        obtain ⟨hmt94, hmf94⟩ := of_if hm
        refine MW_brF C okX1_find 48 rfl rfl (fun hb94 => ?_) (fun hb94 => ?_)
        · have hm := hmt94 hb94
          refine MW_run C okX1_find 49 1 (gs := []) (cf' := (98, [some (.ref 0), some (.ref 9), some (.ref 17), some (.int x3), some (.int x4), some (.int x5), some (.int x6), some (.int x7), some (.int x8), some (.int x9)], [.ref 17], (hNd 0 q89.2 ++ (hYd 9 y ++ (hSe 17 yr e))), 0, 0)) rfl trivial ?_
          obtain ⟨q98, hc98, hm⟩ := of_bind hm
          refine MW_callV1 C okX1_find 50 rfl [17, 18, 19, 20, 21, yr] (v0 := none) (h0 := (hSe 0 5 q98)) (c_se_forget e q98 hc98) lkX1_34 0 dpX7_forget (by decide) (rest := []) rfl rfl rfl rfl rfl rfl rfl rfl rfl rfl rfl (st2 := []) (h2 := (hNd 0 q89.2 ++ (hYd 9 y ++ (hSe 17 yr q98)))) rfl rfl ?_
          refine MW_run C okX1_find 51 5 (gs := []) (cf' := (109, [some (.ref 0), some (.ref 9), some (.ref 17), some (.int x3), some (.int x4), some (.int x5), some (.int x6), some (.int x7), some (.int x8), some (.int x9)], [.int x4, .int x3, .ref 1, .ref 17], (hNd 0 q89.2 ++ (hYd 9 y ++ (hSe 17 yr q98))), 0, 0)) rfl trivial ?_
          obtain ⟨q109, hc109, hm⟩ := of_bind hm
          refine MW_callV1 C okX1_find 56 rfl [17, 18, 19, 20, 21, yr, 1] (v0 := none) (h0 := (hSe 0 6 q109)) (c_se_aim q98 x3 x4 q109 hc109) lkX1_39 3 dpX7_aim (by decide) (rest := []) rfl rfl rfl rfl rfl rfl rfl rfl rfl rfl rfl (st2 := []) (h2 := (hNd 0 q89.2 ++ (hYd 9 y ++ (hSe 17 1 q109)))) rfl rfl ?_
          refine MW_run C okX1_find 57 1 (gs := []) (cf' := (113, [some (.ref 0), some (.ref 9), some (.ref 17), some (.int x3), some (.int x4), some (.int x5), some (.int x6), some (.int x7), some (.int x8), some (.int x9)], [.ref 17], (hNd 0 q89.2 ++ (hYd 9 y ++ (hSe 17 1 q109))), 0, 0)) rfl trivial ?_
          obtain ⟨q113, hc113, hm⟩ := of_bind hm
          refine MW_callV1 C okX1_find 58 rfl [17, 18, 19, 20, 21, 1, 2, 3, 4, 5, 6, 7, 8] (v0 := some (.int q113.1)) (h0 := (hSe 0 5 q113.2 ++ (hYd 5 q89.2.2.2))) (c_se_comesOut q109 q89.2.2.2 q113 hc113) lkX1_43 0 dpX7_comesOut (by decide) (rest := []) rfl rfl rfl rfl rfl rfl rfl rfl rfl rfl rfl (st2 := [.int q113.1]) (h2 := (hNd 0 q89.2 ++ (hYd 9 y ++ (hSe 17 1 q113.2)))) rfl rfl ?_
          refine MW_run C okX1_find 59 4 (gs := []) (cf' := (124, [some (.ref 0), some (.ref 9), some (.ref 17), some (.int x3), some (.int x4), some (.int x5), some (.int x6), some (.int q113.1), some (.int x8), some (.int x9)], [], (hNd 0 (q89.2.1, x8, q89.2.2.2) ++ (hYd 9 y ++ (hSe 17 1 q113.2))), 0, 0)) rfl trivial ?_
          refine MW_run C okX1_find 63 2 (gs := []) (cf' := (73, [some (.ref 0), some (.ref 9), some (.ref 17), some (.int x3), some (.int x4), some (.int x5), some (.int x6), some (.int q113.1), some (.int x8), some (.int (x9 + 1))], [], (hNd 0 (q89.2.1, x8, q89.2.2.2) ++ (hYd 9 y ++ (hSe 17 1 q113.2))), 0, 0)) rfl trivial ?_
          exact ih (q89.2.1, x8, q89.2.2.2) y q113.2 1 x3 x4 x5 x6 q113.1 x8 (x9 + 1) _ hm hp
        · have hm := hmf94 hb94
          refine MW_run C okX1_find 63 2 (gs := []) (cf' := (73, [some (.ref 0), some (.ref 9), some (.ref 17), some (.int x3), some (.int x4), some (.int x5), some (.int x6), some (.int x7), some (.int x8), some (.int (x9 + 1))], [], (hNd 0 q89.2 ++ (hYd 9 y ++ (hSe 17 yr e))), 0, 0)) rfl trivial ?_
          exact ih q89.2 y e yr x3 x4 x5 x6 x7 x8 (x9 + 1) _ hm hp
      · have hm := hmf82 hb82
        obtain rfl := Option.some.inj hm
        refine MW_pick [true, true, true, true, true, true, true, true, true, false] rfl (vs' := [some (.ref 0), some (.ref 9), some (.ref 17), some (.int x3), some (.int x4), some (.int x5), some (.int x6), some (.int x7), some (.int x8), none]) rfl ?_
        exact hp
    · have hm := hmf77 hb77
      obtain rfl := Option.some.inj hm
      refine MW_pick [true, true, true, true, true, true, true, true, true, false] rfl (vs' := [some (.ref 0), some (.ref 9), some (.ref 17), some (.int x3), some (.int x4), some (.int x5), some (.int x6), some (.int x7), some (.int x8), none]) rfl ?_
      exact hp
def nd_find_L58 : Nat → NdS → YdS → SeS → Nat → Int32 → Int32 → Int32 → Int32 → Int32 → Int32 → Option (NdS × SeS × Nat)
  | 0, _, _, _, _, _, _, _, _, _, _ => none
  | n + 1, s, y, e, yr, x3, x4, x5, x6, x7, x8 =>
    if x5 < x8 then
      some (s, e, yr)
    else
      if x7 = 0 then
        (nd_find_L73 N0 s y e yr x3 x4 x5 x6 x7 x8 0).bind fun q73 =>
          nd_find_L58 n q73.1 y q73.2.1 q73.2.2.1 x3 x4 x5 x6 q73.2.2.2 (x8 + 1)
      else
        some (s, e, yr)
set_option maxRecDepth 100000 in
set_option maxHeartbeats 1000000 in
theorem l_nd_find_58 {X : CTX} {K : Option Value → AH → Prop} (C : CX X cX1_find yX1_find.cls (decide (yX1_find.name = "<init>")) 29 760) (hq : RQ X none K) : ∀ (n : Nat) (s : NdS) (y : YdS) (e : SeS) (yr : Nat) (x3 : Int32) (x4 : Int32) (x5 : Int32) (x6 : Int32) (x7 : Int32) (x8 : Int32) (out : NdS × SeS × Nat) (hm : nd_find_L58 n s y e yr x3 x4 x5 x6 x7 x8 = some out) (hp : MW X (136, [none, none, some (.ref 17), none, none, none, none, none, none, none], [], (hNd 0 out.1 ++ (hYd 9 y ++ (hSe 17 out.2.2 out.2.1))), 0, 0)), MW X (58, [some (.ref 0), some (.ref 9), some (.ref 17), some (.int x3), some (.int x4), some (.int x5), some (.int x6), some (.int x7), some (.int x8), none], [], (hNd 0 s ++ (hYd 9 y ++ (hSe 17 yr e))), 0, 0) := by
  intro n
  induction n with
  | zero => intro s y e yr x3 x4 x5 x6 x7 x8 out hm hp; rw [nd_find_L58] at hm; cases hm
  | succ n ih =>
    intro s y e yr x3 x4 x5 x6 x7 x8 out hm hp
    rw [nd_find_L58] at hm
    refine MW_run C okX1_find 31 2 (gs := []) (cf' := (62, [some (.ref 0), some (.ref 9), some (.ref 17), some (.int x3), some (.int x4), some (.int x5), some (.int x6), some (.int x7), some (.int x8), none], [.int x5, .int x8], (hNd 0 s ++ (hYd 9 y ++ (hSe 17 yr e))), 0, 0)) rfl trivial ?_
    obtain ⟨hmt62, hmf62⟩ := of_if hm
    refine MW_brT C okX1_find 33 rfl rfl (fun hb62 => ?_) (fun hb62 => ?_)
    · have hm := hmt62 hb62
      obtain rfl := Option.some.inj hm
      refine MW_pick [false, false, true, false, false, false, false, false, false, true] rfl (vs' := [none, none, some (.ref 17), none, none, none, none, none, none, none]) rfl ?_
      exact hp
    · have hm := hmf62 hb62
      refine MW_run C okX1_find 34 1 (gs := []) (cf' := (67, [some (.ref 0), some (.ref 9), some (.ref 17), some (.int x3), some (.int x4), some (.int x5), some (.int x6), some (.int x7), some (.int x8), none], [.int x7], (hNd 0 s ++ (hYd 9 y ++ (hSe 17 yr e))), 0, 0)) rfl trivial ?_
      obtain ⟨hmt67, hmf67⟩ := of_if hm
      refine MW_brF C okX1_find 35 rfl rfl (fun hb67 => ?_) (fun hb67 => ?_)
      · have hm := hmt67 hb67
        refine MW_run C okX1_find 36 2 (gs := []) (cf' := (73, [some (.ref 0), some (.ref 9), some (.ref 17), some (.int x3), some (.int x4), some (.int x5), some (.int x6), some (.int x7), some (.int x8), some (.int 0)], [], (hNd 0 s ++ (hYd 9 y ++ (hSe 17 yr e))), 0, 0)) rfl trivial ?_
        obtain ⟨q73, hc73, hm⟩ := of_bind hm
        refine l_nd_find_73 C hq N0 s y e yr x3 x4 x5 x6 x7 x8 0 q73 hc73 ?_
        refine MW_run C okX1_find 65 2 (gs := []) (cf' := (58, [some (.ref 0), some (.ref 9), some (.ref 17), some (.int x3), some (.int x4), some (.int x5), some (.int x6), some (.int q73.2.2.2), some (.int (x8 + 1)), none], [], (hNd 0 q73.1 ++ (hYd 9 y ++ (hSe 17 q73.2.2.1 q73.2.1))), 0, 0)) rfl trivial ?_
        exact ih q73.1 y q73.2.1 q73.2.2.1 x3 x4 x5 x6 q73.2.2.2 (x8 + 1) _ hm hp
      · have hm := hmf67 hb67
        obtain rfl := Option.some.inj hm
        refine MW_pick [false, false, true, false, false, false, false, false, false, true] rfl (vs' := [none, none, some (.ref 17), none, none, none, none, none, none, none]) rfl ?_
        exact hp
def nd_find (s : NdS) (y : YdS) (e : SeS) (yr : Nat) (x3 : Int32) (x4 : Int32) : Option (NdS × SeS × Nat) :=
  (yd_copyFrom s.2.2 y).bind fun q5 =>
    (nd_find_L17 N0 (s.1, s.2.1, q5) y e yr x3 x4 0 1 0).bind fun q17 =>
      (nd_find_L58 N0 (s.1, s.2.1, q5) y e yr x3 x4 q17.1 q17.2 0 y.1).bind fun q58 =>
        (se_forget q58.2.1).bind fun q137 =>
          some (q58.1, q137, q58.2.2)
set_option maxRecDepth 100000 in
set_option maxHeartbeats 1000000 in
theorem t_nd_find {X : CTX} {K : Option Value → AH → Prop} (C : CX X cX1_find yX1_find.cls (decide (yX1_find.name = "<init>")) 29 760) (hq : RQ X none K) (s : NdS) (y : YdS) (e : SeS) (yr : Nat) (x3 : Int32) (x4 : Int32) (out : NdS × SeS × Nat) (hm : nd_find s y e yr x3 x4 = some out) (hp : K none (hNd 0 out.1 ++ (hYd 9 y ++ (hSe 17 out.2.2 out.2.1)))) : MW X (0, [some (.ref 0), some (.ref 9), some (.ref 17), some (.int x3), some (.int x4), none, none, none, none, none], [], (hNd 0 s ++ (hYd 9 y ++ (hSe 17 yr e))), 0, 0) := by
  unfold nd_find at hm
  refine MW_run C okX1_find 0 3 (gs := []) (cf' := (5, [some (.ref 0), some (.ref 9), some (.ref 17), some (.int x3), some (.int x4), none, none, none, none, none], [.ref 9, .ref 1], (hNd 0 s ++ (hYd 9 y ++ (hSe 17 yr e))), 0, 0)) rfl trivial ?_
  obtain ⟨q5, hc5, hm⟩ := of_bind hm
  refine MW_callV1 C okX1_find 3 rfl [1, 2, 3, 4, 5, 6, 7, 8, 9, 10, 11, 12, 13, 14, 15, 16] (v0 := none) (h0 := (hYd 0 q5 ++ (hYd 8 y))) (c_yd_copyFrom s.2.2 y q5 hc5) lkX1_18 1 dpX10_copyFrom (by decide) (rest := []) rfl rfl rfl rfl rfl rfl rfl rfl rfl rfl rfl (st2 := []) (h2 := (hNd 0 (s.1, s.2.1, q5) ++ (hYd 9 y ++ (hSe 17 yr e)))) rfl rfl ?_
  refine MW_run C okX1_find 4 6 (gs := []) (cf' := (17, [some (.ref 0), some (.ref 9), some (.ref 17), some (.int x3), some (.int x4), some (.int 0), some (.int 1), some (.int 0), none, none], [], (hNd 0 (s.1, s.2.1, q5) ++ (hYd 9 y ++ (hSe 17 yr e))), 0, 0)) rfl trivial ?_
  obtain ⟨q17, hc17, hm⟩ := of_bind hm
  refine l_nd_find_17 C hq N0 (s.1, s.2.1, q5) y e yr x3 x4 0 1 0 q17 hc17 ?_
  refine MW_run C okX1_find 26 5 (gs := []) (cf' := (58, [some (.ref 0), some (.ref 9), some (.ref 17), some (.int x3), some (.int x4), some (.int q17.1), some (.int q17.2), some (.int 0), some (.int y.1), none], [], (hNd 0 (s.1, s.2.1, q5) ++ (hYd 9 y ++ (hSe 17 yr e))), 0, 0)) rfl trivial ?_
  obtain ⟨q58, hc58, hm⟩ := of_bind hm
  refine l_nd_find_58 C hq N0 (s.1, s.2.1, q5) y e yr x3 x4 q17.1 q17.2 0 y.1 q58 hc58 ?_
  refine MW_run C okX1_find 67 1 (gs := []) (cf' := (137, [none, none, some (.ref 17), none, none, none, none, none, none, none], [.ref 17], (hNd 0 q58.1 ++ (hYd 9 y ++ (hSe 17 q58.2.2 q58.2.1))), 0, 0)) rfl trivial ?_
  obtain ⟨q137, hc137, hm⟩ := of_bind hm
  refine MW_callV1 C okX1_find 68 rfl [17, 18, 19, 20, 21, q58.2.2] (v0 := none) (h0 := (hSe 0 5 q137)) (c_se_forget q58.2.1 q137 hc137) lkX1_34 0 dpX7_forget (by decide) (rest := []) rfl rfl rfl rfl rfl rfl rfl rfl rfl rfl rfl (st2 := []) (h2 := (hNd 0 q58.1 ++ (hYd 9 y ++ (hSe 17 q58.2.2 q137)))) rfl rfl ?_
  obtain rfl := Option.some.inj hm
  exact MW_vret C okX1_find hq 69 rfl hp
theorem c_nd_find (s : NdS) (y : YdS) (e : SeS) (yr : Nat) (x3 : Int32) (x4 : Int32) (out : NdS × SeS × Nat) (hm : nd_find s y e yr x3 x4 = some out) : CT yX1_find cX1_find 10 none 29 760 0 0 [.ref 0, .ref 9, .ref 17, .int x3, .int x4] (hNd 0 s ++ (hYd 9 y ++ (hSe 17 yr e))) (fun v h => v = none ∧ h = (hNd 0 out.1 ++ (hYd 9 y ++ (hSe 17 out.2.2 out.2.1)))) :=
  CT_of (by decide +kernel) (vs0 := [some (.ref 0), some (.ref 9), some (.ref 17), some (.int x3), some (.int x4), none, none, none, none, none]) rfl rfl (fun X C hq => t_nd_find C hq s y e yr x3 x4 out hm ⟨rfl, rfl⟩)
/-! C: oc_forget -/
def oc_forget_L7 : Nat → OcS → Int32 → Option (OcS)
  | 0, _, _ => none
  | n + 1, o, x1 =>
    if x1 < 153 then
      if inb x1 153 ∧ inb x1 153 then
        oc_forget_L7 n (o.1, (wr o.2.1 x1 0), (wrL o.2.2 x1 0)) (x1 + 1)
      else none
    else
      some o
set_option maxRecDepth 100000 in
set_option maxHeartbeats 1000000 in
theorem l_oc_forget_7 {X : CTX} {K : Option Value → AH → Prop} (C : CX X cX2_forget yX2_forget.cls (decide (yX2_forget.name = "<init>")) 0 0) (hq : RQ X none K) : ∀ (n : Nat) (o : OcS) (x1 : Int32) (out : OcS) (hm : oc_forget_L7 n o x1 = some out) (hp : MW X (34, [none, none], [], (hOc 0 out), 0, 0)), MW X (7, [some (.ref 0), some (.int x1)], [], (hOc 0 o), 0, 0) := by
  intro n
  induction n with
  | zero => intro o x1 out hm hp; rw [oc_forget_L7] at hm; cases hm
  | succ n ih =>
    intro o x1 out hm hp
    rw [oc_forget_L7] at hm
    refine MW_run C okX2_forget 5 2 (gs := []) (cf' := (11, [some (.ref 0), some (.int x1)], [.int 153, .int x1], (hOc 0 o), 0, 0)) rfl trivial ?_
    obtain ⟨hmt11, hmf11⟩ := of_if hm
    refine MW_brF C okX2_forget 7 rfl rfl (fun hb11 => ?_) (fun hb11 => ?_)
    · have hm := hmt11 hb11
      obtain ⟨hg7, hm⟩ := of_guard hm
      refine MW_run C okX2_forget 8 12 (gs := [inb x1 153, inb x1 153]) (cf' := (7, [some (.ref 0), some (.int (x1 + 1))], [], (hOc 0 (o.1, (wr o.2.1 x1 0), (wrL o.2.2 x1 0))), 0, 0)) rfl ⟨hg7.1, hg7.2⟩ ?_
      exact ih (o.1, (wr o.2.1 x1 0), (wrL o.2.2 x1 0)) (x1 + 1) _ hm hp
    · have hm := hmf11 hb11
      obtain rfl := Option.some.inj hm
      refine MW_pick [false, false] rfl (vs' := [none, none]) rfl ?_
      exact hp
def oc_forget (o : OcS) : Option (OcS) :=
  (oc_forget_L7 N0 (0, o.2.1, o.2.2) 0).bind fun q7 =>
    some q7
set_option maxRecDepth 100000 in
set_option maxHeartbeats 1000000 in
theorem t_oc_forget {X : CTX} {K : Option Value → AH → Prop} (C : CX X cX2_forget yX2_forget.cls (decide (yX2_forget.name = "<init>")) 0 0) (hq : RQ X none K) (o : OcS) (out : OcS) (hm : oc_forget o = some out) (hp : K none (hOc 0 out)) : MW X (0, [some (.ref 0), none], [], (hOc 0 o), 0, 0) := by
  unfold oc_forget at hm
  refine MW_run C okX2_forget 0 5 (gs := []) (cf' := (7, [some (.ref 0), some (.int 0)], [], (hOc 0 (0, o.2.1, o.2.2)), 0, 0)) rfl trivial ?_
  obtain ⟨q7, hc7, hm⟩ := of_bind hm
  refine l_oc_forget_7 C hq N0 (0, o.2.1, o.2.2) 0 q7 hc7 ?_
  obtain rfl := Option.some.inj hm
  exact MW_vret C okX2_forget hq 20 rfl hp
theorem c_oc_forget (o : OcS) (out : OcS) (hm : oc_forget o = some out) : CT yX2_forget cX2_forget 2 none 0 0 0 0 [.ref 0] (hOc 0 o) (fun v h => v = none ∧ h = (hOc 0 out)) :=
  CT_of (by decide +kernel) (vs0 := [some (.ref 0), none]) rfl rfl (fun X C hq => t_oc_forget C hq o out hm ⟨rfl, rfl⟩)
/-! C: oc_know -/
def oc_know (o : OcS) (x1 : Int32) : Option (Int32) :=
  if ((o.1 >>> (x1 &&& 31)) &&& 1) = 1 then
    some 1
  else
    some 0
set_option maxRecDepth 100000 in
set_option maxHeartbeats 1000000 in
theorem t_oc_know {X : CTX} {K : Option Value → AH → Prop} (C : CX X cX2_know yX2_know.cls (decide (yX2_know.name = "<init>")) 0 0) (hq : RQ X (some .boolean) K) (o : OcS) (x1 : Int32) (out : Int32) (hm : oc_know o x1 = some out) (hp : K (some (.int out)) (hOc 0 o)) : MW X (0, [some (.ref 0), some (.int x1)], [], (hOc 0 o), 0, 0) := by
  unfold oc_know at hm
  refine MW_run C okX2_know 0 7 (gs := []) (cf' := (9, [some (.ref 0), some (.int x1)], [.int 1, .int ((o.1 >>> (x1 &&& 31)) &&& 1)], (hOc 0 o), 0, 0)) rfl trivial ?_
  obtain ⟨hmt9, hmf9⟩ := of_if hm
  refine MW_brF C okX2_know 7 rfl rfl (fun hb9 => ?_) (fun hb9 => ?_)
  · have hm := hmt9 hb9
    refine MW_run C okX2_know 8 2 (gs := []) (cf' := (17, [some (.ref 0), some (.int x1)], [.int 1], (hOc 0 o), 0, 0)) rfl trivial ?_
    obtain rfl := Option.some.inj hm
    exact MW_zret C okX2_know hq 11 rfl (by decide) hp
  · have hm := hmf9 hb9
    refine MW_run C okX2_know 10 1 (gs := []) (cf' := (17, [some (.ref 0), some (.int x1)], [.int 0], (hOc 0 o), 0, 0)) rfl trivial ?_
    obtain rfl := Option.some.inj hm
    exact MW_zret C okX2_know hq 11 rfl (by decide) hp
theorem c_oc_know (o : OcS) (x1 : Int32) (out : Int32) (hm : oc_know o x1 = some out) : CT yX2_know cX2_know 2 (some .boolean) 0 0 0 0 [.ref 0, .int x1] (hOc 0 o) (fun v h => v = (some (.int out)) ∧ h = (hOc 0 o)) :=
  CT_of (by decide +kernel) (vs0 := [some (.ref 0), some (.int x1)]) rfl rfl (fun X C hq => t_oc_know C hq o x1 out hm ⟨rfl, rfl⟩)
/-! C: oc_nowKnow -/
def oc_nowKnow (o : OcS) (x1 : Int32) : Option (OcS) :=
  some ((o.1 ||| ((1 : Int32) <<< (x1 &&& 31))), o.2.1, o.2.2)
set_option maxRecDepth 100000 in
set_option maxHeartbeats 1000000 in
theorem t_oc_nowKnow {X : CTX} {K : Option Value → AH → Prop} (C : CX X cX2_nowKnow yX2_nowKnow.cls (decide (yX2_nowKnow.name = "<init>")) 0 0) (hq : RQ X none K) (o : OcS) (x1 : Int32) (out : OcS) (hm : oc_nowKnow o x1 = some out) (hp : K none (hOc 0 out)) : MW X (0, [some (.ref 0), some (.int x1)], [], (hOc 0 o), 0, 0) := by
  unfold oc_nowKnow at hm
  refine MW_run C okX2_nowKnow 0 8 (gs := []) (cf' := (12, [some (.ref 0), some (.int x1)], [], (hOc 0 ((o.1 ||| ((1 : Int32) <<< (x1 &&& 31))), o.2.1, o.2.2)), 0, 0)) rfl trivial ?_
  obtain rfl := Option.some.inj hm
  exact MW_vret C okX2_nowKnow hq 8 rfl hp
theorem c_oc_nowKnow (o : OcS) (x1 : Int32) (out : OcS) (hm : oc_nowKnow o x1 = some out) : CT yX2_nowKnow cX2_nowKnow 2 none 0 0 0 0 [.ref 0, .int x1] (hOc 0 o) (fun v h => v = none ∧ h = (hOc 0 out)) :=
  CT_of (by decide +kernel) (vs0 := [some (.ref 0), some (.int x1)]) rfl rfl (fun X C hq => t_oc_nowKnow C hq o x1 out hm ⟨rfl, rfl⟩)
/-! C: rw_setUpTo -/
def rw_setUpTo (x0 : Int32) : Option (Int32) :=
  some (((1 : Int32) <<< ((x0 + 1) &&& 31)) - 2)
set_option maxRecDepth 100000 in
set_option maxHeartbeats 1000000 in
theorem t_rw_setUpTo {X : CTX} {K : Option Value → AH → Prop} (C : CX X cX6_setUpTo yX6_setUpTo.cls (decide (yX6_setUpTo.name = "<init>")) 0 0) (hq : RQ X (some .int) K) (x0 : Int32) (out : Int32) (hm : rw_setUpTo x0 = some out) (hp : K (some (.int out)) []) : MW X (0, [some (.int x0)], [], [], 0, 0) := by
  unfold rw_setUpTo at hm
  refine MW_run C okX6_setUpTo 0 7 (gs := []) (cf' := (7, [some (.int x0)], [.int (((1 : Int32) <<< ((x0 + 1) &&& 31)) - 2)], [], 0, 0)) rfl trivial ?_
  obtain rfl := Option.some.inj hm
  exact MW_iret C okX6_setUpTo hq 7 rfl hp
theorem c_rw_setUpTo (x0 : Int32) (out : Int32) (hm : rw_setUpTo x0 = some out) : CT yX6_setUpTo cX6_setUpTo 1 (some .int) 0 0 0 0 [.int x0] [] (fun v h => v = (some (.int out)) ∧ h = []) :=
  CT_of (by decide +kernel) (vs0 := [some (.int x0)]) rfl rfl (fun X C hq => t_rw_setUpTo C hq x0 out hm ⟨rfl, rfl⟩)
/-! C: rw_rankOf -/
def rw_rankOf_L13 : Nat → Int32 → Int32 → Int32 → Int32 → Int32 → Option (Int32)
  | 0, _, _, _, _, _ => none
  | n + 1, x1, x2, x3, x4, x5 =>
    if x5 < x1 then
      if x5 < 5 then
        (jt_bitCount ((x4 &&& (((1 : Int32) <<< ((x3 &&& 7) &&& 31)) ^^^ (-1))) &&& (((1 : Int32) <<< ((x3 &&& 7) &&& 31)) - 1))).bind fun q61 =>
          rw_rankOf_L13 n x1 ((x2 * (x1 - x5)) + q61) (x3 >>> (3 &&& 31)) (x4 &&& (((1 : Int32) <<< ((x3 &&& 7) &&& 31)) ^^^ (-1))) (x5 + 1)
      else
        some x2
    else
      some x2
set_option maxRecDepth 100000 in
set_option maxHeartbeats 1000000 in
theorem l_rw_rankOf_13 {X : CTX} {K : Option Value → AH → Prop} (C : CX X cX6_rankOf yX6_rankOf.cls (decide (yX6_rankOf.name = "<init>")) 1 20) (hq : RQ X (some .int) K) : ∀ (n : Nat) (x1 : Int32) (x2 : Int32) (x3 : Int32) (x4 : Int32) (x5 : Int32) (out : Int32) (hm : rw_rankOf_L13 n x1 x2 x3 x4 x5 = some out) (hp : MW X (72, [none, none, some (.int out), none, none, none, none], [], [], 0, 0)), MW X (13, [none, some (.int x1), some (.int x2), some (.int x3), some (.int x4), some (.int x5), none], [], [], 0, 0) := by
  intro n
  induction n with
  | zero => intro x1 x2 x3 x4 x5 out hm hp; rw [rw_rankOf_L13] at hm; cases hm
  | succ n ih =>
    intro x1 x2 x3 x4 x5 out hm hp
    rw [rw_rankOf_L13] at hm
    refine MW_run C okX6_rankOf 9 2 (gs := []) (cf' := (16, [none, some (.int x1), some (.int x2), some (.int x3), some (.int x4), some (.int x5), none], [.int x1, .int x5], [], 0, 0)) rfl trivial ?_
    obtain ⟨hmt16, hmf16⟩ := of_if hm
    refine MW_brF C okX6_rankOf 11 rfl rfl (fun hb16 => ?_) (fun hb16 => ?_)
    · have hm := hmt16 hb16
      refine MW_run C okX6_rankOf 12 2 (gs := []) (cf' := (22, [none, some (.int x1), some (.int x2), some (.int x3), some (.int x4), some (.int x5), none], [.int 5, .int x5], [], 0, 0)) rfl trivial ?_
      obtain ⟨hmt22, hmf22⟩ := of_if hm
      refine MW_brF C okX6_rankOf 14 rfl rfl (fun hb22 => ?_) (fun hb22 => ?_)
      · have hm := hmt22 hb22
        refine MW_run C okX6_rankOf 15 28 (gs := []) (cf' := (61, [none, some (.int x1), some (.int x2), some (.int (x3 >>> (3 &&& 31))), some (.int (x4 &&& (((1 : Int32) <<< ((x3 &&& 7) &&& 31)) ^^^ (-1)))), some (.int x5), some (.int (x3 &&& 7))], [.int ((x4 &&& (((1 : Int32) <<< ((x3 &&& 7) &&& 31)) ^^^ (-1))) &&& (((1 : Int32) <<< ((x3 &&& 7) &&& 31)) - 1)), .int (x2 * (x1 - x5))], [], 0, 0)) rfl trivial ?_
        obtain ⟨q61, hc61, hm⟩ := of_bind hm
        refine MW_callS0 C okX6_rankOf 43 rfl (v0 := some (.int q61)) (c_jt_bitCount ((x4 &&& (((1 : Int32) <<< ((x3 &&& 7) &&& 31)) ^^^ (-1))) &&& (((1 : Int32) <<< ((x3 &&& 7) &&& 31)) - 1)) q61 hc61) lkX6_22 1 dpJ6_bitCount_0f7a4 (by decide) (rest := [.int (x2 * (x1 - x5))]) rfl rfl rfl rfl rfl ?_
        refine MW_run C okX6_rankOf 44 4 (gs := []) (cf' := (13, [none, some (.int x1), some (.int ((x2 * (x1 - x5)) + q61)), some (.int (x3 >>> (3 &&& 31))), some (.int (x4 &&& (((1 : Int32) <<< ((x3 &&& 7) &&& 31)) ^^^ (-1)))), some (.int (x5 + 1)), some (.int (x3 &&& 7))], [], [], 0, 0)) rfl trivial ?_
        refine MW_pick [true, true, true, true, true, true, false] rfl (vs' := [none, some (.int x1), some (.int ((x2 * (x1 - x5)) + q61)), some (.int (x3 >>> (3 &&& 31))), some (.int (x4 &&& (((1 : Int32) <<< ((x3 &&& 7) &&& 31)) ^^^ (-1)))), some (.int (x5 + 1)), none]) rfl ?_
        exact ih x1 ((x2 * (x1 - x5)) + q61) (x3 >>> (3 &&& 31)) (x4 &&& (((1 : Int32) <<< ((x3 &&& 7) &&& 31)) ^^^ (-1))) (x5 + 1) _ hm hp
      · have hm := hmf22 hb22
        obtain rfl := Option.some.inj hm
        refine MW_pick [true, false, true, false, false, false, true] rfl (vs' := [none, none, some (.int x2), none, none, none, none]) rfl ?_
        exact hp
    · have hm := hmf16 hb16
      obtain rfl := Option.some.inj hm
      refine MW_pick [true, false, true, false, false, false, true] rfl (vs' := [none, none, some (.int x2), none, none, none, none]) rfl ?_
      exact hp
def rw_rankOf (x0 : Int32) (x1 : Int32) : Option (Int32) :=
  (rw_setUpTo x1).bind fun q5 =>
    (rw_rankOf_L13 N0 x1 0 x0 q5 0).bind fun q13 =>
      some q13
set_option maxRecDepth 100000 in
set_option maxHeartbeats 1000000 in
theorem t_rw_rankOf {X : CTX} {K : Option Value → AH → Prop} (C : CX X cX6_rankOf yX6_rankOf.cls (decide (yX6_rankOf.name = "<init>")) 1 20) (hq : RQ X (some .int) K) (x0 : Int32) (x1 : Int32) (out : Int32) (hm : rw_rankOf x0 x1 = some out) (hp : K (some (.int out)) []) : MW X (0, [some (.int x0), some (.int x1), none, none, none, none, none], [], [], 0, 0) := by
  unfold rw_rankOf at hm
  refine MW_run C okX6_rankOf 0 5 (gs := []) (cf' := (5, [some (.int x0), some (.int x1), some (.int 0), some (.int x0), none, none, none], [.int x1], [], 0, 0)) rfl trivial ?_
  obtain ⟨q5, hc5, hm⟩ := of_bind hm
  refine MW_callS0 C okX6_rankOf 5 rfl (v0 := some (.int q5)) (c_rw_setUpTo x1 q5 hc5) lkX6_9 1 dpX6_setUpTo (by decide) (rest := []) rfl rfl rfl rfl rfl ?_
  refine MW_run C okX6_rankOf 6 3 (gs := []) (cf' := (13, [some (.int x0), some (.int x1), some (.int 0), some (.int x0), some (.int q5), some (.int 0), none], [], [], 0, 0)) rfl trivial ?_
  obtain ⟨q13, hc13, hm⟩ := of_bind hm
  refine MW_pick [false, true, true, true, true, true, true] rfl (vs' := [none, some (.int x1), some (.int 0), some (.int x0), some (.int q5), some (.int 0), none]) rfl ?_
  refine l_rw_rankOf_13 C hq N0 x1 0 x0 q5 0 q13 hc13 ?_
  refine MW_run C okX6_rankOf 48 1 (gs := []) (cf' := (73, [none, none, some (.int q13), none, none, none, none], [.int q13], [], 0, 0)) rfl trivial ?_
  obtain rfl := Option.some.inj hm
  exact MW_iret C okX6_rankOf hq 49 rfl hp
theorem c_rw_rankOf (x0 : Int32) (x1 : Int32) (out : Int32) (hm : rw_rankOf x0 x1 = some out) : CT yX6_rankOf cX6_rankOf 7 (some .int) 1 20 0 0 [.int x0, .int x1] [] (fun v h => v = (some (.int out)) ∧ h = []) :=
  CT_of (by decide +kernel) (vs0 := [some (.int x0), some (.int x1), none, none, none, none, none]) rfl rfl (fun X C hq => t_rw_rankOf C hq x0 x1 out hm ⟨rfl, rfl⟩)
/-! C: rw_factorial -/
def rw_factorial_L4 : Nat → Int32 → Int32 → Int32 → Option (Int32)
  | 0, _, _, _ => none
  | n + 1, x0, x1, x2 =>
    if x0 < x2 then
      some x1
    else
      if (5 : Int32) < x2 then
        some x1
      else
        rw_factorial_L4 n x0 (x1 * x2) (x2 + 1)
set_option maxRecDepth 100000 in
set_option maxHeartbeats 1000000 in
theorem l_rw_factorial_4 {X : CTX} {K : Option Value → AH → Prop} (C : CX X cX6_factorial yX6_factorial.cls (decide (yX6_factorial.name = "<init>")) 0 0) (hq : RQ X (some .int) K) : ∀ (n : Nat) (x0 : Int32) (x1 : Int32) (x2 : Int32) (out : Int32) (hm : rw_factorial_L4 n x0 x1 x2 = some out) (hp : MW X (24, [none, some (.int out), none], [], [], 0, 0)), MW X (4, [some (.int x0), some (.int x1), some (.int x2)], [], [], 0, 0) := by
  intro n
  induction n with
  | zero => intro x0 x1 x2 out hm hp; rw [rw_factorial_L4] at hm; cases hm
  | succ n ih =>
    intro x0 x1 x2 out hm hp
    rw [rw_factorial_L4] at hm
    refine MW_run C okX6_factorial 4 2 (gs := []) (cf' := (6, [some (.int x0), some (.int x1), some (.int x2)], [.int x0, .int x2], [], 0, 0)) rfl trivial ?_
    obtain ⟨hmt6, hmf6⟩ := of_if hm
    refine MW_brT C okX6_factorial 6 rfl rfl (fun hb6 => ?_) (fun hb6 => ?_)
    · have hm := hmt6 hb6
      obtain rfl := Option.some.inj hm
      refine MW_pick [false, true, false] rfl (vs' := [none, some (.int x1), none]) rfl ?_
      exact hp
    · have hm := hmf6 hb6
      refine MW_run C okX6_factorial 7 2 (gs := []) (cf' := (11, [some (.int x0), some (.int x1), some (.int x2)], [.int 5, .int x2], [], 0, 0)) rfl trivial ?_
      obtain ⟨hmt11, hmf11⟩ := of_if hm
      refine MW_brT C okX6_factorial 9 rfl rfl (fun hb11 => ?_) (fun hb11 => ?_)
      · have hm := hmt11 hb11
        obtain rfl := Option.some.inj hm
        refine MW_pick [false, true, false] rfl (vs' := [none, some (.int x1), none]) rfl ?_
        exact hp
      · have hm := hmf11 hb11
        refine MW_run C okX6_factorial 10 6 (gs := []) (cf' := (4, [some (.int x0), some (.int (x1 * x2)), some (.int (x2 + 1))], [], [], 0, 0)) rfl trivial ?_
        exact ih x0 (x1 * x2) (x2 + 1) _ hm hp
def rw_factorial (x0 : Int32) : Option (Int32) :=
  (rw_factorial_L4 N0 x0 1 2).bind fun q4 =>
    some q4
set_option maxRecDepth 100000 in
set_option maxHeartbeats 1000000 in
theorem t_rw_factorial {X : CTX} {K : Option Value → AH → Prop} (C : CX X cX6_factorial yX6_factorial.cls (decide (yX6_factorial.name = "<init>")) 0 0) (hq : RQ X (some .int) K) (x0 : Int32) (out : Int32) (hm : rw_factorial x0 = some out) (hp : K (some (.int out)) []) : MW X (0, [some (.int x0), none, none], [], [], 0, 0) := by
  unfold rw_factorial at hm
  refine MW_run C okX6_factorial 0 4 (gs := []) (cf' := (4, [some (.int x0), some (.int 1), some (.int 2)], [], [], 0, 0)) rfl trivial ?_
  obtain ⟨q4, hc4, hm⟩ := of_bind hm
  refine l_rw_factorial_4 C hq N0 x0 1 2 q4 hc4 ?_
  refine MW_run C okX6_factorial 16 1 (gs := []) (cf' := (25, [none, some (.int q4), none], [.int q4], [], 0, 0)) rfl trivial ?_
  obtain rfl := Option.some.inj hm
  exact MW_iret C okX6_factorial hq 17 rfl hp
theorem c_rw_factorial (x0 : Int32) (out : Int32) (hm : rw_factorial x0 = some out) : CT yX6_factorial cX6_factorial 3 (some .int) 0 0 0 0 [.int x0] [] (fun v h => v = (some (.int out)) ∧ h = []) :=
  CT_of (by decide +kernel) (vs0 := [some (.int x0), none, none]) rfl rfl (fun X C hq => t_rw_factorial C hq x0 out hm ⟨rfl, rfl⟩)
/-! C: oc_cellOf -/
def oc_cellOf_L8 : Nat → Int32 → Int32 → Int32 → Option (Int32)
  | 0, _, _, _ => none
  | n + 1, x1, x2, x3 =>
    if x3 < x1 then
      if x3 < 5 then
        (rw_factorial x3).bind fun q20 =>
          oc_cellOf_L8 n x1 (x2 + q20) (x3 + 1)
      else
        some x2
    else
      some x2
set_option maxRecDepth 100000 in
set_option maxHeartbeats 1000000 in
theorem l_oc_cellOf_8 {X : CTX} {K : Option Value → AH → Prop} (C : CX X cX2_cellOf yX2_cellOf.cls (decide (yX2_cellOf.name = "<init>")) 2 46) (hq : RQ X (some .int) K) : ∀ (n : Nat) (x1 : Int32) (x2 : Int32) (x3 : Int32) (out : Int32) (hm : oc_cellOf_L8 n x1 x2 x3 = some out) (hp : MW X (31, [none, none, some (.int out), none], [], [], 0, 0)), MW X (8, [none, some (.int x1), some (.int x2), some (.int x3)], [], [], 0, 0) := by
  intro n
  induction n with
  | zero => intro x1 x2 x3 out hm hp; rw [oc_cellOf_L8] at hm; cases hm
  | succ n ih =>
    intro x1 x2 x3 out hm hp
    rw [oc_cellOf_L8] at hm
    refine MW_run C okX2_cellOf 6 2 (gs := []) (cf' := (10, [none, some (.int x1), some (.int x2), some (.int x3)], [.int x1, .int x3], [], 0, 0)) rfl trivial ?_
    obtain ⟨hmt10, hmf10⟩ := of_if hm
    refine MW_brF C okX2_cellOf 8 rfl rfl (fun hb10 => ?_) (fun hb10 => ?_)
    · have hm := hmt10 hb10
      refine MW_run C okX2_cellOf 9 2 (gs := []) (cf' := (15, [none, some (.int x1), some (.int x2), some (.int x3)], [.int 5, .int x3], [], 0, 0)) rfl trivial ?_
      obtain ⟨hmt15, hmf15⟩ := of_if hm
      refine MW_brF C okX2_cellOf 11 rfl rfl (fun hb15 => ?_) (fun hb15 => ?_)
      · have hm := hmt15 hb15
        refine MW_run C okX2_cellOf 12 2 (gs := []) (cf' := (20, [none, some (.int x1), some (.int x2), some (.int x3)], [.int x3, .int x2], [], 0, 0)) rfl trivial ?_
        obtain ⟨q20, hc20, hm⟩ := of_bind hm
        refine MW_callS0 C okX2_cellOf 14 rfl (v0 := some (.int q20)) (c_rw_factorial x3 q20 hc20) lkX2_33 1 dpX6_factorial (by decide) (rest := [.int x2]) rfl rfl rfl rfl rfl ?_
        refine MW_run C okX2_cellOf 15 4 (gs := []) (cf' := (8, [none, some (.int x1), some (.int (x2 + q20)), some (.int (x3 + 1))], [], [], 0, 0)) rfl trivial ?_
        exact ih x1 (x2 + q20) (x3 + 1) _ hm hp
      · have hm := hmf15 hb15
        obtain rfl := Option.some.inj hm
        refine MW_pick [true, false, true, false] rfl (vs' := [none, none, some (.int x2), none]) rfl ?_
        exact hp
    · have hm := hmf10 hb10
      obtain rfl := Option.some.inj hm
      refine MW_pick [true, false, true, false] rfl (vs' := [none, none, some (.int x2), none]) rfl ?_
      exact hp
def oc_cellOf (x0 : Int32) (x1 : Int32) : Option (Int32) :=
  (rw_rankOf x0 x1).bind fun q2 =>
    (oc_cellOf_L8 N0 x1 q2 1).bind fun q8 =>
      some q8
set_option maxRecDepth 100000 in
set_option maxHeartbeats 1000000 in
theorem t_oc_cellOf {X : CTX} {K : Option Value → AH → Prop} (C : CX X cX2_cellOf yX2_cellOf.cls (decide (yX2_cellOf.name = "<init>")) 2 46) (hq : RQ X (some .int) K) (x0 : Int32) (x1 : Int32) (out : Int32) (hm : oc_cellOf x0 x1 = some out) (hp : K (some (.int out)) []) : MW X (0, [some (.int x0), some (.int x1), none, none], [], [], 0, 0) := by
  unfold oc_cellOf at hm
  refine MW_run C okX2_cellOf 0 2 (gs := []) (cf' := (2, [some (.int x0), some (.int x1), none, none], [.int x1, .int x0], [], 0, 0)) rfl trivial ?_
  obtain ⟨q2, hc2, hm⟩ := of_bind hm
  refine MW_callS0 C okX2_cellOf 2 rfl (v0 := some (.int q2)) (c_rw_rankOf x0 x1 q2 hc2) lkX2_27 2 dpX6_rankOf (by decide) (rest := []) rfl rfl rfl rfl rfl ?_
  refine MW_run C okX2_cellOf 3 3 (gs := []) (cf' := (8, [some (.int x0), some (.int x1), some (.int q2), some (.int 1)], [], [], 0, 0)) rfl trivial ?_
  obtain ⟨q8, hc8, hm⟩ := of_bind hm
  refine MW_pick [false, true, true, true] rfl (vs' := [none, some (.int x1), some (.int q2), some (.int 1)]) rfl ?_
  refine l_oc_cellOf_8 C hq N0 x1 q2 1 q8 hc8 ?_
  refine MW_run C okX2_cellOf 19 1 (gs := []) (cf' := (32, [none, none, some (.int q8), none], [.int q8], [], 0, 0)) rfl trivial ?_
  obtain rfl := Option.some.inj hm
  exact MW_iret C okX2_cellOf hq 20 rfl hp
theorem c_oc_cellOf (x0 : Int32) (x1 : Int32) (out : Int32) (hm : oc_cellOf x0 x1 = some out) : CT yX2_cellOf cX2_cellOf 4 (some .int) 2 46 0 0 [.int x0, .int x1] [] (fun v h => v = (some (.int out)) ∧ h = []) :=
  CT_of (by decide +kernel) (vs0 := [some (.int x0), some (.int x1), none, none]) rfl rfl (fun X C hq => t_oc_cellOf C hq x0 x1 out hm ⟨rfl, rfl⟩)
/-! C: oc_note -/
def oc_note (o : OcS) (x1 : Int32) (x2 : Int32) (x3 : Int32) (x4 : Int64) : Option (OcS) :=
  (oc_cellOf x1 x2).bind fun q2 =>
    if q2 < 0 then
      some o
    else
      if q2 < 153 then
        if inb q2 153 ∧ inb q2 153 then
          some (o.1, (wr o.2.1 q2 x3), (wrL o.2.2 q2 x4))
        else none
      else
        some o
set_option maxRecDepth 100000 in
set_option maxHeartbeats 1000000 in
theorem t_oc_note {X : CTX} {K : Option Value → AH → Prop} (C : CX X cX2_note yX2_note.cls (decide (yX2_note.name = "<init>")) 3 69) (hq : RQ X none K) (o : OcS) (x1 : Int32) (x2 : Int32) (x3 : Int32) (x4 : Int64) (out : OcS) (hm : oc_note o x1 x2 x3 x4 = some out) (hp : K none (hOc 0 out)) : MW X (0, [some (.ref 0), some (.int x1), some (.int x2), some (.int x3), some (.long x4), none, none], [], (hOc 0 o), 0, 0) := by
  unfold oc_note at hm
  refine MW_run C okX2_note 0 2 (gs := []) (cf' := (2, [some (.ref 0), some (.int x1), some (.int x2), some (.int x3), some (.long x4), none, none], [.int x2, .int x1], (hOc 0 o), 0, 0)) rfl trivial ?_
  obtain ⟨q2, hc2, hm⟩ := of_bind hm
  refine MW_callS0 C okX2_note 2 rfl (v0 := some (.int q2)) (c_oc_cellOf x1 x2 q2 hc2) lkX2_37 2 dpX2_cellOf (by decide) (rest := []) rfl rfl rfl rfl rfl ?_
  refine MW_run C okX2_note 3 2 (gs := []) (cf' := (9, [some (.ref 0), some (.int x1), some (.int x2), some (.int x3), some (.long x4), none, some (.int q2)], [.int q2], (hOc 0 o), 0, 0)) rfl trivial ?_
  obtain ⟨hmt9, hmf9⟩ := of_if hm
  refine MW_brT C okX2_note 5 rfl rfl (fun hb9 => ?_) (fun hb9 => ?_)
  · have hm := hmt9 hb9
    obtain rfl := Option.some.inj hm
    exact MW_vret C okX2_note hq 19 rfl hp
  · have hm := hmf9 hb9
    refine MW_run C okX2_note 6 2 (gs := []) (cf' := (17, [some (.ref 0), some (.int x1), some (.int x2), some (.int x3), some (.long x4), none, some (.int q2)], [.int 153, .int q2], (hOc 0 o), 0, 0)) rfl trivial ?_
    obtain ⟨hmt17, hmf17⟩ := of_if hm
    refine MW_brF C okX2_note 8 rfl rfl (fun hb17 => ?_) (fun hb17 => ?_)
    · have hm := hmt17 hb17
      obtain ⟨hg37, hm⟩ := of_guard hm
      refine MW_run C okX2_note 9 10 (gs := [inb q2 153, inb q2 153]) (cf' := (37, [some (.ref 0), some (.int x1), some (.int x2), some (.int x3), some (.long x4), none, some (.int q2)], [], (hOc 0 (o.1, (wr o.2.1 q2 x3), (wrL o.2.2 q2 x4))), 0, 0)) rfl ⟨hg37.1, hg37.2⟩ ?_
      obtain rfl := Option.some.inj hm
      exact MW_vret C okX2_note hq 19 rfl hp
    · have hm := hmf17 hb17
      obtain rfl := Option.some.inj hm
      exact MW_vret C okX2_note hq 19 rfl hp
theorem c_oc_note (o : OcS) (x1 : Int32) (x2 : Int32) (x3 : Int32) (x4 : Int64) (out : OcS) (hm : oc_note o x1 x2 x3 x4 = some out) : CT yX2_note cX2_note 7 none 3 69 0 0 [.ref 0, .int x1, .int x2, .int x3, .long x4] (hOc 0 o) (fun v h => v = none ∧ h = (hOc 0 out)) :=
  CT_of (by decide +kernel) (vs0 := [some (.ref 0), some (.int x1), some (.int x2), some (.int x3), some (.long x4), none, none]) rfl rfl (fun X C hq => t_oc_note C hq o x1 x2 x3 x4 out hm ⟨rfl, rfl⟩)
/-! C: oc_leastOf -/
def oc_leastOf (o : OcS) (x1 : Int32) (x2 : Int32) : Option (Int32) :=
  (oc_cellOf x1 x2).bind fun q2 =>
    if q2 < 0 then
      some 0
    else
      if q2 < 153 then
        if inb q2 153 then
          some (rd o.2.1 q2)
        else none
      else
        some 0
set_option maxRecDepth 100000 in
set_option maxHeartbeats 1000000 in
theorem t_oc_leastOf {X : CTX} {K : Option Value → AH → Prop} (C : CX X cX2_leastOf yX2_leastOf.cls (decide (yX2_leastOf.name = "<init>")) 3 69) (hq : RQ X (some .int) K) (o : OcS) (x1 : Int32) (x2 : Int32) (out : Int32) (hm : oc_leastOf o x1 x2 = some out) (hp : K (some (.int out)) (hOc 0 o)) : MW X (0, [some (.ref 0), some (.int x1), some (.int x2), none], [], (hOc 0 o), 0, 0) := by
  unfold oc_leastOf at hm
  refine MW_run C okX2_leastOf 0 2 (gs := []) (cf' := (2, [some (.ref 0), some (.int x1), some (.int x2), none], [.int x2, .int x1], (hOc 0 o), 0, 0)) rfl trivial ?_
  obtain ⟨q2, hc2, hm⟩ := of_bind hm
  refine MW_callS0 C okX2_leastOf 2 rfl (v0 := some (.int q2)) (c_oc_cellOf x1 x2 q2 hc2) lkX2_37 2 dpX2_cellOf (by decide) (rest := []) rfl rfl rfl rfl rfl ?_
  refine MW_run C okX2_leastOf 3 2 (gs := []) (cf' := (7, [some (.ref 0), some (.int x1), some (.int x2), some (.int q2)], [.int q2], (hOc 0 o), 0, 0)) rfl trivial ?_
  obtain ⟨hmt7, hmf7⟩ := of_if hm
  refine MW_brT C okX2_leastOf 5 rfl rfl (fun hb7 => ?_) (fun hb7 => ?_)
  · have hm := hmt7 hb7
    refine MW_run C okX2_leastOf 14 1 (gs := []) (cf' := (27, [some (.ref 0), some (.int x1), some (.int x2), some (.int q2)], [.int 0], (hOc 0 o), 0, 0)) rfl trivial ?_
    obtain rfl := Option.some.inj hm
    exact MW_iret C okX2_leastOf hq 15 rfl hp
  · have hm := hmf7 hb7
    refine MW_run C okX2_leastOf 6 2 (gs := []) (cf' := (14, [some (.ref 0), some (.int x1), some (.int x2), some (.int q2)], [.int 153, .int q2], (hOc 0 o), 0, 0)) rfl trivial ?_
    obtain ⟨hmt14, hmf14⟩ := of_if hm
    refine MW_brF C okX2_leastOf 8 rfl rfl (fun hb14 => ?_) (fun hb14 => ?_)
    · have hm := hmt14 hb14
      obtain ⟨hg27, hm⟩ := of_guard hm
      refine MW_run C okX2_leastOf 9 5 (gs := [inb q2 153]) (cf' := (27, [some (.ref 0), some (.int x1), some (.int x2), some (.int q2)], [.int (rd o.2.1 q2)], (hOc 0 o), 0, 0)) rfl hg27 ?_
      obtain rfl := Option.some.inj hm
      exact MW_iret C okX2_leastOf hq 15 rfl hp
    · have hm := hmf14 hb14
      refine MW_run C okX2_leastOf 14 1 (gs := []) (cf' := (27, [some (.ref 0), some (.int x1), some (.int x2), some (.int q2)], [.int 0], (hOc 0 o), 0, 0)) rfl trivial ?_
      obtain rfl := Option.some.inj hm
      exact MW_iret C okX2_leastOf hq 15 rfl hp
theorem c_oc_leastOf (o : OcS) (x1 : Int32) (x2 : Int32) (out : Int32) (hm : oc_leastOf o x1 x2 = some out) : CT yX2_leastOf cX2_leastOf 4 (some .int) 3 69 0 0 [.ref 0, .int x1, .int x2] (hOc 0 o) (fun v h => v = (some (.int out)) ∧ h = (hOc 0 o)) :=
  CT_of (by decide +kernel) (vs0 := [some (.ref 0), some (.int x1), some (.int x2), none]) rfl rfl (fun X C hq => t_oc_leastOf C hq o x1 x2 out hm ⟨rfl, rfl⟩)
/-! C: oc_waysOf -/
def oc_waysOf (o : OcS) (x1 : Int32) (x2 : Int32) : Option (Int64) :=
  (oc_cellOf x1 x2).bind fun q2 =>
    if q2 < 0 then
      some 0
    else
      if q2 < 153 then
        if inb q2 153 then
          some (rd o.2.2 q2)
        else none
      else
        some 0
set_option maxRecDepth 100000 in
set_option maxHeartbeats 1000000 in
theorem t_oc_waysOf {X : CTX} {K : Option Value → AH → Prop} (C : CX X cX2_waysOf yX2_waysOf.cls (decide (yX2_waysOf.name = "<init>")) 3 69) (hq : RQ X (some .long) K) (o : OcS) (x1 : Int32) (x2 : Int32) (out : Int64) (hm : oc_waysOf o x1 x2 = some out) (hp : K (some (.long out)) (hOc 0 o)) : MW X (0, [some (.ref 0), some (.int x1), some (.int x2), none], [], (hOc 0 o), 0, 0) := by
  unfold oc_waysOf at hm
  refine MW_run C okX2_waysOf 0 2 (gs := []) (cf' := (2, [some (.ref 0), some (.int x1), some (.int x2), none], [.int x2, .int x1], (hOc 0 o), 0, 0)) rfl trivial ?_
  obtain ⟨q2, hc2, hm⟩ := of_bind hm
  refine MW_callS0 C okX2_waysOf 2 rfl (v0 := some (.int q2)) (c_oc_cellOf x1 x2 q2 hc2) lkX2_37 2 dpX2_cellOf (by decide) (rest := []) rfl rfl rfl rfl rfl ?_
  refine MW_run C okX2_waysOf 3 2 (gs := []) (cf' := (7, [some (.ref 0), some (.int x1), some (.int x2), some (.int q2)], [.int q2], (hOc 0 o), 0, 0)) rfl trivial ?_
  obtain ⟨hmt7, hmf7⟩ := of_if hm
  refine MW_brT C okX2_waysOf 5 rfl rfl (fun hb7 => ?_) (fun hb7 => ?_)
  · have hm := hmt7 hb7
    refine MW_run C okX2_waysOf 14 1 (gs := []) (cf' := (27, [some (.ref 0), some (.int x1), some (.int x2), some (.int q2)], [.long 0], (hOc 0 o), 0, 0)) rfl trivial ?_
    obtain rfl := Option.some.inj hm
    exact MW_lret C okX2_waysOf hq 15 rfl hp
  · have hm := hmf7 hb7
    refine MW_run C okX2_waysOf 6 2 (gs := []) (cf' := (14, [some (.ref 0), some (.int x1), some (.int x2), some (.int q2)], [.int 153, .int q2], (hOc 0 o), 0, 0)) rfl trivial ?_
    obtain ⟨hmt14, hmf14⟩ := of_if hm
    refine MW_brF C okX2_waysOf 8 rfl rfl (fun hb14 => ?_) (fun hb14 => ?_)
    · have hm := hmt14 hb14
      obtain ⟨hg27, hm⟩ := of_guard hm
      refine MW_run C okX2_waysOf 9 5 (gs := [inb q2 153]) (cf' := (27, [some (.ref 0), some (.int x1), some (.int x2), some (.int q2)], [.long (rd o.2.2 q2)], (hOc 0 o), 0, 0)) rfl hg27 ?_
      obtain rfl := Option.some.inj hm
      exact MW_lret C okX2_waysOf hq 15 rfl hp
    · have hm := hmf14 hb14
      refine MW_run C okX2_waysOf 14 1 (gs := []) (cf' := (27, [some (.ref 0), some (.int x1), some (.int x2), some (.int q2)], [.long 0], (hOc 0 o), 0, 0)) rfl trivial ?_
      obtain rfl := Option.some.inj hm
      exact MW_lret C okX2_waysOf hq 15 rfl hp
theorem c_oc_waysOf (o : OcS) (x1 : Int32) (x2 : Int32) (out : Int64) (hm : oc_waysOf o x1 x2 = some out) : CT yX2_waysOf cX2_waysOf 4 (some .long) 3 69 0 0 [.ref 0, .int x1, .int x2] (hOc 0 o) (fun v h => v = (some (.long out)) ∧ h = (hOc 0 o)) :=
  CT_of (by decide +kernel) (vs0 := [some (.ref 0), some (.int x1), some (.int x2), none]) rfl rfl (fun X C hq => t_oc_waysOf C hq o x1 x2 out hm ⟨rfl, rfl⟩)
/-! C: pd_add -/
def pd_add (d : PdS) (x1 : Int32) : Option (Int32 × PdS) :=
  if d.2 < 0 then
    some (0, d)
  else
    if d.2 < (nI 16) then
      if inb d.2 16 then
        some (1, ((wr d.1 d.2 x1), (d.2 + 1)))
      else none
    else
      some (0, d)
set_option maxRecDepth 100000 in
set_option maxHeartbeats 1000000 in
theorem t_pd_add {X : CTX} {K : Option Value → AH → Prop} (C : CX X cX3_add yX3_add.cls (decide (yX3_add.name = "<init>")) 0 0) (hq : RQ X (some .boolean) K) (d : PdS) (x1 : Int32) (out : Int32 × PdS) (hm : pd_add d x1 = some out) (hp : K (some (.int out.1)) (hPd 0 out.2)) : MW X (0, [some (.ref 0), some (.int x1)], [], (hPd 0 d), 0, 0) := by
  unfold pd_add at hm
  refine MW_run C okX3_add 0 2 (gs := []) (cf' := (4, [some (.ref 0), some (.int x1)], [.int d.2], (hPd 0 d), 0, 0)) rfl trivial ?_
  obtain ⟨hmt4, hmf4⟩ := of_if hm
  refine MW_brT C okX3_add 2 rfl rfl (fun hb4 => ?_) (fun hb4 => ?_)
  · have hm := hmt4 hb4
    refine MW_run C okX3_add 9 1 (gs := []) (cf' := (20, [some (.ref 0), some (.int x1)], [.int 0], (hPd 0 d), 0, 0)) rfl trivial ?_
    obtain rfl := Option.some.inj hm
    exact MW_zret C okX3_add hq 10 rfl (by decide) hp
  · have hm := hmf4 hb4
    refine MW_run C okX3_add 3 5 (gs := []) (cf' := (16, [some (.ref 0), some (.int x1)], [.int (nI 16), .int d.2], (hPd 0 d), 0, 0)) rfl trivial ?_
    obtain ⟨hmt16, hmf16⟩ := of_if hm
    refine MW_brT C okX3_add 8 rfl rfl (fun hb16 => ?_) (fun hb16 => ?_)
    · have hm := hmt16 hb16
      obtain ⟨hg42, hm⟩ := of_guard hm
      refine MW_run C okX3_add 11 13 (gs := [inb d.2 16]) (cf' := (42, [some (.ref 0), some (.int x1)], [.int 1], (hPd 0 ((wr d.1 d.2 x1), (d.2 + 1))), 0, 0)) rfl hg42 ?_
      obtain rfl := Option.some.inj hm
      exact MW_zret C okX3_add hq 24 rfl (by decide) hp
    · have hm := hmf16 hb16
      refine MW_run C okX3_add 9 1 (gs := []) (cf' := (20, [some (.ref 0), some (.int x1)], [.int 0], (hPd 0 d), 0, 0)) rfl trivial ?_
      obtain rfl := Option.some.inj hm
      exact MW_zret C okX3_add hq 10 rfl (by decide) hp
theorem c_pd_add (d : PdS) (x1 : Int32) (out : Int32 × PdS) (hm : pd_add d x1 = some out) : CT yX3_add cX3_add 2 (some .boolean) 0 0 0 0 [.ref 0, .int x1] (hPd 0 d) (fun v h => v = (some (.int out.1)) ∧ h = (hPd 0 out.2)) :=
  CT_of (by decide +kernel) (vs0 := [some (.ref 0), some (.int x1)]) rfl rfl (fun X C hq => t_pd_add C hq d x1 out hm ⟨rfl, rfl⟩)
/-! C: pd_clear -/
def pd_clear (d : PdS) : Option (PdS) :=
  some (d.1, 0)
set_option maxRecDepth 100000 in
set_option maxHeartbeats 1000000 in
theorem t_pd_clear {X : CTX} {K : Option Value → AH → Prop} (C : CX X cX3_clear yX3_clear.cls (decide (yX3_clear.name = "<init>")) 0 0) (hq : RQ X none K) (d : PdS) (out : PdS) (hm : pd_clear d = some out) (hp : K none (hPd 0 out)) : MW X (0, [some (.ref 0)], [], (hPd 0 d), 0, 0) := by
  unfold pd_clear at hm
  refine MW_run C okX3_clear 0 3 (gs := []) (cf' := (5, [some (.ref 0)], [], (hPd 0 (d.1, 0)), 0, 0)) rfl trivial ?_
  obtain rfl := Option.some.inj hm
  exact MW_vret C okX3_clear hq 3 rfl hp
theorem c_pd_clear (d : PdS) (out : PdS) (hm : pd_clear d = some out) : CT yX3_clear cX3_clear 1 none 0 0 0 0 [.ref 0] (hPd 0 d) (fun v h => v = none ∧ h = (hPd 0 out)) :=
  CT_of (by decide +kernel) (vs0 := [some (.ref 0)]) rfl rfl (fun X C hq => t_pd_clear C hq d out hm ⟨rfl, rfl⟩)
/-! C: pd_signAt -/
def pd_signAt (d : PdS) (x1 : Int32) : Option (Int32) :=
  if x1 < 0 then
    some 0
  else
    if x1 < d.2 then
      if x1 < (nI 16) then
        if inb x1 16 then
          some (rd d.1 x1)
        else none
      else
        some 0
    else
      some 0
set_option maxRecDepth 100000 in
set_option maxHeartbeats 1000000 in
theorem t_pd_signAt {X : CTX} {K : Option Value → AH → Prop} (C : CX X cX3_signAt yX3_signAt.cls (decide (yX3_signAt.name = "<init>")) 0 0) (hq : RQ X (some .int) K) (d : PdS) (x1 : Int32) (out : Int32) (hm : pd_signAt d x1 = some out) (hp : K (some (.int out)) (hPd 0 d)) : MW X (0, [some (.ref 0), some (.int x1)], [], (hPd 0 d), 0, 0) := by
  unfold pd_signAt at hm
  refine MW_run C okX3_signAt 0 1 (gs := []) (cf' := (1, [some (.ref 0), some (.int x1)], [.int x1], (hPd 0 d), 0, 0)) rfl trivial ?_
  obtain ⟨hmt1, hmf1⟩ := of_if hm
  refine MW_brT C okX3_signAt 1 rfl rfl (fun hb1 => ?_) (fun hb1 => ?_)
  · have hm := hmt1 hb1
    refine MW_run C okX3_signAt 16 1 (gs := []) (cf' := (31, [some (.ref 0), some (.int x1)], [.int 0], (hPd 0 d), 0, 0)) rfl trivial ?_
    obtain rfl := Option.some.inj hm
    exact MW_iret C okX3_signAt hq 17 rfl hp
  · have hm := hmf1 hb1
    refine MW_run C okX3_signAt 2 3 (gs := []) (cf' := (9, [some (.ref 0), some (.int x1)], [.int d.2, .int x1], (hPd 0 d), 0, 0)) rfl trivial ?_
    obtain ⟨hmt9, hmf9⟩ := of_if hm
    refine MW_brF C okX3_signAt 5 rfl rfl (fun hb9 => ?_) (fun hb9 => ?_)
    · have hm := hmt9 hb9
      refine MW_run C okX3_signAt 6 4 (gs := []) (cf' := (18, [some (.ref 0), some (.int x1)], [.int (nI 16), .int x1], (hPd 0 d), 0, 0)) rfl trivial ?_
      obtain ⟨hmt18, hmf18⟩ := of_if hm
      refine MW_brF C okX3_signAt 10 rfl rfl (fun hb18 => ?_) (fun hb18 => ?_)
      · have hm := hmt18 hb18
        obtain ⟨hg31, hm⟩ := of_guard hm
        refine MW_run C okX3_signAt 11 5 (gs := [inb x1 16]) (cf' := (31, [some (.ref 0), some (.int x1)], [.int (rd d.1 x1)], (hPd 0 d), 0, 0)) rfl hg31 ?_
        obtain rfl := Option.some.inj hm
        exact MW_iret C okX3_signAt hq 17 rfl hp
      · have hm := hmf18 hb18
        refine MW_run C okX3_signAt 16 1 (gs := []) (cf' := (31, [some (.ref 0), some (.int x1)], [.int 0], (hPd 0 d), 0, 0)) rfl trivial ?_
        obtain rfl := Option.some.inj hm
        exact MW_iret C okX3_signAt hq 17 rfl hp
    · have hm := hmf9 hb9
      refine MW_run C okX3_signAt 16 1 (gs := []) (cf' := (31, [some (.ref 0), some (.int x1)], [.int 0], (hPd 0 d), 0, 0)) rfl trivial ?_
      obtain rfl := Option.some.inj hm
      exact MW_iret C okX3_signAt hq 17 rfl hp
theorem c_pd_signAt (d : PdS) (x1 : Int32) (out : Int32) (hm : pd_signAt d x1 = some out) : CT yX3_signAt cX3_signAt 2 (some .int) 0 0 0 0 [.ref 0, .int x1] (hPd 0 d) (fun v h => v = (some (.int out)) ∧ h = (hPd 0 d)) :=
  CT_of (by decide +kernel) (vs0 := [some (.ref 0), some (.int x1)]) rfl rfl (fun X C hq => t_pd_signAt C hq d x1 out hm ⟨rfl, rfl⟩)
