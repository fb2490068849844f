/-! C: th_choose -/
def th_choose_J19 (t : ThS) (y : YdS) (x3 : Int32) : Option (Int32) :=
  if x3 = (-6) then
    (th_onward t y).bind fun q27 =>
      some q27
  else
    some x3
set_option maxRecDepth 100000 in
set_option maxHeartbeats 1000000 in
theorem j_th_choose_19 {X : CTX} {K : Option Value → AH → Prop} (C : CX X cX9_choose yX9_choose.cls (decide (yX9_choose.name = "<init>")) 3 75) (hq : RQ X (some .int) K) (t : ThS) (y : YdS) (x3 : Int32) (out : Int32) (hm : th_choose_J19 t y x3 = some out) (hp : K (some (.int out)) (hTh 0 t ++ (hYd 4 y))) : MW X (19, [some (.ref 0), some (.ref 4), none, some (.int x3)], [], (hTh 0 t ++ (hYd 4 y)), 0, 0) := by
  unfold th_choose_J19 at hm
  refine MW_run C okX9_choose 12 2 (gs := []) (cf' := (22, [some (.ref 0), some (.ref 4), none, some (.int x3)], [.int (-6), .int x3], (hTh 0 t ++ (hYd 4 y)), 0, 0)) rfl trivial ?_
  obtain ⟨hmt22, hmf22⟩ := of_if hm
  refine MW_brF C okX9_choose 14 rfl rfl (fun hb22 => ?_) (fun hb22 => ?_)
  · have hm := hmt22 hb22
    refine MW_run C okX9_choose 15 2 (gs := []) (cf' := (27, [some (.ref 0), some (.ref 4), none, some (.int x3)], [.ref 4, .ref 0], (hTh 0 t ++ (hYd 4 y)), 0, 0)) rfl trivial ?_
    obtain ⟨q27, hc27, hm⟩ := of_bind hm
    refine MW_callV0 C okX9_choose 17 rfl (v0 := some (.int q27)) (h0 := (hTh 0 t ++ (hYd 4 y))) (c_th_onward t y q27 hc27) lkX9_41 1 dpX9_onward (by decide) (rest := []) rfl rfl rfl rfl rfl rfl rfl rfl ?_
    refine MW_run C okX9_choose 18 1 (gs := []) (cf' := (34, [some (.ref 0), some (.ref 4), none, some (.int x3)], [.int q27], (hTh 0 t ++ (hYd 4 y)), 0, 0)) rfl trivial ?_
    obtain rfl := Option.some.inj hm
    exact MW_iret C okX9_choose hq 20 rfl hp
  · have hm := hmf22 hb22
    refine MW_run C okX9_choose 19 1 (gs := []) (cf' := (34, [some (.ref 0), some (.ref 4), none, some (.int x3)], [.int x3], (hTh 0 t ++ (hYd 4 y)), 0, 0)) rfl trivial ?_
    obtain rfl := Option.some.inj hm
    exact MW_iret C okX9_choose hq 20 rfl hp
def th_choose (t : ThS) (y : YdS) (x2 : Int32) : Option (Int32) :=
  (th_wantedOut t y).bind fun q2 =>
    if q2 = (-6) then
      (th_fromEntry t y x2).bind fun q15 =>
        th_choose_J19 t y q15
    else
      th_choose_J19 t y q2
set_option maxRecDepth 100000 in
set_option maxHeartbeats 1000000 in
theorem t_th_choose {X : CTX} {K : Option Value → AH → Prop} (C : CX X cX9_choose yX9_choose.cls (decide (yX9_choose.name = "<init>")) 3 75) (hq : RQ X (some .int) K) (t : ThS) (y : YdS) (x2 : Int32) (out : Int32) (hm : th_choose t y x2 = some out) (hp : K (some (.int out)) (hTh 0 t ++ (hYd 4 y))) : MW X (0, [some (.ref 0), some (.ref 4), some (.int x2), none], [], (hTh 0 t ++ (hYd 4 y)), 0, 0) := by
  unfold th_choose at hm
  refine MW_run C okX9_choose 0 2 (gs := []) (cf' := (2, [some (.ref 0), some (.ref 4), some (.int x2), none], [.ref 4, .ref 0], (hTh 0 t ++ (hYd 4 y)), 0, 0)) rfl trivial ?_
  obtain ⟨q2, hc2, hm⟩ := of_bind hm
  refine MW_callV0 C okX9_choose 2 rfl (v0 := some (.int q2)) (h0 := (hTh 0 t ++ (hYd 4 y))) (c_th_wantedOut t y q2 hc2) lkX9_34 1 dpX9_wantedOut (by decide) (rest := []) rfl rfl rfl rfl rfl rfl rfl rfl ?_
  refine MW_run C okX9_choose 3 3 (gs := []) (cf' := (9, [some (.ref 0), some (.ref 4), some (.int x2), some (.int q2)], [.int (-6), .int q2], (hTh 0 t ++ (hYd 4 y)), 0, 0)) rfl trivial ?_
  obtain ⟨hmt9, hmf9⟩ := of_if hm
  refine MW_brF C okX9_choose 6 rfl rfl (fun hb9 => ?_) (fun hb9 => ?_)
  · have hm := hmt9 hb9
    refine MW_run C okX9_choose 7 3 (gs := []) (cf' := (15, [some (.ref 0), some (.ref 4), some (.int x2), some (.int q2)], [.int x2, .ref 4, .ref 0], (hTh 0 t ++ (hYd 4 y)), 0, 0)) rfl trivial ?_
    obtain ⟨q15, hc15, hm⟩ := of_bind hm
    refine MW_callV0 C okX9_choose 10 rfl (v0 := some (.int q15)) (h0 := (hTh 0 t ++ (hYd 4 y))) (c_th_fromEntry t y x2 q15 hc15) lkX9_38 2 dpX9_fromEntry (by decide) (rest := []) rfl rfl rfl rfl rfl rfl rfl rfl ?_
    refine MW_run C okX9_choose 11 1 (gs := []) (cf' := (19, [some (.ref 0), some (.ref 4), some (.int x2), some (.int q15)], [], (hTh 0 t ++ (hYd 4 y)), 0, 0)) rfl trivial ?_
    refine MW_pick [true, true, false, true] rfl (vs' := [some (.ref 0), some (.ref 4), none, some (.int q15)]) rfl ?_
    exact j_th_choose_19 C hq t y q15 _ hm hp
  · have hm := hmf9 hb9
    refine MW_pick [true, true, false, true] rfl (vs' := [some (.ref 0), some (.ref 4), none, some (.int q2)]) rfl ?_
    exact j_th_choose_19 C hq t y q2 _ hm hp
theorem c_th_choose (t : ThS) (y : YdS) (x2 : Int32) (out : Int32) (hm : th_choose t y x2 = some out) : CT yX9_choose cX9_choose 4 (some .int) 3 75 0 0 [.ref 0, .ref 4, .int x2] (hTh 0 t ++ (hYd 4 y)) (fun v h => v = (some (.int out)) ∧ h = (hTh 0 t ++ (hYd 4 y))) :=
  CT_of (by decide +kernel) (vs0 := [some (.ref 0), some (.ref 4), some (.int x2), none]) rfl rfl (fun X C hq => t_th_choose C hq t y x2 out hm ⟨rfl, rfl⟩)
/-! C: th_outInOrder -/
def th_outInOrder_L21 : Nat → ThS → YdS → Int32 → Int32 → Int32 → Option (ThS)
  | 0, _, _, _, _, _ => none
  | n + 1, t, y, x4, x5, x6 =>
    if x6 < 20 then
      if x5 = (-6) then
        some t
      else
        (pl_shift t x5).bind fun q41 =>
          (th_choose q41 y x4).bind fun q48 =>
            th_outInOrder_L21 n q41 y x4 q48 (x6 + 1)
    else
      some t
set_option maxRecDepth 100000 in
set_option maxHeartbeats 1000000 in
theorem l_th_outInOrder_21 {X : CTX} {K : Option Value → AH → Prop} (C : CX X cX9_outInOrder yX9_outInOrder.cls (decide (yX9_outInOrder.name = "<init>")) 4 98) (hq : RQ X (some .int) K) : ∀ (n : Nat) (t : ThS) (y : YdS) (x4 : Int32) (x5 : Int32) (x6 : Int32) (out : ThS) (hm : th_outInOrder_L21 n t y x4 x5 x6 = some out) (hp : MW X (59, [some (.ref 0), none, none, none, none, none, none], [], (hTh 0 out ++ (hYd 4 y)), 0, 0)), MW X (21, [some (.ref 0), some (.ref 4), none, none, some (.int x4), some (.int x5), some (.int x6)], [], (hTh 0 t ++ (hYd 4 y)), 0, 0) := by
  intro n
  induction n with
  | zero => intro t y x4 x5 x6 out hm hp; rw [th_outInOrder_L21] at hm; cases hm
  | succ n ih =>
    intro t y x4 x5 x6 out hm hp
    rw [th_outInOrder_L21] at hm
    refine MW_run C okX9_outInOrder 12 2 (gs := []) (cf' := (25, [some (.ref 0), some (.ref 4), none, none, some (.int x4), some (.int x5), some (.int x6)], [.int 20, .int x6], (hTh 0 t ++ (hYd 4 y)), 0, 0)) rfl trivial ?_
    obtain ⟨hmt25, hmf25⟩ := of_if hm
    refine MW_brF C okX9_outInOrder 14 rfl rfl (fun hb25 => ?_) (fun hb25 => ?_)
    · have hm := hmt25 hb25
      refine MW_run C okX9_outInOrder 15 2 (gs := []) (cf' := (32, [some (.ref 0), some (.ref 4), none, none, some (.int x4), some (.int x5), some (.int x6)], [.int (-6), .int x5], (hTh 0 t ++ (hYd 4 y)), 0, 0)) rfl trivial ?_
      obtain ⟨hmt32, hmf32⟩ := of_if hm
      refine MW_brT C okX9_outInOrder 17 rfl rfl (fun hb32 => ?_) (fun hb32 => ?_)
      · have hm := hmt32 hb32
        obtain rfl := Option.some.inj hm
        refine MW_pick [true, false, true, true, false, false, false] rfl (vs' := [some (.ref 0), none, none, none, none, none, none]) rfl ?_
        exact hp
      · have hm := hmf32 hb32
        refine MW_run C okX9_outInOrder 18 3 (gs := []) (cf' := (41, [some (.ref 0), some (.ref 4), none, none, some (.int x4), some (.int x5), some (.int x6)], [.int x5, .ref 1], (hTh 0 t ++ (hYd 4 y)), 0, 0)) rfl trivial ?_
        obtain ⟨q41, hc41, hm⟩ := of_bind hm
        refine MW_callV1 C okX9_outInOrder 21 rfl [1, 2, 3] (v0 := none) (h0 := (hPl 0 q41)) (c_pl_shift t x5 q41 hc41) lkX9_26 1 dpX4_shift (by decide) (rest := []) rfl rfl rfl rfl rfl rfl rfl rfl rfl rfl rfl (st2 := []) (h2 := (hTh 0 q41 ++ (hYd 4 y))) rfl rfl ?_
        refine MW_run C okX9_outInOrder 22 3 (gs := []) (cf' := (48, [some (.ref 0), some (.ref 4), none, none, some (.int x4), some (.int x5), some (.int x6)], [.int x4, .ref 4, .ref 0], (hTh 0 q41 ++ (hYd 4 y)), 0, 0)) rfl trivial ?_
        obtain ⟨q48, hc48, hm⟩ := of_bind hm
        refine MW_callV0 C okX9_outInOrder 25 rfl (v0 := some (.int q48)) (h0 := (hTh 0 q41 ++ (hYd 4 y))) (c_th_choose q41 y x4 q48 hc48) lkX9_22 2 dpX9_choose (by decide) (rest := []) rfl rfl rfl rfl rfl rfl rfl rfl ?_
        refine MW_run C okX9_outInOrder 26 3 (gs := []) (cf' := (21, [some (.ref 0), some (.ref 4), none, none, some (.int x4), some (.int q48), some (.int (x6 + 1))], [], (hTh 0 q41 ++ (hYd 4 y)), 0, 0)) rfl trivial ?_
        exact ih q41 y x4 q48 (x6 + 1) _ hm hp
    · have hm := hmf25 hb25
      obtain rfl := Option.some.inj hm
      refine MW_pick [true, false, true, true, false, false, false] rfl (vs' := [some (.ref 0), none, none, none, none, none, none]) rfl ?_
      exact hp
def th_outInOrder (t : ThS) (y : YdS) (x2 : Int32) (x3 : Int32) (x4 : Int32) : Option (Int32 × ThS) :=
  (pl_begin t x2 x3).bind fun q6 =>
    (th_choose q6 y x4).bind fun q13 =>
      (th_outInOrder_L21 N0 q6 y x4 q13 0).bind fun q21 =>
        (pl_countAt q21 5).bind fun q64 =>
          some (q64, q21)
set_option maxRecDepth 100000 in
set_option maxHeartbeats 1000000 in
theorem t_th_outInOrder {X : CTX} {K : Option Value → AH → Prop} (C : CX X cX9_outInOrder yX9_outInOrder.cls (decide (yX9_outInOrder.name = "<init>")) 4 98) (hq : RQ X (some .int) K) (t : ThS) (y : YdS) (x2 : Int32) (x3 : Int32) (x4 : Int32) (out : Int32 × ThS) (hm : th_outInOrder t y x2 x3 x4 = some out) (hp : K (some (.int out.1)) (hTh 0 out.2 ++ (hYd 4 y))) : MW X (0, [some (.ref 0), some (.ref 4), some (.int x2), some (.int x3), some (.int x4), none, none], [], (hTh 0 t ++ (hYd 4 y)), 0, 0) := by
  unfold th_outInOrder at hm
  refine MW_run C okX9_outInOrder 0 4 (gs := []) (cf' := (6, [some (.ref 0), some (.ref 4), some (.int x2), some (.int x3), some (.int x4), none, none], [.int x3, .int x2, .ref 1], (hTh 0 t ++ (hYd 4 y)), 0, 0)) rfl trivial ?_
  obtain ⟨q6, hc6, hm⟩ := of_bind hm
  refine MW_callV1 C okX9_outInOrder 4 rfl [1, 2, 3] (v0 := none) (h0 := (hPl 0 q6)) (c_pl_begin t x2 x3 q6 hc6) lkX9_18 2 dpX4_begin (by decide) (rest := []) rfl rfl rfl rfl rfl rfl rfl rfl rfl rfl rfl (st2 := []) (h2 := (hTh 0 q6 ++ (hYd 4 y))) rfl rfl ?_
  refine MW_run C okX9_outInOrder 5 3 (gs := []) (cf' := (13, [some (.ref 0), some (.ref 4), some (.int x2), some (.int x3), some (.int x4), none, none], [.int x4, .ref 4, .ref 0], (hTh 0 q6 ++ (hYd 4 y)), 0, 0)) rfl trivial ?_
  obtain ⟨q13, hc13, hm⟩ := of_bind hm
  refine MW_callV0 C okX9_outInOrder 8 rfl (v0 := some (.int q13)) (h0 := (hTh 0 q6 ++ (hYd 4 y))) (c_th_choose q6 y x4 q13 hc13) lkX9_22 2 dpX9_choose (by decide) (rest := []) rfl rfl rfl rfl rfl rfl rfl rfl ?_
  refine MW_run C okX9_outInOrder 9 3 (gs := []) (cf' := (21, [some (.ref 0), some (.ref 4), some (.int x2), some (.int x3), some (.int x4), some (.int q13), some (.int 0)], [], (hTh 0 q6 ++ (hYd 4 y)), 0, 0)) rfl trivial ?_
  obtain ⟨q21, hc21, hm⟩ := of_bind hm
  refine MW_pick [true, true, false, false, true, true, true] rfl (vs' := [some (.ref 0), some (.ref 4), none, none, some (.int x4), some (.int q13), some (.int 0)]) rfl ?_
  refine l_th_outInOrder_21 C hq N0 q6 y x4 q13 0 q21 hc21 ?_
  refine MW_run C okX9_outInOrder 29 3 (gs := []) (cf' := (64, [some (.ref 0), none, none, none, none, none, none], [.int 5, .ref 1], (hTh 0 q21 ++ (hYd 4 y)), 0, 0)) rfl trivial ?_
  obtain ⟨q64, hc64, hm⟩ := of_bind hm
  refine MW_callV1 C okX9_outInOrder 32 rfl [1, 2, 3] (v0 := some (.int q64)) (h0 := (hPl 0 q21)) (c_pl_countAt q21 5 q64 hc64) lkX9_30 1 dpX4_countAt (by decide) (rest := []) rfl rfl rfl rfl rfl rfl rfl rfl rfl rfl rfl (st2 := [.int q64]) (h2 := (hTh 0 q21 ++ (hYd 4 y))) rfl rfl ?_
  obtain rfl := Option.some.inj hm
  exact MW_iret C okX9_outInOrder hq 33 rfl hp
theorem c_th_outInOrder (t : ThS) (y : YdS) (x2 : Int32) (x3 : Int32) (x4 : Int32) (out : Int32 × ThS) (hm : th_outInOrder t y x2 x3 x4 = some out) : CT yX9_outInOrder cX9_outInOrder 7 (some .int) 4 98 0 0 [.ref 0, .ref 4, .int x2, .int x3, .int x4] (hTh 0 t ++ (hYd 4 y)) (fun v h => v = (some (.int out.1)) ∧ h = (hTh 0 out.2 ++ (hYd 4 y))) :=
  CT_of (by decide +kernel) (vs0 := [some (.ref 0), some (.ref 4), some (.int x2), some (.int x3), some (.int x4), none, none]) rfl rfl (fun X C hq => t_th_outInOrder C hq t y x2 x3 x4 out hm ⟨rfl, rfl⟩)
/-! C: yd_hasMove -/
def yd_hasMove_L4 : Nat → YdS → Int32 → Int32 → Int32 → Option (Int32)
  | 0, _, _, _, _ => none
  | n + 1, y, x1, x2, x3 =>
    if x3 < y.2.2.1 then
      if x2 = 0 then
        (yd_moveAt y x3).bind fun q18 =>
          if q18 = x1 then
            yd_hasMove_L4 n y x1 1 (x3 + 1)
          else
            yd_hasMove_L4 n y x1 0 (x3 + 1)
      else
        yd_hasMove_L4 n y x1 1 (x3 + 1)
    else
      some x2
set_option maxRecDepth 100000 in
set_option maxHeartbeats 1000000 in
theorem l_yd_hasMove_4 {X : CTX} {K : Option Value → AH → Prop} (C : CX X cX10_hasMove yX10_hasMove.cls (decide (yX10_hasMove.name = "<init>")) 1 21) (hq : RQ X (some .boolean) K) : ∀ (n : Nat) (y : YdS) (x1 : Int32) (x2 : Int32) (x3 : Int32) (out : Int32) (hm : yd_hasMove_L4 n y x1 x2 x3 = some out) (hp : MW X (37, [none, none, some (.int out), none], [], (hYd 0 y), 0, 0)), MW X (4, [some (.ref 0), some (.int x1), some (.int x2), some (.int x3)], [], (hYd 0 y), 0, 0) := by
  intro n
  induction n with
  | zero => intro y x1 x2 x3 out hm hp; rw [yd_hasMove_L4] at hm; cases hm
  | succ n ih =>
    intro y x1 x2 x3 out hm hp
    rw [yd_hasMove_L4] at hm
    refine MW_run C okX10_hasMove 4 3 (gs := []) (cf' := (9, [some (.ref 0), some (.int x1), some (.int x2), some (.int x3)], [.int y.2.2.1, .int x3], (hYd 0 y), 0, 0)) rfl trivial ?_
    obtain ⟨hmt9, hmf9⟩ := of_if hm
    refine MW_brF C okX10_hasMove 7 rfl rfl (fun hb9 => ?_) (fun hb9 => ?_)
    · have hm := hmt9 hb9
      refine MW_run C okX10_hasMove 8 1 (gs := []) (cf' := (13, [some (.ref 0), some (.int x1), some (.int x2), some (.int x3)], [.int x2], (hYd 0 y), 0, 0)) rfl trivial ?_
      obtain ⟨hmt13, hmf13⟩ := of_if hm
      refine MW_brF C okX10_hasMove 9 rfl rfl (fun hb13 => ?_) (fun hb13 => ?_)
      · have hm := hmt13 hb13
        refine MW_run C okX10_hasMove 10 2 (gs := []) (cf' := (18, [some (.ref 0), some (.int x1), some (.int x2), some (.int x3)], [.int x3, .ref 0], (hYd 0 y), 0, 0)) rfl trivial ?_
        obtain ⟨q18, hc18, hm⟩ := of_bind hm
        refine MW_callV0 C okX10_hasMove 12 rfl (v0 := some (.int q18)) (h0 := (hYd 0 y)) (c_yd_moveAt y x3 q18 hc18) lkX10_83 1 dpX10_moveAt (by decide) (rest := []) rfl rfl rfl rfl rfl rfl rfl rfl ?_
        refine MW_run C okX10_hasMove 13 1 (gs := []) (cf' := (22, [some (.ref 0), some (.int x1), some (.int x2), some (.int x3)], [.int x1, .int q18], (hYd 0 y), 0, 0)) rfl trivial ?_
        obtain ⟨hmt22, hmf22⟩ := of_if hm
        refine MW_brF C okX10_hasMove 14 rfl rfl (fun hb22 => ?_) (fun hb22 => ?_)
        · have hm := hmt22 hb22
          refine MW_run C okX10_hasMove 15 2 (gs := []) (cf' := (30, [some (.ref 0), some (.int x1), some (.int x2), some (.int x3)], [.int 1], (hYd 0 y), 0, 0)) rfl trivial ?_
          refine MW_run C okX10_hasMove 18 3 (gs := []) (cf' := (4, [some (.ref 0), some (.int x1), some (.int 1), some (.int (x3 + 1))], [], (hYd 0 y), 0, 0)) rfl trivial ?_
          exact ih y x1 1 (x3 + 1) _ hm hp
        · have hm := hmf22 hb22
          refine MW_run C okX10_hasMove 17 1 (gs := []) (cf' := (30, [some (.ref 0), some (.int x1), some (.int x2), some (.int x3)], [.int 0], (hYd 0 y), 0, 0)) rfl trivial ?_
          refine MW_run C okX10_hasMove 18 3 (gs := []) (cf' := (4, [some (.ref 0), some (.int x1), some (.int 0), some (.int (x3 + 1))], [], (hYd 0 y), 0, 0)) rfl trivial ?_
          exact ih y x1 0 (x3 + 1) _ hm hp
      · have hm := hmf13 hb13
        refine MW_run C okX10_hasMove 15 2 (gs := []) (cf' := (30, [some (.ref 0), some (.int x1), some (.int x2), some (.int x3)], [.int 1], (hYd 0 y), 0, 0)) rfl trivial ?_
        refine MW_run C okX10_hasMove 18 3 (gs := []) (cf' := (4, [some (.ref 0), some (.int x1), some (.int 1), some (.int (x3 + 1))], [], (hYd 0 y), 0, 0)) rfl trivial ?_
        exact ih y x1 1 (x3 + 1) _ hm hp
    · have hm := hmf9 hb9
      obtain rfl := Option.some.inj hm
      refine MW_pick [false, false, true, false] rfl (vs' := [none, none, some (.int x2), none]) rfl ?_
      exact hp
def yd_hasMove (y : YdS) (x1 : Int32) : Option (Int32) :=
  (yd_hasMove_L4 N0 y x1 0 0).bind fun q4 =>
    if isZ q4 then some q4 else none
set_option maxRecDepth 100000 in
set_option maxHeartbeats 1000000 in
theorem t_yd_hasMove {X : CTX} {K : Option Value → AH → Prop} (C : CX X cX10_hasMove yX10_hasMove.cls (decide (yX10_hasMove.name = "<init>")) 1 21) (hq : RQ X (some .boolean) K) (y : YdS) (x1 : Int32) (out : Int32) (hm : yd_hasMove y x1 = some out) (hp : K (some (.int out)) (hYd 0 y)) : MW X (0, [some (.ref 0), some (.int x1), none, none], [], (hYd 0 y), 0, 0) := by
  unfold yd_hasMove at hm
  refine MW_run C okX10_hasMove 0 4 (gs := []) (cf' := (4, [some (.ref 0), some (.int x1), some (.int 0), some (.int 0)], [], (hYd 0 y), 0, 0)) rfl trivial ?_
  obtain ⟨q4, hc4, hm⟩ := of_bind hm
  refine l_yd_hasMove_4 C hq N0 y x1 0 0 q4 hc4 ?_
  refine MW_run C okX10_hasMove 21 1 (gs := []) (cf' := (38, [none, none, some (.int q4), none], [.int q4], (hYd 0 y), 0, 0)) rfl trivial ?_
  obtain ⟨hz, hm⟩ := of_guard hm
  obtain rfl := Option.some.inj hm
  exact MW_zret C okX10_hasMove hq 22 rfl hz hp
theorem c_yd_hasMove (y : YdS) (x1 : Int32) (out : Int32) (hm : yd_hasMove y x1 = some out) : CT yX10_hasMove cX10_hasMove 4 (some .boolean) 1 21 0 0 [.ref 0, .int x1] (hYd 0 y) (fun v h => v = (some (.int out)) ∧ h = (hYd 0 y)) :=
  CT_of (by decide +kernel) (vs0 := [some (.ref 0), some (.int x1), none, none]) rfl rfl (fun X C hq => t_yd_hasMove C hq y x1 out hm ⟨rfl, rfl⟩)
/-! C: so_say -/
def so_say (s : SoS) (yr : Nat) (x1 : Int32) : Option (Int32 × SoS) :=
  if x1 < 33 then
    some ((-2), s)
  else
    if (126 : Int32) < x1 then
      some ((-2), s)
    else
      (pd_add s.1 x1).bind fun q20 =>
        if q20.1 = 0 then
          some ((-4), (q20.2, s.2.1, s.2.2.1, s.2.2.2.1, s.2.2.2.2.1, s.2.2.2.2.2.1, s.2.2.2.2.2.2.1, s.2.2.2.2.2.2.2.1, s.2.2.2.2.2.2.2.2.1, s.2.2.2.2.2.2.2.2.2))
        else
          some (q20.2.2, (q20.2, s.2.1, s.2.2.1, s.2.2.2.1, s.2.2.2.2.1, s.2.2.2.2.2.1, s.2.2.2.2.2.2.1, s.2.2.2.2.2.2.2.1, s.2.2.2.2.2.2.2.2.1, s.2.2.2.2.2.2.2.2.2))
set_option maxRecDepth 100000 in
set_option maxHeartbeats 1000000 in
theorem t_so_say {X : CTX} {K : Option Value → AH → Prop} (C : CX X cX11_say yX11_say.cls (decide (yX11_say.name = "<init>")) 1 21) (hq : RQ X (some .int) K) (s : SoS) (yr : Nat) (x1 : Int32) (out : Int32 × SoS) (hm : so_say s yr x1 = some out) (hp : K (some (.int out.1)) (hSo yr out.2)) : MW X (0, [some (.ref 0), some (.int x1)], [], (hSo yr s), 0, 0) := by
  unfold so_say at hm
  refine MW_run C okX11_say 0 2 (gs := []) (cf' := (3, [some (.ref 0), some (.int x1)], [.int 33, .int x1], (hSo yr s), 0, 0)) rfl trivial ?_
  obtain ⟨hmt3, hmf3⟩ := of_if hm
  refine MW_brT C okX11_say 2 rfl rfl (fun hb3 => ?_) (fun hb3 => ?_)
  · have hm := hmt3 hb3
    refine MW_run C okX11_say 6 1 (gs := []) (cf' := (14, [some (.ref 0), some (.int x1)], [.int (-2)], (hSo yr s), 0, 0)) rfl trivial ?_
    obtain rfl := Option.some.inj hm
    exact MW_iret C okX11_say hq 7 rfl hp
  · have hm := hmf3 hb3
    refine MW_run C okX11_say 3 2 (gs := []) (cf' := (9, [some (.ref 0), some (.int x1)], [.int 126, .int x1], (hSo yr s), 0, 0)) rfl trivial ?_
    obtain ⟨hmt9, hmf9⟩ := of_if hm
    refine MW_brF C okX11_say 5 rfl rfl (fun hb9 => ?_) (fun hb9 => ?_)
    · have hm := hmt9 hb9
      refine MW_run C okX11_say 6 1 (gs := []) (cf' := (14, [some (.ref 0), some (.int x1)], [.int (-2)], (hSo yr s), 0, 0)) rfl trivial ?_
      obtain rfl := Option.some.inj hm
      exact MW_iret C okX11_say hq 7 rfl hp
    · have hm := hmf9 hb9
      refine MW_run C okX11_say 8 3 (gs := []) (cf' := (20, [some (.ref 0), some (.int x1)], [.int x1, .ref 1], (hSo yr s), 0, 0)) rfl trivial ?_
      obtain ⟨q20, hc20, hm⟩ := of_bind hm
      refine MW_callV1 C okX11_say 11 rfl [1, 2] (v0 := some (.int q20.1)) (h0 := (hPd 0 q20.2)) (c_pd_add s.1 x1 q20 hc20) lkX11_73 1 dpX3_add (by decide) (rest := []) rfl rfl rfl rfl rfl rfl rfl rfl rfl rfl rfl (st2 := [.int q20.1]) (h2 := (hSo yr (q20.2, s.2.1, s.2.2.1, s.2.2.2.1, s.2.2.2.2.1, s.2.2.2.2.2.1, s.2.2.2.2.2.2.1, s.2.2.2.2.2.2.2.1, s.2.2.2.2.2.2.2.2.1, s.2.2.2.2.2.2.2.2.2))) rfl rfl ?_
      obtain ⟨hmt23, hmf23⟩ := of_if hm
      refine MW_brT C okX11_say 12 rfl rfl (fun hb23 => ?_) (fun hb23 => ?_)
      · have hm := hmt23 hb23
        refine MW_run C okX11_say 17 1 (gs := []) (cf' := (38, [some (.ref 0), some (.int x1)], [.int (-4)], (hSo yr (q20.2, s.2.1, s.2.2.1, s.2.2.2.1, s.2.2.2.2.1, s.2.2.2.2.2.1, s.2.2.2.2.2.2.1, s.2.2.2.2.2.2.2.1, s.2.2.2.2.2.2.2.2.1, s.2.2.2.2.2.2.2.2.2)), 0, 0)) rfl trivial ?_
        obtain rfl := Option.some.inj hm
        exact MW_iret C okX11_say hq 18 rfl hp
      · have hm := hmf23 hb23
        refine MW_run C okX11_say 13 4 (gs := []) (cf' := (38, [some (.ref 0), some (.int x1)], [.int q20.2.2], (hSo yr (q20.2, s.2.1, s.2.2.1, s.2.2.2.1, s.2.2.2.2.1, s.2.2.2.2.2.1, s.2.2.2.2.2.2.1, s.2.2.2.2.2.2.2.1, s.2.2.2.2.2.2.2.2.1, s.2.2.2.2.2.2.2.2.2)), 0, 0)) rfl trivial ?_
        obtain rfl := Option.some.inj hm
        exact MW_iret C okX11_say hq 18 rfl hp
theorem c_so_say (s : SoS) (yr : Nat) (x1 : Int32) (out : Int32 × SoS) (hm : so_say s yr x1 = some out) : CT yX11_say cX11_say 2 (some .int) 1 21 0 0 [.ref 0, .int x1] (hSo yr s) (fun v h => v = (some (.int out.1)) ∧ h = (hSo yr out.2)) :=
  CT_of (by decide +kernel) (vs0 := [some (.ref 0), some (.int x1)]) rfl rfl (fun X C hq => t_so_say C hq s yr x1 out hm ⟨rfl, rfl⟩)
/-! C: so_wipe -/
def so_wipe (s : SoS) (yr : Nat) : Option (Int32 × SoS) :=
  (pd_clear s.1).bind fun q12 =>
    some (s.1.2, (q12, s.2.1, s.2.2.1, s.2.2.2.1, s.2.2.2.2.1, s.2.2.2.2.2.1, s.2.2.2.2.2.2.1, s.2.2.2.2.2.2.2.1, s.2.2.2.2.2.2.2.2.1, s.2.2.2.2.2.2.2.2.2))
set_option maxRecDepth 100000 in
set_option maxHeartbeats 1000000 in
theorem t_so_wipe {X : CTX} {K : Option Value → AH → Prop} (C : CX X cX11_wipe yX11_wipe.cls (decide (yX11_wipe.name = "<init>")) 1 20) (hq : RQ X (some .int) K) (s : SoS) (yr : Nat) (out : Int32 × SoS) (hm : so_wipe s yr = some out) (hp : K (some (.int out.1)) (hSo yr out.2)) : MW X (0, [some (.ref 0), none], [], (hSo yr s), 0, 0) := by
  unfold so_wipe at hm
  refine MW_run C okX11_wipe 0 6 (gs := []) (cf' := (12, [some (.ref 0), some (.int s.1.2)], [.ref 1], (hSo yr s), 0, 0)) rfl trivial ?_
  obtain ⟨q12, hc12, hm⟩ := of_bind hm
  refine MW_callV1 C okX11_wipe 6 rfl [1, 2] (v0 := none) (h0 := (hPd 0 q12)) (c_pd_clear s.1 q12 hc12) lkX11_80 0 dpX3_clear (by decide) (rest := []) rfl rfl rfl rfl rfl rfl rfl rfl rfl rfl rfl (st2 := []) (h2 := (hSo yr (q12, s.2.1, s.2.2.1, s.2.2.2.1, s.2.2.2.2.1, s.2.2.2.2.2.1, s.2.2.2.2.2.2.1, s.2.2.2.2.2.2.2.1, s.2.2.2.2.2.2.2.2.1, s.2.2.2.2.2.2.2.2.2))) rfl rfl ?_
  refine MW_run C okX11_wipe 7 1 (gs := []) (cf' := (16, [some (.ref 0), some (.int s.1.2)], [.int s.1.2], (hSo yr (q12, s.2.1, s.2.2.1, s.2.2.2.1, s.2.2.2.2.1, s.2.2.2.2.2.1, s.2.2.2.2.2.2.1, s.2.2.2.2.2.2.2.1, s.2.2.2.2.2.2.2.2.1, s.2.2.2.2.2.2.2.2.2)), 0, 0)) rfl trivial ?_
  obtain rfl := Option.some.inj hm
  exact MW_iret C okX11_wipe hq 8 rfl hp
theorem c_so_wipe (s : SoS) (yr : Nat) (out : Int32 × SoS) (hm : so_wipe s yr = some out) : CT yX11_wipe cX11_wipe 2 (some .int) 1 20 0 0 [.ref 0] (hSo yr s) (fun v h => v = (some (.int out.1)) ∧ h = (hSo yr out.2)) :=
  CT_of (by decide +kernel) (vs0 := [some (.ref 0), none]) rfl rfl (fun X C hq => t_so_wipe C hq s yr out hm ⟨rfl, rfl⟩)
/-! C: so_fault -/
def so_fault (s : SoS) (yr : Nat) : Option (Int32) :=
  (pd_faultAt s.1).bind fun q4 =>
    some q4
set_option maxRecDepth 100000 in
set_option maxHeartbeats 1000000 in
theorem t_so_fault {X : CTX} {K : Option Value → AH → Prop} (C : CX X cX11_fault yX11_fault.cls (decide (yX11_fault.name = "<init>")) 2 48) (hq : RQ X (some .int) K) (s : SoS) (yr : Nat) (out : Int32) (hm : so_fault s yr = some out) (hp : K (some (.int out)) (hSo yr s)) : MW X (0, [some (.ref 0)], [], (hSo yr s), 0, 0) := by
  unfold so_fault at hm
  refine MW_run C okX11_fault 0 2 (gs := []) (cf' := (4, [some (.ref 0)], [.ref 1], (hSo yr s), 0, 0)) rfl trivial ?_
  obtain ⟨q4, hc4, hm⟩ := of_bind hm
  refine MW_callV1 C okX11_fault 2 rfl [1, 2] (v0 := some (.int q4)) (h0 := (hPd 0 s.1)) (c_pd_faultAt s.1 q4 hc4) lkX11_90 0 dpX3_faultAt (by decide) (rest := []) rfl rfl rfl rfl rfl rfl rfl rfl rfl rfl rfl (st2 := [.int q4]) (h2 := (hSo yr s)) rfl rfl ?_
  obtain rfl := Option.some.inj hm
  exact MW_iret C okX11_fault hq 3 rfl hp
theorem c_so_fault (s : SoS) (yr : Nat) (out : Int32) (hm : so_fault s yr = some out) : CT yX11_fault cX11_fault 1 (some .int) 2 48 0 0 [.ref 0] (hSo yr s) (fun v h => v = (some (.int out)) ∧ h = (hSo yr s)) :=
  CT_of (by decide +kernel) (vs0 := [some (.ref 0)]) rfl rfl (fun X C hq => t_so_fault C hq s yr out hm ⟨rfl, rfl⟩)
/-! C: so_forgetFindings -/
def so_forgetFindings (s : SoS) (yr : Nat) : Option (SoS) :=
  (se_forget s.2.2.2.2.2.2.2.1).bind fun q4 =>
    some (s.1, s.2.1, s.2.2.1, s.2.2.2.1, s.2.2.2.2.1, s.2.2.2.2.2.1, s.2.2.2.2.2.2.1, q4, (0, s.2.2.2.2.2.2.2.2.1.2.1, s.2.2.2.2.2.2.2.2.1.2.2), s.2.2.2.2.2.2.2.2.2)
set_option maxRecDepth 100000 in
set_option maxHeartbeats 1000000 in
theorem t_so_forgetFindings {X : CTX} {K : Option Value → AH → Prop} (C : CX X cX11_forgetFindings yX11_forgetFindings.cls (decide (yX11_forgetFindings.name = "<init>")) 1 20) (hq : RQ X none K) (s : SoS) (yr : Nat) (out : SoS) (hm : so_forgetFindings s yr = some out) (hp : K none (hSo yr out)) : MW X (0, [some (.ref 0)], [], (hSo yr s), 0, 0) := by
  unfold so_forgetFindings at hm
  refine MW_run C okX11_forgetFindings 0 2 (gs := []) (cf' := (4, [some (.ref 0)], [.ref 74], (hSo yr s), 0, 0)) rfl trivial ?_
  obtain ⟨q4, hc4, hm⟩ := of_bind hm
  refine MW_callV1 C okX11_forgetFindings 2 rfl [74, 75, 76, 77, 78, yr] (v0 := none) (h0 := (hSe 0 5 q4)) (c_se_forget s.2.2.2.2.2.2.2.1 q4 hc4) lkX11_276 0 dpX7_forget (by decide) (rest := []) rfl rfl rfl rfl rfl rfl rfl rfl rfl rfl rfl (st2 := []) (h2 := (hSo yr (s.1, s.2.1, s.2.2.1, s.2.2.2.1, s.2.2.2.2.1, s.2.2.2.2.2.1, s.2.2.2.2.2.2.1, q4, s.2.2.2.2.2.2.2.2.1, s.2.2.2.2.2.2.2.2.2))) rfl rfl ?_
  refine MW_run C okX11_forgetFindings 3 4 (gs := []) (cf' := (15, [some (.ref 0)], [], (hSo yr (s.1, s.2.1, s.2.2.1, s.2.2.2.1, s.2.2.2.2.1, s.2.2.2.2.2.1, s.2.2.2.2.2.2.1, q4, (0, s.2.2.2.2.2.2.2.2.1.2.1, s.2.2.2.2.2.2.2.2.1.2.2), s.2.2.2.2.2.2.2.2.2)), 0, 0)) rfl trivial ?_
  obtain rfl := Option.some.inj hm
  exact MW_vret C okX11_forgetFindings hq 7 rfl hp
theorem c_so_forgetFindings (s : SoS) (yr : Nat) (out : SoS) (hm : so_forgetFindings s yr = some out) : CT yX11_forgetFindings cX11_forgetFindings 1 none 1 20 0 0 [.ref 0] (hSo yr s) (fun v h => v = none ∧ h = (hSo yr out)) :=
  CT_of (by decide +kernel) (vs0 := [some (.ref 0)]) rfl rfl (fun X C hq => t_so_forgetFindings C hq s yr out hm ⟨rfl, rfl⟩)
/-! C: so_yard -/
def so_yard (s : SoS) (yr : Nat) : Option (Int32 × SoS) :=
  (pd_faultAt s.1).bind fun q4 =>
    if q4 = (-6) then
      (pd_layOut s.1 s.2.1).bind fun q23 =>
        (pd_clear s.1).bind fun q30 =>
          (so_forgetFindings (q30, q23, s.2.2.1, (0, s.2.2.2.1.2.1, s.2.2.2.1.2.2.1, s.2.2.2.1.2.2.2.1, s.2.2.2.1.2.2.2.2.1, s.2.2.2.1.2.2.2.2.2.1, s.2.2.2.1.2.2.2.2.2.2), s.2.2.2.2.1, s.2.2.2.2.2.1, s.2.2.2.2.2.2.1, s.2.2.2.2.2.2.2.1, s.2.2.2.2.2.2.2.2.1, s.2.2.2.2.2.2.2.2.2) yr).bind fun q42 =>
            some (q42.2.1.1, q42)
    else
      some ((-5), s)
set_option maxRecDepth 100000 in
set_option maxHeartbeats 1000000 in
theorem t_so_yard {X : CTX} {K : Option Value → AH → Prop} (C : CX X cX11_yard yX11_yard.cls (decide (yX11_yard.name = "<init>")) 6 138) (hq : RQ X (some .int) K) (s : SoS) (yr : Nat) (out : Int32 × SoS) (hm : so_yard s yr = some out) (hp : K (some (.int out.1)) (hSo yr out.2)) : MW X (0, [some (.ref 0)], [], (hSo yr s), 0, 0) := by
  unfold so_yard at hm
  refine MW_run C okX11_yard 0 2 (gs := []) (cf' := (4, [some (.ref 0)], [.ref 1], (hSo yr s), 0, 0)) rfl trivial ?_
  obtain ⟨q4, hc4, hm⟩ := of_bind hm
  refine MW_callV1 C okX11_yard 2 rfl [1, 2] (v0 := some (.int q4)) (h0 := (hPd 0 s.1)) (c_pd_faultAt s.1 q4 hc4) lkX11_90 0 dpX3_faultAt (by decide) (rest := []) rfl rfl rfl rfl rfl rfl rfl rfl rfl rfl rfl (st2 := [.int q4]) (h2 := (hSo yr s)) rfl rfl ?_
  refine MW_run C okX11_yard 3 1 (gs := []) (cf' := (9, [some (.ref 0)], [.int (-6), .int q4], (hSo yr s), 0, 0)) rfl trivial ?_
  obtain ⟨hmt9, hmf9⟩ := of_if hm
  refine MW_brT C okX11_yard 4 rfl rfl (fun hb9 => ?_) (fun hb9 => ?_)
  · have hm := hmt9 hb9
    refine MW_run C okX11_yard 7 4 (gs := []) (cf' := (23, [some (.ref 0)], [.ref 3, .ref 1], (hSo yr s), 0, 0)) rfl trivial ?_
    obtain ⟨q23, hc23, hm⟩ := of_bind hm
    refine MW_callV1 C okX11_yard 11 rfl [1, 2, 3, 4, 5, 6, 7, 8, 9, 10] (v0 := none) (h0 := (hPd 0 s.1 ++ (hYd 2 q23))) (c_pd_layOut s.1 s.2.1 q23 hc23) lkX11_77 1 dpX3_layOut (by decide) (rest := []) rfl rfl rfl rfl rfl rfl rfl rfl rfl rfl rfl (st2 := []) (h2 := (hSo yr (s.1, q23, s.2.2.1, s.2.2.2.1, s.2.2.2.2.1, s.2.2.2.2.2.1, s.2.2.2.2.2.2.1, s.2.2.2.2.2.2.2.1, s.2.2.2.2.2.2.2.2.1, s.2.2.2.2.2.2.2.2.2))) rfl rfl ?_
    refine MW_run C okX11_yard 12 2 (gs := []) (cf' := (30, [some (.ref 0)], [.ref 1], (hSo yr (s.1, q23, s.2.2.1, s.2.2.2.1, s.2.2.2.2.1, s.2.2.2.2.2.1, s.2.2.2.2.2.2.1, s.2.2.2.2.2.2.2.1, s.2.2.2.2.2.2.2.2.1, s.2.2.2.2.2.2.2.2.2)), 0, 0)) rfl trivial ?_
    obtain ⟨q30, hc30, hm⟩ := of_bind hm
    refine MW_callV1 C okX11_yard 14 rfl [1, 2] (v0 := none) (h0 := (hPd 0 q30)) (c_pd_clear s.1 q30 hc30) lkX11_80 0 dpX3_clear (by decide) (rest := []) rfl rfl rfl rfl rfl rfl rfl rfl rfl rfl rfl (st2 := []) (h2 := (hSo yr (q30, q23, s.2.2.1, s.2.2.2.1, s.2.2.2.2.1, s.2.2.2.2.2.1, s.2.2.2.2.2.2.1, s.2.2.2.2.2.2.2.1, s.2.2.2.2.2.2.2.2.1, s.2.2.2.2.2.2.2.2.2))) rfl rfl ?_
    refine MW_run C okX11_yard 15 5 (gs := [isZ 0]) (cf' := (42, [some (.ref 0)], [.ref 0], (hSo yr (q30, q23, s.2.2.1, (0, s.2.2.2.1.2.1, s.2.2.2.1.2.2.1, s.2.2.2.1.2.2.2.1, s.2.2.2.1.2.2.2.2.1, s.2.2.2.1.2.2.2.2.2.1, s.2.2.2.1.2.2.2.2.2.2), s.2.2.2.2.1, s.2.2.2.2.2.1, s.2.2.2.2.2.2.1, s.2.2.2.2.2.2.2.1, s.2.2.2.2.2.2.2.2.1, s.2.2.2.2.2.2.2.2.2)), 0, 0)) rfl (show isZ 0 by decide) ?_
    obtain ⟨q42, hc42, hm⟩ := of_bind hm
    refine MW_callV0 C okX11_yard 20 rfl (v0 := none) (h0 := (hSo yr q42)) (c_so_forgetFindings (q30, q23, s.2.2.1, (0, s.2.2.2.1.2.1, s.2.2.2.1.2.2.1, s.2.2.2.1.2.2.2.1, s.2.2.2.1.2.2.2.2.1, s.2.2.2.1.2.2.2.2.2.1, s.2.2.2.1.2.2.2.2.2.2), s.2.2.2.2.1, s.2.2.2.2.2.1, s.2.2.2.2.2.2.1, s.2.2.2.2.2.2.2.1, s.2.2.2.2.2.2.2.2.1, s.2.2.2.2.2.2.2.2.2) yr q42 hc42) lkX11_98 0 dpX11_forgetFindings (by decide) (rest := []) rfl rfl rfl rfl rfl rfl rfl rfl ?_
    refine MW_run C okX11_yard 21 3 (gs := []) (cf' := (52, [some (.ref 0)], [.int q42.2.1.1], (hSo yr q42), 0, 0)) rfl trivial ?_
    obtain rfl := Option.some.inj hm
    exact MW_iret C okX11_yard hq 24 rfl hp
  · have hm := hmf9 hb9
    refine MW_run C okX11_yard 5 1 (gs := []) (cf' := (14, [some (.ref 0)], [.int (-5)], (hSo yr s), 0, 0)) rfl trivial ?_
    obtain rfl := Option.some.inj hm
    exact MW_iret C okX11_yard hq 6 rfl hp
theorem c_so_yard (s : SoS) (yr : Nat) (out : Int32 × SoS) (hm : so_yard s yr = some out) : CT yX11_yard cX11_yard 1 (some .int) 6 138 0 0 [.ref 0] (hSo yr s) (fun v h => v = (some (.int out.1)) ∧ h = (hSo yr out.2)) :=
  CT_of (by decide +kernel) (vs0 := [some (.ref 0)]) rfl rfl (fun X C hq => t_so_yard C hq s yr out hm ⟨rfl, rfl⟩)
/-! C: so_siding -/
def so_siding (s : SoS) (yr : Nat) (x1 : Int32) (x2 : Int32) : Option (Int32) :=
  if x1 < 0 then
    some (-1)
  else
    if x1 < s.2.1.1 then
      if x2 = 0 then
        (yd_letterAt s.2.1 x1).bind fun q49 =>
          some q49
      else if x2 = 1 then
        (yd_lengthAt s.2.1 x1).bind fun q58 =>
          some q58
      else if x2 = 2 then
        (yd_stageAt s.2.1 x1).bind fun q67 =>
          some q67
      else
        some (-2)
    else
      some (-1)
set_option maxRecDepth 100000 in
set_option maxHeartbeats 1000000 in
theorem t_so_siding {X : CTX} {K : Option Value → AH → Prop} (C : CX X cX11_siding yX11_siding.cls (decide (yX11_siding.name = "<init>")) 1 21) (hq : RQ X (some .int) K) (s : SoS) (yr : Nat) (x1 : Int32) (x2 : Int32) (out : Int32) (hm : so_siding s yr x1 x2 = some out) (hp : K (some (.int out)) (hSo yr s)) : MW X (0, [some (.ref 0), some (.int x1), some (.int x2)], [], (hSo yr s), 0, 0) := by
  unfold so_siding at hm
  refine MW_run C okX11_siding 0 1 (gs := []) (cf' := (1, [some (.ref 0), some (.int x1), some (.int x2)], [.int x1], (hSo yr s), 0, 0)) rfl trivial ?_
  obtain ⟨hmt1, hmf1⟩ := of_if hm
  refine MW_brT C okX11_siding 1 rfl rfl (fun hb1 => ?_) (fun hb1 => ?_)
  · have hm := hmt1 hb1
    refine MW_run C okX11_siding 7 1 (gs := []) (cf' := (16, [some (.ref 0), some (.int x1), some (.int x2)], [.int (-1)], (hSo yr s), 0, 0)) rfl trivial ?_
    obtain rfl := Option.some.inj hm
    exact MW_iret C okX11_siding hq 8 rfl hp
  · have hm := hmf1 hb1
    refine MW_run C okX11_siding 2 4 (gs := []) (cf' := (12, [some (.ref 0), some (.int x1), some (.int x2)], [.int s.2.1.1, .int x1], (hSo yr s), 0, 0)) rfl trivial ?_
    obtain ⟨hmt12, hmf12⟩ := of_if hm
    refine MW_brT C okX11_siding 6 rfl rfl (fun hb12 => ?_) (fun hb12 => ?_)
    · have hm := hmt12 hb12
      refine MW_run C okX11_siding 9 1 (gs := []) (cf' := (18, [some (.ref 0), some (.int x1), some (.int x2)], [.int x2], (hSo yr s), 0, 0)) rfl trivial ?_
      refine MW_tsw C okX11_siding 10 rfl (tgts := [44, 53, 62]) (dt := 71) (by decide) (fun j t hj hx => ?_) (fun hx => ?_)
      · match j, hj with
        | 0, hj =>
          cases hj
          have hm := (of_if hm).1 (by rw [hx]; rfl)
          refine MW_run C okX11_siding 11 3 (gs := []) (cf' := (49, [some (.ref 0), some (.int x1), some (.int x2)], [.int x1, .ref 3], (hSo yr s), 0, 0)) rfl trivial ?_
          obtain ⟨q49, hc49, hm⟩ := of_bind hm
          refine MW_callV1 C okX11_siding 14 rfl [3, 4, 5, 6, 7, 8, 9, 10] (v0 := some (.int q49)) (h0 := (hYd 0 s.2.1)) (c_yd_letterAt s.2.1 x1 q49 hc49) lkX11_104 1 dpX10_letterAt (by decide) (rest := []) rfl rfl rfl rfl rfl rfl rfl rfl rfl rfl rfl (st2 := [.int q49]) (h2 := (hSo yr s)) rfl rfl ?_
          obtain rfl := Option.some.inj hm
          exact MW_iret C okX11_siding hq 15 rfl hp
        | 1, hj =>
          cases hj
          have hm := (of_if hm).2 (by rw [hx]; decide)
          have hm := (of_if hm).1 (by rw [hx]; rfl)
          refine MW_run C okX11_siding 16 3 (gs := []) (cf' := (58, [some (.ref 0), some (.int x1), some (.int x2)], [.int x1, .ref 3], (hSo yr s), 0, 0)) rfl trivial ?_
          obtain ⟨q58, hc58, hm⟩ := of_bind hm
          refine MW_callV1 C okX11_siding 19 rfl [3, 4, 5, 6, 7, 8, 9, 10] (v0 := some (.int q58)) (h0 := (hYd 0 s.2.1)) (c_yd_lengthAt s.2.1 x1 q58 hc58) lkX11_108 1 dpX10_lengthAt (by decide) (rest := []) rfl rfl rfl rfl rfl rfl rfl rfl rfl rfl rfl (st2 := [.int q58]) (h2 := (hSo yr s)) rfl rfl ?_
          obtain rfl := Option.some.inj hm
          exact MW_iret C okX11_siding hq 20 rfl hp
        | 2, hj =>
          cases hj
          have hm := (of_if hm).2 (by rw [hx]; decide)
          have hm := (of_if hm).2 (by rw [hx]; decide)
          have hm := (of_if hm).1 (by rw [hx]; rfl)
          refine MW_run C okX11_siding 21 3 (gs := []) (cf' := (67, [some (.ref 0), some (.int x1), some (.int x2)], [.int x1, .ref 3], (hSo yr s), 0, 0)) rfl trivial ?_
          obtain ⟨q67, hc67, hm⟩ := of_bind hm
          refine MW_callV1 C okX11_siding 24 rfl [3, 4, 5, 6, 7, 8, 9, 10] (v0 := some (.int q67)) (h0 := (hYd 0 s.2.1)) (c_yd_stageAt s.2.1 x1 q67 hc67) lkX11_111 1 dpX10_stageAt (by decide) (rest := []) rfl rfl rfl rfl rfl rfl rfl rfl rfl rfl rfl (st2 := [.int q67]) (h2 := (hSo yr s)) rfl rfl ?_
          obtain rfl := Option.some.inj hm
          exact MW_iret C okX11_siding hq 25 rfl hp
        | j + 3, hj => simp at hj
      · skip
        have hm := (of_if hm).2 (hx 0 (by decide))
        have hm := (of_if hm).2 (hx 1 (by decide))
        have hm := (of_if hm).2 (hx 2 (by decide))
        refine MW_run C okX11_siding 26 1 (gs := []) (cf' := (73, [some (.ref 0), some (.int x1), some (.int x2)], [.int (-2)], (hSo yr s), 0, 0)) rfl trivial ?_
        obtain rfl := Option.some.inj hm
        exact MW_iret C okX11_siding hq 27 rfl hp
    · have hm := hmf12 hb12
      refine MW_run C okX11_siding 7 1 (gs := []) (cf' := (16, [some (.ref 0), some (.int x1), some (.int x2)], [.int (-1)], (hSo yr s), 0, 0)) rfl trivial ?_
      obtain rfl := Option.some.inj hm
      exact MW_iret C okX11_siding hq 8 rfl hp
theorem c_so_siding (s : SoS) (yr : Nat) (x1 : Int32) (x2 : Int32) (out : Int32) (hm : so_siding s yr x1 x2 = some out) : CT yX11_siding cX11_siding 3 (some .int) 1 21 0 0 [.ref 0, .int x1, .int x2] (hSo yr s) (fun v h => v = (some (.int out)) ∧ h = (hSo yr s)) :=
  CT_of (by decide +kernel) (vs0 := [some (.ref 0), some (.int x1), some (.int x2)]) rfl rfl (fun X C hq => t_so_siding C hq s yr x1 x2 out hm ⟨rfl, rfl⟩)
/-! C: so_isMissing -/
def so_isMissing (s : SoS) (yr : Nat) (x1 : Int32) : Option (Int32) :=
  if s.2.1.1 < x1 then
    if (4 : Int32) < x1 then
      some 0
    else
      some 1
  else
    some 0
set_option maxRecDepth 100000 in
set_option maxHeartbeats 1000000 in
theorem t_so_isMissing {X : CTX} {K : Option Value → AH → Prop} (C : CX X cX11_isMissing yX11_isMissing.cls (decide (yX11_isMissing.name = "<init>")) 0 0) (hq : RQ X (some .boolean) K) (s : SoS) (yr : Nat) (x1 : Int32) (out : Int32) (hm : so_isMissing s yr x1 = some out) (hp : K (some (.int out)) (hSo yr s)) : MW X (0, [some (.ref 0), some (.int x1)], [], (hSo yr s), 0, 0) := by
  unfold so_isMissing at hm
  refine MW_run C okX11_isMissing 0 4 (gs := []) (cf' := (8, [some (.ref 0), some (.int x1)], [.int s.2.1.1, .int x1], (hSo yr s), 0, 0)) rfl trivial ?_
  obtain ⟨hmt8, hmf8⟩ := of_if hm
  refine MW_brF C okX11_isMissing 4 rfl rfl (fun hb8 => ?_) (fun hb8 => ?_)
  · have hm := hmt8 hb8
    refine MW_run C okX11_isMissing 5 2 (gs := []) (cf' := (13, [some (.ref 0), some (.int x1)], [.int 4, .int x1], (hSo yr s), 0, 0)) rfl trivial ?_
    obtain ⟨hmt13, hmf13⟩ := of_if hm
    refine MW_brT C okX11_isMissing 7 rfl rfl (fun hb13 => ?_) (fun hb13 => ?_)
    · have hm := hmt13 hb13
      refine MW_run C okX11_isMissing 10 1 (gs := []) (cf' := (21, [some (.ref 0), some (.int x1)], [.int 0], (hSo yr s), 0, 0)) rfl trivial ?_
      obtain rfl := Option.some.inj hm
      exact MW_zret C okX11_isMissing hq 11 rfl (by decide) hp
    · have hm := hmf13 hb13
      refine MW_run C okX11_isMissing 8 2 (gs := []) (cf' := (21, [some (.ref 0), some (.int x1)], [.int 1], (hSo yr s), 0, 0)) rfl trivial ?_
      obtain rfl := Option.some.inj hm
      exact MW_zret C okX11_isMissing hq 11 rfl (by decide) hp
  · have hm := hmf8 hb8
    refine MW_run C okX11_isMissing 10 1 (gs := []) (cf' := (21, [some (.ref 0), some (.int x1)], [.int 0], (hSo yr s), 0, 0)) rfl trivial ?_
    obtain rfl := Option.some.inj hm
    exact MW_zret C okX11_isMissing hq 11 rfl (by decide) hp
theorem c_so_isMissing (s : SoS) (yr : Nat) (x1 : Int32) (out : Int32) (hm : so_isMissing s yr x1 = some out) : CT yX11_isMissing cX11_isMissing 2 (some .boolean) 0 0 0 0 [.ref 0, .int x1] (hSo yr s) (fun v h => v = (some (.int out)) ∧ h = (hSo yr s)) :=
  CT_of (by decide +kernel) (vs0 := [some (.ref 0), some (.int x1)]) rfl rfl (fun X C hq => t_so_isMissing C hq s yr x1 out hm ⟨rfl, rfl⟩)
/-! C: so_leads -/
def so_leads (s : SoS) (yr : Nat) (x1 : Int32) (x2 : Int32) : Option (Int32) :=
  (so_isMissing s yr x1).bind fun q2 =>
    if q2 = 0 then
      (so_isMissing s yr x2).bind fun q10 =>
        if q10 = 0 then
          if x1 < 0 then
            some (-2)
          else
            if x1 < 5 then
              if (0 : Int32) < x2 then
                if (5 : Int32) < x2 then
                  some (-2)
                else
                  (yd_reaches s.2.1 x1 x2).bind fun q45 =>
                    if q45 = 0 then
                      some 0
                    else
                      some 1
              else
                some (-2)
            else
              some (-2)
        else
          some (-1)
    else
      some (-1)
set_option maxRecDepth 100000 in
set_option maxHeartbeats 1000000 in
theorem t_so_leads {X : CTX} {K : Option Value → AH → Prop} (C : CX X cX11_leads yX11_leads.cls (decide (yX11_leads.name = "<init>")) 3 68) (hq : RQ X (some .int) K) (s : SoS) (yr : Nat) (x1 : Int32) (x2 : Int32) (out : Int32) (hm : so_leads s yr x1 x2 = some out) (hp : K (some (.int out)) (hSo yr s)) : MW X (0, [some (.ref 0), some (.int x1), some (.int x2)], [], (hSo yr s), 0, 0) := by
  unfold so_leads at hm
  refine MW_run C okX11_leads 0 2 (gs := []) (cf' := (2, [some (.ref 0), some (.int x1), some (.int x2)], [.int x1, .ref 0], (hSo yr s), 0, 0)) rfl trivial ?_
  obtain ⟨q2, hc2, hm⟩ := of_bind hm
  refine MW_callV0 C okX11_leads 2 rfl (v0 := some (.int q2)) (h0 := (hSo yr s)) (c_so_isMissing s yr x1 q2 hc2) lkX11_114 1 dpX11_isMissing (by decide) (rest := []) rfl rfl rfl rfl rfl rfl rfl rfl ?_
  obtain ⟨hmt5, hmf5⟩ := of_if hm
  refine MW_brF C okX11_leads 3 rfl rfl (fun hb5 => ?_) (fun hb5 => ?_)
  · have hm := hmt5 hb5
    refine MW_run C okX11_leads 4 2 (gs := []) (cf' := (10, [some (.ref 0), some (.int x1), some (.int x2)], [.int x2, .ref 0], (hSo yr s), 0, 0)) rfl trivial ?_
    obtain ⟨q10, hc10, hm⟩ := of_bind hm
    refine MW_callV0 C okX11_leads 6 rfl (v0 := some (.int q10)) (h0 := (hSo yr s)) (c_so_isMissing s yr x2 q10 hc10) lkX11_114 1 dpX11_isMissing (by decide) (rest := []) rfl rfl rfl rfl rfl rfl rfl rfl ?_
    obtain ⟨hmt13, hmf13⟩ := of_if hm
    refine MW_brT C okX11_leads 7 rfl rfl (fun hb13 => ?_) (fun hb13 => ?_)
    · have hm := hmt13 hb13
      refine MW_run C okX11_leads 10 1 (gs := []) (cf' := (19, [some (.ref 0), some (.int x1), some (.int x2)], [.int x1], (hSo yr s), 0, 0)) rfl trivial ?_
      obtain ⟨hmt19, hmf19⟩ := of_if hm
      refine MW_brT C okX11_leads 11 rfl rfl (fun hb19 => ?_) (fun hb19 => ?_)
      · have hm := hmt19 hb19
        refine MW_run C okX11_leads 20 1 (gs := []) (cf' := (38, [some (.ref 0), some (.int x1), some (.int x2)], [.int (-2)], (hSo yr s), 0, 0)) rfl trivial ?_
        obtain rfl := Option.some.inj hm
        exact MW_iret C okX11_leads hq 21 rfl hp
      · have hm := hmf19 hb19
        refine MW_run C okX11_leads 12 2 (gs := []) (cf' := (24, [some (.ref 0), some (.int x1), some (.int x2)], [.int 5, .int x1], (hSo yr s), 0, 0)) rfl trivial ?_
        obtain ⟨hmt24, hmf24⟩ := of_if hm
        refine MW_brF C okX11_leads 14 rfl rfl (fun hb24 => ?_) (fun hb24 => ?_)
        · have hm := hmt24 hb24
          refine MW_run C okX11_leads 15 1 (gs := []) (cf' := (28, [some (.ref 0), some (.int x1), some (.int x2)], [.int x2], (hSo yr s), 0, 0)) rfl trivial ?_
          obtain ⟨hmt28, hmf28⟩ := of_if hm
          refine MW_brF C okX11_leads 16 rfl rfl (fun hb28 => ?_) (fun hb28 => ?_)
          · have hm := hmt28 hb28
            refine MW_run C okX11_leads 17 2 (gs := []) (cf' := (33, [some (.ref 0), some (.int x1), some (.int x2)], [.int 5, .int x2], (hSo yr s), 0, 0)) rfl trivial ?_
            obtain ⟨hmt33, hmf33⟩ := of_if hm
            refine MW_brF C okX11_leads 19 rfl rfl (fun hb33 => ?_) (fun hb33 => ?_)
            · have hm := hmt33 hb33
              refine MW_run C okX11_leads 20 1 (gs := []) (cf' := (38, [some (.ref 0), some (.int x1), some (.int x2)], [.int (-2)], (hSo yr s), 0, 0)) rfl trivial ?_
              obtain rfl := Option.some.inj hm
              exact MW_iret C okX11_leads hq 21 rfl hp
            · have hm := hmf33 hb33
              refine MW_run C okX11_leads 22 4 (gs := []) (cf' := (45, [some (.ref 0), some (.int x1), some (.int x2)], [.int x2, .int x1, .ref 3], (hSo yr s), 0, 0)) rfl trivial ?_
              obtain ⟨q45, hc45, hm⟩ := of_bind hm
              refine MW_callV1 C okX11_leads 26 rfl [3, 4, 5, 6, 7, 8, 9, 10] (v0 := some (.int q45)) (h0 := (hYd 0 s.2.1)) (c_yd_reaches s.2.1 x1 x2 q45 hc45) lkX11_117 2 dpX10_reaches (by decide) (rest := []) rfl rfl rfl rfl rfl rfl rfl rfl rfl rfl rfl (st2 := [.int q45]) (h2 := (hSo yr s)) rfl rfl ?_
              obtain ⟨hmt48, hmf48⟩ := of_if hm
              refine MW_brT C okX11_leads 27 rfl rfl (fun hb48 => ?_) (fun hb48 => ?_)
              · have hm := hmt48 hb48
                refine MW_run C okX11_leads 30 1 (gs := []) (cf' := (56, [some (.ref 0), some (.int x1), some (.int x2)], [.int 0], (hSo yr s), 0, 0)) rfl trivial ?_
                obtain rfl := Option.some.inj hm
                exact MW_iret C okX11_leads hq 31 rfl hp
              · have hm := hmf48 hb48
                refine MW_run C okX11_leads 28 2 (gs := []) (cf' := (56, [some (.ref 0), some (.int x1), some (.int x2)], [.int 1], (hSo yr s), 0, 0)) rfl trivial ?_
                obtain rfl := Option.some.inj hm
                exact MW_iret C okX11_leads hq 31 rfl hp
          · have hm := hmf28 hb28
            refine MW_run C okX11_leads 20 1 (gs := []) (cf' := (38, [some (.ref 0), some (.int x1), some (.int x2)], [.int (-2)], (hSo yr s), 0, 0)) rfl trivial ?_
            obtain rfl := Option.some.inj hm
            exact MW_iret C okX11_leads hq 21 rfl hp
        · have hm := hmf24 hb24
          refine MW_run C okX11_leads 20 1 (gs := []) (cf' := (38, [some (.ref 0), some (.int x1), some (.int x2)], [.int (-2)], (hSo yr s), 0, 0)) rfl trivial ?_
          obtain rfl := Option.some.inj hm
          exact MW_iret C okX11_leads hq 21 rfl hp
    · have hm := hmf13 hb13
      refine MW_run C okX11_leads 8 1 (gs := []) (cf' := (17, [some (.ref 0), some (.int x1), some (.int x2)], [.int (-1)], (hSo yr s), 0, 0)) rfl trivial ?_
      obtain rfl := Option.some.inj hm
      exact MW_iret C okX11_leads hq 9 rfl hp
  · have hm := hmf5 hb5
    refine MW_run C okX11_leads 8 1 (gs := []) (cf' := (17, [some (.ref 0), some (.int x1), some (.int x2)], [.int (-1)], (hSo yr s), 0, 0)) rfl trivial ?_
    obtain rfl := Option.some.inj hm
    exact MW_iret C okX11_leads hq 9 rfl hp
theorem c_so_leads (s : SoS) (yr : Nat) (x1 : Int32) (x2 : Int32) (out : Int32) (hm : so_leads s yr x1 x2 = some out) : CT yX11_leads cX11_leads 3 (some .int) 3 68 0 0 [.ref 0, .int x1, .int x2] (hSo yr s) (fun v h => v = (some (.int out)) ∧ h = (hSo yr s)) :=
  CT_of (by decide +kernel) (vs0 := [some (.ref 0), some (.int x1), some (.int x2)]) rfl rfl (fun X C hq => t_so_leads C hq s yr x1 x2 out hm ⟨rfl, rfl⟩)
/-! C: so_arePair -/
def so_arePair (x0 : Int32) (x1 : Int32) : Option (Int32) :=
  (rw_wagons x0).bind fun q1 =>
    if (0 : Int32) < q1 then
      (rw_wagons x1).bind fun q10 =>
        if q10 = q1 then
          some 1
        else
          some 0
    else
      some 0
set_option maxRecDepth 100000 in
set_option maxHeartbeats 1000000 in
theorem t_so_arePair {X : CTX} {K : Option Value → AH → Prop} (C : CX X cX11_arePair yX11_arePair.cls (decide (yX11_arePair.name = "<init>")) 2 43) (hq : RQ X (some .boolean) K) (x0 : Int32) (x1 : Int32) (out : Int32) (hm : so_arePair x0 x1 = some out) (hp : K (some (.int out)) []) : MW X (0, [some (.int x0), some (.int x1), none], [], [], 0, 0) := by
  unfold so_arePair at hm
  refine MW_run C okX11_arePair 0 1 (gs := []) (cf' := (1, [some (.int x0), some (.int x1), none], [.int x0], [], 0, 0)) rfl trivial ?_
  obtain ⟨q1, hc1, hm⟩ := of_bind hm
  refine MW_callS0 C okX11_arePair 1 rfl (v0 := some (.int q1)) (c_rw_wagons x0 q1 hc1) lkX11_129 1 dpX6_wagons (by decide) (rest := []) rfl rfl rfl rfl rfl ?_
  refine MW_run C okX11_arePair 2 2 (gs := []) (cf' := (6, [some (.int x0), some (.int x1), some (.int q1)], [.int q1], [], 0, 0)) rfl trivial ?_
  obtain ⟨hmt6, hmf6⟩ := of_if hm
  refine MW_brF C okX11_arePair 4 rfl rfl (fun hb6 => ?_) (fun hb6 => ?_)
  · have hm := hmt6 hb6
    refine MW_run C okX11_arePair 5 1 (gs := []) (cf' := (10, [some (.int x0), some (.int x1), some (.int q1)], [.int x1], [], 0, 0)) rfl trivial ?_
    obtain ⟨q10, hc10, hm⟩ := of_bind hm
    refine MW_callS0 C okX11_arePair 6 rfl (v0 := some (.int q10)) (c_rw_wagons x1 q10 hc10) lkX11_129 1 dpX6_wagons (by decide) (rest := []) rfl rfl rfl rfl rfl ?_
    refine MW_run C okX11_arePair 7 1 (gs := []) (cf' := (14, [some (.int x0), some (.int x1), some (.int q1)], [.int q1, .int q10], [], 0, 0)) rfl trivial ?_
    obtain ⟨hmt14, hmf14⟩ := of_if hm
    refine MW_brF C okX11_arePair 8 rfl rfl (fun hb14 => ?_) (fun hb14 => ?_)
    · have hm := hmt14 hb14
      refine MW_run C okX11_arePair 9 2 (gs := []) (cf' := (22, [some (.int x0), some (.int x1), some (.int q1)], [.int 1], [], 0, 0)) rfl trivial ?_
      obtain rfl := Option.some.inj hm
      exact MW_zret C okX11_arePair hq 12 rfl (by decide) hp
    · have hm := hmf14 hb14
      refine MW_run C okX11_arePair 11 1 (gs := []) (cf' := (22, [some (.int x0), some (.int x1), some (.int q1)], [.int 0], [], 0, 0)) rfl trivial ?_
      obtain rfl := Option.some.inj hm
      exact MW_zret C okX11_arePair hq 12 rfl (by decide) hp
  · have hm := hmf6 hb6
    refine MW_run C okX11_arePair 11 1 (gs := []) (cf' := (22, [some (.int x0), some (.int x1), some (.int q1)], [.int 0], [], 0, 0)) rfl trivial ?_
    obtain rfl := Option.some.inj hm
    exact MW_zret C okX11_arePair hq 12 rfl (by decide) hp
theorem c_so_arePair (x0 : Int32) (x1 : Int32) (out : Int32) (hm : so_arePair x0 x1 = some out) : CT yX11_arePair cX11_arePair 3 (some .boolean) 2 43 0 0 [.int x0, .int x1] [] (fun v h => v = (some (.int out)) ∧ h = []) :=
  CT_of (by decide +kernel) (vs0 := [some (.int x0), some (.int x1), none]) rfl rfl (fun X C hq => t_so_arePair C hq x0 x1 out hm ⟨rfl, rfl⟩)
/-! C: so_leastOf_y -/
def so_leastOf_y (s : SoS) (yr : Nat) (x2 : Int32) (x3 : Int32) (x4 : Int32) : Option (Int32 × SoS) :=
  (sv_fill s.2.2.2.2.2.2.1 s.2.1 x4).bind fun q7 =>
    (rw_relative x2 x3 x4).bind fun q18 =>
      (oc_leastOf q7.2.2.2.2.2.2.2.2.2 q18 x4).bind fun q23 =>
        some (q23, (s.1, q7.2, s.2.2.1, s.2.2.2.1, s.2.2.2.2.1, s.2.2.2.2.2.1, q7.1, s.2.2.2.2.2.2.2.1, s.2.2.2.2.2.2.2.2.1, s.2.2.2.2.2.2.2.2.2))
set_option maxRecDepth 100000 in
set_option maxHeartbeats 1000000 in
theorem t_so_leastOf_y {X : CTX} {K : Option Value → AH → Prop} (C : CX X cX11_leastOf yX11_leastOf.cls (decide (yX11_leastOf.name = "<init>")) 5 119) (hq : RQ X (some .int) K) (s : SoS) (yr : Nat) (x2 : Int32) (x3 : Int32) (x4 : Int32) (out : Int32 × SoS) (hm : so_leastOf_y s yr x2 x3 x4 = some out) (hp : K (some (.int out.1)) (hSo yr out.2)) : MW X (0, [some (.ref 0), some (.ref 3), some (.int x2), some (.int x3), some (.int x4)], [], (hSo yr s), 0, 0) := by
  unfold so_leastOf_y at hm
  refine MW_run C okX11_leastOf 0 4 (gs := []) (cf' := (7, [some (.ref 0), some (.ref 3), some (.int x2), some (.int x3), some (.int x4)], [.int x4, .ref 3, .ref 68], (hSo yr s), 0, 0)) rfl trivial ?_
  obtain ⟨q7, hc7, hm⟩ := of_bind hm
  refine MW_callV1 C okX11_leastOf 4 rfl [68, 69, 70, 71, 72, 73, 3, 4, 5, 6, 7, 8, 9, 10] (v0 := none) (h0 := (hSv 0 q7.1 ++ (hYd 6 q7.2))) (c_sv_fill s.2.2.2.2.2.2.1 s.2.1 x4 q7 hc7) lkX11_138 2 dpX8_fill (by decide) (rest := []) rfl rfl rfl rfl rfl rfl rfl rfl rfl rfl rfl (st2 := []) (h2 := (hSo yr (s.1, q7.2, s.2.2.1, s.2.2.2.1, s.2.2.2.2.1, s.2.2.2.2.2.1, q7.1, s.2.2.2.2.2.2.2.1, s.2.2.2.2.2.2.2.2.1, s.2.2.2.2.2.2.2.2.2))) rfl rfl ?_
  refine MW_run C okX11_leastOf 5 5 (gs := []) (cf' := (18, [some (.ref 0), some (.ref 3), some (.int x2), some (.int x3), some (.int x4)], [.int x4, .int x3, .int x2, .ref 8], (hSo yr (s.1, q7.2, s.2.2.1, s.2.2.2.1, s.2.2.2.2.1, s.2.2.2.2.2.1, q7.1, s.2.2.2.2.2.2.2.1, s.2.2.2.2.2.2.2.2.1, s.2.2.2.2.2.2.2.2.2)), 0, 0)) rfl trivial ?_
  obtain ⟨q18, hc18, hm⟩ := of_bind hm
  refine MW_callS0 C okX11_leastOf 10 rfl (v0 := some (.int q18)) (c_rw_relative x2 x3 x4 q18 hc18) lkX11_146 3 dpX6_relative (by decide) (rest := [.ref 8]) rfl rfl rfl rfl rfl ?_
  refine MW_run C okX11_leastOf 11 1 (gs := []) (cf' := (23, [some (.ref 0), some (.ref 3), some (.int x2), some (.int x3), some (.int x4)], [.int x4, .int q18, .ref 8], (hSo yr (s.1, q7.2, s.2.2.1, s.2.2.2.1, s.2.2.2.2.1, s.2.2.2.2.2.1, q7.1, s.2.2.2.2.2.2.2.1, s.2.2.2.2.2.2.2.2.1, s.2.2.2.2.2.2.2.2.2)), 0, 0)) rfl trivial ?_
  obtain ⟨q23, hc23, hm⟩ := of_bind hm
  refine MW_callV1 C okX11_leastOf 12 rfl [8, 9, 10] (v0 := some (.int q23)) (h0 := (hOc 0 q7.2.2.2.2.2.2.2.2.2)) (c_oc_leastOf q7.2.2.2.2.2.2.2.2.2 q18 x4 q23 hc23) lkX11_279 2 dpX2_leastOf (by decide) (rest := []) rfl rfl rfl rfl rfl rfl rfl rfl rfl rfl rfl (st2 := [.int q23]) (h2 := (hSo yr (s.1, q7.2, s.2.2.1, s.2.2.2.1, s.2.2.2.2.1, s.2.2.2.2.2.1, q7.1, s.2.2.2.2.2.2.2.1, s.2.2.2.2.2.2.2.2.1, s.2.2.2.2.2.2.2.2.2))) rfl rfl ?_
  obtain rfl := Option.some.inj hm
  exact MW_iret C okX11_leastOf hq 13 rfl hp
theorem c_so_leastOf_y (s : SoS) (yr : Nat) (x2 : Int32) (x3 : Int32) (x4 : Int32) (out : Int32 × SoS) (hm : so_leastOf_y s yr x2 x3 x4 = some out) : CT yX11_leastOf cX11_leastOf 5 (some .int) 5 119 0 0 [.ref 0, .ref 3, .int x2, .int x3, .int x4] (hSo yr s) (fun v h => v = (some (.int out.1)) ∧ h = (hSo yr out.2)) :=
  CT_of (by decide +kernel) (vs0 := [some (.ref 0), some (.ref 3), some (.int x2), some (.int x3), some (.int x4)]) rfl rfl (fun X C hq => t_so_leastOf_y C hq s yr x2 x3 x4 out hm ⟨rfl, rfl⟩)
/-! C: so_leastOf_o -/
def so_leastOf_o (s : SoS) (yr : Nat) (x2 : Int32) (x3 : Int32) (x4 : Int32) : Option (Int32 × SoS) :=
  (sv_fill s.2.2.2.2.2.2.1 s.2.2.1 x4).bind fun q7 =>
    (rw_relative x2 x3 x4).bind fun q18 =>
      (oc_leastOf q7.2.2.2.2.2.2.2.2.2 q18 x4).bind fun q23 =>
        some (q23, (s.1, s.2.1, q7.2, s.2.2.2.1, s.2.2.2.2.1, s.2.2.2.2.2.1, q7.1, s.2.2.2.2.2.2.2.1, s.2.2.2.2.2.2.2.2.1, s.2.2.2.2.2.2.2.2.2))
set_option maxRecDepth 100000 in
set_option maxHeartbeats 1000000 in
theorem t_so_leastOf_o {X : CTX} {K : Option Value → AH → Prop} (C : CX X cX11_leastOf yX11_leastOf.cls (decide (yX11_leastOf.name = "<init>")) 5 119) (hq : RQ X (some .int) K) (s : SoS) (yr : Nat) (x2 : Int32) (x3 : Int32) (x4 : Int32) (out : Int32 × SoS) (hm : so_leastOf_o s yr x2 x3 x4 = some out) (hp : K (some (.int out.1)) (hSo yr out.2)) : MW X (0, [some (.ref 0), some (.ref 11), some (.int x2), some (.int x3), some (.int x4)], [], (hSo yr s), 0, 0) := by
  unfold so_leastOf_o at hm
  refine MW_run C okX11_leastOf 0 4 (gs := []) (cf' := (7, [some (.ref 0), some (.ref 11), some (.int x2), some (.int x3), some (.int x4)], [.int x4, .ref 11, .ref 68], (hSo yr s), 0, 0)) rfl trivial ?_
  obtain ⟨q7, hc7, hm⟩ := of_bind hm
  refine MW_callV1 C okX11_leastOf 4 rfl [68, 69, 70, 71, 72, 73, 11, 12, 13, 14, 15, 16, 17, 18] (v0 := none) (h0 := (hSv 0 q7.1 ++ (hYd 6 q7.2))) (c_sv_fill s.2.2.2.2.2.2.1 s.2.2.1 x4 q7 hc7) lkX11_138 2 dpX8_fill (by decide) (rest := []) rfl rfl rfl rfl rfl rfl rfl rfl rfl rfl rfl (st2 := []) (h2 := (hSo yr (s.1, s.2.1, q7.2, s.2.2.2.1, s.2.2.2.2.1, s.2.2.2.2.2.1, q7.1, s.2.2.2.2.2.2.2.1, s.2.2.2.2.2.2.2.2.1, s.2.2.2.2.2.2.2.2.2))) rfl rfl ?_
  refine MW_run C okX11_leastOf 5 5 (gs := []) (cf' := (18, [some (.ref 0), some (.ref 11), some (.int x2), some (.int x3), some (.int x4)], [.int x4, .int x3, .int x2, .ref 16], (hSo yr (s.1, s.2.1, q7.2, s.2.2.2.1, s.2.2.2.2.1, s.2.2.2.2.2.1, q7.1, s.2.2.2.2.2.2.2.1, s.2.2.2.2.2.2.2.2.1, s.2.2.2.2.2.2.2.2.2)), 0, 0)) rfl trivial ?_
  obtain ⟨q18, hc18, hm⟩ := of_bind hm
  refine MW_callS0 C okX11_leastOf 10 rfl (v0 := some (.int q18)) (c_rw_relative x2 x3 x4 q18 hc18) lkX11_146 3 dpX6_relative (by decide) (rest := [.ref 16]) rfl rfl rfl rfl rfl ?_
  refine MW_run C okX11_leastOf 11 1 (gs := []) (cf' := (23, [some (.ref 0), some (.ref 11), some (.int x2), some (.int x3), some (.int x4)], [.int x4, .int q18, .ref 16], (hSo yr (s.1, s.2.1, q7.2, s.2.2.2.1, s.2.2.2.2.1, s.2.2.2.2.2.1, q7.1, s.2.2.2.2.2.2.2.1, s.2.2.2.2.2.2.2.2.1, s.2.2.2.2.2.2.2.2.2)), 0, 0)) rfl trivial ?_
  obtain ⟨q23, hc23, hm⟩ := of_bind hm
  refine MW_callV1 C okX11_leastOf 12 rfl [16, 17, 18] (v0 := some (.int q23)) (h0 := (hOc 0 q7.2.2.2.2.2.2.2.2.2)) (c_oc_leastOf q7.2.2.2.2.2.2.2.2.2 q18 x4 q23 hc23) lkX11_279 2 dpX2_leastOf (by decide) (rest := []) rfl rfl rfl rfl rfl rfl rfl rfl rfl rfl rfl (st2 := [.int q23]) (h2 := (hSo yr (s.1, s.2.1, q7.2, s.2.2.2.1, s.2.2.2.2.1, s.2.2.2.2.2.1, q7.1, s.2.2.2.2.2.2.2.1, s.2.2.2.2.2.2.2.2.1, s.2.2.2.2.2.2.2.2.2))) rfl rfl ?_
  obtain rfl := Option.some.inj hm
  exact MW_iret C okX11_leastOf hq 13 rfl hp
theorem c_so_leastOf_o (s : SoS) (yr : Nat) (x2 : Int32) (x3 : Int32) (x4 : Int32) (out : Int32 × SoS) (hm : so_leastOf_o s yr x2 x3 x4 = some out) : CT yX11_leastOf cX11_leastOf 5 (some .int) 5 119 0 0 [.ref 0, .ref 11, .int x2, .int x3, .int x4] (hSo yr s) (fun v h => v = (some (.int out.1)) ∧ h = (hSo yr out.2)) :=
  CT_of (by decide +kernel) (vs0 := [some (.ref 0), some (.ref 11), some (.int x2), some (.int x3), some (.int x4)]) rfl rfl (fun X C hq => t_so_leastOf_o C hq s yr x2 x3 x4 out hm ⟨rfl, rfl⟩)
/-! C: so_least -/
def so_least (s : SoS) (yr : Nat) (x1 : Int32) (x2 : Int32) : Option (Int32 × SoS) :=
  (so_arePair x1 x2).bind fun q2 =>
    if q2 = 0 then
      some ((-2), s)
    else
      (rw_ofNumber x1).bind fun q17 =>
        (rw_ofNumber x2).bind fun q21 =>
          (rw_wagons x1).bind fun q25 =>
            (so_leastOf_y s yr q17 q21 q25).bind fun q28 =>
              if (0 : Int32) < q28.1 then
                some (q28.1, q28.2)
              else
                some ((-6), q28.2)
set_option maxRecDepth 100000 in
set_option maxHeartbeats 1000000 in
theorem t_so_least {X : CTX} {K : Option Value → AH → Prop} (C : CX X cX11_least yX11_least.cls (decide (yX11_least.name = "<init>")) 6 143) (hq : RQ X (some .int) K) (s : SoS) (yr : Nat) (x1 : Int32) (x2 : Int32) (out : Int32 × SoS) (hm : so_least s yr x1 x2 = some out) (hp : K (some (.int out.1)) (hSo yr out.2)) : MW X (0, [some (.ref 0), some (.int x1), some (.int x2), none], [], (hSo yr s), 0, 0) := by
  unfold so_least at hm
  refine MW_run C okX11_least 0 2 (gs := []) (cf' := (2, [some (.ref 0), some (.int x1), some (.int x2), none], [.int x2, .int x1], (hSo yr s), 0, 0)) rfl trivial ?_
  obtain ⟨q2, hc2, hm⟩ := of_bind hm
  refine MW_callS0 C okX11_least 2 rfl (v0 := some (.int q2)) (c_so_arePair x1 x2 q2 hc2) lkX11_121 2 dpX11_arePair (by decide) (rest := []) rfl rfl rfl rfl rfl ?_
  obtain ⟨hmt5, hmf5⟩ := of_if hm
  refine MW_brF C okX11_least 3 rfl rfl (fun hb5 => ?_) (fun hb5 => ?_)
  · have hm := hmt5 hb5
    refine MW_run C okX11_least 4 1 (gs := []) (cf' := (10, [some (.ref 0), some (.int x1), some (.int x2), none], [.int (-2)], (hSo yr s), 0, 0)) rfl trivial ?_
    obtain rfl := Option.some.inj hm
    exact MW_iret C okX11_least hq 5 rfl hp
  · have hm := hmf5 hb5
    refine MW_run C okX11_least 6 4 (gs := []) (cf' := (17, [some (.ref 0), some (.int x1), some (.int x2), none], [.int x1, .ref 3, .ref 0], (hSo yr s), 0, 0)) rfl trivial ?_
    obtain ⟨q17, hc17, hm⟩ := of_bind hm
    refine MW_callS0 C okX11_least 10 rfl (v0 := some (.int q17)) (c_rw_ofNumber x1 q17 hc17) lkX11_124 1 dpX6_ofNumber (by decide) (rest := [.ref 3, .ref 0]) rfl rfl rfl rfl rfl ?_
    refine MW_run C okX11_least 11 1 (gs := []) (cf' := (21, [some (.ref 0), some (.int x1), some (.int x2), none], [.int x2, .int q17, .ref 3, .ref 0], (hSo yr s), 0, 0)) rfl trivial ?_
    obtain ⟨q21, hc21, hm⟩ := of_bind hm
    refine MW_callS0 C okX11_least 12 rfl (v0 := some (.int q21)) (c_rw_ofNumber x2 q21 hc21) lkX11_124 1 dpX6_ofNumber (by decide) (rest := [.int q17, .ref 3, .ref 0]) rfl rfl rfl rfl rfl ?_
    refine MW_run C okX11_least 13 1 (gs := []) (cf' := (25, [some (.ref 0), some (.int x1), some (.int x2), none], [.int x1, .int q21, .int q17, .ref 3, .ref 0], (hSo yr s), 0, 0)) rfl trivial ?_
    obtain ⟨q25, hc25, hm⟩ := of_bind hm
    refine MW_callS0 C okX11_least 14 rfl (v0 := some (.int q25)) (c_rw_wagons x1 q25 hc25) lkX11_129 1 dpX6_wagons (by decide) (rest := [.int q21, .int q17, .ref 3, .ref 0]) rfl rfl rfl rfl rfl ?_
    obtain ⟨q28, hc28, hm⟩ := of_bind hm
    refine MW_callV0 C okX11_least 15 rfl (v0 := some (.int q28.1)) (h0 := (hSo yr q28.2)) (c_so_leastOf_y s yr q17 q21 q25 q28 hc28) lkX11_132 4 dpX11_leastOf (by decide) (rest := []) rfl rfl rfl rfl rfl rfl rfl rfl ?_
    refine MW_run C okX11_least 16 2 (gs := []) (cf' := (33, [some (.ref 0), some (.int x1), some (.int x2), some (.int q28.1)], [.int q28.1], (hSo yr q28.2), 0, 0)) rfl trivial ?_
    obtain ⟨hmt33, hmf33⟩ := of_if hm
    refine MW_brF C okX11_least 18 rfl rfl (fun hb33 => ?_) (fun hb33 => ?_)
    · have hm := hmt33 hb33
      refine MW_run C okX11_least 19 2 (gs := []) (cf' := (42, [some (.ref 0), some (.int x1), some (.int x2), some (.int q28.1)], [.int q28.1], (hSo yr q28.2), 0, 0)) rfl trivial ?_
      obtain rfl := Option.some.inj hm
      exact MW_iret C okX11_least hq 22 rfl hp
    · have hm := hmf33 hb33
      refine MW_run C okX11_least 21 1 (gs := []) (cf' := (42, [some (.ref 0), some (.int x1), some (.int x2), some (.int q28.1)], [.int (-6)], (hSo yr q28.2), 0, 0)) rfl trivial ?_
      obtain rfl := Option.some.inj hm
      exact MW_iret C okX11_least hq 22 rfl hp
theorem c_so_least (s : SoS) (yr : Nat) (x1 : Int32) (x2 : Int32) (out : Int32 × SoS) (hm : so_least s yr x1 x2 = some out) : CT yX11_least cX11_least 4 (some .int) 6 143 0 0 [.ref 0, .int x1, .int x2] (hSo yr s) (fun v h => v = (some (.int out.1)) ∧ h = (hSo yr out.2)) :=
  CT_of (by decide +kernel) (vs0 := [some (.ref 0), some (.int x1), some (.int x2), none]) rfl rfl (fun X C hq => t_so_least C hq s yr x1 x2 out hm ⟨rfl, rfl⟩)
/-! C: so_ways -/
def so_ways (s : SoS) (yr : Nat) (x1 : Int32) (x2 : Int32) : Option (Int64 × SoS) :=
  (so_arePair x1 x2).bind fun q2 =>
    if q2 = 0 then
      some ((-2), s)
    else
      (rw_wagons x1).bind fun q13 =>
        (sv_fill s.2.2.2.2.2.2.1 s.2.1 q13).bind fun q26 =>
          (rw_ofNumber x1).bind fun q37 =>
            (rw_ofNumber x2).bind fun q41 =>
              (rw_relative q37 q41 q13).bind fun q45 =>
                (oc_waysOf q26.2.2.2.2.2.2.2.2.2 q45 q13).bind fun q49 =>
                  some (q49, (s.1, q26.2, s.2.2.1, s.2.2.2.1, s.2.2.2.2.1, s.2.2.2.2.2.1, q26.1, s.2.2.2.2.2.2.2.1, s.2.2.2.2.2.2.2.2.1, s.2.2.2.2.2.2.2.2.2))
set_option maxRecDepth 100000 in
set_option maxHeartbeats 1000000 in
theorem t_so_ways {X : CTX} {K : Option Value → AH → Prop} (C : CX X cX11_ways yX11_ways.cls (decide (yX11_ways.name = "<init>")) 5 119) (hq : RQ X (some .long) K) (s : SoS) (yr : Nat) (x1 : Int32) (x2 : Int32) (out : Int64 × SoS) (hm : so_ways s yr x1 x2 = some out) (hp : K (some (.long out.1)) (hSo yr out.2)) : MW X (0, [some (.ref 0), some (.int x1), some (.int x2), none], [], (hSo yr s), 0, 0) := by
  unfold so_ways at hm
  refine MW_run C okX11_ways 0 2 (gs := []) (cf' := (2, [some (.ref 0), some (.int x1), some (.int x2), none], [.int x2, .int x1], (hSo yr s), 0, 0)) rfl trivial ?_
  obtain ⟨q2, hc2, hm⟩ := of_bind hm
  refine MW_callS0 C okX11_ways 2 rfl (v0 := some (.int q2)) (c_so_arePair x1 x2 q2 hc2) lkX11_121 2 dpX11_arePair (by decide) (rest := []) rfl rfl rfl rfl rfl ?_
  obtain ⟨hmt5, hmf5⟩ := of_if hm
  refine MW_brF C okX11_ways 3 rfl rfl (fun hb5 => ?_) (fun hb5 => ?_)
  · have hm := hmt5 hb5
    refine MW_run C okX11_ways 4 1 (gs := []) (cf' := (11, [some (.ref 0), some (.int x1), some (.int x2), none], [.long (-2)], (hSo yr s), 0, 0)) rfl trivial ?_
    obtain rfl := Option.some.inj hm
    exact MW_lret C okX11_ways hq 5 rfl hp
  · have hm := hmf5 hb5
    refine MW_run C okX11_ways 6 1 (gs := []) (cf' := (13, [some (.ref 0), some (.int x1), some (.int x2), none], [.int x1], (hSo yr s), 0, 0)) rfl trivial ?_
    obtain ⟨q13, hc13, hm⟩ := of_bind hm
    refine MW_callS0 C okX11_ways 7 rfl (v0 := some (.int q13)) (c_rw_wagons x1 q13 hc13) lkX11_129 1 dpX6_wagons (by decide) (rest := []) rfl rfl rfl rfl rfl ?_
    refine MW_run C okX11_ways 8 6 (gs := []) (cf' := (26, [some (.ref 0), some (.int x1), some (.int x2), some (.int q13)], [.int q13, .ref 3, .ref 68], (hSo yr s), 0, 0)) rfl trivial ?_
    obtain ⟨q26, hc26, hm⟩ := of_bind hm
    refine MW_callV1 C okX11_ways 14 rfl [68, 69, 70, 71, 72, 73, 3, 4, 5, 6, 7, 8, 9, 10] (v0 := none) (h0 := (hSv 0 q26.1 ++ (hYd 6 q26.2))) (c_sv_fill s.2.2.2.2.2.2.1 s.2.1 q13 q26 hc26) lkX11_138 2 dpX8_fill (by decide) (rest := []) rfl rfl rfl rfl rfl rfl rfl rfl rfl rfl rfl (st2 := []) (h2 := (hSo yr (s.1, q26.2, s.2.2.1, s.2.2.2.1, s.2.2.2.2.1, s.2.2.2.2.2.1, q26.1, s.2.2.2.2.2.2.2.1, s.2.2.2.2.2.2.2.2.1, s.2.2.2.2.2.2.2.2.2))) rfl rfl ?_
    refine MW_run C okX11_ways 15 4 (gs := []) (cf' := (37, [some (.ref 0), some (.int x1), some (.int x2), some (.int q13)], [.int x1, .ref 8], (hSo yr (s.1, q26.2, s.2.2.1, s.2.2.2.1, s.2.2.2.2.1, s.2.2.2.2.2.1, q26.1, s.2.2.2.2.2.2.2.1, s.2.2.2.2.2.2.2.2.1, s.2.2.2.2.2.2.2.2.2)), 0, 0)) rfl trivial ?_
    obtain ⟨q37, hc37, hm⟩ := of_bind hm
    refine MW_callS0 C okX11_ways 19 rfl (v0 := some (.int q37)) (c_rw_ofNumber x1 q37 hc37) lkX11_124 1 dpX6_ofNumber (by decide) (rest := [.ref 8]) rfl rfl rfl rfl rfl ?_
    refine MW_run C okX11_ways 20 1 (gs := []) (cf' := (41, [some (.ref 0), some (.int x1), some (.int x2), some (.int q13)], [.int x2, .int q37, .ref 8], (hSo yr (s.1, q26.2, s.2.2.1, s.2.2.2.1, s.2.2.2.2.1, s.2.2.2.2.2.1, q26.1, s.2.2.2.2.2.2.2.1, s.2.2.2.2.2.2.2.2.1, s.2.2.2.2.2.2.2.2.2)), 0, 0)) rfl trivial ?_
    obtain ⟨q41, hc41, hm⟩ := of_bind hm
    refine MW_callS0 C okX11_ways 21 rfl (v0 := some (.int q41)) (c_rw_ofNumber x2 q41 hc41) lkX11_124 1 dpX6_ofNumber (by decide) (rest := [.int q37, .ref 8]) rfl rfl rfl rfl rfl ?_
    refine MW_run C okX11_ways 22 1 (gs := []) (cf' := (45, [some (.ref 0), some (.int x1), some (.int x2), some (.int q13)], [.int q13, .int q41, .int q37, .ref 8], (hSo yr (s.1, q26.2, s.2.2.1, s.2.2.2.1, s.2.2.2.2.1, s.2.2.2.2.2.1, q26.1, s.2.2.2.2.2.2.2.1, s.2.2.2.2.2.2.2.2.1, s.2.2.2.2.2.2.2.2.2)), 0, 0)) rfl trivial ?_
    obtain ⟨q45, hc45, hm⟩ := of_bind hm
    refine MW_callS0 C okX11_ways 23 rfl (v0 := some (.int q45)) (c_rw_relative q37 q41 q13 q45 hc45) lkX11_146 3 dpX6_relative (by decide) (rest := [.ref 8]) rfl rfl rfl rfl rfl ?_
    refine MW_run C okX11_ways 24 1 (gs := []) (cf' := (49, [some (.ref 0), some (.int x1), some (.int x2), some (.int q13)], [.int q13, .int q45, .ref 8], (hSo yr (s.1, q26.2, s.2.2.1, s.2.2.2.1, s.2.2.2.2.1, s.2.2.2.2.2.1, q26.1, s.2.2.2.2.2.2.2.1, s.2.2.2.2.2.2.2.2.1, s.2.2.2.2.2.2.2.2.2)), 0, 0)) rfl trivial ?_
    obtain ⟨q49, hc49, hm⟩ := of_bind hm
    refine MW_callV1 C okX11_ways 25 rfl [8, 9, 10] (v0 := some (.long q49)) (h0 := (hOc 0 q26.2.2.2.2.2.2.2.2.2)) (c_oc_waysOf q26.2.2.2.2.2.2.2.2.2 q45 q13 q49 hc49) lkX11_150 2 dpX2_waysOf (by decide) (rest := []) rfl rfl rfl rfl rfl rfl rfl rfl rfl rfl rfl (st2 := [.long q49]) (h2 := (hSo yr (s.1, q26.2, s.2.2.1, s.2.2.2.1, s.2.2.2.2.1, s.2.2.2.2.2.1, q26.1, s.2.2.2.2.2.2.2.1, s.2.2.2.2.2.2.2.2.1, s.2.2.2.2.2.2.2.2.2))) rfl rfl ?_
    obtain rfl := Option.some.inj hm
    exact MW_lret C okX11_ways hq 26 rfl hp
theorem c_so_ways (s : SoS) (yr : Nat) (x1 : Int32) (x2 : Int32) (out : Int64 × SoS) (hm : so_ways s yr x1 x2 = some out) : CT yX11_ways cX11_ways 4 (some .long) 5 119 0 0 [.ref 0, .int x1, .int x2] (hSo yr s) (fun v h => v = (some (.long out.1)) ∧ h = (hSo yr out.2)) :=
  CT_of (by decide +kernel) (vs0 := [some (.ref 0), some (.int x1), some (.int x2), none]) rfl rfl (fun X C hq => t_so_ways C hq s yr x1 x2 out hm ⟨rfl, rfl⟩)
/-! C: so_first -/
def so_first (s : SoS) (yr : Nat) (x1 : Int32) (x2 : Int32) (x3 : Int32) : Option (Int32 × SoS × Nat) :=
  (so_arePair x1 x2).bind fun q2 =>
    if q2 = 0 then
      some ((-2), s, yr)
    else
      if x3 < 0 then
        some ((-6), s, yr)
      else
        if x3 < 20 then
          (rw_wagons x1).bind fun q25 =>
            (rw_ofNumber x1).bind fun q41 =>
              (rw_ofNumber x2).bind fun q45 =>
                (rw_relative q41 q45 q25).bind fun q50 =>
                  (se_aim s.2.2.2.2.2.2.2.1 q25 q50).bind fun q53 =>
                    (se_firstRow q53 s.2.1 x3).bind fun q61 =>
                      some (q61.1, (s.1, s.2.1, s.2.2.1, s.2.2.2.1, s.2.2.2.2.1, s.2.2.2.2.2.1, s.2.2.2.2.2.2.1, q61.2, s.2.2.2.2.2.2.2.2.1, s.2.2.2.2.2.2.2.2.2), 3)
        else
          some ((-6), s, yr)
set_option maxRecDepth 100000 in
set_option maxHeartbeats 1000000 in
theorem t_so_first {X : CTX} {K : Option Value → AH → Prop} (C : CX X cX11_first yX11_first.cls (decide (yX11_first.name = "<init>")) 30 787) (hq : RQ X (some .int) K) (s : SoS) (yr : Nat) (x1 : Int32) (x2 : Int32) (x3 : Int32) (out : Int32 × SoS × Nat) (hm : so_first s yr x1 x2 x3 = some out) (hp : K (some (.int out.1)) (hSo out.2.2 out.2.1)) : MW X (0, [some (.ref 0), some (.int x1), some (.int x2), some (.int x3), none], [], (hSo yr s), 0, 0) := by
  unfold so_first at hm
  refine MW_run C okX11_first 0 2 (gs := []) (cf' := (2, [some (.ref 0), some (.int x1), some (.int x2), some (.int x3), none], [.int x2, .int x1], (hSo yr s), 0, 0)) rfl trivial ?_
  obtain ⟨q2, hc2, hm⟩ := of_bind hm
  refine MW_callS0 C okX11_first 2 rfl (v0 := some (.int q2)) (c_so_arePair x1 x2 q2 hc2) lkX11_121 2 dpX11_arePair (by decide) (rest := []) rfl rfl rfl rfl rfl ?_
  obtain ⟨hmt5, hmf5⟩ := of_if hm
  refine MW_brF C okX11_first 3 rfl rfl (fun hb5 => ?_) (fun hb5 => ?_)
  · have hm := hmt5 hb5
    refine MW_run C okX11_first 4 1 (gs := []) (cf' := (10, [some (.ref 0), some (.int x1), some (.int x2), some (.int x3), none], [.int (-2)], (hSo yr s), 0, 0)) rfl trivial ?_
    obtain rfl := Option.some.inj hm
    exact MW_iret C okX11_first hq 5 rfl hp
  · have hm := hmf5 hb5
    refine MW_run C okX11_first 6 1 (gs := []) (cf' := (12, [some (.ref 0), some (.int x1), some (.int x2), some (.int x3), none], [.int x3], (hSo yr s), 0, 0)) rfl trivial ?_
    obtain ⟨hmt12, hmf12⟩ := of_if hm
    refine MW_brT C okX11_first 7 rfl rfl (fun hb12 => ?_) (fun hb12 => ?_)
    · have hm := hmt12 hb12
      refine MW_run C okX11_first 11 1 (gs := []) (cf' := (23, [some (.ref 0), some (.int x1), some (.int x2), some (.int x3), none], [.int (-6)], (hSo yr s), 0, 0)) rfl trivial ?_
      obtain rfl := Option.some.inj hm
      exact MW_iret C okX11_first hq 12 rfl hp
    · have hm := hmf12 hb12
      refine MW_run C okX11_first 8 2 (gs := []) (cf' := (18, [some (.ref 0), some (.int x1), some (.int x2), some (.int x3), none], [.int 20, .int x3], (hSo yr s), 0, 0)) rfl trivial ?_
      obtain ⟨hmt18, hmf18⟩ := of_if hm
      refine MW_brT C okX11_first 10 rfl rfl (fun hb18 => ?_) (fun hb18 => ?_)
      · have hm := hmt18 hb18
        refine MW_run C okX11_first 13 1 (gs := []) (cf' := (25, [some (.ref 0), some (.int x1), some (.int x2), some (.int x3), none], [.int x1], (hSo yr s), 0, 0)) rfl trivial ?_
        obtain ⟨q25, hc25, hm⟩ := of_bind hm
        refine MW_callS0 C okX11_first 14 rfl (v0 := some (.int q25)) (c_rw_wagons x1 q25 hc25) lkX11_129 1 dpX6_wagons (by decide) (rest := []) rfl rfl rfl rfl rfl ?_
        refine MW_run C okX11_first 15 7 (gs := []) (cf' := (41, [some (.ref 0), some (.int x1), some (.int x2), some (.int x3), some (.int q25)], [.int x1, .int q25, .ref 3, .ref 74], (hSo yr s), 0, 0)) rfl trivial ?_
        obtain ⟨q41, hc41, hm⟩ := of_bind hm
        refine MW_callS0 C okX11_first 22 rfl (v0 := some (.int q41)) (c_rw_ofNumber x1 q41 hc41) lkX11_124 1 dpX6_ofNumber (by decide) (rest := [.int q25, .ref 3, .ref 74]) rfl rfl rfl rfl rfl ?_
        refine MW_run C okX11_first 23 1 (gs := []) (cf' := (45, [some (.ref 0), some (.int x1), some (.int x2), some (.int x3), some (.int q25)], [.int x2, .int q41, .int q25, .ref 3, .ref 74], (hSo yr s), 0, 0)) rfl trivial ?_
        obtain ⟨q45, hc45, hm⟩ := of_bind hm
        refine MW_callS0 C okX11_first 24 rfl (v0 := some (.int q45)) (c_rw_ofNumber x2 q45 hc45) lkX11_124 1 dpX6_ofNumber (by decide) (rest := [.int q41, .int q25, .ref 3, .ref 74]) rfl rfl rfl rfl rfl ?_
        refine MW_run C okX11_first 25 1 (gs := []) (cf' := (50, [some (.ref 0), some (.int x1), some (.int x2), some (.int x3), some (.int q25)], [.int q25, .int q45, .int q41, .int q25, .ref 3, .ref 74], (hSo yr s), 0, 0)) rfl trivial ?_
        obtain ⟨q50, hc50, hm⟩ := of_bind hm
        refine MW_callS0 C okX11_first 26 rfl (v0 := some (.int q50)) (c_rw_relative q41 q45 q25 q50 hc50) lkX11_146 3 dpX6_relative (by decide) (rest := [.int q25, .ref 3, .ref 74]) rfl rfl rfl rfl rfl ?_
        obtain ⟨q53, hc53, hm⟩ := of_bind hm
        refine MW_callV1 C okX11_first 27 rfl [74, 75, 76, 77, 78, yr, 3] (v0 := none) (h0 := (hSe 0 6 q53)) (c_se_aim s.2.2.2.2.2.2.2.1 q25 q50 q53 hc53) lkX11_156 3 dpX7_aim (by decide) (rest := []) rfl rfl rfl rfl rfl rfl rfl rfl rfl rfl rfl (st2 := []) (h2 := (hSo 3 (s.1, s.2.1, s.2.2.1, s.2.2.2.1, s.2.2.2.2.1, s.2.2.2.2.2.1, s.2.2.2.2.2.2.1, q53, s.2.2.2.2.2.2.2.2.1, s.2.2.2.2.2.2.2.2.2))) rfl rfl ?_
        refine MW_run C okX11_first 28 3 (gs := []) (cf' := (61, [some (.ref 0), some (.int x1), some (.int x2), some (.int x3), some (.int q25)], [.int x3, .ref 74], (hSo 3 (s.1, s.2.1, s.2.2.1, s.2.2.2.1, s.2.2.2.2.1, s.2.2.2.2.2.1, s.2.2.2.2.2.2.1, q53, s.2.2.2.2.2.2.2.2.1, s.2.2.2.2.2.2.2.2.2)), 0, 0)) rfl trivial ?_
        obtain ⟨q61, hc61, hm⟩ := of_bind hm
        refine MW_callV1 C okX11_first 31 rfl [74, 75, 76, 77, 78, 3, 4, 5, 6, 7, 8, 9, 10] (v0 := some (.int q61.1)) (h0 := (hSe 0 5 q61.2 ++ (hYd 5 s.2.1))) (c_se_firstRow q53 s.2.1 x3 q61 hc61) lkX11_160 1 dpX7_firstRow (by decide) (rest := []) rfl rfl rfl rfl rfl rfl rfl rfl rfl rfl rfl (st2 := [.int q61.1]) (h2 := (hSo 3 (s.1, s.2.1, s.2.2.1, s.2.2.2.1, s.2.2.2.2.1, s.2.2.2.2.2.1, s.2.2.2.2.2.2.1, q61.2, s.2.2.2.2.2.2.2.2.1, s.2.2.2.2.2.2.2.2.2))) rfl rfl ?_
        obtain rfl := Option.some.inj hm
        exact MW_iret C okX11_first hq 32 rfl hp
      · have hm := hmf18 hb18
        refine MW_run C okX11_first 11 1 (gs := []) (cf' := (23, [some (.ref 0), some (.int x1), some (.int x2), some (.int x3), none], [.int (-6)], (hSo yr s), 0, 0)) rfl trivial ?_
        obtain rfl := Option.some.inj hm
        exact MW_iret C okX11_first hq 12 rfl hp
theorem c_so_first (s : SoS) (yr : Nat) (x1 : Int32) (x2 : Int32) (x3 : Int32) (out : Int32 × SoS × Nat) (hm : so_first s yr x1 x2 x3 = some out) : CT yX11_first cX11_first 5 (some .int) 30 787 0 0 [.ref 0, .int x1, .int x2, .int x3] (hSo yr s) (fun v h => v = (some (.int out.1)) ∧ h = (hSo out.2.2 out.2.1)) :=
  CT_of (by decide +kernel) (vs0 := [some (.ref 0), some (.int x1), some (.int x2), some (.int x3), none]) rfl rfl (fun X C hq => t_so_first C hq s yr x1 x2 x3 out hm ⟨rfl, rfl⟩)
/-! C: so_orders -/
def so_orders_L30 : Nat → SoS → Nat → Int32 → Int32 → Int32 → Int32 → Int32 → Int32 → Option ((SoS × Int32) ⊕ (Int32 × SoS))
  | 0, _, _, _, _, _, _, _, _ => none
  | n + 1, s, yr, x2, x3, x4, x5, x6, x7 =>
    if x7 < x5 then
      (rw_ofRank x7 x3).bind fun q40 =>
        (so_leastOf_y s yr x4 q40 x3).bind fun q55 =>
          if (0 : Int32) < q55.1 then
            if x6 = x2 then
              (rw_toNumber q40).bind fun q69 =>
                some (.inr (q69, q55.2))
            else
              so_orders_L30 n q55.2 yr x2 x3 x4 x5 (x6 + 1) (x7 + 1)
          else
            so_orders_L30 n q55.2 yr x2 x3 x4 x5 x6 (x7 + 1)
    else
      some (.inl (s, x6))
set_option maxRecDepth 100000 in
set_option maxHeartbeats 1000000 in
theorem l_so_orders_30 {X : CTX} {K : Option Value → AH → Prop} (C : CX X cX11_orders yX11_orders.cls (decide (yX11_orders.name = "<init>")) 6 143) (hq : RQ X (some .int) K) : ∀ (n : Nat) (s : SoS) (yr : Nat) (x2 : Int32) (x3 : Int32) (x4 : Int32) (x5 : Int32) (x6 : Int32) (x7 : Int32) (out : (SoS × Int32) ⊕ (Int32 × SoS)) (hm : so_orders_L30 n s yr x2 x3 x4 x5 x6 x7 = some out) (hp : Sum.elim (fun e => MW X (82, [none, none, some (.int x2), none, none, none, some (.int e.2), none, none], [], (hSo yr e.1), 0, 0)) (fun r => K (some (.int r.1)) (hSo yr r.2)) out), MW X (30, [some (.ref 0), none, some (.int x2), some (.int x3), some (.int x4), some (.int x5), some (.int x6), some (.int x7), none], [], (hSo yr s), 0, 0) := by
  intro n
  induction n with
  | zero => intro s yr x2 x3 x4 x5 x6 x7 out hm hp; rw [so_orders_L30] at hm; cases hm
  | succ n ih =>
    intro s yr x2 x3 x4 x5 x6 x7 out hm hp
    rw [so_orders_L30] at hm
    refine MW_run C okX11_orders 17 2 (gs := []) (cf' := (34, [some (.ref 0), none, some (.int x2), some (.int x3), some (.int x4), some (.int x5), some (.int x6), some (.int x7), none], [.int x5, .int x7], (hSo yr s), 0, 0)) rfl trivial ?_
    obtain ⟨hmt34, hmf34⟩ := of_if hm
    refine MW_brF C okX11_orders 19 rfl rfl (fun hb34 => ?_) (fun hb34 => ?_)
    · have hm := hmt34 hb34
      refine MW_run C okX11_orders 20 2 (gs := []) (cf' := (40, [some (.ref 0), none, some (.int x2), some (.int x3), some (.int x4), some (.int x5), some (.int x6), some (.int x7), none], [.int x3, .int x7], (hSo yr s), 0, 0)) rfl trivial ?_
      obtain ⟨q40, hc40, hm⟩ := of_bind hm
      refine MW_callS0 C okX11_orders 22 rfl (v0 := some (.int q40)) (c_rw_ofRank x7 x3 q40 hc40) lkX11_166 2 dpX6_ofRank (by decide) (rest := []) rfl rfl rfl rfl rfl ?_
      refine MW_run C okX11_orders 23 7 (gs := []) (cf' := (55, [some (.ref 0), none, some (.int x2), some (.int x3), some (.int x4), some (.int x5), some (.int x6), some (.int x7), some (.int q40)], [.int x3, .int q40, .int x4, .ref 3, .ref 0], (hSo yr s), 0, 0)) rfl trivial ?_
      obtain ⟨q55, hc55, hm⟩ := of_bind hm
      refine MW_callV0 C okX11_orders 30 rfl (v0 := some (.int q55.1)) (h0 := (hSo yr q55.2)) (c_so_leastOf_y s yr x4 q40 x3 q55 hc55) lkX11_132 4 dpX11_leastOf (by decide) (rest := []) rfl rfl rfl rfl rfl rfl rfl rfl ?_
      obtain ⟨hmt58, hmf58⟩ := of_if hm
      refine MW_brF C okX11_orders 31 rfl rfl (fun hb58 => ?_) (fun hb58 => ?_)
      · have hm := hmt58 hb58
        refine MW_run C okX11_orders 32 2 (gs := []) (cf' := (64, [some (.ref 0), none, some (.int x2), some (.int x3), some (.int x4), some (.int x5), some (.int x6), some (.int x7), some (.int q40)], [.int x2, .int x6], (hSo yr q55.2), 0, 0)) rfl trivial ?_
        obtain ⟨hmt64, hmf64⟩ := of_if hm
        refine MW_brF C okX11_orders 34 rfl rfl (fun hb64 => ?_) (fun hb64 => ?_)
        · have hm := hmt64 hb64
          refine MW_run C okX11_orders 35 1 (gs := []) (cf' := (69, [some (.ref 0), none, some (.int x2), some (.int x3), some (.int x4), some (.int x5), some (.int x6), some (.int x7), some (.int q40)], [.int q40], (hSo yr q55.2), 0, 0)) rfl trivial ?_
          obtain ⟨q69, hc69, hm⟩ := of_bind hm
          refine MW_callS0 C okX11_orders 36 rfl (v0 := some (.int q69)) (c_rw_toNumber q40 q69 hc69) lkX11_170 1 dpX6_toNumber (by decide) (rest := []) rfl rfl rfl rfl rfl ?_
          obtain rfl := Option.some.inj hm
          exact MW_iret C okX11_orders hq 37 rfl hp
        · have hm := hmf64 hb64
          refine MW_run C okX11_orders 38 1 (gs := []) (cf' := (76, [some (.ref 0), none, some (.int x2), some (.int x3), some (.int x4), some (.int x5), some (.int (x6 + 1)), some (.int x7), some (.int q40)], [], (hSo yr q55.2), 0, 0)) rfl trivial ?_
          refine MW_run C okX11_orders 39 2 (gs := []) (cf' := (30, [some (.ref 0), none, some (.int x2), some (.int x3), some (.int x4), some (.int x5), some (.int (x6 + 1)), some (.int (x7 + 1)), some (.int q40)], [], (hSo yr q55.2), 0, 0)) rfl trivial ?_
          refine MW_pick [true, true, true, true, true, true, true, true, false] rfl (vs' := [some (.ref 0), none, some (.int x2), some (.int x3), some (.int x4), some (.int x5), some (.int (x6 + 1)), some (.int (x7 + 1)), none]) rfl ?_
          exact ih q55.2 yr x2 x3 x4 x5 (x6 + 1) (x7 + 1) _ hm hp
      · have hm := hmf58 hb58
        refine MW_run C okX11_orders 39 2 (gs := []) (cf' := (30, [some (.ref 0), none, some (.int x2), some (.int x3), some (.int x4), some (.int x5), some (.int x6), some (.int (x7 + 1)), some (.int q40)], [], (hSo yr q55.2), 0, 0)) rfl trivial ?_
        refine MW_pick [true, true, true, true, true, true, true, true, false] rfl (vs' := [some (.ref 0), none, some (.int x2), some (.int x3), some (.int x4), some (.int x5), some (.int x6), some (.int (x7 + 1)), none]) rfl ?_
        exact ih q55.2 yr x2 x3 x4 x5 x6 (x7 + 1) _ hm hp
    · have hm := hmf34 hb34
      obtain rfl := Option.some.inj hm
      refine MW_pick [false, true, true, false, false, false, true, false, true] rfl (vs' := [none, none, some (.int x2), none, none, none, some (.int x6), none, none]) rfl ?_
      exact hp
def so_orders (s : SoS) (yr : Nat) (x1 : Int32) (x2 : Int32) : Option (Int32 × SoS) :=
  (rw_wagons x1).bind fun q1 =>
    if q1 = 0 then
      some ((-2), s)
    else
      (rw_ofNumber x1).bind fun q13 =>
        (rw_factorial q1).bind fun q19 =>
          (so_orders_L30 N0 s yr x2 q1 q13 q19 0 0).bind fun q30 =>
            match q30 with
            | .inr r30 => some r30
            | .inl e30 =>
              if x2 = (-1) then
                some (e30.2, e30.1)
              else
                some ((-6), e30.1)
set_option maxRecDepth 100000 in
set_option maxHeartbeats 1000000 in
theorem t_so_orders {X : CTX} {K : Option Value → AH → Prop} (C : CX X cX11_orders yX11_orders.cls (decide (yX11_orders.name = "<init>")) 6 143) (hq : RQ X (some .int) K) (s : SoS) (yr : Nat) (x1 : Int32) (x2 : Int32) (out : Int32 × SoS) (hm : so_orders s yr x1 x2 = some out) (hp : K (some (.int out.1)) (hSo yr out.2)) : MW X (0, [some (.ref 0), some (.int x1), some (.int x2), none, none, none, none, none, none], [], (hSo yr s), 0, 0) := by
  unfold so_orders at hm
  refine MW_run C okX11_orders 0 1 (gs := []) (cf' := (1, [some (.ref 0), some (.int x1), some (.int x2), none, none, none, none, none, none], [.int x1], (hSo yr s), 0, 0)) rfl trivial ?_
  obtain ⟨q1, hc1, hm⟩ := of_bind hm
  refine MW_callS0 C okX11_orders 1 rfl (v0 := some (.int q1)) (c_rw_wagons x1 q1 hc1) lkX11_129 1 dpX6_wagons (by decide) (rest := []) rfl rfl rfl rfl rfl ?_
  refine MW_run C okX11_orders 2 2 (gs := []) (cf' := (6, [some (.ref 0), some (.int x1), some (.int x2), some (.int q1), none, none, none, none, none], [.int q1], (hSo yr s), 0, 0)) rfl trivial ?_
  obtain ⟨hmt6, hmf6⟩ := of_if hm
  refine MW_brF C okX11_orders 4 rfl rfl (fun hb6 => ?_) (fun hb6 => ?_)
  · have hm := hmt6 hb6
    refine MW_run C okX11_orders 5 1 (gs := []) (cf' := (11, [some (.ref 0), some (.int x1), some (.int x2), some (.int q1), none, none, none, none, none], [.int (-2)], (hSo yr s), 0, 0)) rfl trivial ?_
    obtain rfl := Option.some.inj hm
    exact MW_iret C okX11_orders hq 6 rfl hp
  · have hm := hmf6 hb6
    refine MW_run C okX11_orders 7 1 (gs := []) (cf' := (13, [some (.ref 0), some (.int x1), some (.int x2), some (.int q1), none, none, none, none, none], [.int x1], (hSo yr s), 0, 0)) rfl trivial ?_
    obtain ⟨q13, hc13, hm⟩ := of_bind hm
    refine MW_callS0 C okX11_orders 8 rfl (v0 := some (.int q13)) (c_rw_ofNumber x1 q13 hc13) lkX11_124 1 dpX6_ofNumber (by decide) (rest := []) rfl rfl rfl rfl rfl ?_
    refine MW_run C okX11_orders 9 2 (gs := []) (cf' := (19, [some (.ref 0), some (.int x1), some (.int x2), some (.int q1), some (.int q13), none, none, none, none], [.int q1], (hSo yr s), 0, 0)) rfl trivial ?_
    obtain ⟨q19, hc19, hm⟩ := of_bind hm
    refine MW_callS0 C okX11_orders 11 rfl (v0 := some (.int q19)) (c_rw_factorial q1 q19 hc19) lkX11_163 1 dpX6_factorial (by decide) (rest := []) rfl rfl rfl rfl rfl ?_
    refine MW_run C okX11_orders 12 5 (gs := []) (cf' := (30, [some (.ref 0), some (.int x1), some (.int x2), some (.int q1), some (.int q13), some (.int q19), some (.int 0), some (.int 0), none], [], (hSo yr s), 0, 0)) rfl trivial ?_
    obtain ⟨q30, hc30, hm⟩ := of_bind hm
    refine MW_pick [true, false, true, true, true, true, true, true, true] rfl (vs' := [some (.ref 0), none, some (.int x2), some (.int q1), some (.int q13), some (.int q19), some (.int 0), some (.int 0), none]) rfl ?_
    refine l_so_orders_30 C hq N0 s yr x2 q1 q13 q19 0 0 q30 hc30 ?_
    cases q30 with
    | inr r30 =>
      obtain rfl := Option.some.inj hm
      exact hp
    | inl e30 =>
      show MW X (82, [none, none, some (.int x2), none, none, none, some (.int e30.2), none, none], [], (hSo yr e30.1), 0, 0)
      refine MW_run C okX11_orders 41 2 (gs := []) (cf' := (84, [none, none, some (.int x2), none, none, none, some (.int e30.2), none, none], [.int (-1), .int x2], (hSo yr e30.1), 0, 0)) rfl trivial ?_
      obtain ⟨hmt84, hmf84⟩ := of_if hm
      refine MW_brF C okX11_orders 43 rfl rfl (fun hb84 => ?_) (fun hb84 => ?_)
      · have hm := hmt84 hb84
        refine MW_run C okX11_orders 44 2 (gs := []) (cf' := (94, [none, none, some (.int x2), none, none, none, some (.int e30.2), none, none], [.int e30.2], (hSo yr e30.1), 0, 0)) rfl trivial ?_
        obtain rfl := Option.some.inj hm
        exact MW_iret C okX11_orders hq 47 rfl hp
      · have hm := hmf84 hb84
        refine MW_run C okX11_orders 46 1 (gs := []) (cf' := (94, [none, none, some (.int x2), none, none, none, some (.int e30.2), none, none], [.int (-6)], (hSo yr e30.1), 0, 0)) rfl trivial ?_
        obtain rfl := Option.some.inj hm
        exact MW_iret C okX11_orders hq 47 rfl hp
theorem c_so_orders (s : SoS) (yr : Nat) (x1 : Int32) (x2 : Int32) (out : Int32 × SoS) (hm : so_orders s yr x1 x2 = some out) : CT yX11_orders cX11_orders 9 (some .int) 6 143 0 0 [.ref 0, .int x1, .int x2] (hSo yr s) (fun v h => v = (some (.int out.1)) ∧ h = (hSo yr out.2)) :=
  CT_of (by decide +kernel) (vs0 := [some (.ref 0), some (.int x1), some (.int x2), none, none, none, none, none, none]) rfl rfl (fun X C hq => t_so_orders C hq s yr x1 x2 out hm ⟨rfl, rfl⟩)
/-! C: so_leastSorted_y -/
def so_leastSorted_y (s : SoS) (yr : Nat) (x2 : Int32) (x3 : Int32) : Option (Int32 × SoS) :=
  (rw_upTo x3).bind fun q4 =>
    (so_leastOf_y s yr x2 q4 x3).bind fun q8 =>
      some (q8.1, q8.2)
set_option maxRecDepth 100000 in
set_option maxHeartbeats 1000000 in
theorem t_so_leastSorted_y {X : CTX} {K : Option Value → AH → Prop} (C : CX X cX11_leastSorted yX11_leastSorted.cls (decide (yX11_leastSorted.name = "<init>")) 6 143) (hq : RQ X (some .int) K) (s : SoS) (yr : Nat) (x2 : Int32) (x3 : Int32) (out : Int32 × SoS) (hm : so_leastSorted_y s yr x2 x3 = some out) (hp : K (some (.int out.1)) (hSo yr out.2)) : MW X (0, [some (.ref 0), some (.ref 3), some (.int x2), some (.int x3)], [], (hSo yr s), 0, 0) := by
  unfold so_leastSorted_y at hm
  refine MW_run C okX11_leastSorted 0 4 (gs := []) (cf' := (4, [some (.ref 0), some (.ref 3), some (.int x2), some (.int x3)], [.int x3, .int x2, .ref 3, .ref 0], (hSo yr s), 0, 0)) rfl trivial ?_
  obtain ⟨q4, hc4, hm⟩ := of_bind hm
  refine MW_callS0 C okX11_leastSorted 4 rfl (v0 := some (.int q4)) (c_rw_upTo x3 q4 hc4) lkX11_186 1 dpX6_upTo (by decide) (rest := [.int x2, .ref 3, .ref 0]) rfl rfl rfl rfl rfl ?_
  refine MW_run C okX11_leastSorted 5 1 (gs := []) (cf' := (8, [some (.ref 0), some (.ref 3), some (.int x2), some (.int x3)], [.int x3, .int q4, .int x2, .ref 3, .ref 0], (hSo yr s), 0, 0)) rfl trivial ?_
  obtain ⟨q8, hc8, hm⟩ := of_bind hm
  refine MW_callV0 C okX11_leastSorted 6 rfl (v0 := some (.int q8.1)) (h0 := (hSo yr q8.2)) (c_so_leastOf_y s yr x2 q4 x3 q8 hc8) lkX11_132 4 dpX11_leastOf (by decide) (rest := []) rfl rfl rfl rfl rfl rfl rfl rfl ?_
  obtain rfl := Option.some.inj hm
  exact MW_iret C okX11_leastSorted hq 7 rfl hp
theorem c_so_leastSorted_y (s : SoS) (yr : Nat) (x2 : Int32) (x3 : Int32) (out : Int32 × SoS) (hm : so_leastSorted_y s yr x2 x3 = some out) : CT yX11_leastSorted cX11_leastSorted 4 (some .int) 6 143 0 0 [.ref 0, .ref 3, .int x2, .int x3] (hSo yr s) (fun v h => v = (some (.int out.1)) ∧ h = (hSo yr out.2)) :=
  CT_of (by decide +kernel) (vs0 := [some (.ref 0), some (.ref 3), some (.int x2), some (.int x3)]) rfl rfl (fun X C hq => t_so_leastSorted_y C hq s yr x2 x3 out hm ⟨rfl, rfl⟩)
/-! C: so_leastSorted_o -/
def so_leastSorted_o (s : SoS) (yr : Nat) (x2 : Int32) (x3 : Int32) : Option (Int32 × SoS) :=
  (rw_upTo x3).bind fun q4 =>
    (so_leastOf_o s yr x2 q4 x3).bind fun q8 =>
      some (q8.1, q8.2)
set_option maxRecDepth 100000 in
set_option maxHeartbeats 1000000 in
theorem t_so_leastSorted_o {X : CTX} {K : Option Value → AH → Prop} (C : CX X cX11_leastSorted yX11_leastSorted.cls (decide (yX11_leastSorted.name = "<init>")) 6 143) (hq : RQ X (some .int) K) (s : SoS) (yr : Nat) (x2 : Int32) (x3 : Int32) (out : Int32 × SoS) (hm : so_leastSorted_o s yr x2 x3 = some out) (hp : K (some (.int out.1)) (hSo yr out.2)) : MW X (0, [some (.ref 0), some (.ref 11), some (.int x2), some (.int x3)], [], (hSo yr s), 0, 0) := by
  unfold so_leastSorted_o at hm
  refine MW_run C okX11_leastSorted 0 4 (gs := []) (cf' := (4, [some (.ref 0), some (.ref 11), some (.int x2), some (.int x3)], [.int x3, .int x2, .ref 11, .ref 0], (hSo yr s), 0, 0)) rfl trivial ?_
  obtain ⟨q4, hc4, hm⟩ := of_bind hm
  refine MW_callS0 C okX11_leastSorted 4 rfl (v0 := some (.int q4)) (c_rw_upTo x3 q4 hc4) lkX11_186 1 dpX6_upTo (by decide) (rest := [.int x2, .ref 11, .ref 0]) rfl rfl rfl rfl rfl ?_
  refine MW_run C okX11_leastSorted 5 1 (gs := []) (cf' := (8, [some (.ref 0), some (.ref 11), some (.int x2), some (.int x3)], [.int x3, .int q4, .int x2, .ref 11, .ref 0], (hSo yr s), 0, 0)) rfl trivial ?_
  obtain ⟨q8, hc8, hm⟩ := of_bind hm
  refine MW_callV0 C okX11_leastSorted 6 rfl (v0 := some (.int q8.1)) (h0 := (hSo yr q8.2)) (c_so_leastOf_o s yr x2 q4 x3 q8 hc8) lkX11_132 4 dpX11_leastOf (by decide) (rest := []) rfl rfl rfl rfl rfl rfl rfl rfl ?_
  obtain rfl := Option.some.inj hm
  exact MW_iret C okX11_leastSorted hq 7 rfl hp
theorem c_so_leastSorted_o (s : SoS) (yr : Nat) (x2 : Int32) (x3 : Int32) (out : Int32 × SoS) (hm : so_leastSorted_o s yr x2 x3 = some out) : CT yX11_leastSorted cX11_leastSorted 4 (some .int) 6 143 0 0 [.ref 0, .ref 11, .int x2, .int x3] (hSo yr s) (fun v h => v = (some (.int out.1)) ∧ h = (hSo yr out.2)) :=
  CT_of (by decide +kernel) (vs0 := [some (.ref 0), some (.ref 11), some (.int x2), some (.int x3)]) rfl rfl (fun X C hq => t_so_leastSorted_o C hq s yr x2 x3 out hm ⟨rfl, rfl⟩)
