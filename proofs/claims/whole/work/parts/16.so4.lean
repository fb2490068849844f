/-! C: se_nextFrom -/
def se_nextFrom (s : SeS) (y : YdS) (f : PlS) : Option (Int32 × SeS) :=
  (pl_copyFrom s.2.1 f).bind fun q5 =>
    (se_bestMove (s.1, q5, s.2.2.1, s.2.2.2.1, s.2.2.2.2) y).bind fun q9 =>
      some (q9.1, q9.2)
set_option maxRecDepth 100000 in
set_option maxHeartbeats 1000000 in
theorem t_se_nextFrom {X : CTX} {K : Option Value → AH → Prop} (C : CX X cX7_nextFrom yX7_nextFrom.cls (decide (yX7_nextFrom.name = "<init>")) 29 764) (hq : RQ X (some .int) K) (s : SeS) (y : YdS) (f : PlS) (out : Int32 × SeS) (hm : se_nextFrom s y f = some out) (hp : K (some (.int out.1)) (hSe 0 5 out.2 ++ (hYd 5 y ++ (hPl 13 f)))) : MW X (0, [some (.ref 0), some (.ref 13)], [], (hSe 0 5 s ++ (hYd 5 y ++ (hPl 13 f))), 0, 0) := by
  unfold se_nextFrom at hm
  refine MW_run C okX7_nextFrom 0 3 (gs := []) (cf' := (5, [some (.ref 0), some (.ref 13)], [.ref 13, .ref 2], (hSe 0 5 s ++ (hYd 5 y ++ (hPl 13 f))), 0, 0)) rfl trivial ?_
  obtain ⟨q5, hc5, hm⟩ := of_bind hm
  refine MW_callV1 C okX7_nextFrom 3 rfl [2, 3, 4, 13, 14, 15] (v0 := none) (h0 := (hPl 0 q5 ++ (hPl 3 f))) (c_pl_copyFrom s.2.1 f q5 hc5) lkX7_50 1 dpX4_copyFrom (by decide) (rest := []) rfl rfl rfl rfl rfl rfl rfl rfl rfl rfl rfl (st2 := []) (h2 := (hSe 0 5 (s.1, q5, s.2.2.1, s.2.2.2.1, s.2.2.2.2) ++ (hYd 5 y ++ (hPl 13 f)))) rfl rfl ?_
  refine MW_run C okX7_nextFrom 4 1 (gs := []) (cf' := (9, [some (.ref 0), some (.ref 13)], [.ref 0], (hSe 0 5 (s.1, q5, s.2.2.1, s.2.2.2.1, s.2.2.2.2) ++ (hYd 5 y ++ (hPl 13 f))), 0, 0)) rfl trivial ?_
  obtain ⟨q9, hc9, hm⟩ := of_bind hm
  refine MW_callV1 C okX7_nextFrom 5 rfl [0, 1, 2, 3, 4, 5, 6, 7, 8, 9, 10, 11, 12] (v0 := some (.int q9.1)) (h0 := (hSe 0 5 q9.2 ++ (hYd 5 y))) (c_se_bestMove (s.1, q5, s.2.2.1, s.2.2.2.1, s.2.2.2.2) y q9 hc9) lkX7_54 0 dpX7_bestMove (by decide) (rest := []) rfl rfl rfl rfl rfl rfl rfl rfl rfl rfl rfl (st2 := [.int q9.1]) (h2 := (hSe 0 5 q9.2 ++ (hYd 5 y ++ (hPl 13 f)))) rfl rfl ?_
  obtain rfl := Option.some.inj hm
  exact MW_iret C okX7_nextFrom hq 6 rfl hp
theorem c_se_nextFrom (s : SeS) (y : YdS) (f : PlS) (out : Int32 × SeS) (hm : se_nextFrom s y f = some out) : CT yX7_nextFrom cX7_nextFrom 2 (some .int) 29 764 0 0 [.ref 0, .ref 13] (hSe 0 5 s ++ (hYd 5 y ++ (hPl 13 f))) (fun v h => v = (some (.int out.1)) ∧ h = (hSe 0 5 out.2 ++ (hYd 5 y ++ (hPl 13 f)))) :=
  CT_of (by decide +kernel) (vs0 := [some (.ref 0), some (.ref 13)]) rfl rfl (fun X C hq => t_se_nextFrom C hq s y f out hm ⟨rfl, rfl⟩)
/-! C: se_firstRow -/
def se_firstRow_L25 : Nat → SeS → YdS → Int32 → Int32 → Int32 → Option (SeS × Int32)
  | 0, _, _, _, _, _ => none
  | n + 1, s, y, x1, x2, x3 =>
    if x3 < x1 then
      if x3 < 20 then
        if x2 = (-6) then
          some (s, x2)
        else
          (pl_shift s.2.1 x2).bind fun q47 =>
            (se_bestMove (s.1, q47, s.2.2.1, s.2.2.2.1, s.2.2.2.2) y).bind fun q51 =>
              se_firstRow_L25 n q51.2 y x1 q51.1 (x3 + 1)
      else
        some (s, x2)
    else
      some (s, x2)
set_option maxRecDepth 100000 in
set_option maxHeartbeats 1000000 in
theorem l_se_firstRow_25 {X : CTX} {K : Option Value → AH → Prop} (C : CX X cX7_firstRow yX7_firstRow.cls (decide (yX7_firstRow.name = "<init>")) 29 764) (hq : RQ X (some .int) K) : ∀ (n : Nat) (s : SeS) (y : YdS) (x1 : Int32) (x2 : Int32) (x3 : Int32) (out : SeS × Int32) (hm : se_firstRow_L25 n s y x1 x2 x3 = some out) (hp : MW X (61, [none, none, some (.int out.2), none], [], (hSe 0 5 out.1 ++ (hYd 5 y)), 0, 0)), MW X (25, [some (.ref 0), some (.int x1), some (.int x2), some (.int x3)], [], (hSe 0 5 s ++ (hYd 5 y)), 0, 0) := by
  intro n
  induction n with
  | zero => intro s y x1 x2 x3 out hm hp; rw [se_firstRow_L25] at hm; cases hm
  | succ n ih =>
    intro s y x1 x2 x3 out hm hp
    rw [se_firstRow_L25] at hm
    refine MW_run C okX7_firstRow 13 2 (gs := []) (cf' := (27, [some (.ref 0), some (.int x1), some (.int x2), some (.int x3)], [.int x1, .int x3], (hSe 0 5 s ++ (hYd 5 y)), 0, 0)) rfl trivial ?_
    obtain ⟨hmt27, hmf27⟩ := of_if hm
    refine MW_brF C okX7_firstRow 15 rfl rfl (fun hb27 => ?_) (fun hb27 => ?_)
    · have hm := hmt27 hb27
      refine MW_run C okX7_firstRow 16 2 (gs := []) (cf' := (33, [some (.ref 0), some (.int x1), some (.int x2), some (.int x3)], [.int 20, .int x3], (hSe 0 5 s ++ (hYd 5 y)), 0, 0)) rfl trivial ?_
      obtain ⟨hmt33, hmf33⟩ := of_if hm
      refine MW_brF C okX7_firstRow 18 rfl rfl (fun hb33 => ?_) (fun hb33 => ?_)
      · have hm := hmt33 hb33
        refine MW_run C okX7_firstRow 19 2 (gs := []) (cf' := (39, [some (.ref 0), some (.int x1), some (.int x2), some (.int x3)], [.int (-6), .int x2], (hSe 0 5 s ++ (hYd 5 y)), 0, 0)) rfl trivial ?_
        obtain ⟨hmt39, hmf39⟩ := of_if hm
        refine MW_brT C okX7_firstRow 21 rfl rfl (fun hb39 => ?_) (fun hb39 => ?_)
        · have hm := hmt39 hb39
          obtain rfl := Option.some.inj hm
          refine MW_pick [false, false, true, false] rfl (vs' := [none, none, some (.int x2), none]) rfl ?_
          exact hp
        · have hm := hmf39 hb39
          refine MW_run C okX7_firstRow 22 3 (gs := []) (cf' := (47, [some (.ref 0), some (.int x1), some (.int x2), some (.int x3)], [.int x2, .ref 2], (hSe 0 5 s ++ (hYd 5 y)), 0, 0)) rfl trivial ?_
          obtain ⟨q47, hc47, hm⟩ := of_bind hm
          refine MW_callV1 C okX7_firstRow 25 rfl [2, 3, 4] (v0 := none) (h0 := (hPl 0 q47)) (c_pl_shift s.2.1 x2 q47 hc47) lkX7_58 1 dpX4_shift (by decide) (rest := []) rfl rfl rfl rfl rfl rfl rfl rfl rfl rfl rfl (st2 := []) (h2 := (hSe 0 5 (s.1, q47, s.2.2.1, s.2.2.2.1, s.2.2.2.2) ++ (hYd 5 y))) rfl rfl ?_
          refine MW_run C okX7_firstRow 26 1 (gs := []) (cf' := (51, [some (.ref 0), some (.int x1), some (.int x2), some (.int x3)], [.ref 0], (hSe 0 5 (s.1, q47, s.2.2.1, s.2.2.2.1, s.2.2.2.2) ++ (hYd 5 y)), 0, 0)) rfl trivial ?_
          obtain ⟨q51, hc51, hm⟩ := of_bind hm
          refine MW_callV0 C okX7_firstRow 27 rfl (v0 := some (.int q51.1)) (h0 := (hSe 0 5 q51.2 ++ (hYd 5 y))) (c_se_bestMove (s.1, q47, s.2.2.1, s.2.2.2.1, s.2.2.2.2) y q51 hc51) lkX7_54 0 dpX7_bestMove (by decide) (rest := []) rfl rfl rfl rfl rfl rfl rfl rfl ?_
          refine MW_run C okX7_firstRow 28 3 (gs := []) (cf' := (25, [some (.ref 0), some (.int x1), some (.int q51.1), some (.int (x3 + 1))], [], (hSe 0 5 q51.2 ++ (hYd 5 y)), 0, 0)) rfl trivial ?_
          exact ih q51.2 y x1 q51.1 (x3 + 1) _ hm hp
      · have hm := hmf33 hb33
        obtain rfl := Option.some.inj hm
        refine MW_pick [false, false, true, false] rfl (vs' := [none, none, some (.int x2), none]) rfl ?_
        exact hp
    · have hm := hmf27 hb27
      obtain rfl := Option.some.inj hm
      refine MW_pick [false, false, true, false] rfl (vs' := [none, none, some (.int x2), none]) rfl ?_
      exact hp
def se_firstRow (s : SeS) (y : YdS) (x1 : Int32) : Option (Int32 × SeS) :=
  (rw_upTo s.2.2.2.1).bind fun q8 =>
    (pl_begin s.2.1 q8 s.2.2.2.1).bind fun q15 =>
      (se_bestMove (s.1, q15, s.2.2.1, s.2.2.2.1, s.2.2.2.2) y).bind fun q19 =>
        (se_firstRow_L25 N0 q19.2 y x1 q19.1 0).bind fun q25 =>
          some (q25.2, q25.1)
set_option maxRecDepth 100000 in
set_option maxHeartbeats 1000000 in
theorem t_se_firstRow {X : CTX} {K : Option Value → AH → Prop} (C : CX X cX7_firstRow yX7_firstRow.cls (decide (yX7_firstRow.name = "<init>")) 29 764) (hq : RQ X (some .int) K) (s : SeS) (y : YdS) (x1 : Int32) (out : Int32 × SeS) (hm : se_firstRow s y x1 = some out) (hp : K (some (.int out.1)) (hSe 0 5 out.2 ++ (hYd 5 y))) : MW X (0, [some (.ref 0), some (.int x1), none, none], [], (hSe 0 5 s ++ (hYd 5 y)), 0, 0) := by
  unfold se_firstRow at hm
  refine MW_run C okX7_firstRow 0 4 (gs := []) (cf' := (8, [some (.ref 0), some (.int x1), none, none], [.int s.2.2.2.1, .ref 2], (hSe 0 5 s ++ (hYd 5 y)), 0, 0)) rfl trivial ?_
  obtain ⟨q8, hc8, hm⟩ := of_bind hm
  refine MW_callS0 C okX7_firstRow 4 rfl (v0 := some (.int q8)) (c_rw_upTo s.2.2.2.1 q8 hc8) lkX7_36 1 dpX6_upTo (by decide) (rest := [.ref 2]) rfl rfl rfl rfl rfl ?_
  refine MW_run C okX7_firstRow 5 2 (gs := []) (cf' := (15, [some (.ref 0), some (.int x1), none, none], [.int s.2.2.2.1, .int q8, .ref 2], (hSe 0 5 s ++ (hYd 5 y)), 0, 0)) rfl trivial ?_
  obtain ⟨q15, hc15, hm⟩ := of_bind hm
  refine MW_callV1 C okX7_firstRow 7 rfl [2, 3, 4] (v0 := none) (h0 := (hPl 0 q15)) (c_pl_begin s.2.1 q8 s.2.2.2.1 q15 hc15) lkX7_42 2 dpX4_begin (by decide) (rest := []) rfl rfl rfl rfl rfl rfl rfl rfl rfl rfl rfl (st2 := []) (h2 := (hSe 0 5 (s.1, q15, s.2.2.1, s.2.2.2.1, s.2.2.2.2) ++ (hYd 5 y))) rfl rfl ?_
  refine MW_run C okX7_firstRow 8 1 (gs := []) (cf' := (19, [some (.ref 0), some (.int x1), none, none], [.ref 0], (hSe 0 5 (s.1, q15, s.2.2.1, s.2.2.2.1, s.2.2.2.2) ++ (hYd 5 y)), 0, 0)) rfl trivial ?_
  obtain ⟨q19, hc19, hm⟩ := of_bind hm
  refine MW_callV0 C okX7_firstRow 9 rfl (v0 := some (.int q19.1)) (h0 := (hSe 0 5 q19.2 ++ (hYd 5 y))) (c_se_bestMove (s.1, q15, s.2.2.1, s.2.2.2.1, s.2.2.2.2) y q19 hc19) lkX7_54 0 dpX7_bestMove (by decide) (rest := []) rfl rfl rfl rfl rfl rfl rfl rfl ?_
  refine MW_run C okX7_firstRow 10 3 (gs := []) (cf' := (25, [some (.ref 0), some (.int x1), some (.int q19.1), some (.int 0)], [], (hSe 0 5 q19.2 ++ (hYd 5 y)), 0, 0)) rfl trivial ?_
  obtain ⟨q25, hc25, hm⟩ := of_bind hm
  refine l_se_firstRow_25 C hq N0 q19.2 y x1 q19.1 0 q25 hc25 ?_
  refine MW_run C okX7_firstRow 31 1 (gs := []) (cf' := (62, [none, none, some (.int q25.2), none], [.int q25.2], (hSe 0 5 q25.1 ++ (hYd 5 y)), 0, 0)) rfl trivial ?_
  obtain rfl := Option.some.inj hm
  exact MW_iret C okX7_firstRow hq 32 rfl hp
theorem c_se_firstRow (s : SeS) (y : YdS) (x1 : Int32) (out : Int32 × SeS) (hm : se_firstRow s y x1 = some out) : CT yX7_firstRow cX7_firstRow 4 (some .int) 29 764 0 0 [.ref 0, .int x1] (hSe 0 5 s ++ (hYd 5 y)) (fun v h => v = (some (.int out.1)) ∧ h = (hSe 0 5 out.2 ++ (hYd 5 y))) :=
  CT_of (by decide +kernel) (vs0 := [some (.ref 0), some (.int x1), none, none]) rfl rfl (fun X C hq => t_se_firstRow C hq s y x1 out hm ⟨rfl, rfl⟩)
/-! C: sv_reach -/
def sv_reach (s : SvS) (x1 : Int32) (x2 : Int32) (x3 : Int64) : Option (SvS) :=
  if x1 < 0 then
    some s
  else
    if x1 < 17046 then
      if inb x1 17046 then
        if (rd s.1 x1) = 0 then
          if inb x1 17046 ∧ inb x1 17046 then
            some ((wr s.1 x1 (narB (Int8.toInt32 (Int32.toInt8 x2)))), (wrL s.2.1 x1 x3), s.2.2)
          else none
        else
          if inb x1 17046 then
            if x2 < (rd s.1 x1) then
              if inb x1 17046 ∧ inb x1 17046 then
                some ((wr s.1 x1 (narB (Int8.toInt32 (Int32.toInt8 x2)))), (wrL s.2.1 x1 x3), s.2.2)
              else none
            else
              if inb x1 17046 then
                if x2 = (rd s.1 x1) then
                  if inb x1 17046 ∧ inb x1 17046 then
                    some (s.1, (wrL s.2.1 x1 ((rd s.2.1 x1) + x3)), s.2.2)
                  else none
                else
                  some s
              else none
          else none
      else none
    else
      some s
set_option maxRecDepth 100000 in
set_option maxHeartbeats 1000000 in
theorem t_sv_reach {X : CTX} {K : Option Value → AH → Prop} (C : CX X cX8_reach yX8_reach.cls (decide (yX8_reach.name = "<init>")) 0 0) (hq : RQ X none K) (s : SvS) (x1 : Int32) (x2 : Int32) (x3 : Int64) (out : SvS) (hm : sv_reach s x1 x2 x3 = some out) (hp : K none (hSv 0 out)) : MW X (0, [some (.ref 0), some (.int x1), some (.int x2), some (.long x3), none], [], (hSv 0 s), 0, 0) := by
  unfold sv_reach at hm
  refine MW_run C okX8_reach 0 1 (gs := []) (cf' := (1, [some (.ref 0), some (.int x1), some (.int x2), some (.long x3), none], [.int x1], (hSv 0 s), 0, 0)) rfl trivial ?_
  obtain ⟨hmt1, hmf1⟩ := of_if hm
  refine MW_brT C okX8_reach 1 rfl rfl (fun hb1 => ?_) (fun hb1 => ?_)
  · have hm := hmt1 hb1
    obtain rfl := Option.some.inj hm
    exact MW_vret C okX8_reach hq 5 rfl hp
  · have hm := hmf1 hb1
    refine MW_run C okX8_reach 2 2 (gs := []) (cf' := (8, [some (.ref 0), some (.int x1), some (.int x2), some (.long x3), none], [.int 17046, .int x1], (hSv 0 s), 0, 0)) rfl trivial ?_
    obtain ⟨hmt8, hmf8⟩ := of_if hm
    refine MW_brT C okX8_reach 4 rfl rfl (fun hb8 => ?_) (fun hb8 => ?_)
    · have hm := hmt8 hb8
      obtain ⟨hg18, hm⟩ := of_guard hm
      refine MW_run C okX8_reach 6 4 (gs := [inb x1 17046]) (cf' := (18, [some (.ref 0), some (.int x1), some (.int x2), some (.long x3), none], [.int (rd s.1 x1)], (hSv 0 s), 0, 0)) rfl hg18 ?_
      obtain ⟨hmt18, hmf18⟩ := of_if hm
      refine MW_brT C okX8_reach 10 rfl rfl (fun hb18 => ?_) (fun hb18 => ?_)
      · have hm := hmt18 hb18
        obtain ⟨hg69, hm⟩ := of_guard hm
        refine MW_run C okX8_reach 17 12 (gs := [inb x1 17046, inb x1 17046]) (cf' := (69, [some (.ref 0), some (.int x1), some (.int x2), some (.long x3), none], [], (hSv 0 ((wr s.1 x1 (narB (Int8.toInt32 (Int32.toInt8 x2)))), (wrL s.2.1 x1 x3), s.2.2)), 0, 0)) rfl ⟨hg69.1, hg69.2⟩ ?_
        obtain rfl := Option.some.inj hm
        exact MW_vret C okX8_reach hq 43 rfl hp
      · have hm := hmf18 hb18
        obtain ⟨hg28, hm⟩ := of_guard hm
        refine MW_run C okX8_reach 11 5 (gs := [inb x1 17046]) (cf' := (28, [some (.ref 0), some (.int x1), some (.int x2), some (.long x3), none], [.int (rd s.1 x1), .int x2], (hSv 0 s), 0, 0)) rfl hg28 ?_
        obtain ⟨hmt28, hmf28⟩ := of_if hm
        refine MW_brF C okX8_reach 16 rfl rfl (fun hb28 => ?_) (fun hb28 => ?_)
        · have hm := hmt28 hb28
          obtain ⟨hg69, hm⟩ := of_guard hm
          refine MW_run C okX8_reach 17 12 (gs := [inb x1 17046, inb x1 17046]) (cf' := (69, [some (.ref 0), some (.int x1), some (.int x2), some (.long x3), none], [], (hSv 0 ((wr s.1 x1 (narB (Int8.toInt32 (Int32.toInt8 x2)))), (wrL s.2.1 x1 x3), s.2.2)), 0, 0)) rfl ⟨hg69.1, hg69.2⟩ ?_
          obtain rfl := Option.some.inj hm
          exact MW_vret C okX8_reach hq 43 rfl hp
        · have hm := hmf28 hb28
          obtain ⟨hg56, hm⟩ := of_guard hm
          refine MW_run C okX8_reach 29 5 (gs := [inb x1 17046]) (cf' := (56, [some (.ref 0), some (.int x1), some (.int x2), some (.long x3), none], [.int (rd s.1 x1), .int x2], (hSv 0 s), 0, 0)) rfl hg56 ?_
          obtain ⟨hmt56, hmf56⟩ := of_if hm
          refine MW_brF C okX8_reach 34 rfl rfl (fun hb56 => ?_) (fun hb56 => ?_)
          · have hm := hmt56 hb56
            obtain ⟨hg69, hm⟩ := of_guard hm
            refine MW_run C okX8_reach 35 8 (gs := [inb x1 17046, inb x1 17046]) (cf' := (69, [some (.ref 0), some (.int x1), some (.int x2), some (.long x3), none], [], (hSv 0 (s.1, (wrL s.2.1 x1 ((rd s.2.1 x1) + x3)), s.2.2)), 0, 0)) rfl ⟨hg69.1, hg69.2⟩ ?_
            obtain rfl := Option.some.inj hm
            exact MW_vret C okX8_reach hq 43 rfl hp
          · have hm := hmf56 hb56
            obtain rfl := Option.some.inj hm
            exact MW_vret C okX8_reach hq 43 rfl hp
    · have hm := hmf8 hb8
      obtain rfl := Option.some.inj hm
      exact MW_vret C okX8_reach hq 5 rfl hp
theorem c_sv_reach (s : SvS) (x1 : Int32) (x2 : Int32) (x3 : Int64) (out : SvS) (hm : sv_reach s x1 x2 x3 = some out) : CT yX8_reach cX8_reach 5 none 0 0 0 0 [.ref 0, .int x1, .int x2, .long x3] (hSv 0 s) (fun v h => v = none ∧ h = (hSv 0 out)) :=
  CT_of (by decide +kernel) (vs0 := [some (.ref 0), some (.int x1), some (.int x2), some (.long x3), none]) rfl rfl (fun X C hq => t_sv_reach C hq s x1 x2 x3 out hm ⟨rfl, rfl⟩)
/-! C: sv_spread -/
def sv_spread_L3 : Nat → SvS → YdS → Int32 → Int64 → Int32 → Option (SvS)
  | 0, _, _, _, _, _ => none
  | n + 1, s, y, x2, x3, x5 =>
    if x5 < y.2.2.1 then
      (yd_moveAt y x5).bind fun q15 =>
        (pl_allows s.2.2 y q15).bind fun q27 =>
          if q27 = 0 then
            sv_spread_L3 n s y x2 x3 (x5 + 1)
          else
            (pl_shift s.2.2 q15).bind fun q39 =>
              (pl_index q39 y.1).bind fun q51 =>
                (sv_reach (s.1, s.2.1, q39) q51 x2 x3).bind fun q56 =>
                  (pl_unshift q56.2.2 q15).bind fun q65 =>
                    sv_spread_L3 n (q56.1, q56.2.1, q65) y x2 x3 (x5 + 1)
    else
      some s
set_option maxRecDepth 100000 in
set_option maxHeartbeats 1000000 in
theorem l_sv_spread_3 {X : CTX} {K : Option Value → AH → Prop} (C : CX X cX8_spread yX8_spread.cls (decide (yX8_spread.name = "<init>")) 2 49) (hq : RQ X none K) : ∀ (n : Nat) (s : SvS) (y : YdS) (x2 : Int32) (x3 : Int64) (x5 : Int32) (out : SvS) (hm : sv_spread_L3 n s y x2 x3 x5 = some out) (hp : MW X (74, [none, none, none, none, none, none, none], [], (hSv 0 out ++ (hYd 6 y)), 0, 0)), MW X (3, [some (.ref 0), some (.ref 6), some (.int x2), some (.long x3), none, some (.int x5), none], [], (hSv 0 s ++ (hYd 6 y)), 0, 0) := by
  intro n
  induction n with
  | zero => intro s y x2 x3 x5 out hm hp; rw [sv_spread_L3] at hm; cases hm
  | succ n ih =>
    intro s y x2 x3 x5 out hm hp
    rw [sv_spread_L3] at hm
    refine MW_run C okX8_spread 2 3 (gs := []) (cf' := (9, [some (.ref 0), some (.ref 6), some (.int x2), some (.long x3), none, some (.int x5), none], [.int y.2.2.1, .int x5], (hSv 0 s ++ (hYd 6 y)), 0, 0)) rfl trivial ?_
    obtain ⟨hmt9, hmf9⟩ := of_if hm
    refine MW_brF C okX8_spread 5 rfl rfl (fun hb9 => ?_) (fun hb9 => ?_)
    · have hm := hmt9 hb9
      refine MW_run C okX8_spread 6 2 (gs := []) (cf' := (15, [some (.ref 0), some (.ref 6), some (.int x2), some (.long x3), none, some (.int x5), none], [.int x5, .ref 6], (hSv 0 s ++ (hYd 6 y)), 0, 0)) rfl trivial ?_
      obtain ⟨q15, hc15, hm⟩ := of_bind hm
      refine MW_callV1 C okX8_spread 8 rfl [6, 7, 8, 9, 10, 11, 12, 13] (v0 := some (.int q15)) (h0 := (hYd 0 y)) (c_yd_moveAt y x5 q15 hc15) lkX8_77 1 dpX10_moveAt (by decide) (rest := []) rfl rfl rfl rfl rfl rfl rfl rfl rfl rfl rfl (st2 := [.int q15]) (h2 := (hSv 0 s ++ (hYd 6 y))) rfl rfl ?_
      refine MW_run C okX8_spread 9 5 (gs := []) (cf' := (27, [some (.ref 0), some (.ref 6), some (.int x2), some (.long x3), none, some (.int x5), some (.int q15)], [.int q15, .ref 6, .ref 3], (hSv 0 s ++ (hYd 6 y)), 0, 0)) rfl trivial ?_
      obtain ⟨q27, hc27, hm⟩ := of_bind hm
      refine MW_callV1 C okX8_spread 14 rfl [3, 4, 5, 6, 7, 8, 9, 10, 11, 12, 13] (v0 := some (.int q27)) (h0 := (hPl 0 s.2.2 ++ (hYd 3 y))) (c_pl_allows s.2.2 y q15 q27 hc27) lkX8_80 2 dpX4_allows (by decide) (rest := []) rfl rfl rfl rfl rfl rfl rfl rfl rfl rfl rfl (st2 := [.int q27]) (h2 := (hSv 0 s ++ (hYd 6 y))) rfl rfl ?_
      obtain ⟨hmt30, hmf30⟩ := of_if hm
      refine MW_brT C okX8_spread 15 rfl rfl (fun hb30 => ?_) (fun hb30 => ?_)
      · have hm := hmt30 hb30
        refine MW_run C okX8_spread 33 2 (gs := []) (cf' := (3, [some (.ref 0), some (.ref 6), some (.int x2), some (.long x3), none, some (.int (x5 + 1)), some (.int q15)], [], (hSv 0 s ++ (hYd 6 y)), 0, 0)) rfl trivial ?_
        refine MW_pick [true, true, true, true, true, true, false] rfl (vs' := [some (.ref 0), some (.ref 6), some (.int x2), some (.long x3), none, some (.int (x5 + 1)), none]) rfl ?_
        exact ih s y x2 x3 (x5 + 1) _ hm hp
      · have hm := hmf30 hb30
        refine MW_run C okX8_spread 16 3 (gs := []) (cf' := (39, [some (.ref 0), some (.ref 6), some (.int x2), some (.long x3), none, some (.int x5), some (.int q15)], [.int q15, .ref 3], (hSv 0 s ++ (hYd 6 y)), 0, 0)) rfl trivial ?_
        obtain ⟨q39, hc39, hm⟩ := of_bind hm
        refine MW_callV1 C okX8_spread 19 rfl [3, 4, 5] (v0 := none) (h0 := (hPl 0 q39)) (c_pl_shift s.2.2 q15 q39 hc39) lkX8_84 1 dpX4_shift (by decide) (rest := []) rfl rfl rfl rfl rfl rfl rfl rfl rfl rfl rfl (st2 := []) (h2 := (hSv 0 (s.1, s.2.1, q39) ++ (hYd 6 y))) rfl rfl ?_
        refine MW_run C okX8_spread 20 5 (gs := []) (cf' := (51, [some (.ref 0), some (.ref 6), some (.int x2), some (.long x3), none, some (.int x5), some (.int q15)], [.int y.1, .ref 3, .ref 0], (hSv 0 (s.1, s.2.1, q39) ++ (hYd 6 y)), 0, 0)) rfl trivial ?_
        obtain ⟨q51, hc51, hm⟩ := of_bind hm
        refine MW_callV1 C okX8_spread 25 rfl [3, 4, 5] (v0 := some (.int q51)) (h0 := (hPl 0 q39)) (c_pl_index q39 y.1 q51 hc51) lkX8_87 1 dpX4_index (by decide) (rest := [.ref 0]) rfl rfl rfl rfl rfl rfl rfl rfl rfl rfl rfl (st2 := [.int q51, .ref 0]) (h2 := (hSv 0 (s.1, s.2.1, q39) ++ (hYd 6 y))) rfl rfl ?_
        refine MW_run C okX8_spread 26 2 (gs := []) (cf' := (56, [some (.ref 0), some (.ref 6), some (.int x2), some (.long x3), none, some (.int x5), some (.int q15)], [.long x3, .int x2, .int q51, .ref 0], (hSv 0 (s.1, s.2.1, q39) ++ (hYd 6 y)), 0, 0)) rfl trivial ?_
        obtain ⟨q56, hc56, hm⟩ := of_bind hm
        refine MW_callV1 C okX8_spread 28 rfl [0, 1, 2, 3, 4, 5] (v0 := none) (h0 := (hSv 0 q56)) (c_sv_reach (s.1, s.2.1, q39) q51 x2 x3 q56 hc56) lkX8_90 3 dpX8_reach (by decide) (rest := []) rfl rfl rfl rfl rfl rfl rfl rfl rfl rfl rfl (st2 := []) (h2 := (hSv 0 q56 ++ (hYd 6 y))) rfl rfl ?_
        refine MW_run C okX8_spread 29 3 (gs := []) (cf' := (65, [some (.ref 0), some (.ref 6), some (.int x2), some (.long x3), none, some (.int x5), some (.int q15)], [.int q15, .ref 3], (hSv 0 q56 ++ (hYd 6 y)), 0, 0)) rfl trivial ?_
        obtain ⟨q65, hc65, hm⟩ := of_bind hm
        refine MW_callV1 C okX8_spread 32 rfl [3, 4, 5] (v0 := none) (h0 := (hPl 0 q65)) (c_pl_unshift q56.2.2 q15 q65 hc65) lkX8_94 1 dpX4_unshift (by decide) (rest := []) rfl rfl rfl rfl rfl rfl rfl rfl rfl rfl rfl (st2 := []) (h2 := (hSv 0 (q56.1, q56.2.1, q65) ++ (hYd 6 y))) rfl rfl ?_
        refine MW_run C okX8_spread 33 2 (gs := []) (cf' := (3, [some (.ref 0), some (.ref 6), some (.int x2), some (.long x3), none, some (.int (x5 + 1)), some (.int q15)], [], (hSv 0 (q56.1, q56.2.1, q65) ++ (hYd 6 y)), 0, 0)) rfl trivial ?_
        refine MW_pick [true, true, true, true, true, true, false] rfl (vs' := [some (.ref 0), some (.ref 6), some (.int x2), some (.long x3), none, some (.int (x5 + 1)), none]) rfl ?_
        exact ih (q56.1, q56.2.1, q65) y x2 x3 (x5 + 1) _ hm hp
    · have hm := hmf9 hb9
      obtain rfl := Option.some.inj hm
      refine MW_pick [false, false, false, false, true, false, true] rfl (vs' := [none, none, none, none, none, none, none]) rfl ?_
      exact hp
def sv_spread (s : SvS) (y : YdS) (x2 : Int32) (x3 : Int64) : Option (SvS) :=
  (sv_spread_L3 N0 s y x2 x3 0).bind fun q3 =>
    some q3
set_option maxRecDepth 100000 in
set_option maxHeartbeats 1000000 in
theorem t_sv_spread {X : CTX} {K : Option Value → AH → Prop} (C : CX X cX8_spread yX8_spread.cls (decide (yX8_spread.name = "<init>")) 2 49) (hq : RQ X none K) (s : SvS) (y : YdS) (x2 : Int32) (x3 : Int64) (out : SvS) (hm : sv_spread s y x2 x3 = some out) (hp : K none (hSv 0 out ++ (hYd 6 y))) : MW X (0, [some (.ref 0), some (.ref 6), some (.int x2), some (.long x3), none, none, none], [], (hSv 0 s ++ (hYd 6 y)), 0, 0) := by
  unfold sv_spread at hm
  refine MW_run C okX8_spread 0 2 (gs := []) (cf' := (3, [some (.ref 0), some (.ref 6), some (.int x2), some (.long x3), none, some (.int 0), none], [], (hSv 0 s ++ (hYd 6 y)), 0, 0)) rfl trivial ?_
  obtain ⟨q3, hc3, hm⟩ := of_bind hm
  refine l_sv_spread_3 C hq N0 s y x2 x3 0 q3 hc3 ?_
  obtain rfl := Option.some.inj hm
  exact MW_vret C okX8_spread hq 35 rfl hp
theorem c_sv_spread (s : SvS) (y : YdS) (x2 : Int32) (x3 : Int64) (out : SvS) (hm : sv_spread s y x2 x3 = some out) : CT yX8_spread cX8_spread 7 none 2 49 0 0 [.ref 0, .ref 6, .int x2, .long x3] (hSv 0 s ++ (hYd 6 y)) (fun v h => v = none ∧ h = (hSv 0 out ++ (hYd 6 y))) :=
  CT_of (by decide +kernel) (vs0 := [some (.ref 0), some (.ref 6), some (.int x2), some (.long x3), none, none, none]) rfl rfl (fun X C hq => t_sv_spread C hq s y x2 x3 out hm ⟨rfl, rfl⟩)
/-! C: sv_fill -/
def sv_fill_L40 : Nat → SvS → YdS → Int32 → Int32 → Int32 → Option (SvS)
  | 0, _, _, _, _, _ => none
  | n + 1, s, y, x2, x3, x4 =>
    if x4 < x3 then
      if inb x4 17046 ∧ inb x4 17046 then
        sv_fill_L40 n ((wr s.1 x4 (narB 0)), (wrL s.2.1 x4 0), s.2.2) y x2 x3 (x4 + 1)
      else none
    else
      some s
set_option maxRecDepth 100000 in
set_option maxHeartbeats 1000000 in
theorem l_sv_fill_40 {X : CTX} {K : Option Value → AH → Prop} (C : CX X cX8_fill yX8_fill.cls (decide (yX8_fill.name = "<init>")) 4 95) (hq : RQ X none K) : ∀ (n : Nat) (s : SvS) (y : YdS) (x2 : Int32) (x3 : Int32) (x4 : Int32) (out : SvS) (hm : sv_fill_L40 n s y x2 x3 x4 = some out) (hp : MW X (68, [some (.ref 0), some (.ref 6), some (.int x2), some (.int x3), none], [], (hSv 0 out ++ (hYd 6 y)), 0, 0)), MW X (40, [some (.ref 0), some (.ref 6), some (.int x2), some (.int x3), some (.int x4)], [], (hSv 0 s ++ (hYd 6 y)), 0, 0) := by
  intro n
  induction n with
  | zero => intro s y x2 x3 x4 out hm hp; rw [sv_fill_L40] at hm; cases hm
  | succ n ih =>
    intro s y x2 x3 x4 out hm hp
    rw [sv_fill_L40] at hm
    refine MW_run C okX8_fill 21 2 (gs := []) (cf' := (43, [some (.ref 0), some (.ref 6), some (.int x2), some (.int x3), some (.int x4)], [.int x3, .int x4], (hSv 0 s ++ (hYd 6 y)), 0, 0)) rfl trivial ?_
    obtain ⟨hmt43, hmf43⟩ := of_if hm
    refine MW_brF C okX8_fill 23 rfl rfl (fun hb43 => ?_) (fun hb43 => ?_)
    · have hm := hmt43 hb43
      obtain ⟨hg40, hm⟩ := of_guard hm
      refine MW_run C okX8_fill 24 12 (gs := [inb x4 17046, inb x4 17046]) (cf' := (40, [some (.ref 0), some (.ref 6), some (.int x2), some (.int x3), some (.int (x4 + 1))], [], (hSv 0 ((wr s.1 x4 (narB 0)), (wrL s.2.1 x4 0), s.2.2) ++ (hYd 6 y)), 0, 0)) rfl ⟨hg40.1, hg40.2⟩ ?_
      exact ih ((wr s.1 x4 (narB 0)), (wrL s.2.1 x4 0), s.2.2) y x2 x3 (x4 + 1) _ hm hp
    · have hm := hmf43 hb43
      obtain rfl := Option.some.inj hm
      refine MW_pick [true, true, true, true, false] rfl (vs' := [some (.ref 0), some (.ref 6), some (.int x2), some (.int x3), none]) rfl ?_
      exact hp
def sv_fill_L85 : Nat → SvS → YdS → Int32 → Int32 → Int32 → Option (SvS × YdS)
  | 0, _, _, _, _, _ => none
  | n + 1, s, y, x2, x3, x4 =>
    if x4 < x3 then
      if inb x4 17046 then
        if (0 : Int32) < (rd s.1 x4) then
          (pl_setUp s.2.2 x4 x2 y.1).bind fun q112 =>
            (pl_countAt q112 5).bind fun q120 =>
              if q120 = x2 then
                (pl_rowAt q112 5).bind fun q136 =>
                  if inb x4 17046 ∧ inb x4 17046 then
                    (oc_note y.2.2.2.2.2.2.2.2 q136 x2 ((rd s.1 x4) - 1) (rd s.2.1 x4)).bind fun q156 =>
                      sv_fill_L85 n (s.1, s.2.1, q112) (y.1, y.2.1, y.2.2.1, y.2.2.2.1, y.2.2.2.2.1, y.2.2.2.2.2.1, y.2.2.2.2.2.2.1, y.2.2.2.2.2.2.2.1, q156) x2 x3 (x4 + 1)
                  else none
              else
                if inb x4 17046 ∧ inb x4 17046 then
                  (sv_spread (s.1, s.2.1, q112) y ((rd s.1 x4) + 1) (rd s.2.1 x4)).bind fun q180 =>
                    sv_fill_L85 n q180 y x2 x3 (x4 + 1)
                else none
        else
          sv_fill_L85 n s y x2 x3 (x4 + 1)
      else none
    else
      some (s, y)
set_option maxRecDepth 100000 in
set_option maxHeartbeats 1000000 in
theorem l_sv_fill_85 {X : CTX} {K : Option Value → AH → Prop} (C : CX X cX8_fill yX8_fill.cls (decide (yX8_fill.name = "<init>")) 4 95) (hq : RQ X none K) : ∀ (n : Nat) (s : SvS) (y : YdS) (x2 : Int32) (x3 : Int32) (x4 : Int32) (out : SvS × YdS) (hm : sv_fill_L85 n s y x2 x3 x4 = some out) (hp : MW X (189, [none, some (.ref 6), some (.int x2), none, none], [], (hSv 0 out.1 ++ (hYd 6 out.2)), 0, 0)), MW X (85, [some (.ref 0), some (.ref 6), some (.int x2), some (.int x3), some (.int x4)], [], (hSv 0 s ++ (hYd 6 y)), 0, 0) := by
  intro n
  induction n with
  | zero => intro s y x2 x3 x4 out hm hp; rw [sv_fill_L85] at hm; cases hm
  | succ n ih =>
    intro s y x2 x3 x4 out hm hp
    rw [sv_fill_L85] at hm
    refine MW_run C okX8_fill 48 2 (gs := []) (cf' := (88, [some (.ref 0), some (.ref 6), some (.int x2), some (.int x3), some (.int x4)], [.int x3, .int x4], (hSv 0 s ++ (hYd 6 y)), 0, 0)) rfl trivial ?_
    obtain ⟨hmt88, hmf88⟩ := of_if hm
    refine MW_brF C okX8_fill 50 rfl rfl (fun hb88 => ?_) (fun hb88 => ?_)
    · have hm := hmt88 hb88
      obtain ⟨hg98, hm⟩ := of_guard hm
      refine MW_run C okX8_fill 51 4 (gs := [inb x4 17046]) (cf' := (98, [some (.ref 0), some (.ref 6), some (.int x2), some (.int x3), some (.int x4)], [.int (rd s.1 x4)], (hSv 0 s ++ (hYd 6 y)), 0, 0)) rfl hg98 ?_
      obtain ⟨hmt98, hmf98⟩ := of_if hm
      refine MW_brF C okX8_fill 55 rfl rfl (fun hb98 => ?_) (fun hb98 => ?_)
      · have hm := hmt98 hb98
        refine MW_run C okX8_fill 56 6 (gs := []) (cf' := (112, [some (.ref 0), some (.ref 6), some (.int x2), some (.int x3), some (.int x4)], [.int y.1, .int x2, .int x4, .ref 3], (hSv 0 s ++ (hYd 6 y)), 0, 0)) rfl trivial ?_
        obtain ⟨q112, hc112, hm⟩ := of_bind hm
        refine MW_callV1 C okX8_fill 62 rfl [3, 4, 5] (v0 := none) (h0 := (hPl 0 q112)) (c_pl_setUp s.2.2 x4 x2 y.1 q112 hc112) lkX8_51 3 dpX4_setUp (by decide) (rest := []) rfl rfl rfl rfl rfl rfl rfl rfl rfl rfl rfl (st2 := []) (h2 := (hSv 0 (s.1, s.2.1, q112) ++ (hYd 6 y))) rfl rfl ?_
        refine MW_run C okX8_fill 63 3 (gs := []) (cf' := (120, [some (.ref 0), some (.ref 6), some (.int x2), some (.int x3), some (.int x4)], [.int 5, .ref 3], (hSv 0 (s.1, s.2.1, q112) ++ (hYd 6 y)), 0, 0)) rfl trivial ?_
        obtain ⟨q120, hc120, hm⟩ := of_bind hm
        refine MW_callV1 C okX8_fill 66 rfl [3, 4, 5] (v0 := some (.int q120)) (h0 := (hPl 0 q112)) (c_pl_countAt q112 5 q120 hc120) lkX8_55 1 dpX4_countAt (by decide) (rest := []) rfl rfl rfl rfl rfl rfl rfl rfl rfl rfl rfl (st2 := [.int q120]) (h2 := (hSv 0 (s.1, s.2.1, q112) ++ (hYd 6 y))) rfl rfl ?_
        refine MW_run C okX8_fill 67 1 (gs := []) (cf' := (124, [some (.ref 0), some (.ref 6), some (.int x2), some (.int x3), some (.int x4)], [.int x2, .int q120], (hSv 0 (s.1, s.2.1, q112) ++ (hYd 6 y)), 0, 0)) rfl trivial ?_
        obtain ⟨hmt124, hmf124⟩ := of_if hm
        refine MW_brF C okX8_fill 68 rfl rfl (fun hb124 => ?_) (fun hb124 => ?_)
        · have hm := hmt124 hb124
          refine MW_run C okX8_fill 69 5 (gs := []) (cf' := (136, [some (.ref 0), some (.ref 6), some (.int x2), some (.int x3), some (.int x4)], [.int 5, .ref 3, .ref 11], (hSv 0 (s.1, s.2.1, q112) ++ (hYd 6 y)), 0, 0)) rfl trivial ?_
          obtain ⟨q136, hc136, hm⟩ := of_bind hm
          refine MW_callV1 C okX8_fill 74 rfl [3, 4, 5] (v0 := some (.int q136)) (h0 := (hPl 0 q112)) (c_pl_rowAt q112 5 q136 hc136) lkX8_59 1 dpX4_rowAt (by decide) (rest := [.ref 11]) rfl rfl rfl rfl rfl rfl rfl rfl rfl rfl rfl (st2 := [.int q136, .ref 11]) (h2 := (hSv 0 (s.1, s.2.1, q112) ++ (hYd 6 y))) rfl rfl ?_
          obtain ⟨hg156, hm⟩ := of_guard hm
          refine MW_run C okX8_fill 75 11 (gs := [inb x4 17046, inb x4 17046]) (cf' := (156, [some (.ref 0), some (.ref 6), some (.int x2), some (.int x3), some (.int x4)], [.long (rd s.2.1 x4), .int ((rd s.1 x4) - 1), .int x2, .int q136, .ref 11], (hSv 0 (s.1, s.2.1, q112) ++ (hYd 6 y)), 0, 0)) rfl ⟨hg156.1, hg156.2⟩ ?_
          obtain ⟨q156, hc156, hm⟩ := of_bind hm
          refine MW_callV1 C okX8_fill 86 rfl [11, 12, 13] (v0 := none) (h0 := (hOc 0 q156)) (c_oc_note y.2.2.2.2.2.2.2.2 q136 x2 ((rd s.1 x4) - 1) (rd s.2.1 x4) q156 hc156) lkX8_62 4 dpX2_note (by decide) (rest := []) rfl rfl rfl rfl rfl rfl rfl rfl rfl rfl rfl (st2 := []) (h2 := (hSv 0 (s.1, s.2.1, q112) ++ (hYd 6 (y.1, y.2.1, y.2.2.1, y.2.2.2.1, y.2.2.2.2.1, y.2.2.2.2.2.1, y.2.2.2.2.2.2.1, y.2.2.2.2.2.2.2.1, q156)))) rfl rfl ?_
          refine MW_run C okX8_fill 87 1 (gs := []) (cf' := (183, [some (.ref 0), some (.ref 6), some (.int x2), some (.int x3), some (.int x4)], [], (hSv 0 (s.1, s.2.1, q112) ++ (hYd 6 (y.1, y.2.1, y.2.2.1, y.2.2.2.1, y.2.2.2.2.1, y.2.2.2.2.2.1, y.2.2.2.2.2.2.1, y.2.2.2.2.2.2.2.1, q156))), 0, 0)) rfl trivial ?_
          refine MW_run C okX8_fill 101 2 (gs := []) (cf' := (85, [some (.ref 0), some (.ref 6), some (.int x2), some (.int x3), some (.int (x4 + 1))], [], (hSv 0 (s.1, s.2.1, q112) ++ (hYd 6 (y.1, y.2.1, y.2.2.1, y.2.2.2.1, y.2.2.2.2.1, y.2.2.2.2.2.1, y.2.2.2.2.2.2.1, y.2.2.2.2.2.2.2.1, q156))), 0, 0)) rfl trivial ?_
          exact ih (s.1, s.2.1, q112) (y.1, y.2.1, y.2.2.1, y.2.2.2.1, y.2.2.2.2.1, y.2.2.2.2.2.1, y.2.2.2.2.2.2.1, y.2.2.2.2.2.2.2.1, q156) x2 x3 (x4 + 1) _ hm hp
        · have hm := hmf124 hb124
          obtain ⟨hg180, hm⟩ := of_guard hm
          refine MW_run C okX8_fill 88 12 (gs := [inb x4 17046, inb x4 17046]) (cf' := (180, [some (.ref 0), some (.ref 6), some (.int x2), some (.int x3), some (.int x4)], [.long (rd s.2.1 x4), .int ((rd s.1 x4) + 1), .ref 6, .ref 0], (hSv 0 (s.1, s.2.1, q112) ++ (hYd 6 y)), 0, 0)) rfl ⟨hg180.1, hg180.2⟩ ?_
          obtain ⟨q180, hc180, hm⟩ := of_bind hm
          refine MW_callV0 C okX8_fill 100 rfl (v0 := none) (h0 := (hSv 0 q180 ++ (hYd 6 y))) (c_sv_spread (s.1, s.2.1, q112) y ((rd s.1 x4) + 1) (rd s.2.1 x4) q180 hc180) lkX8_66 3 dpX8_spread (by decide) (rest := []) rfl rfl rfl rfl rfl rfl rfl rfl ?_
          refine MW_run C okX8_fill 101 2 (gs := []) (cf' := (85, [some (.ref 0), some (.ref 6), some (.int x2), some (.int x3), some (.int (x4 + 1))], [], (hSv 0 q180 ++ (hYd 6 y)), 0, 0)) rfl trivial ?_
          exact ih q180 y x2 x3 (x4 + 1) _ hm hp
      · have hm := hmf98 hb98
        refine MW_run C okX8_fill 101 2 (gs := []) (cf' := (85, [some (.ref 0), some (.ref 6), some (.int x2), some (.int x3), some (.int (x4 + 1))], [], (hSv 0 s ++ (hYd 6 y)), 0, 0)) rfl trivial ?_
        exact ih s y x2 x3 (x4 + 1) _ hm hp
    · have hm := hmf88 hb88
      obtain rfl := Option.some.inj hm
      refine MW_pick [false, true, true, false, false] rfl (vs' := [none, some (.ref 6), some (.int x2), none, none]) rfl ?_
      exact hp
def sv_fill (s : SvS) (y : YdS) (x2 : Int32) : Option (SvS × YdS) :=
  if x2 < 1 then
    some (s, y)
  else
    if (5 : Int32) < x2 then
      some (s, y)
    else
      (oc_know y.2.2.2.2.2.2.2.2 x2).bind fun q15 =>
        if q15 = 0 then
          (pl_indices x2 y.1).bind fun q30 =>
            (sv_fill_L40 N0 s y x2 (imin 17046 q30) 0).bind fun q40 =>
              (sv_fill_L85 N0 ((wr q40.1 0 (narB 1)), (wrL q40.2.1 0 1), q40.2.2) y x2 (imin 17046 q30) 0).bind fun q85 =>
                (oc_nowKnow q85.2.2.2.2.2.2.2.2.2 x2).bind fun q194 =>
                  some (q85.1, (q85.2.1, q85.2.2.1, q85.2.2.2.1, q85.2.2.2.2.1, q85.2.2.2.2.2.1, q85.2.2.2.2.2.2.1, q85.2.2.2.2.2.2.2.1, q85.2.2.2.2.2.2.2.2.1, q194))
        else
          some (s, y)
set_option maxRecDepth 100000 in
set_option maxHeartbeats 1000000 in
theorem t_sv_fill {X : CTX} {K : Option Value → AH → Prop} (C : CX X cX8_fill yX8_fill.cls (decide (yX8_fill.name = "<init>")) 4 95) (hq : RQ X none K) (s : SvS) (y : YdS) (x2 : Int32) (out : SvS × YdS) (hm : sv_fill s y x2 = some out) (hp : K none (hSv 0 out.1 ++ (hYd 6 out.2))) : MW X (0, [some (.ref 0), some (.ref 6), some (.int x2), none, none], [], (hSv 0 s ++ (hYd 6 y)), 0, 0) := by
  unfold sv_fill at hm
  refine MW_run C okX8_fill 0 2 (gs := []) (cf' := (2, [some (.ref 0), some (.ref 6), some (.int x2), none, none], [.int 1, .int x2], (hSv 0 s ++ (hYd 6 y)), 0, 0)) rfl trivial ?_
  obtain ⟨hmt2, hmf2⟩ := of_if hm
  refine MW_brT C okX8_fill 2 rfl rfl (fun hb2 => ?_) (fun hb2 => ?_)
  · have hm := hmt2 hb2
    obtain rfl := Option.some.inj hm
    exact MW_vret C okX8_fill hq 11 rfl hp
  · have hm := hmf2 hb2
    refine MW_run C okX8_fill 3 2 (gs := []) (cf' := (7, [some (.ref 0), some (.ref 6), some (.int x2), none, none], [.int 5, .int x2], (hSv 0 s ++ (hYd 6 y)), 0, 0)) rfl trivial ?_
    obtain ⟨hmt7, hmf7⟩ := of_if hm
    refine MW_brT C okX8_fill 5 rfl rfl (fun hb7 => ?_) (fun hb7 => ?_)
    · have hm := hmt7 hb7
      obtain rfl := Option.some.inj hm
      exact MW_vret C okX8_fill hq 11 rfl hp
    · have hm := hmf7 hb7
      refine MW_run C okX8_fill 6 3 (gs := []) (cf' := (15, [some (.ref 0), some (.ref 6), some (.int x2), none, none], [.int x2, .ref 11], (hSv 0 s ++ (hYd 6 y)), 0, 0)) rfl trivial ?_
      obtain ⟨q15, hc15, hm⟩ := of_bind hm
      refine MW_callV1 C okX8_fill 9 rfl [11, 12, 13] (v0 := some (.int q15)) (h0 := (hOc 0 y.2.2.2.2.2.2.2.2)) (c_oc_know y.2.2.2.2.2.2.2.2 x2 q15 hc15) lkX8_32 1 dpX2_know (by decide) (rest := []) rfl rfl rfl rfl rfl rfl rfl rfl rfl rfl rfl (st2 := [.int q15]) (h2 := (hSv 0 s ++ (hYd 6 y))) rfl rfl ?_
      obtain ⟨hmt18, hmf18⟩ := of_if hm
      refine MW_brT C okX8_fill 10 rfl rfl (fun hb18 => ?_) (fun hb18 => ?_)
      · have hm := hmt18 hb18
        refine MW_run C okX8_fill 12 4 (gs := []) (cf' := (30, [some (.ref 0), some (.ref 6), some (.int x2), none, none], [.int y.1, .int x2, .int 17046], (hSv 0 s ++ (hYd 6 y)), 0, 0)) rfl trivial ?_
        obtain ⟨q30, hc30, hm⟩ := of_bind hm
        refine MW_callS0 C okX8_fill 16 rfl (v0 := some (.int q30)) (c_pl_indices x2 y.1 q30 hc30) lkX8_42 2 dpX4_indices (by decide) (rest := [.int 17046]) rfl rfl rfl rfl rfl ?_
        refine MW_mmin C okX8_fill 17 rfl (lkX8_46) (by decide) ?_
        refine MW_run C okX8_fill 18 3 (gs := []) (cf' := (40, [some (.ref 0), some (.ref 6), some (.int x2), some (.int (imin 17046 q30)), some (.int 0)], [], (hSv 0 s ++ (hYd 6 y)), 0, 0)) rfl trivial ?_
        obtain ⟨q40, hc40, hm⟩ := of_bind hm
        refine l_sv_fill_40 C hq N0 s y x2 (imin 17046 q30) 0 q40 hc40 ?_
        refine MW_run C okX8_fill 36 12 (gs := [inb 0 17046, inb 0 17046]) (cf' := (85, [some (.ref 0), some (.ref 6), some (.int x2), some (.int (imin 17046 q30)), some (.int 0)], [], (hSv 0 ((wr q40.1 0 (narB 1)), (wrL q40.2.1 0 1), q40.2.2) ++ (hYd 6 y)), 0, 0)) rfl ⟨(show inb 0 17046 by decide), (show inb 0 17046 by decide)⟩ ?_
        obtain ⟨q85, hc85, hm⟩ := of_bind hm
        refine l_sv_fill_85 C hq N0 ((wr q40.1 0 (narB 1)), (wrL q40.2.1 0 1), q40.2.2) y x2 (imin 17046 q30) 0 q85 hc85 ?_
        refine MW_run C okX8_fill 103 3 (gs := []) (cf' := (194, [none, some (.ref 6), some (.int x2), none, none], [.int x2, .ref 11], (hSv 0 q85.1 ++ (hYd 6 q85.2)), 0, 0)) rfl trivial ?_
        obtain ⟨q194, hc194, hm⟩ := of_bind hm
        refine MW_callV1 C okX8_fill 106 rfl [11, 12, 13] (v0 := none) (h0 := (hOc 0 q194)) (c_oc_nowKnow q85.2.2.2.2.2.2.2.2.2 x2 q194 hc194) lkX8_70 1 dpX2_nowKnow (by decide) (rest := []) rfl rfl rfl rfl rfl rfl rfl rfl rfl rfl rfl (st2 := []) (h2 := (hSv 0 q85.1 ++ (hYd 6 (q85.2.1, q85.2.2.1, q85.2.2.2.1, q85.2.2.2.2.1, q85.2.2.2.2.2.1, q85.2.2.2.2.2.2.1, q85.2.2.2.2.2.2.2.1, q85.2.2.2.2.2.2.2.2.1, q194)))) rfl rfl ?_
        obtain rfl := Option.some.inj hm
        exact MW_vret C okX8_fill hq 107 rfl hp
      · have hm := hmf18 hb18
        obtain rfl := Option.some.inj hm
        exact MW_vret C okX8_fill hq 11 rfl hp
theorem c_sv_fill (s : SvS) (y : YdS) (x2 : Int32) (out : SvS × YdS) (hm : sv_fill s y x2 = some out) : CT yX8_fill cX8_fill 5 none 4 95 0 0 [.ref 0, .ref 6, .int x2] (hSv 0 s ++ (hYd 6 y)) (fun v h => v = none ∧ h = (hSv 0 out.1 ++ (hYd 6 out.2))) :=
  CT_of (by decide +kernel) (vs0 := [some (.ref 0), some (.ref 6), some (.int x2), none, none]) rfl rfl (fun X C hq => t_sv_fill C hq s y x2 out hm ⟨rfl, rfl⟩)
/-! C: th_wantedOut -/
def th_wantedOut_L13 : Nat → ThS → YdS → Int32 → Int32 → Option ((Unit) ⊕ (Int32))
  | 0, _, _, _, _ => none
  | n + 1, t, y, x2, x3 =>
    if x3 < y.2.2.1 then
      (yd_moveAt y x3).bind fun q23 =>
        if (irm (q23 / 10) 10) = 5 then
          (pl_wagonOf t q23).bind fun q46 =>
            if q46 = x2 then
              some (.inr q23)
            else
              th_wantedOut_L13 n t y x2 (x3 + 1)
        else
          th_wantedOut_L13 n t y x2 (x3 + 1)
    else
      some (.inl ())
set_option maxRecDepth 100000 in
set_option maxHeartbeats 1000000 in
theorem l_th_wantedOut_13 {X : CTX} {K : Option Value → AH → Prop} (C : CX X cX9_wantedOut yX9_wantedOut.cls (decide (yX9_wantedOut.name = "<init>")) 2 43) (hq : RQ X (some .int) K) : ∀ (n : Nat) (t : ThS) (y : YdS) (x2 : Int32) (x3 : Int32) (out : (Unit) ⊕ (Int32)) (hm : th_wantedOut_L13 n t y x2 x3 = some out) (hp : Sum.elim (fun e => MW X (62, [none, none, none, none, none], [], (hTh 0 t ++ (hYd 4 y)), 0, 0)) (fun r => K (some (.int r)) (hTh 0 t ++ (hYd 4 y))) out), MW X (13, [some (.ref 0), some (.ref 4), some (.int x2), some (.int x3), none], [], (hTh 0 t ++ (hYd 4 y)), 0, 0) := by
  intro n
  induction n with
  | zero => intro t y x2 x3 out hm hp; rw [th_wantedOut_L13] at hm; cases hm
  | succ n ih =>
    intro t y x2 x3 out hm hp
    rw [th_wantedOut_L13] at hm
    refine MW_run C okX9_wantedOut 9 3 (gs := []) (cf' := (18, [some (.ref 0), some (.ref 4), some (.int x2), some (.int x3), none], [.int y.2.2.1, .int x3], (hTh 0 t ++ (hYd 4 y)), 0, 0)) rfl trivial ?_
    obtain ⟨hmt18, hmf18⟩ := of_if hm
    refine MW_brF C okX9_wantedOut 12 rfl rfl (fun hb18 => ?_) (fun hb18 => ?_)
    · have hm := hmt18 hb18
      refine MW_run C okX9_wantedOut 13 2 (gs := []) (cf' := (23, [some (.ref 0), some (.ref 4), some (.int x2), some (.int x3), none], [.int x3, .ref 4], (hTh 0 t ++ (hYd 4 y)), 0, 0)) rfl trivial ?_
      obtain ⟨q23, hc23, hm⟩ := of_bind hm
      refine MW_callV1 C okX9_wantedOut 15 rfl [4, 5, 6, 7, 8, 9, 10, 11] (v0 := some (.int q23)) (h0 := (hYd 0 y)) (c_yd_moveAt y x3 q23 hc23) lkX9_50 1 dpX10_moveAt (by decide) (rest := []) rfl rfl rfl rfl rfl rfl rfl rfl rfl rfl rfl (st2 := [.int q23]) (h2 := (hTh 0 t ++ (hYd 4 y))) rfl rfl ?_
      refine MW_run C okX9_wantedOut 16 7 (gs := [¬ (10 : Int32) = 0, ¬ (10 : Int32) = 0]) (cf' := (37, [some (.ref 0), some (.ref 4), some (.int x2), some (.int x3), some (.int q23)], [.int 5, .int (irm (q23 / 10) 10)], (hTh 0 t ++ (hYd 4 y)), 0, 0)) rfl ⟨(show ¬ (10 : Int32) = 0 by decide), (show ¬ (10 : Int32) = 0 by decide)⟩ ?_
      obtain ⟨hmt37, hmf37⟩ := of_if hm
      refine MW_brF C okX9_wantedOut 23 rfl rfl (fun hb37 => ?_) (fun hb37 => ?_)
      · have hm := hmt37 hb37
        refine MW_run C okX9_wantedOut 24 3 (gs := []) (cf' := (46, [some (.ref 0), some (.ref 4), some (.int x2), some (.int x3), some (.int q23)], [.int q23, .ref 1], (hTh 0 t ++ (hYd 4 y)), 0, 0)) rfl trivial ?_
        obtain ⟨q46, hc46, hm⟩ := of_bind hm
        refine MW_callV1 C okX9_wantedOut 27 rfl [1, 2, 3] (v0 := some (.int q46)) (h0 := (hPl 0 t)) (c_pl_wagonOf t q23 q46 hc46) lkX9_53 1 dpX4_wagonOf (by decide) (rest := []) rfl rfl rfl rfl rfl rfl rfl rfl rfl rfl rfl (st2 := [.int q46]) (h2 := (hTh 0 t ++ (hYd 4 y))) rfl rfl ?_
        refine MW_run C okX9_wantedOut 28 1 (gs := []) (cf' := (50, [some (.ref 0), some (.ref 4), some (.int x2), some (.int x3), some (.int q23)], [.int x2, .int q46], (hTh 0 t ++ (hYd 4 y)), 0, 0)) rfl trivial ?_
        obtain ⟨hmt50, hmf50⟩ := of_if hm
        refine MW_brF C okX9_wantedOut 29 rfl rfl (fun hb50 => ?_) (fun hb50 => ?_)
        · have hm := hmt50 hb50
          refine MW_run C okX9_wantedOut 30 1 (gs := []) (cf' := (55, [some (.ref 0), some (.ref 4), some (.int x2), some (.int x3), some (.int q23)], [.int q23], (hTh 0 t ++ (hYd 4 y)), 0, 0)) rfl trivial ?_
          obtain rfl := Option.some.inj hm
          exact MW_iret C okX9_wantedOut hq 31 rfl hp
        · have hm := hmf50 hb50
          refine MW_run C okX9_wantedOut 32 2 (gs := []) (cf' := (13, [some (.ref 0), some (.ref 4), some (.int x2), some (.int (x3 + 1)), some (.int q23)], [], (hTh 0 t ++ (hYd 4 y)), 0, 0)) rfl trivial ?_
          refine MW_pick [true, true, true, true, false] rfl (vs' := [some (.ref 0), some (.ref 4), some (.int x2), some (.int (x3 + 1)), none]) rfl ?_
          exact ih t y x2 (x3 + 1) _ hm hp
      · have hm := hmf37 hb37
        refine MW_run C okX9_wantedOut 32 2 (gs := []) (cf' := (13, [some (.ref 0), some (.ref 4), some (.int x2), some (.int (x3 + 1)), some (.int q23)], [], (hTh 0 t ++ (hYd 4 y)), 0, 0)) rfl trivial ?_
        refine MW_pick [true, true, true, true, false] rfl (vs' := [some (.ref 0), some (.ref 4), some (.int x2), some (.int (x3 + 1)), none]) rfl ?_
        exact ih t y x2 (x3 + 1) _ hm hp
    · have hm := hmf18 hb18
      obtain rfl := Option.some.inj hm
      refine MW_pick [false, false, false, false, true] rfl (vs' := [none, none, none, none, none]) rfl ?_
      exact hp
def th_wantedOut (t : ThS) (y : YdS) : Option (Int32) :=
  (pl_countAt t 5).bind fun q5 =>
    (th_wantedOut_L13 N0 t y (q5 + 1) 0).bind fun q13 =>
      match q13 with
      | .inr r13 => some r13
      | .inl e13 =>
        some (-6)
set_option maxRecDepth 100000 in
set_option maxHeartbeats 1000000 in
theorem t_th_wantedOut {X : CTX} {K : Option Value → AH → Prop} (C : CX X cX9_wantedOut yX9_wantedOut.cls (decide (yX9_wantedOut.name = "<init>")) 2 43) (hq : RQ X (some .int) K) (t : ThS) (y : YdS) (out : Int32) (hm : th_wantedOut t y = some out) (hp : K (some (.int out)) (hTh 0 t ++ (hYd 4 y))) : MW X (0, [some (.ref 0), some (.ref 4), none, none, none], [], (hTh 0 t ++ (hYd 4 y)), 0, 0) := by
  unfold th_wantedOut at hm
  refine MW_run C okX9_wantedOut 0 3 (gs := []) (cf' := (5, [some (.ref 0), some (.ref 4), none, none, none], [.int 5, .ref 1], (hTh 0 t ++ (hYd 4 y)), 0, 0)) rfl trivial ?_
  obtain ⟨q5, hc5, hm⟩ := of_bind hm
  refine MW_callV1 C okX9_wantedOut 3 rfl [1, 2, 3] (v0 := some (.int q5)) (h0 := (hPl 0 t)) (c_pl_countAt t 5 q5 hc5) lkX9_30 1 dpX4_countAt (by decide) (rest := []) rfl rfl rfl rfl rfl rfl rfl rfl rfl rfl rfl (st2 := [.int q5]) (h2 := (hTh 0 t ++ (hYd 4 y))) rfl rfl ?_
  refine MW_run C okX9_wantedOut 4 5 (gs := []) (cf' := (13, [some (.ref 0), some (.ref 4), some (.int (q5 + 1)), some (.int 0), none], [], (hTh 0 t ++ (hYd 4 y)), 0, 0)) rfl trivial ?_
  obtain ⟨q13, hc13, hm⟩ := of_bind hm
  refine l_th_wantedOut_13 C hq N0 t y (q5 + 1) 0 q13 hc13 ?_
  cases q13 with
  | inr r13 =>
    obtain rfl := Option.some.inj hm
    exact hp
  | inl e13 =>
    show MW X (62, [none, none, none, none, none], [], (hTh 0 t ++ (hYd 4 y)), 0, 0)
    refine MW_run C okX9_wantedOut 34 1 (gs := []) (cf' := (64, [none, none, none, none, none], [.int (-6)], (hTh 0 t ++ (hYd 4 y)), 0, 0)) rfl trivial ?_
    obtain rfl := Option.some.inj hm
    exact MW_iret C okX9_wantedOut hq 35 rfl hp
theorem c_th_wantedOut (t : ThS) (y : YdS) (out : Int32) (hm : th_wantedOut t y = some out) : CT yX9_wantedOut cX9_wantedOut 5 (some .int) 2 43 0 0 [.ref 0, .ref 4] (hTh 0 t ++ (hYd 4 y)) (fun v h => v = (some (.int out)) ∧ h = (hTh 0 t ++ (hYd 4 y))) :=
  CT_of (by decide +kernel) (vs0 := [some (.ref 0), some (.ref 4), none, none, none]) rfl rfl (fun X C hq => t_th_wantedOut C hq t y out hm ⟨rfl, rfl⟩)
/-! C: th_isBelowAll -/
def th_isBelowAll_L5 : Nat → ThS → Int32 → Int32 → Int32 → Int32 → Option (Int32)
  | 0, _, _, _, _, _ => none
  | n + 1, t, x1, x2, x3, x4 =>
    (pl_countAt t x2).bind fun q12 =>
      if x4 < q12 then
        if x3 = 0 then
          th_isBelowAll_L5 n t x1 x2 0 (x4 + 1)
        else
          (pl_rowAt t x2).bind fun q28 =>
            (rw_wagonAt q28 x4).bind fun q33 =>
              if x1 < q33 then
                th_isBelowAll_L5 n t x1 x2 1 (x4 + 1)
              else
                th_isBelowAll_L5 n t x1 x2 0 (x4 + 1)
      else
        some x3
set_option maxRecDepth 100000 in
set_option maxHeartbeats 1000000 in
theorem l_th_isBelowAll_5 {X : CTX} {K : Option Value → AH → Prop} (C : CX X cX9_isBelowAll yX9_isBelowAll.cls (decide (yX9_isBelowAll.name = "<init>")) 1 21) (hq : RQ X (some .boolean) K) : ∀ (n : Nat) (t : ThS) (x1 : Int32) (x2 : Int32) (x3 : Int32) (x4 : Int32) (out : Int32) (hm : th_isBelowAll_L5 n t x1 x2 x3 x4 = some out) (hp : MW X (51, [none, none, none, some (.int out), none], [], (hTh 0 t), 0, 0)), MW X (5, [some (.ref 0), some (.int x1), some (.int x2), some (.int x3), some (.int x4)], [], (hTh 0 t), 0, 0) := by
  intro n
  induction n with
  | zero => intro t x1 x2 x3 x4 out hm hp; rw [th_isBelowAll_L5] at hm; cases hm
  | succ n ih =>
    intro t x1 x2 x3 x4 out hm hp
    rw [th_isBelowAll_L5] at hm
    refine MW_run C okX9_isBelowAll 4 4 (gs := []) (cf' := (12, [some (.ref 0), some (.int x1), some (.int x2), some (.int x3), some (.int x4)], [.int x2, .ref 1, .int x4], (hTh 0 t), 0, 0)) rfl trivial ?_
    obtain ⟨q12, hc12, hm⟩ := of_bind hm
    refine MW_callV1 C okX9_isBelowAll 8 rfl [1, 2, 3] (v0 := some (.int q12)) (h0 := (hPl 0 t)) (c_pl_countAt t x2 q12 hc12) lkX9_30 1 dpX4_countAt (by decide) (rest := [.int x4]) rfl rfl rfl rfl rfl rfl rfl rfl rfl rfl rfl (st2 := [.int q12, .int x4]) (h2 := (hTh 0 t)) rfl rfl ?_
    obtain ⟨hmt15, hmf15⟩ := of_if hm
    refine MW_brF C okX9_isBelowAll 9 rfl rfl (fun hb15 => ?_) (fun hb15 => ?_)
    · have hm := hmt15 hb15
      refine MW_run C okX9_isBelowAll 10 1 (gs := []) (cf' := (19, [some (.ref 0), some (.int x1), some (.int x2), some (.int x3), some (.int x4)], [.int x3], (hTh 0 t), 0, 0)) rfl trivial ?_
      obtain ⟨hmt19, hmf19⟩ := of_if hm
      refine MW_brT C okX9_isBelowAll 11 rfl rfl (fun hb19 => ?_) (fun hb19 => ?_)
      · have hm := hmt19 hb19
        refine MW_run C okX9_isBelowAll 22 1 (gs := []) (cf' := (44, [some (.ref 0), some (.int x1), some (.int x2), some (.int x3), some (.int x4)], [.int 0], (hTh 0 t), 0, 0)) rfl trivial ?_
        refine MW_run C okX9_isBelowAll 23 3 (gs := []) (cf' := (5, [some (.ref 0), some (.int x1), some (.int x2), some (.int 0), some (.int (x4 + 1))], [], (hTh 0 t), 0, 0)) rfl trivial ?_
        exact ih t x1 x2 0 (x4 + 1) _ hm hp
      · have hm := hmf19 hb19
        refine MW_run C okX9_isBelowAll 12 4 (gs := []) (cf' := (28, [some (.ref 0), some (.int x1), some (.int x2), some (.int x3), some (.int x4)], [.int x2, .ref 1, .int x1], (hTh 0 t), 0, 0)) rfl trivial ?_
        obtain ⟨q28, hc28, hm⟩ := of_bind hm
        refine MW_callV1 C okX9_isBelowAll 16 rfl [1, 2, 3] (v0 := some (.int q28)) (h0 := (hPl 0 t)) (c_pl_rowAt t x2 q28 hc28) lkX9_64 1 dpX4_rowAt (by decide) (rest := [.int x1]) rfl rfl rfl rfl rfl rfl rfl rfl rfl rfl rfl (st2 := [.int q28, .int x1]) (h2 := (hTh 0 t)) rfl rfl ?_
        refine MW_run C okX9_isBelowAll 17 1 (gs := []) (cf' := (33, [some (.ref 0), some (.int x1), some (.int x2), some (.int x3), some (.int x4)], [.int x4, .int q28, .int x1], (hTh 0 t), 0, 0)) rfl trivial ?_
        obtain ⟨q33, hc33, hm⟩ := of_bind hm
        refine MW_callS0 C okX9_isBelowAll 18 rfl (v0 := some (.int q33)) (c_rw_wagonAt q28 x4 q33 hc33) lkX9_67 2 dpX6_wagonAt (by decide) (rest := [.int x1]) rfl rfl rfl rfl rfl ?_
        obtain ⟨hmt36, hmf36⟩ := of_if hm
        refine MW_brF C okX9_isBelowAll 19 rfl rfl (fun hb36 => ?_) (fun hb36 => ?_)
        · have hm := hmt36 hb36
          refine MW_run C okX9_isBelowAll 20 2 (gs := []) (cf' := (44, [some (.ref 0), some (.int x1), some (.int x2), some (.int x3), some (.int x4)], [.int 1], (hTh 0 t), 0, 0)) rfl trivial ?_
          refine MW_run C okX9_isBelowAll 23 3 (gs := []) (cf' := (5, [some (.ref 0), some (.int x1), some (.int x2), some (.int 1), some (.int (x4 + 1))], [], (hTh 0 t), 0, 0)) rfl trivial ?_
          exact ih t x1 x2 1 (x4 + 1) _ hm hp
        · have hm := hmf36 hb36
          refine MW_run C okX9_isBelowAll 22 1 (gs := []) (cf' := (44, [some (.ref 0), some (.int x1), some (.int x2), some (.int x3), some (.int x4)], [.int 0], (hTh 0 t), 0, 0)) rfl trivial ?_
          refine MW_run C okX9_isBelowAll 23 3 (gs := []) (cf' := (5, [some (.ref 0), some (.int x1), some (.int x2), some (.int 0), some (.int (x4 + 1))], [], (hTh 0 t), 0, 0)) rfl trivial ?_
          exact ih t x1 x2 0 (x4 + 1) _ hm hp
    · have hm := hmf15 hb15
      obtain rfl := Option.some.inj hm
      refine MW_pick [false, false, false, true, false] rfl (vs' := [none, none, none, some (.int x3), none]) rfl ?_
      exact hp
def th_isBelowAll (t : ThS) (x1 : Int32) (x2 : Int32) : Option (Int32) :=
  (th_isBelowAll_L5 N0 t x1 x2 1 0).bind fun q5 =>
    if isZ q5 then some q5 else none
set_option maxRecDepth 100000 in
set_option maxHeartbeats 1000000 in
theorem t_th_isBelowAll {X : CTX} {K : Option Value → AH → Prop} (C : CX X cX9_isBelowAll yX9_isBelowAll.cls (decide (yX9_isBelowAll.name = "<init>")) 1 21) (hq : RQ X (some .boolean) K) (t : ThS) (x1 : Int32) (x2 : Int32) (out : Int32) (hm : th_isBelowAll t x1 x2 = some out) (hp : K (some (.int out)) (hTh 0 t)) : MW X (0, [some (.ref 0), some (.int x1), some (.int x2), none, none], [], (hTh 0 t), 0, 0) := by
  unfold th_isBelowAll at hm
  refine MW_run C okX9_isBelowAll 0 4 (gs := []) (cf' := (5, [some (.ref 0), some (.int x1), some (.int x2), some (.int 1), some (.int 0)], [], (hTh 0 t), 0, 0)) rfl trivial ?_
  obtain ⟨q5, hc5, hm⟩ := of_bind hm
  refine l_th_isBelowAll_5 C hq N0 t x1 x2 1 0 q5 hc5 ?_
  refine MW_run C okX9_isBelowAll 26 1 (gs := []) (cf' := (52, [none, none, none, some (.int q5), none], [.int q5], (hTh 0 t), 0, 0)) rfl trivial ?_
  obtain ⟨hz, hm⟩ := of_guard hm
  obtain rfl := Option.some.inj hm
  exact MW_zret C okX9_isBelowAll hq 27 rfl hz hp
theorem c_th_isBelowAll (t : ThS) (x1 : Int32) (x2 : Int32) (out : Int32) (hm : th_isBelowAll t x1 x2 = some out) : CT yX9_isBelowAll cX9_isBelowAll 5 (some .boolean) 1 21 0 0 [.ref 0, .int x1, .int x2] (hTh 0 t) (fun v h => v = (some (.int out)) ∧ h = (hTh 0 t)) :=
  CT_of (by decide +kernel) (vs0 := [some (.ref 0), some (.int x1), some (.int x2), none, none]) rfl rfl (fun X C hq => t_th_isBelowAll C hq t x1 x2 out hm ⟨rfl, rfl⟩)
/-! C: th_fromEntry -/
def th_fromEntry_J175 (k : ThS → YdS → Int32 → Int32 → Int32 → Int32 → Int32 → Option (Int32 × Int32 × Int32)) (t : ThS) (y : YdS) (x2 : Int32) (x3 : Int32) (x4 : Int32) (x5 : Int32) (x6 : Int32) (x7 : Int32) (w0 : Int32) : Option (Int32 × Int32 × Int32) :=
  if w0 = 0 then
    k t y x2 x3 x4 x5 (x6 + 1)
  else
    k t y x2 x3 x4 x7 (x6 + 1)
set_option maxRecDepth 100000 in
set_option maxHeartbeats 1000000 in
theorem j_th_fromEntry_175 {X : CTX} {K : Option Value → AH → Prop} (C : CX X cX9_fromEntry yX9_fromEntry.cls (decide (yX9_fromEntry.name = "<init>")) 2 45) (hq : RQ X (some .int) K) (k : ThS → YdS → Int32 → Int32 → Int32 → Int32 → Int32 → Option (Int32 × Int32 × Int32)) (hk : ∀ (t : ThS) (y : YdS) (x2 : Int32) (x3 : Int32) (x4 : Int32) (x5 : Int32) (x6 : Int32) (out : Int32 × Int32 × Int32), k t y x2 x3 x4 x5 x6 = some out → MW X (197, [none, none, some (.int x2), some (.int out.1), some (.int out.2.1), some (.int out.2.2), none, none, none, none, none], [], (hTh 0 t ++ (hYd 4 y)), 0, 0) → MW X (14, [some (.ref 0), some (.ref 4), some (.int x2), some (.int x3), some (.int x4), some (.int x5), some (.int x6), none, none, none, none], [], (hTh 0 t ++ (hYd 4 y)), 0, 0)) (t : ThS) (y : YdS) (x2 : Int32) (x3 : Int32) (x4 : Int32) (x5 : Int32) (x6 : Int32) (x7 : Int32) (w0 : Int32) (out : Int32 × Int32 × Int32) (hm : th_fromEntry_J175 k t y x2 x3 x4 x5 x6 x7 w0 = some out) (hp : MW X (197, [none, none, some (.int x2), some (.int out.1), some (.int out.2.1), some (.int out.2.2), none, none, none, none, none], [], (hTh 0 t ++ (hYd 4 y)), 0, 0)) : MW X (175, [some (.ref 0), some (.ref 4), some (.int x2), some (.int x3), some (.int x4), some (.int x5), some (.int x6), some (.int x7), none, none, none], [.int w0], (hTh 0 t ++ (hYd 4 y)), 0, 0) := by
  unfold th_fromEntry_J175 at hm
  refine MW_run C okX9_fromEntry 86 2 (gs := []) (cf' := (179, [some (.ref 0), some (.ref 4), some (.int x2), some (.int x3), some (.int x4), some (.int x5), some (.int x6), some (.int x7), none, none, some (.int w0)], [.int w0], (hTh 0 t ++ (hYd 4 y)), 0, 0)) rfl trivial ?_
  obtain ⟨hmt179, hmf179⟩ := of_if hm
  refine MW_brT C okX9_fromEntry 88 rfl rfl (fun hb179 => ?_) (fun hb179 => ?_)
  · have hm := hmt179 hb179
    refine MW_run C okX9_fromEntry 91 1 (gs := []) (cf' := (189, [some (.ref 0), some (.ref 4), some (.int x2), some (.int x3), some (.int x4), some (.int x5), some (.int x6), some (.int x7), none, none, some (.int w0)], [.int x5], (hTh 0 t ++ (hYd 4 y)), 0, 0)) rfl trivial ?_
    refine MW_run C okX9_fromEntry 92 1 (gs := []) (cf' := (191, [some (.ref 0), some (.ref 4), some (.int x2), some (.int x3), some (.int x4), some (.int x5), some (.int x6), some (.int x7), none, none, some (.int w0)], [], (hTh 0 t ++ (hYd 4 y)), 0, 0)) rfl trivial ?_
    refine MW_run C okX9_fromEntry 93 2 (gs := []) (cf' := (14, [some (.ref 0), some (.ref 4), some (.int x2), some (.int x3), some (.int x4), some (.int x5), some (.int (x6 + 1)), some (.int x7), none, none, some (.int w0)], [], (hTh 0 t ++ (hYd 4 y)), 0, 0)) rfl trivial ?_
    refine MW_pick [true, true, true, true, true, true, true, false, true, true, false] rfl (vs' := [some (.ref 0), some (.ref 4), some (.int x2), some (.int x3), some (.int x4), some (.int x5), some (.int (x6 + 1)), none, none, none, none]) rfl ?_
    exact hk t y x2 x3 x4 x5 (x6 + 1) _ hm hp
  · have hm := hmf179 hb179
    refine MW_run C okX9_fromEntry 89 2 (gs := []) (cf' := (189, [some (.ref 0), some (.ref 4), some (.int x2), some (.int x3), some (.int x4), some (.int x5), some (.int x6), some (.int x7), none, none, some (.int w0)], [.int x7], (hTh 0 t ++ (hYd 4 y)), 0, 0)) rfl trivial ?_
    refine MW_run C okX9_fromEntry 92 1 (gs := []) (cf' := (191, [some (.ref 0), some (.ref 4), some (.int x2), some (.int x3), some (.int x4), some (.int x7), some (.int x6), some (.int x7), none, none, some (.int w0)], [], (hTh 0 t ++ (hYd 4 y)), 0, 0)) rfl trivial ?_
    refine MW_run C okX9_fromEntry 93 2 (gs := []) (cf' := (14, [some (.ref 0), some (.ref 4), some (.int x2), some (.int x3), some (.int x4), some (.int x7), some (.int (x6 + 1)), some (.int x7), none, none, some (.int w0)], [], (hTh 0 t ++ (hYd 4 y)), 0, 0)) rfl trivial ?_
    refine MW_pick [true, true, true, true, true, true, true, false, true, true, false] rfl (vs' := [some (.ref 0), some (.ref 4), some (.int x2), some (.int x3), some (.int x4), some (.int x7), some (.int (x6 + 1)), none, none, none, none]) rfl ?_
    exact hk t y x2 x3 x4 x7 (x6 + 1) _ hm hp
def th_fromEntry_J134 (k : ThS → YdS → Int32 → Int32 → Int32 → Int32 → Int32 → Option (Int32 × Int32 × Int32)) (t : ThS) (y : YdS) (x2 : Int32) (x3 : Int32) (x5 : Int32) (x6 : Int32) (x7 : Int32) (x8 : Int32) (w0 : Int32) : Option (Int32 × Int32 × Int32) :=
  if x5 = (-6) then
    th_fromEntry_J175 (k) t y x2 x3 w0 x5 x6 x7 1
  else
    (pl_countAt t x8).bind fun q149 =>
      (pl_countAt t (irm (x5 / 10) 10)).bind fun q164 =>
        if q149 < q164 then
          th_fromEntry_J175 (k) t y x2 x3 w0 x5 x6 x7 1
        else
          th_fromEntry_J175 (k) t y x2 x3 w0 x5 x6 x7 0
set_option maxRecDepth 100000 in
set_option maxHeartbeats 1000000 in
theorem j_th_fromEntry_134 {X : CTX} {K : Option Value → AH → Prop} (C : CX X cX9_fromEntry yX9_fromEntry.cls (decide (yX9_fromEntry.name = "<init>")) 2 45) (hq : RQ X (some .int) K) (k : ThS → YdS → Int32 → Int32 → Int32 → Int32 → Int32 → Option (Int32 × Int32 × Int32)) (hk : ∀ (t : ThS) (y : YdS) (x2 : Int32) (x3 : Int32) (x4 : Int32) (x5 : Int32) (x6 : Int32) (out : Int32 × Int32 × Int32), k t y x2 x3 x4 x5 x6 = some out → MW X (197, [none, none, some (.int x2), some (.int out.1), some (.int out.2.1), some (.int out.2.2), none, none, none, none, none], [], (hTh 0 t ++ (hYd 4 y)), 0, 0) → MW X (14, [some (.ref 0), some (.ref 4), some (.int x2), some (.int x3), some (.int x4), some (.int x5), some (.int x6), none, none, none, none], [], (hTh 0 t ++ (hYd 4 y)), 0, 0)) (t : ThS) (y : YdS) (x2 : Int32) (x3 : Int32) (x5 : Int32) (x6 : Int32) (x7 : Int32) (x8 : Int32) (w0 : Int32) (out : Int32 × Int32 × Int32) (hm : th_fromEntry_J134 k t y x2 x3 x5 x6 x7 x8 w0 = some out) (hp : MW X (197, [none, none, some (.int x2), some (.int out.1), some (.int out.2.1), some (.int out.2.2), none, none, none, none, none], [], (hTh 0 t ++ (hYd 4 y)), 0, 0)) : MW X (134, [some (.ref 0), some (.ref 4), some (.int x2), some (.int x3), none, some (.int x5), some (.int x6), some (.int x7), some (.int x8), none, none], [.int w0], (hTh 0 t ++ (hYd 4 y)), 0, 0) := by
  unfold th_fromEntry_J134 at hm
  refine MW_run C okX9_fromEntry 66 3 (gs := []) (cf' := (140, [some (.ref 0), some (.ref 4), some (.int x2), some (.int x3), some (.int w0), some (.int x5), some (.int x6), some (.int x7), some (.int x8), none, none], [.int (-6), .int x5], (hTh 0 t ++ (hYd 4 y)), 0, 0)) rfl trivial ?_
  obtain ⟨hmt140, hmf140⟩ := of_if hm
  refine MW_brT C okX9_fromEntry 69 rfl rfl (fun hb140 => ?_) (fun hb140 => ?_)
  · have hm := hmt140 hb140
    refine MW_run C okX9_fromEntry 83 2 (gs := []) (cf' := (175, [some (.ref 0), some (.ref 4), some (.int x2), some (.int x3), some (.int w0), some (.int x5), some (.int x6), some (.int x7), some (.int x8), none, none], [.int 1], (hTh 0 t ++ (hYd 4 y)), 0, 0)) rfl trivial ?_
    refine MW_pick [true, true, true, true, true, true, true, true, false, true, true] rfl (vs' := [some (.ref 0), some (.ref 4), some (.int x2), some (.int x3), some (.int w0), some (.int x5), some (.int x6), some (.int x7), none, none, none]) rfl ?_
    exact j_th_fromEntry_175 C hq (k) hk t y x2 x3 w0 x5 x6 x7 1 _ hm hp
  · have hm := hmf140 hb140
    refine MW_run C okX9_fromEntry 70 3 (gs := []) (cf' := (149, [some (.ref 0), some (.ref 4), some (.int x2), some (.int x3), some (.int w0), some (.int x5), some (.int x6), some (.int x7), some (.int x8), none, none], [.int x8, .ref 1], (hTh 0 t ++ (hYd 4 y)), 0, 0)) rfl trivial ?_
    obtain ⟨q149, hc149, hm⟩ := of_bind hm
    refine MW_callV1 C okX9_fromEntry 73 rfl [1, 2, 3] (v0 := some (.int q149)) (h0 := (hPl 0 t)) (c_pl_countAt t x8 q149 hc149) lkX9_30 1 dpX4_countAt (by decide) (rest := []) rfl rfl rfl rfl rfl rfl rfl rfl rfl rfl rfl (st2 := [.int q149]) (h2 := (hTh 0 t ++ (hYd 4 y))) rfl rfl ?_
    refine MW_run C okX9_fromEntry 74 7 (gs := [¬ (10 : Int32) = 0, ¬ (10 : Int32) = 0]) (cf' := (164, [some (.ref 0), some (.ref 4), some (.int x2), some (.int x3), some (.int w0), some (.int x5), some (.int x6), some (.int x7), some (.int x8), none, none], [.int (irm (x5 / 10) 10), .ref 1, .int q149], (hTh 0 t ++ (hYd 4 y)), 0, 0)) rfl ⟨(show ¬ (10 : Int32) = 0 by decide), (show ¬ (10 : Int32) = 0 by decide)⟩ ?_
    obtain ⟨q164, hc164, hm⟩ := of_bind hm
    refine MW_callV1 C okX9_fromEntry 81 rfl [1, 2, 3] (v0 := some (.int q164)) (h0 := (hPl 0 t)) (c_pl_countAt t (irm (x5 / 10) 10) q164 hc164) lkX9_30 1 dpX4_countAt (by decide) (rest := [.int q149]) rfl rfl rfl rfl rfl rfl rfl rfl rfl rfl rfl (st2 := [.int q164, .int q149]) (h2 := (hTh 0 t ++ (hYd 4 y))) rfl rfl ?_
    obtain ⟨hmt167, hmf167⟩ := of_if hm
    refine MW_brF C okX9_fromEntry 82 rfl rfl (fun hb167 => ?_) (fun hb167 => ?_)
    · have hm := hmt167 hb167
      refine MW_run C okX9_fromEntry 83 2 (gs := []) (cf' := (175, [some (.ref 0), some (.ref 4), some (.int x2), some (.int x3), some (.int w0), some (.int x5), some (.int x6), some (.int x7), some (.int x8), none, none], [.int 1], (hTh 0 t ++ (hYd 4 y)), 0, 0)) rfl trivial ?_
      refine MW_pick [true, true, true, true, true, true, true, true, false, true, true] rfl (vs' := [some (.ref 0), some (.ref 4), some (.int x2), some (.int x3), some (.int w0), some (.int x5), some (.int x6), some (.int x7), none, none, none]) rfl ?_
      exact j_th_fromEntry_175 C hq (k) hk t y x2 x3 w0 x5 x6 x7 1 _ hm hp
    · have hm := hmf167 hb167
      refine MW_run C okX9_fromEntry 85 1 (gs := []) (cf' := (175, [some (.ref 0), some (.ref 4), some (.int x2), some (.int x3), some (.int w0), some (.int x5), some (.int x6), some (.int x7), some (.int x8), none, none], [.int 0], (hTh 0 t ++ (hYd 4 y)), 0, 0)) rfl trivial ?_
      refine MW_pick [true, true, true, true, true, true, true, true, false, true, true] rfl (vs' := [some (.ref 0), some (.ref 4), some (.int x2), some (.int x3), some (.int w0), some (.int x5), some (.int x6), some (.int x7), none, none, none]) rfl ?_
      exact j_th_fromEntry_175 C hq (k) hk t y x2 x3 w0 x5 x6 x7 0 _ hm hp
def th_fromEntry_J101 (k : ThS → YdS → Int32 → Int32 → Int32 → Int32 → Int32 → Option (Int32 × Int32 × Int32)) (t : ThS) (y : YdS) (x2 : Int32) (x4 : Int32) (x5 : Int32) (x6 : Int32) (x7 : Int32) (x8 : Int32) (w0 : Int32) : Option (Int32 × Int32 × Int32) :=
  if x4 = (-6) then
    (pl_wagonOf t x7).bind fun q116 =>
      (th_isBelowAll t q116 x8).bind fun q121 =>
        if q121 = 0 then
          th_fromEntry_J134 (k) t y x2 w0 x5 x6 x7 x8 x4
        else
          th_fromEntry_J134 (k) t y x2 w0 x5 x6 x7 x8 x7
  else
    th_fromEntry_J134 (k) t y x2 w0 x5 x6 x7 x8 x4
set_option maxRecDepth 100000 in
set_option maxHeartbeats 1000000 in
theorem j_th_fromEntry_101 {X : CTX} {K : Option Value → AH → Prop} (C : CX X cX9_fromEntry yX9_fromEntry.cls (decide (yX9_fromEntry.name = "<init>")) 2 45) (hq : RQ X (some .int) K) (k : ThS → YdS → Int32 → Int32 → Int32 → Int32 → Int32 → Option (Int32 × Int32 × Int32)) (hk : ∀ (t : ThS) (y : YdS) (x2 : Int32) (x3 : Int32) (x4 : Int32) (x5 : Int32) (x6 : Int32) (out : Int32 × Int32 × Int32), k t y x2 x3 x4 x5 x6 = some out → MW X (197, [none, none, some (.int x2), some (.int out.1), some (.int out.2.1), some (.int out.2.2), none, none, none, none, none], [], (hTh 0 t ++ (hYd 4 y)), 0, 0) → MW X (14, [some (.ref 0), some (.ref 4), some (.int x2), some (.int x3), some (.int x4), some (.int x5), some (.int x6), none, none, none, none], [], (hTh 0 t ++ (hYd 4 y)), 0, 0)) (t : ThS) (y : YdS) (x2 : Int32) (x4 : Int32) (x5 : Int32) (x6 : Int32) (x7 : Int32) (x8 : Int32) (w0 : Int32) (out : Int32 × Int32 × Int32) (hm : th_fromEntry_J101 k t y x2 x4 x5 x6 x7 x8 w0 = some out) (hp : MW X (197, [none, none, some (.int x2), some (.int out.1), some (.int out.2.1), some (.int out.2.2), none, none, none, none, none], [], (hTh 0 t ++ (hYd 4 y)), 0, 0)) : MW X (101, [some (.ref 0), some (.ref 4), some (.int x2), none, some (.int x4), some (.int x5), some (.int x6), some (.int x7), some (.int x8), none, none], [.int w0], (hTh 0 t ++ (hYd 4 y)), 0, 0) := by
  unfold th_fromEntry_J101 at hm
  refine MW_run C okX9_fromEntry 51 3 (gs := []) (cf' := (106, [some (.ref 0), some (.ref 4), some (.int x2), some (.int w0), some (.int x4), some (.int x5), some (.int x6), some (.int x7), some (.int x8), none, none], [.int (-6), .int x4], (hTh 0 t ++ (hYd 4 y)), 0, 0)) rfl trivial ?_
  obtain ⟨hmt106, hmf106⟩ := of_if hm
  refine MW_brF C okX9_fromEntry 54 rfl rfl (fun hb106 => ?_) (fun hb106 => ?_)
  · have hm := hmt106 hb106
    refine MW_run C okX9_fromEntry 55 4 (gs := []) (cf' := (116, [some (.ref 0), some (.ref 4), some (.int x2), some (.int w0), some (.int x4), some (.int x5), some (.int x6), some (.int x7), some (.int x8), none, none], [.int x7, .ref 1, .ref 0], (hTh 0 t ++ (hYd 4 y)), 0, 0)) rfl trivial ?_
    obtain ⟨q116, hc116, hm⟩ := of_bind hm
    refine MW_callV1 C okX9_fromEntry 59 rfl [1, 2, 3] (v0 := some (.int q116)) (h0 := (hPl 0 t)) (c_pl_wagonOf t x7 q116 hc116) lkX9_53 1 dpX4_wagonOf (by decide) (rest := [.ref 0]) rfl rfl rfl rfl rfl rfl rfl rfl rfl rfl rfl (st2 := [.int q116, .ref 0]) (h2 := (hTh 0 t ++ (hYd 4 y))) rfl rfl ?_
    refine MW_run C okX9_fromEntry 60 1 (gs := []) (cf' := (121, [some (.ref 0), some (.ref 4), some (.int x2), some (.int w0), some (.int x4), some (.int x5), some (.int x6), some (.int x7), some (.int x8), none, none], [.int x8, .int q116, .ref 0], (hTh 0 t ++ (hYd 4 y)), 0, 0)) rfl trivial ?_
    obtain ⟨q121, hc121, hm⟩ := of_bind hm
    refine MW_callV1 C okX9_fromEntry 61 rfl [0, 1, 2, 3] (v0 := some (.int q121)) (h0 := (hTh 0 t)) (c_th_isBelowAll t q116 x8 q121 hc121) lkX9_60 2 dpX9_isBelowAll (by decide) (rest := []) rfl rfl rfl rfl rfl rfl rfl rfl rfl rfl rfl (st2 := [.int q121]) (h2 := (hTh 0 t ++ (hYd 4 y))) rfl rfl ?_
    obtain ⟨hmt124, hmf124⟩ := of_if hm
    refine MW_brT C okX9_fromEntry 62 rfl rfl (fun hb124 => ?_) (fun hb124 => ?_)
    · have hm := hmt124 hb124
      refine MW_run C okX9_fromEntry 65 1 (gs := []) (cf' := (134, [some (.ref 0), some (.ref 4), some (.int x2), some (.int w0), some (.int x4), some (.int x5), some (.int x6), some (.int x7), some (.int x8), none, none], [.int x4], (hTh 0 t ++ (hYd 4 y)), 0, 0)) rfl trivial ?_
      refine MW_pick [true, true, true, true, false, true, true, true, true, true, true] rfl (vs' := [some (.ref 0), some (.ref 4), some (.int x2), some (.int w0), none, some (.int x5), some (.int x6), some (.int x7), some (.int x8), none, none]) rfl ?_
      exact j_th_fromEntry_134 C hq (k) hk t y x2 w0 x5 x6 x7 x8 x4 _ hm hp
    · have hm := hmf124 hb124
      refine MW_run C okX9_fromEntry 63 2 (gs := []) (cf' := (134, [some (.ref 0), some (.ref 4), some (.int x2), some (.int w0), some (.int x4), some (.int x5), some (.int x6), some (.int x7), some (.int x8), none, none], [.int x7], (hTh 0 t ++ (hYd 4 y)), 0, 0)) rfl trivial ?_
      refine MW_pick [true, true, true, true, false, true, true, true, true, true, true] rfl (vs' := [some (.ref 0), some (.ref 4), some (.int x2), some (.int w0), none, some (.int x5), some (.int x6), some (.int x7), some (.int x8), none, none]) rfl ?_
      exact j_th_fromEntry_134 C hq (k) hk t y x2 w0 x5 x6 x7 x8 x7 _ hm hp
  · have hm := hmf106 hb106
    refine MW_run C okX9_fromEntry 65 1 (gs := []) (cf' := (134, [some (.ref 0), some (.ref 4), some (.int x2), some (.int w0), some (.int x4), some (.int x5), some (.int x6), some (.int x7), some (.int x8), none, none], [.int x4], (hTh 0 t ++ (hYd 4 y)), 0, 0)) rfl trivial ?_
    refine MW_pick [true, true, true, true, false, true, true, true, true, true, true] rfl (vs' := [some (.ref 0), some (.ref 4), some (.int x2), some (.int w0), none, some (.int x5), some (.int x6), some (.int x7), some (.int x8), none, none]) rfl ?_
    exact j_th_fromEntry_134 C hq (k) hk t y x2 w0 x5 x6 x7 x8 x4 _ hm hp
def th_fromEntry_J69 (k : ThS → YdS → Int32 → Int32 → Int32 → Int32 → Int32 → Option (Int32 × Int32 × Int32)) (t : ThS) (y : YdS) (x2 : Int32) (x3 : Int32) (x4 : Int32) (x5 : Int32) (x6 : Int32) (x7 : Int32) (x8 : Int32) (w0 : Int32) : Option (Int32 × Int32 × Int32) :=
  if w0 = 0 then
    k t y x2 x3 x4 x5 (x6 + 1)
  else
    (pl_allows t y x7).bind fun q83 =>
      if q83 = 0 then
        k t y x2 x3 x4 x5 (x6 + 1)
      else
        if x3 = (-6) then
          th_fromEntry_J101 (k) t y x2 x4 x5 x6 x7 x8 x7
        else
          th_fromEntry_J101 (k) t y x2 x4 x5 x6 x7 x8 x3
set_option maxRecDepth 100000 in
set_option maxHeartbeats 1000000 in
theorem j_th_fromEntry_69 {X : CTX} {K : Option Value → AH → Prop} (C : CX X cX9_fromEntry yX9_fromEntry.cls (decide (yX9_fromEntry.name = "<init>")) 2 45) (hq : RQ X (some .int) K) (k : ThS → YdS → Int32 → Int32 → Int32 → Int32 → Int32 → Option (Int32 × Int32 × Int32)) (hk : ∀ (t : ThS) (y : YdS) (x2 : Int32) (x3 : Int32) (x4 : Int32) (x5 : Int32) (x6 : Int32) (out : Int32 × Int32 × Int32), k t y x2 x3 x4 x5 x6 = some out → MW X (197, [none, none, some (.int x2), some (.int out.1), some (.int out.2.1), some (.int out.2.2), none, none, none, none, none], [], (hTh 0 t ++ (hYd 4 y)), 0, 0) → MW X (14, [some (.ref 0), some (.ref 4), some (.int x2), some (.int x3), some (.int x4), some (.int x5), some (.int x6), none, none, none, none], [], (hTh 0 t ++ (hYd 4 y)), 0, 0)) (t : ThS) (y : YdS) (x2 : Int32) (x3 : Int32) (x4 : Int32) (x5 : Int32) (x6 : Int32) (x7 : Int32) (x8 : Int32) (w0 : Int32) (out : Int32 × Int32 × Int32) (hm : th_fromEntry_J69 k t y x2 x3 x4 x5 x6 x7 x8 w0 = some out) (hp : MW X (197, [none, none, some (.int x2), some (.int out.1), some (.int out.2.1), some (.int out.2.2), none, none, none, none, none], [], (hTh 0 t ++ (hYd 4 y)), 0, 0)) : MW X (69, [some (.ref 0), some (.ref 4), some (.int x2), some (.int x3), some (.int x4), some (.int x5), some (.int x6), some (.int x7), some (.int x8), none, none], [.int w0], (hTh 0 t ++ (hYd 4 y)), 0, 0) := by
  unfold th_fromEntry_J69 at hm
  refine MW_run C okX9_fromEntry 36 2 (gs := []) (cf' := (73, [some (.ref 0), some (.ref 4), some (.int x2), some (.int x3), some (.int x4), some (.int x5), some (.int x6), some (.int x7), some (.int x8), some (.int w0), none], [.int w0], (hTh 0 t ++ (hYd 4 y)), 0, 0)) rfl trivial ?_
  obtain ⟨hmt73, hmf73⟩ := of_if hm
  refine MW_brT C okX9_fromEntry 38 rfl rfl (fun hb73 => ?_) (fun hb73 => ?_)
  · have hm := hmt73 hb73
    refine MW_run C okX9_fromEntry 93 2 (gs := []) (cf' := (14, [some (.ref 0), some (.ref 4), some (.int x2), some (.int x3), some (.int x4), some (.int x5), some (.int (x6 + 1)), some (.int x7), some (.int x8), some (.int w0), none], [], (hTh 0 t ++ (hYd 4 y)), 0, 0)) rfl trivial ?_
    refine MW_pick [true, true, true, true, true, true, true, false, false, false, true] rfl (vs' := [some (.ref 0), some (.ref 4), some (.int x2), some (.int x3), some (.int x4), some (.int x5), some (.int (x6 + 1)), none, none, none, none]) rfl ?_
    exact hk t y x2 x3 x4 x5 (x6 + 1) _ hm hp
  · have hm := hmf73 hb73
    refine MW_run C okX9_fromEntry 39 4 (gs := []) (cf' := (83, [some (.ref 0), some (.ref 4), some (.int x2), some (.int x3), some (.int x4), some (.int x5), some (.int x6), some (.int x7), some (.int x8), some (.int w0), none], [.int x7, .ref 4, .ref 1], (hTh 0 t ++ (hYd 4 y)), 0, 0)) rfl trivial ?_
    obtain ⟨q83, hc83, hm⟩ := of_bind hm
    refine MW_callV1 C okX9_fromEntry 43 rfl [1, 2, 3, 4, 5, 6, 7, 8, 9, 10, 11] (v0 := some (.int q83)) (h0 := (hPl 0 t ++ (hYd 3 y))) (c_pl_allows t y x7 q83 hc83) lkX9_56 2 dpX4_allows (by decide) (rest := []) rfl rfl rfl rfl rfl rfl rfl rfl rfl rfl rfl (st2 := [.int q83]) (h2 := (hTh 0 t ++ (hYd 4 y))) rfl rfl ?_
    obtain ⟨hmt86, hmf86⟩ := of_if hm
    refine MW_brT C okX9_fromEntry 44 rfl rfl (fun hb86 => ?_) (fun hb86 => ?_)
    · have hm := hmt86 hb86
      refine MW_run C okX9_fromEntry 93 2 (gs := []) (cf' := (14, [some (.ref 0), some (.ref 4), some (.int x2), some (.int x3), some (.int x4), some (.int x5), some (.int (x6 + 1)), some (.int x7), some (.int x8), some (.int w0), none], [], (hTh 0 t ++ (hYd 4 y)), 0, 0)) rfl trivial ?_
      refine MW_pick [true, true, true, true, true, true, true, false, false, false, true] rfl (vs' := [some (.ref 0), some (.ref 4), some (.int x2), some (.int x3), some (.int x4), some (.int x5), some (.int (x6 + 1)), none, none, none, none]) rfl ?_
      exact hk t y x2 x3 x4 x5 (x6 + 1) _ hm hp
    · have hm := hmf86 hb86
      refine MW_run C okX9_fromEntry 45 2 (gs := []) (cf' := (92, [some (.ref 0), some (.ref 4), some (.int x2), some (.int x3), some (.int x4), some (.int x5), some (.int x6), some (.int x7), some (.int x8), some (.int w0), none], [.int (-6), .int x3], (hTh 0 t ++ (hYd 4 y)), 0, 0)) rfl trivial ?_
      obtain ⟨hmt92, hmf92⟩ := of_if hm
      refine MW_brF C okX9_fromEntry 47 rfl rfl (fun hb92 => ?_) (fun hb92 => ?_)
      · have hm := hmt92 hb92
        refine MW_run C okX9_fromEntry 48 2 (gs := []) (cf' := (101, [some (.ref 0), some (.ref 4), some (.int x2), some (.int x3), some (.int x4), some (.int x5), some (.int x6), some (.int x7), some (.int x8), some (.int w0), none], [.int x7], (hTh 0 t ++ (hYd 4 y)), 0, 0)) rfl trivial ?_
        refine MW_pick [true, true, true, false, true, true, true, true, true, false, true] rfl (vs' := [some (.ref 0), some (.ref 4), some (.int x2), none, some (.int x4), some (.int x5), some (.int x6), some (.int x7), some (.int x8), none, none]) rfl ?_
        exact j_th_fromEntry_101 C hq (k) hk t y x2 x4 x5 x6 x7 x8 x7 _ hm hp
      · have hm := hmf92 hb92
        refine MW_run C okX9_fromEntry 50 1 (gs := []) (cf' := (101, [some (.ref 0), some (.ref 4), some (.int x2), some (.int x3), some (.int x4), some (.int x5), some (.int x6), some (.int x7), some (.int x8), some (.int w0), none], [.int x3], (hTh 0 t ++ (hYd 4 y)), 0, 0)) rfl trivial ?_
        refine MW_pick [true, true, true, false, true, true, true, true, true, false, true] rfl (vs' := [some (.ref 0), some (.ref 4), some (.int x2), none, some (.int x4), some (.int x5), some (.int x6), some (.int x7), some (.int x8), none, none]) rfl ?_
        exact j_th_fromEntry_101 C hq (k) hk t y x2 x4 x5 x6 x7 x8 x3 _ hm hp
def th_fromEntry_L14 : Nat → ThS → YdS → Int32 → Int32 → Int32 → Int32 → Int32 → Option (Int32 × Int32 × Int32)
  | 0, _, _, _, _, _, _, _ => none
  | n + 1, t, y, x2, x3, x4, x5, x6 =>
    if x6 < y.2.2.1 then
      (yd_moveAt y x6).bind fun q26 =>
        if (q26 / 1000) = 0 then
          if (irm (q26 / 10) 10) = 5 then
            th_fromEntry_J69 (th_fromEntry_L14 n) t y x2 x3 x4 x5 x6 q26 (irm (q26 / 10) 10) 0
          else
            if (irm q26 10) = 0 then
              th_fromEntry_J69 (th_fromEntry_L14 n) t y x2 x3 x4 x5 x6 q26 (irm (q26 / 10) 10) 1
            else
              th_fromEntry_J69 (th_fromEntry_L14 n) t y x2 x3 x4 x5 x6 q26 (irm (q26 / 10) 10) 0
        else
          th_fromEntry_J69 (th_fromEntry_L14 n) t y x2 x3 x4 x5 x6 q26 (irm (q26 / 10) 10) 0
    else
      some (x3, x4, x5)
set_option maxRecDepth 100000 in
set_option maxHeartbeats 1000000 in
theorem l_th_fromEntry_14 {X : CTX} {K : Option Value → AH → Prop} (C : CX X cX9_fromEntry yX9_fromEntry.cls (decide (yX9_fromEntry.name = "<init>")) 2 45) (hq : RQ X (some .int) K) : ∀ (n : Nat) (t : ThS) (y : YdS) (x2 : Int32) (x3 : Int32) (x4 : Int32) (x5 : Int32) (x6 : Int32) (out : Int32 × Int32 × Int32) (hm : th_fromEntry_L14 n t y x2 x3 x4 x5 x6 = some out) (hp : MW X (197, [none, none, some (.int x2), some (.int out.1), some (.int out.2.1), some (.int out.2.2), none, none, none, none, none], [], (hTh 0 t ++ (hYd 4 y)), 0, 0)), MW X (14, [some (.ref 0), some (.ref 4), some (.int x2), some (.int x3), some (.int x4), some (.int x5), some (.int x6), none, none, none, none], [], (hTh 0 t ++ (hYd 4 y)), 0, 0) := by
  intro n
  induction n with
  | zero => intro t y x2 x3 x4 x5 x6 out hm hp; rw [th_fromEntry_L14] at hm; cases hm
  | succ n ih =>
    intro t y x2 x3 x4 x5 x6 out hm hp
    rw [th_fromEntry_L14] at hm
    refine MW_run C okX9_fromEntry 8 3 (gs := []) (cf' := (20, [some (.ref 0), some (.ref 4), some (.int x2), some (.int x3), some (.int x4), some (.int x5), some (.int x6), none, none, none, none], [.int y.2.2.1, .int x6], (hTh 0 t ++ (hYd 4 y)), 0, 0)) rfl trivial ?_
    obtain ⟨hmt20, hmf20⟩ := of_if hm
    refine MW_brF C okX9_fromEntry 11 rfl rfl (fun hb20 => ?_) (fun hb20 => ?_)
    · have hm := hmt20 hb20
      refine MW_run C okX9_fromEntry 12 2 (gs := []) (cf' := (26, [some (.ref 0), some (.ref 4), some (.int x2), some (.int x3), some (.int x4), some (.int x5), some (.int x6), none, none, none, none], [.int x6, .ref 4], (hTh 0 t ++ (hYd 4 y)), 0, 0)) rfl trivial ?_
      obtain ⟨q26, hc26, hm⟩ := of_bind hm
      refine MW_callV1 C okX9_fromEntry 14 rfl [4, 5, 6, 7, 8, 9, 10, 11] (v0 := some (.int q26)) (h0 := (hYd 0 y)) (c_yd_moveAt y x6 q26 hc26) lkX9_50 1 dpX10_moveAt (by decide) (rest := []) rfl rfl rfl rfl rfl rfl rfl rfl rfl rfl rfl (st2 := [.int q26]) (h2 := (hTh 0 t ++ (hYd 4 y))) rfl rfl ?_
      refine MW_run C okX9_fromEntry 15 10 (gs := [¬ (10 : Int32) = 0, ¬ (10 : Int32) = 0, ¬ (1000 : Int32) = 0]) (cf' := (47, [some (.ref 0), some (.ref 4), some (.int x2), some (.int x3), some (.int x4), some (.int x5), some (.int x6), some (.int q26), some (.int (irm (q26 / 10) 10)), none, none], [.int (q26 / 1000)], (hTh 0 t ++ (hYd 4 y)), 0, 0)) rfl ⟨(show ¬ (10 : Int32) = 0 by decide), (show ¬ (10 : Int32) = 0 by decide), (show ¬ (1000 : Int32) = 0 by decide)⟩ ?_
      obtain ⟨hmt47, hmf47⟩ := of_if hm
      refine MW_brF C okX9_fromEntry 25 rfl rfl (fun hb47 => ?_) (fun hb47 => ?_)
      · have hm := hmt47 hb47
        refine MW_run C okX9_fromEntry 26 2 (gs := []) (cf' := (53, [some (.ref 0), some (.ref 4), some (.int x2), some (.int x3), some (.int x4), some (.int x5), some (.int x6), some (.int q26), some (.int (irm (q26 / 10) 10)), none, none], [.int 5, .int (irm (q26 / 10) 10)], (hTh 0 t ++ (hYd 4 y)), 0, 0)) rfl trivial ?_
        obtain ⟨hmt53, hmf53⟩ := of_if hm
        refine MW_brT C okX9_fromEntry 28 rfl rfl (fun hb53 => ?_) (fun hb53 => ?_)
        · have hm := hmt53 hb53
          refine MW_run C okX9_fromEntry 35 1 (gs := []) (cf' := (69, [some (.ref 0), some (.ref 4), some (.int x2), some (.int x3), some (.int x4), some (.int x5), some (.int x6), some (.int q26), some (.int (irm (q26 / 10) 10)), none, none], [.int 0], (hTh 0 t ++ (hYd 4 y)), 0, 0)) rfl trivial ?_
          exact j_th_fromEntry_69 C hq (th_fromEntry_L14 n) ih t y x2 x3 x4 x5 x6 q26 (irm (q26 / 10) 10) 0 _ hm hp
        · have hm := hmf53 hb53
          refine MW_run C okX9_fromEntry 29 3 (gs := [¬ (10 : Int32) = 0]) (cf' := (61, [some (.ref 0), some (.ref 4), some (.int x2), some (.int x3), some (.int x4), some (.int x5), some (.int x6), some (.int q26), some (.int (irm (q26 / 10) 10)), none, none], [.int (irm q26 10)], (hTh 0 t ++ (hYd 4 y)), 0, 0)) rfl (show ¬ (10 : Int32) = 0 by decide) ?_
          obtain ⟨hmt61, hmf61⟩ := of_if hm
          refine MW_brF C okX9_fromEntry 32 rfl rfl (fun hb61 => ?_) (fun hb61 => ?_)
          · have hm := hmt61 hb61
            refine MW_run C okX9_fromEntry 33 2 (gs := []) (cf' := (69, [some (.ref 0), some (.ref 4), some (.int x2), some (.int x3), some (.int x4), some (.int x5), some (.int x6), some (.int q26), some (.int (irm (q26 / 10) 10)), none, none], [.int 1], (hTh 0 t ++ (hYd 4 y)), 0, 0)) rfl trivial ?_
            exact j_th_fromEntry_69 C hq (th_fromEntry_L14 n) ih t y x2 x3 x4 x5 x6 q26 (irm (q26 / 10) 10) 1 _ hm hp
          · have hm := hmf61 hb61
            refine MW_run C okX9_fromEntry 35 1 (gs := []) (cf' := (69, [some (.ref 0), some (.ref 4), some (.int x2), some (.int x3), some (.int x4), some (.int x5), some (.int x6), some (.int q26), some (.int (irm (q26 / 10) 10)), none, none], [.int 0], (hTh 0 t ++ (hYd 4 y)), 0, 0)) rfl trivial ?_
            exact j_th_fromEntry_69 C hq (th_fromEntry_L14 n) ih t y x2 x3 x4 x5 x6 q26 (irm (q26 / 10) 10) 0 _ hm hp
      · have hm := hmf47 hb47
        refine MW_run C okX9_fromEntry 35 1 (gs := []) (cf' := (69, [some (.ref 0), some (.ref 4), some (.int x2), some (.int x3), some (.int x4), some (.int x5), some (.int x6), some (.int q26), some (.int (irm (q26 / 10) 10)), none, none], [.int 0], (hTh 0 t ++ (hYd 4 y)), 0, 0)) rfl trivial ?_
        exact j_th_fromEntry_69 C hq (th_fromEntry_L14 n) ih t y x2 x3 x4 x5 x6 q26 (irm (q26 / 10) 10) 0 _ hm hp
    · have hm := hmf20 hb20
      obtain rfl := Option.some.inj hm
      refine MW_pick [false, false, true, true, true, true, false, true, true, true, true] rfl (vs' := [none, none, some (.int x2), some (.int x3), some (.int x4), some (.int x5), none, none, none, none, none]) rfl ?_
      exact hp
def th_fromEntry (t : ThS) (y : YdS) (x2 : Int32) : Option (Int32) :=
  (th_fromEntry_L14 N0 t y x2 (-6) (-6) (-6) 0).bind fun q14 =>
    if x2 = 2 then
      some q14.2.2
    else
      if x2 = 1 then
        if q14.2.1 = (-6) then
          some q14.1
        else
          some q14.2.1
      else
        some q14.1
set_option maxRecDepth 100000 in
set_option maxHeartbeats 1000000 in
theorem t_th_fromEntry {X : CTX} {K : Option Value → AH → Prop} (C : CX X cX9_fromEntry yX9_fromEntry.cls (decide (yX9_fromEntry.name = "<init>")) 2 45) (hq : RQ X (some .int) K) (t : ThS) (y : YdS) (x2 : Int32) (out : Int32) (hm : th_fromEntry t y x2 = some out) (hp : K (some (.int out)) (hTh 0 t ++ (hYd 4 y))) : MW X (0, [some (.ref 0), some (.ref 4), some (.int x2), none, none, none, none, none, none, none, none], [], (hTh 0 t ++ (hYd 4 y)), 0, 0) := by
  unfold th_fromEntry at hm
  refine MW_run C okX9_fromEntry 0 8 (gs := []) (cf' := (14, [some (.ref 0), some (.ref 4), some (.int x2), some (.int (-6)), some (.int (-6)), some (.int (-6)), some (.int 0), none, none, none, none], [], (hTh 0 t ++ (hYd 4 y)), 0, 0)) rfl trivial ?_
  obtain ⟨q14, hc14, hm⟩ := of_bind hm
  refine l_th_fromEntry_14 C hq N0 t y x2 (-6) (-6) (-6) 0 q14 hc14 ?_
  refine MW_run C okX9_fromEntry 95 2 (gs := []) (cf' := (199, [none, none, some (.int x2), some (.int q14.1), some (.int q14.2.1), some (.int q14.2.2), none, none, none, none, none], [.int 2, .int x2], (hTh 0 t ++ (hYd 4 y)), 0, 0)) rfl trivial ?_
  obtain ⟨hmt199, hmf199⟩ := of_if hm
  refine MW_brF C okX9_fromEntry 97 rfl rfl (fun hb199 => ?_) (fun hb199 => ?_)
  · have hm := hmt199 hb199
    refine MW_run C okX9_fromEntry 98 1 (gs := []) (cf' := (204, [none, none, some (.int x2), some (.int q14.1), some (.int q14.2.1), some (.int q14.2.2), none, none, none, none, none], [.int q14.2.2], (hTh 0 t ++ (hYd 4 y)), 0, 0)) rfl trivial ?_
    obtain rfl := Option.some.inj hm
    exact MW_iret C okX9_fromEntry hq 99 rfl hp
  · have hm := hmf199 hb199
    refine MW_run C okX9_fromEntry 100 2 (gs := []) (cf' := (207, [none, none, some (.int x2), some (.int q14.1), some (.int q14.2.1), some (.int q14.2.2), none, none, none, none, none], [.int 1, .int x2], (hTh 0 t ++ (hYd 4 y)), 0, 0)) rfl trivial ?_
    obtain ⟨hmt207, hmf207⟩ := of_if hm
    refine MW_brF C okX9_fromEntry 102 rfl rfl (fun hb207 => ?_) (fun hb207 => ?_)
    · have hm := hmt207 hb207
      refine MW_run C okX9_fromEntry 103 2 (gs := []) (cf' := (214, [none, none, some (.int x2), some (.int q14.1), some (.int q14.2.1), some (.int q14.2.2), none, none, none, none, none], [.int (-6), .int q14.2.1], (hTh 0 t ++ (hYd 4 y)), 0, 0)) rfl trivial ?_
      obtain ⟨hmt214, hmf214⟩ := of_if hm
      refine MW_brT C okX9_fromEntry 105 rfl rfl (fun hb214 => ?_) (fun hb214 => ?_)
      · have hm := hmt214 hb214
        refine MW_run C okX9_fromEntry 108 1 (gs := []) (cf' := (223, [none, none, some (.int x2), some (.int q14.1), some (.int q14.2.1), some (.int q14.2.2), none, none, none, none, none], [.int q14.1], (hTh 0 t ++ (hYd 4 y)), 0, 0)) rfl trivial ?_
        obtain rfl := Option.some.inj hm
        exact MW_iret C okX9_fromEntry hq 109 rfl hp
      · have hm := hmf214 hb214
        refine MW_run C okX9_fromEntry 106 2 (gs := []) (cf' := (223, [none, none, some (.int x2), some (.int q14.1), some (.int q14.2.1), some (.int q14.2.2), none, none, none, none, none], [.int q14.2.1], (hTh 0 t ++ (hYd 4 y)), 0, 0)) rfl trivial ?_
        obtain rfl := Option.some.inj hm
        exact MW_iret C okX9_fromEntry hq 109 rfl hp
    · have hm := hmf207 hb207
      refine MW_run C okX9_fromEntry 108 1 (gs := []) (cf' := (223, [none, none, some (.int x2), some (.int q14.1), some (.int q14.2.1), some (.int q14.2.2), none, none, none, none, none], [.int q14.1], (hTh 0 t ++ (hYd 4 y)), 0, 0)) rfl trivial ?_
      obtain rfl := Option.some.inj hm
      exact MW_iret C okX9_fromEntry hq 109 rfl hp
theorem c_th_fromEntry (t : ThS) (y : YdS) (x2 : Int32) (out : Int32) (hm : th_fromEntry t y x2 = some out) : CT yX9_fromEntry cX9_fromEntry 11 (some .int) 2 45 0 0 [.ref 0, .ref 4, .int x2] (hTh 0 t ++ (hYd 4 y)) (fun v h => v = (some (.int out)) ∧ h = (hTh 0 t ++ (hYd 4 y))) :=
  CT_of (by decide +kernel) (vs0 := [some (.ref 0), some (.ref 4), some (.int x2), none, none, none, none, none, none, none, none]) rfl rfl (fun X C hq => t_th_fromEntry C hq t y x2 out hm ⟨rfl, rfl⟩)
/-! C: th_onward -/
def th_onward_L2 : Nat → ThS → YdS → Int32 → Option ((Unit) ⊕ (Int32))
  | 0, _, _, _ => none
  | n + 1, t, y, x2 =>
    if x2 < y.2.2.1 then
      (yd_moveAt y x2).bind fun q12 =>
        if (q12 / 1000) = 0 then
          th_onward_L2 n t y (x2 + 1)
        else
          if (irm (q12 / 10) 10) = 5 then
            th_onward_L2 n t y (x2 + 1)
          else
            (pl_allows t y q12).bind fun q41 =>
              if q41 = 0 then
                th_onward_L2 n t y (x2 + 1)
              else
                some (.inr q12)
    else
      some (.inl ())
set_option maxRecDepth 100000 in
set_option maxHeartbeats 1000000 in
theorem l_th_onward_2 {X : CTX} {K : Option Value → AH → Prop} (C : CX X cX9_onward yX9_onward.cls (decide (yX9_onward.name = "<init>")) 2 44) (hq : RQ X (some .int) K) : ∀ (n : Nat) (t : ThS) (y : YdS) (x2 : Int32) (out : (Unit) ⊕ (Int32)) (hm : th_onward_L2 n t y x2 = some out) (hp : Sum.elim (fun e => MW X (55, [none, none, none, none], [], (hTh 0 t ++ (hYd 4 y)), 0, 0)) (fun r => K (some (.int r)) (hTh 0 t ++ (hYd 4 y))) out), MW X (2, [some (.ref 0), some (.ref 4), some (.int x2), none], [], (hTh 0 t ++ (hYd 4 y)), 0, 0) := by
  intro n
  induction n with
  | zero => intro t y x2 out hm hp; rw [th_onward_L2] at hm; cases hm
  | succ n ih =>
    intro t y x2 out hm hp
    rw [th_onward_L2] at hm
    refine MW_run C okX9_onward 2 3 (gs := []) (cf' := (7, [some (.ref 0), some (.ref 4), some (.int x2), none], [.int y.2.2.1, .int x2], (hTh 0 t ++ (hYd 4 y)), 0, 0)) rfl trivial ?_
    obtain ⟨hmt7, hmf7⟩ := of_if hm
    refine MW_brF C okX9_onward 5 rfl rfl (fun hb7 => ?_) (fun hb7 => ?_)
    · have hm := hmt7 hb7
      refine MW_run C okX9_onward 6 2 (gs := []) (cf' := (12, [some (.ref 0), some (.ref 4), some (.int x2), none], [.int x2, .ref 4], (hTh 0 t ++ (hYd 4 y)), 0, 0)) rfl trivial ?_
      obtain ⟨q12, hc12, hm⟩ := of_bind hm
      refine MW_callV1 C okX9_onward 8 rfl [4, 5, 6, 7, 8, 9, 10, 11] (v0 := some (.int q12)) (h0 := (hYd 0 y)) (c_yd_moveAt y x2 q12 hc12) lkX9_50 1 dpX10_moveAt (by decide) (rest := []) rfl rfl rfl rfl rfl rfl rfl rfl rfl rfl rfl (st2 := [.int q12]) (h2 := (hTh 0 t ++ (hYd 4 y))) rfl rfl ?_
      refine MW_run C okX9_onward 9 4 (gs := [¬ (1000 : Int32) = 0]) (cf' := (21, [some (.ref 0), some (.ref 4), some (.int x2), some (.int q12)], [.int (q12 / 1000)], (hTh 0 t ++ (hYd 4 y)), 0, 0)) rfl (show ¬ (1000 : Int32) = 0 by decide) ?_
      obtain ⟨hmt21, hmf21⟩ := of_if hm
      refine MW_brT C okX9_onward 13 rfl rfl (fun hb21 => ?_) (fun hb21 => ?_)
      · have hm := hmt21 hb21
        refine MW_run C okX9_onward 29 2 (gs := []) (cf' := (2, [some (.ref 0), some (.ref 4), some (.int (x2 + 1)), some (.int q12)], [], (hTh 0 t ++ (hYd 4 y)), 0, 0)) rfl trivial ?_
        refine MW_pick [true, true, true, false] rfl (vs' := [some (.ref 0), some (.ref 4), some (.int (x2 + 1)), none]) rfl ?_
        exact ih t y (x2 + 1) _ hm hp
      · have hm := hmf21 hb21
        refine MW_run C okX9_onward 14 6 (gs := [¬ (10 : Int32) = 0, ¬ (10 : Int32) = 0]) (cf' := (32, [some (.ref 0), some (.ref 4), some (.int x2), some (.int q12)], [.int 5, .int (irm (q12 / 10) 10)], (hTh 0 t ++ (hYd 4 y)), 0, 0)) rfl ⟨(show ¬ (10 : Int32) = 0 by decide), (show ¬ (10 : Int32) = 0 by decide)⟩ ?_
        obtain ⟨hmt32, hmf32⟩ := of_if hm
        refine MW_brT C okX9_onward 20 rfl rfl (fun hb32 => ?_) (fun hb32 => ?_)
        · have hm := hmt32 hb32
          refine MW_run C okX9_onward 29 2 (gs := []) (cf' := (2, [some (.ref 0), some (.ref 4), some (.int (x2 + 1)), some (.int q12)], [], (hTh 0 t ++ (hYd 4 y)), 0, 0)) rfl trivial ?_
          refine MW_pick [true, true, true, false] rfl (vs' := [some (.ref 0), some (.ref 4), some (.int (x2 + 1)), none]) rfl ?_
          exact ih t y (x2 + 1) _ hm hp
        · have hm := hmf32 hb32
          refine MW_run C okX9_onward 21 4 (gs := []) (cf' := (41, [some (.ref 0), some (.ref 4), some (.int x2), some (.int q12)], [.int q12, .ref 4, .ref 1], (hTh 0 t ++ (hYd 4 y)), 0, 0)) rfl trivial ?_
          obtain ⟨q41, hc41, hm⟩ := of_bind hm
          refine MW_callV1 C okX9_onward 25 rfl [1, 2, 3, 4, 5, 6, 7, 8, 9, 10, 11] (v0 := some (.int q41)) (h0 := (hPl 0 t ++ (hYd 3 y))) (c_pl_allows t y q12 q41 hc41) lkX9_56 2 dpX4_allows (by decide) (rest := []) rfl rfl rfl rfl rfl rfl rfl rfl rfl rfl rfl (st2 := [.int q41]) (h2 := (hTh 0 t ++ (hYd 4 y))) rfl rfl ?_
          obtain ⟨hmt44, hmf44⟩ := of_if hm
          refine MW_brT C okX9_onward 26 rfl rfl (fun hb44 => ?_) (fun hb44 => ?_)
          · have hm := hmt44 hb44
            refine MW_run C okX9_onward 29 2 (gs := []) (cf' := (2, [some (.ref 0), some (.ref 4), some (.int (x2 + 1)), some (.int q12)], [], (hTh 0 t ++ (hYd 4 y)), 0, 0)) rfl trivial ?_
            refine MW_pick [true, true, true, false] rfl (vs' := [some (.ref 0), some (.ref 4), some (.int (x2 + 1)), none]) rfl ?_
            exact ih t y (x2 + 1) _ hm hp
          · have hm := hmf44 hb44
            refine MW_run C okX9_onward 27 1 (gs := []) (cf' := (48, [some (.ref 0), some (.ref 4), some (.int x2), some (.int q12)], [.int q12], (hTh 0 t ++ (hYd 4 y)), 0, 0)) rfl trivial ?_
            obtain rfl := Option.some.inj hm
            exact MW_iret C okX9_onward hq 28 rfl hp
    · have hm := hmf7 hb7
      obtain rfl := Option.some.inj hm
      refine MW_pick [false, false, false, true] rfl (vs' := [none, none, none, none]) rfl ?_
      exact hp
def th_onward (t : ThS) (y : YdS) : Option (Int32) :=
  (th_onward_L2 N0 t y 0).bind fun q2 =>
    match q2 with
    | .inr r2 => some r2
    | .inl e2 =>
      some (-6)
set_option maxRecDepth 100000 in
set_option maxHeartbeats 1000000 in
theorem t_th_onward {X : CTX} {K : Option Value → AH → Prop} (C : CX X cX9_onward yX9_onward.cls (decide (yX9_onward.name = "<init>")) 2 44) (hq : RQ X (some .int) K) (t : ThS) (y : YdS) (out : Int32) (hm : th_onward t y = some out) (hp : K (some (.int out)) (hTh 0 t ++ (hYd 4 y))) : MW X (0, [some (.ref 0), some (.ref 4), none, none], [], (hTh 0 t ++ (hYd 4 y)), 0, 0) := by
  unfold th_onward at hm
  refine MW_run C okX9_onward 0 2 (gs := []) (cf' := (2, [some (.ref 0), some (.ref 4), some (.int 0), none], [], (hTh 0 t ++ (hYd 4 y)), 0, 0)) rfl trivial ?_
  obtain ⟨q2, hc2, hm⟩ := of_bind hm
  refine l_th_onward_2 C hq N0 t y 0 q2 hc2 ?_
  cases q2 with
  | inr r2 =>
    obtain rfl := Option.some.inj hm
    exact hp
  | inl e2 =>
    show MW X (55, [none, none, none, none], [], (hTh 0 t ++ (hYd 4 y)), 0, 0)
    refine MW_run C okX9_onward 31 1 (gs := []) (cf' := (57, [none, none, none, none], [.int (-6)], (hTh 0 t ++ (hYd 4 y)), 0, 0)) rfl trivial ?_
    obtain rfl := Option.some.inj hm
    exact MW_iret C okX9_onward hq 32 rfl hp
theorem c_th_onward (t : ThS) (y : YdS) (out : Int32) (hm : th_onward t y = some out) : CT yX9_onward cX9_onward 4 (some .int) 2 44 0 0 [.ref 0, .ref 4] (hTh 0 t ++ (hYd 4 y)) (fun v h => v = (some (.int out)) ∧ h = (hTh 0 t ++ (hYd 4 y))) :=
  CT_of (by decide +kernel) (vs0 := [some (.ref 0), some (.ref 4), none, none]) rfl rfl (fun X C hq => t_th_onward C hq t y out hm ⟨rfl, rfl⟩)
