/-! C: so_thumb -/
def so_thumb (s : SoS) (yr : Nat) (x1 : Int32) (x2 : Int32) : Option (Int32 × SoS) :=
  (rw_wagons x1).bind fun q1 =>
    if q1 = 0 then
      some ((-2), s)
    else
      if x2 < 0 then
        some ((-2), s)
      else
        if (2 : Int32) < x2 then
          some ((-2), s)
        else
          (rw_ofNumber x1).bind fun q30 =>
            (th_outInOrder s.2.2.2.2.2.2.2.2.2 s.2.1 q30 q1 x2).bind fun q35 =>
              some (q35.1, (s.1, s.2.1, s.2.2.1, s.2.2.2.1, s.2.2.2.2.1, s.2.2.2.2.2.1, s.2.2.2.2.2.2.1, s.2.2.2.2.2.2.2.1, s.2.2.2.2.2.2.2.2.1, q35.2))
set_option maxRecDepth 100000 in
set_option maxHeartbeats 1000000 in
theorem t_so_thumb {X : CTX} {K : Option Value → AH → Prop} (C : CX X cX11_thumb yX11_thumb.cls (decide (yX11_thumb.name = "<init>")) 5 124) (hq : RQ X (some .int) K) (s : SoS) (yr : Nat) (x1 : Int32) (x2 : Int32) (out : Int32 × SoS) (hm : so_thumb s yr x1 x2 = some out) (hp : K (some (.int out.1)) (hSo yr out.2)) : MW X (0, [some (.ref 0), some (.int x1), some (.int x2), none], [], (hSo yr s), 0, 0) := by
  unfold so_thumb at hm
  refine MW_run C okX11_thumb 0 1 (gs := []) (cf' := (1, [some (.ref 0), some (.int x1), some (.int x2), none], [.int x1], (hSo yr s), 0, 0)) rfl trivial ?_
  obtain ⟨q1, hc1, hm⟩ := of_bind hm
  refine MW_callS0 C okX11_thumb 1 rfl (v0 := some (.int q1)) (c_rw_wagons x1 q1 hc1) lkX11_129 1 dpX6_wagons (by decide) (rest := []) rfl rfl rfl rfl rfl ?_
  refine MW_run C okX11_thumb 2 2 (gs := []) (cf' := (6, [some (.ref 0), some (.int x1), some (.int x2), some (.int q1)], [.int q1], (hSo yr s), 0, 0)) rfl trivial ?_
  obtain ⟨hmt6, hmf6⟩ := of_if hm
  refine MW_brT C okX11_thumb 4 rfl rfl (fun hb6 => ?_) (fun hb6 => ?_)
  · have hm := hmt6 hb6
    refine MW_run C okX11_thumb 10 1 (gs := []) (cf' := (20, [some (.ref 0), some (.int x1), some (.int x2), some (.int q1)], [.int (-2)], (hSo yr s), 0, 0)) rfl trivial ?_
    obtain rfl := Option.some.inj hm
    exact MW_iret C okX11_thumb hq 11 rfl hp
  · have hm := hmf6 hb6
    refine MW_run C okX11_thumb 5 1 (gs := []) (cf' := (10, [some (.ref 0), some (.int x1), some (.int x2), some (.int q1)], [.int x2], (hSo yr s), 0, 0)) rfl trivial ?_
    obtain ⟨hmt10, hmf10⟩ := of_if hm
    refine MW_brT C okX11_thumb 6 rfl rfl (fun hb10 => ?_) (fun hb10 => ?_)
    · have hm := hmt10 hb10
      refine MW_run C okX11_thumb 10 1 (gs := []) (cf' := (20, [some (.ref 0), some (.int x1), some (.int x2), some (.int q1)], [.int (-2)], (hSo yr s), 0, 0)) rfl trivial ?_
      obtain rfl := Option.some.inj hm
      exact MW_iret C okX11_thumb hq 11 rfl hp
    · have hm := hmf10 hb10
      refine MW_run C okX11_thumb 7 2 (gs := []) (cf' := (15, [some (.ref 0), some (.int x1), some (.int x2), some (.int q1)], [.int 2, .int x2], (hSo yr s), 0, 0)) rfl trivial ?_
      obtain ⟨hmt15, hmf15⟩ := of_if hm
      refine MW_brF C okX11_thumb 9 rfl rfl (fun hb15 => ?_) (fun hb15 => ?_)
      · have hm := hmt15 hb15
        refine MW_run C okX11_thumb 10 1 (gs := []) (cf' := (20, [some (.ref 0), some (.int x1), some (.int x2), some (.int q1)], [.int (-2)], (hSo yr s), 0, 0)) rfl trivial ?_
        obtain rfl := Option.some.inj hm
        exact MW_iret C okX11_thumb hq 11 rfl hp
      · have hm := hmf15 hb15
        refine MW_run C okX11_thumb 12 5 (gs := []) (cf' := (30, [some (.ref 0), some (.int x1), some (.int x2), some (.int q1)], [.int x1, .ref 3, .ref 88], (hSo yr s), 0, 0)) rfl trivial ?_
        obtain ⟨q30, hc30, hm⟩ := of_bind hm
        refine MW_callS0 C okX11_thumb 17 rfl (v0 := some (.int q30)) (c_rw_ofNumber x1 q30 hc30) lkX11_124 1 dpX6_ofNumber (by decide) (rest := [.ref 3, .ref 88]) rfl rfl rfl rfl rfl ?_
        refine MW_run C okX11_thumb 18 2 (gs := []) (cf' := (35, [some (.ref 0), some (.int x1), some (.int x2), some (.int q1)], [.int x2, .int q1, .int q30, .ref 3, .ref 88], (hSo yr s), 0, 0)) rfl trivial ?_
        obtain ⟨q35, hc35, hm⟩ := of_bind hm
        refine MW_callV1 C okX11_thumb 20 rfl [88, 89, 90, 91, 3, 4, 5, 6, 7, 8, 9, 10] (v0 := some (.int q35.1)) (h0 := (hTh 0 q35.2 ++ (hYd 4 s.2.1))) (c_th_outInOrder s.2.2.2.2.2.2.2.2.2 s.2.1 q30 q1 x2 q35 hc35) lkX11_250 4 dpX9_outInOrder (by decide) (rest := []) rfl rfl rfl rfl rfl rfl rfl rfl rfl rfl rfl (st2 := [.int q35.1]) (h2 := (hSo yr (s.1, s.2.1, s.2.2.1, s.2.2.2.1, s.2.2.2.2.1, s.2.2.2.2.2.1, s.2.2.2.2.2.2.1, s.2.2.2.2.2.2.2.1, s.2.2.2.2.2.2.2.2.1, q35.2))) rfl rfl ?_
        obtain rfl := Option.some.inj hm
        exact MW_iret C okX11_thumb hq 21 rfl hp
theorem c_so_thumb (s : SoS) (yr : Nat) (x1 : Int32) (x2 : Int32) (out : Int32 × SoS) (hm : so_thumb s yr x1 x2 = some out) : CT yX11_thumb cX11_thumb 4 (some .int) 5 124 0 0 [.ref 0, .int x1, .int x2] (hSo yr s) (fun v h => v = (some (.int out.1)) ∧ h = (hSo yr out.2)) :=
  CT_of (by decide +kernel) (vs0 := [some (.ref 0), some (.int x1), some (.int x2), none]) rfl rfl (fun X C hq => t_so_thumb C hq s yr x1 x2 out hm ⟨rfl, rfl⟩)
/-! C: so_sorts -/
def so_sorts_L33 : Nat → SoS → Nat → Int32 → Int32 → Int32 → Int32 → Int32 → Option (SoS × Int32)
  | 0, _, _, _, _, _, _, _ => none
  | n + 1, s, yr, x1, x2, x3, x4, x5 =>
    if x5 < x3 then
      (rw_ofRank x5 x1).bind fun q50 =>
        (th_outInOrder s.2.2.2.2.2.2.2.2.2 s.2.1 q50 x1 x2).bind fun q55 =>
          if q55.1 = x1 then
            so_sorts_L33 n (s.1, s.2.1, s.2.2.1, s.2.2.2.1, s.2.2.2.2.1, s.2.2.2.2.2.1, s.2.2.2.2.2.2.1, s.2.2.2.2.2.2.2.1, s.2.2.2.2.2.2.2.2.1, q55.2) yr x1 x2 x3 (x4 + 1) (x5 + 1)
          else
            so_sorts_L33 n (s.1, s.2.1, s.2.2.1, s.2.2.2.1, s.2.2.2.2.1, s.2.2.2.2.2.1, s.2.2.2.2.2.2.1, s.2.2.2.2.2.2.2.1, s.2.2.2.2.2.2.2.2.1, q55.2) yr x1 x2 x3 x4 (x5 + 1)
    else
      some (s, x4)
set_option maxRecDepth 100000 in
set_option maxHeartbeats 1000000 in
theorem l_so_sorts_33 {X : CTX} {K : Option Value → AH → Prop} (C : CX X cX11_sorts yX11_sorts.cls (decide (yX11_sorts.name = "<init>")) 5 124) (hq : RQ X (some .int) K) : ∀ (n : Nat) (s : SoS) (yr : Nat) (x1 : Int32) (x2 : Int32) (x3 : Int32) (x4 : Int32) (x5 : Int32) (out : SoS × Int32) (hm : so_sorts_L33 n s yr x1 x2 x3 x4 x5 = some out) (hp : MW X (71, [none, none, none, none, some (.int out.2), none], [], (hSo yr out.1), 0, 0)), MW X (33, [some (.ref 0), some (.int x1), some (.int x2), some (.int x3), some (.int x4), some (.int x5)], [], (hSo yr s), 0, 0) := by
  intro n
  induction n with
  | zero => intro s yr x1 x2 x3 x4 x5 out hm hp; rw [so_sorts_L33] at hm; cases hm
  | succ n ih =>
    intro s yr x1 x2 x3 x4 x5 out hm hp
    rw [so_sorts_L33] at hm
    refine MW_run C okX11_sorts 20 2 (gs := []) (cf' := (36, [some (.ref 0), some (.int x1), some (.int x2), some (.int x3), some (.int x4), some (.int x5)], [.int x3, .int x5], (hSo yr s), 0, 0)) rfl trivial ?_
    obtain ⟨hmt36, hmf36⟩ := of_if hm
    refine MW_brF C okX11_sorts 22 rfl rfl (fun hb36 => ?_) (fun hb36 => ?_)
    · have hm := hmt36 hb36
      refine MW_run C okX11_sorts 23 6 (gs := []) (cf' := (50, [some (.ref 0), some (.int x1), some (.int x2), some (.int x3), some (.int x4), some (.int x5)], [.int x1, .int x5, .ref 3, .ref 88], (hSo yr s), 0, 0)) rfl trivial ?_
      obtain ⟨q50, hc50, hm⟩ := of_bind hm
      refine MW_callS0 C okX11_sorts 29 rfl (v0 := some (.int q50)) (c_rw_ofRank x5 x1 q50 hc50) lkX11_166 2 dpX6_ofRank (by decide) (rest := [.ref 3, .ref 88]) rfl rfl rfl rfl rfl ?_
      refine MW_run C okX11_sorts 30 2 (gs := []) (cf' := (55, [some (.ref 0), some (.int x1), some (.int x2), some (.int x3), some (.int x4), some (.int x5)], [.int x2, .int x1, .int q50, .ref 3, .ref 88], (hSo yr s), 0, 0)) rfl trivial ?_
      obtain ⟨q55, hc55, hm⟩ := of_bind hm
      refine MW_callV1 C okX11_sorts 32 rfl [88, 89, 90, 91, 3, 4, 5, 6, 7, 8, 9, 10] (v0 := some (.int q55.1)) (h0 := (hTh 0 q55.2 ++ (hYd 4 s.2.1))) (c_th_outInOrder s.2.2.2.2.2.2.2.2.2 s.2.1 q50 x1 x2 q55 hc55) lkX11_250 4 dpX9_outInOrder (by decide) (rest := []) rfl rfl rfl rfl rfl rfl rfl rfl rfl rfl rfl (st2 := [.int q55.1]) (h2 := (hSo yr (s.1, s.2.1, s.2.2.1, s.2.2.2.1, s.2.2.2.2.1, s.2.2.2.2.2.1, s.2.2.2.2.2.2.1, s.2.2.2.2.2.2.2.1, s.2.2.2.2.2.2.2.2.1, q55.2))) rfl rfl ?_
      refine MW_run C okX11_sorts 33 1 (gs := []) (cf' := (59, [some (.ref 0), some (.int x1), some (.int x2), some (.int x3), some (.int x4), some (.int x5)], [.int x1, .int q55.1], (hSo yr (s.1, s.2.1, s.2.2.1, s.2.2.2.1, s.2.2.2.2.1, s.2.2.2.2.2.1, s.2.2.2.2.2.2.1, s.2.2.2.2.2.2.2.1, s.2.2.2.2.2.2.2.2.1, q55.2)), 0, 0)) rfl trivial ?_
      obtain ⟨hmt59, hmf59⟩ := of_if hm
      refine MW_brF C okX11_sorts 34 rfl rfl (fun hb59 => ?_) (fun hb59 => ?_)
      · have hm := hmt59 hb59
        refine MW_run C okX11_sorts 35 1 (gs := []) (cf' := (65, [some (.ref 0), some (.int x1), some (.int x2), some (.int x3), some (.int (x4 + 1)), some (.int x5)], [], (hSo yr (s.1, s.2.1, s.2.2.1, s.2.2.2.1, s.2.2.2.2.1, s.2.2.2.2.2.1, s.2.2.2.2.2.2.1, s.2.2.2.2.2.2.2.1, s.2.2.2.2.2.2.2.2.1, q55.2)), 0, 0)) rfl trivial ?_
        refine MW_run C okX11_sorts 36 2 (gs := []) (cf' := (33, [some (.ref 0), some (.int x1), some (.int x2), some (.int x3), some (.int (x4 + 1)), some (.int (x5 + 1))], [], (hSo yr (s.1, s.2.1, s.2.2.1, s.2.2.2.1, s.2.2.2.2.1, s.2.2.2.2.2.1, s.2.2.2.2.2.2.1, s.2.2.2.2.2.2.2.1, s.2.2.2.2.2.2.2.2.1, q55.2)), 0, 0)) rfl trivial ?_
        exact ih (s.1, s.2.1, s.2.2.1, s.2.2.2.1, s.2.2.2.2.1, s.2.2.2.2.2.1, s.2.2.2.2.2.2.1, s.2.2.2.2.2.2.2.1, s.2.2.2.2.2.2.2.2.1, q55.2) yr x1 x2 x3 (x4 + 1) (x5 + 1) _ hm hp
      · have hm := hmf59 hb59
        refine MW_run C okX11_sorts 36 2 (gs := []) (cf' := (33, [some (.ref 0), some (.int x1), some (.int x2), some (.int x3), some (.int x4), some (.int (x5 + 1))], [], (hSo yr (s.1, s.2.1, s.2.2.1, s.2.2.2.1, s.2.2.2.2.1, s.2.2.2.2.2.1, s.2.2.2.2.2.2.1, s.2.2.2.2.2.2.2.1, s.2.2.2.2.2.2.2.2.1, q55.2)), 0, 0)) rfl trivial ?_
        exact ih (s.1, s.2.1, s.2.2.1, s.2.2.2.1, s.2.2.2.2.1, s.2.2.2.2.2.1, s.2.2.2.2.2.2.1, s.2.2.2.2.2.2.2.1, s.2.2.2.2.2.2.2.2.1, q55.2) yr x1 x2 x3 x4 (x5 + 1) _ hm hp
    · have hm := hmf36 hb36
      obtain rfl := Option.some.inj hm
      refine MW_pick [false, false, false, false, true, false] rfl (vs' := [none, none, none, none, some (.int x4), none]) rfl ?_
      exact hp
def so_sorts (s : SoS) (yr : Nat) (x1 : Int32) (x2 : Int32) : Option (Int32 × SoS) :=
  if x1 < 1 then
    some ((-2), s)
  else
    if (5 : Int32) < x1 then
      some ((-2), s)
    else
      if x2 < 0 then
        some ((-2), s)
      else
        if (2 : Int32) < x2 then
          some ((-2), s)
        else
          (rw_factorial x1).bind fun q23 =>
            (so_sorts_L33 N0 s yr x1 x2 q23 0 0).bind fun q33 =>
              some (q33.2, q33.1)
set_option maxRecDepth 100000 in
set_option maxHeartbeats 1000000 in
theorem t_so_sorts {X : CTX} {K : Option Value → AH → Prop} (C : CX X cX11_sorts yX11_sorts.cls (decide (yX11_sorts.name = "<init>")) 5 124) (hq : RQ X (some .int) K) (s : SoS) (yr : Nat) (x1 : Int32) (x2 : Int32) (out : Int32 × SoS) (hm : so_sorts s yr x1 x2 = some out) (hp : K (some (.int out.1)) (hSo yr out.2)) : MW X (0, [some (.ref 0), some (.int x1), some (.int x2), none, none, none], [], (hSo yr s), 0, 0) := by
  unfold so_sorts at hm
  refine MW_run C okX11_sorts 0 2 (gs := []) (cf' := (2, [some (.ref 0), some (.int x1), some (.int x2), none, none, none], [.int 1, .int x1], (hSo yr s), 0, 0)) rfl trivial ?_
  obtain ⟨hmt2, hmf2⟩ := of_if hm
  refine MW_brT C okX11_sorts 2 rfl rfl (fun hb2 => ?_) (fun hb2 => ?_)
  · have hm := hmt2 hb2
    refine MW_run C okX11_sorts 11 1 (gs := []) (cf' := (21, [some (.ref 0), some (.int x1), some (.int x2), none, none, none], [.int (-2)], (hSo yr s), 0, 0)) rfl trivial ?_
    obtain rfl := Option.some.inj hm
    exact MW_iret C okX11_sorts hq 12 rfl hp
  · have hm := hmf2 hb2
    refine MW_run C okX11_sorts 3 2 (gs := []) (cf' := (7, [some (.ref 0), some (.int x1), some (.int x2), none, none, none], [.int 5, .int x1], (hSo yr s), 0, 0)) rfl trivial ?_
    obtain ⟨hmt7, hmf7⟩ := of_if hm
    refine MW_brT C okX11_sorts 5 rfl rfl (fun hb7 => ?_) (fun hb7 => ?_)
    · have hm := hmt7 hb7
      refine MW_run C okX11_sorts 11 1 (gs := []) (cf' := (21, [some (.ref 0), some (.int x1), some (.int x2), none, none, none], [.int (-2)], (hSo yr s), 0, 0)) rfl trivial ?_
      obtain rfl := Option.some.inj hm
      exact MW_iret C okX11_sorts hq 12 rfl hp
    · have hm := hmf7 hb7
      refine MW_run C okX11_sorts 6 1 (gs := []) (cf' := (11, [some (.ref 0), some (.int x1), some (.int x2), none, none, none], [.int x2], (hSo yr s), 0, 0)) rfl trivial ?_
      obtain ⟨hmt11, hmf11⟩ := of_if hm
      refine MW_brT C okX11_sorts 7 rfl rfl (fun hb11 => ?_) (fun hb11 => ?_)
      · have hm := hmt11 hb11
        refine MW_run C okX11_sorts 11 1 (gs := []) (cf' := (21, [some (.ref 0), some (.int x1), some (.int x2), none, none, none], [.int (-2)], (hSo yr s), 0, 0)) rfl trivial ?_
        obtain rfl := Option.some.inj hm
        exact MW_iret C okX11_sorts hq 12 rfl hp
      · have hm := hmf11 hb11
        refine MW_run C okX11_sorts 8 2 (gs := []) (cf' := (16, [some (.ref 0), some (.int x1), some (.int x2), none, none, none], [.int 2, .int x2], (hSo yr s), 0, 0)) rfl trivial ?_
        obtain ⟨hmt16, hmf16⟩ := of_if hm
        refine MW_brF C okX11_sorts 10 rfl rfl (fun hb16 => ?_) (fun hb16 => ?_)
        · have hm := hmt16 hb16
          refine MW_run C okX11_sorts 11 1 (gs := []) (cf' := (21, [some (.ref 0), some (.int x1), some (.int x2), none, none, none], [.int (-2)], (hSo yr s), 0, 0)) rfl trivial ?_
          obtain rfl := Option.some.inj hm
          exact MW_iret C okX11_sorts hq 12 rfl hp
        · have hm := hmf16 hb16
          refine MW_run C okX11_sorts 13 1 (gs := []) (cf' := (23, [some (.ref 0), some (.int x1), some (.int x2), none, none, none], [.int x1], (hSo yr s), 0, 0)) rfl trivial ?_
          obtain ⟨q23, hc23, hm⟩ := of_bind hm
          refine MW_callS0 C okX11_sorts 14 rfl (v0 := some (.int q23)) (c_rw_factorial x1 q23 hc23) lkX11_163 1 dpX6_factorial (by decide) (rest := []) rfl rfl rfl rfl rfl ?_
          refine MW_run C okX11_sorts 15 5 (gs := []) (cf' := (33, [some (.ref 0), some (.int x1), some (.int x2), some (.int q23), some (.int 0), some (.int 0)], [], (hSo yr s), 0, 0)) rfl trivial ?_
          obtain ⟨q33, hc33, hm⟩ := of_bind hm
          refine l_so_sorts_33 C hq N0 s yr x1 x2 q23 0 0 q33 hc33 ?_
          refine MW_run C okX11_sorts 38 1 (gs := []) (cf' := (73, [none, none, none, none, some (.int q33.2), none], [.int q33.2], (hSo yr q33.1), 0, 0)) rfl trivial ?_
          obtain rfl := Option.some.inj hm
          exact MW_iret C okX11_sorts hq 39 rfl hp
theorem c_so_sorts (s : SoS) (yr : Nat) (x1 : Int32) (x2 : Int32) (out : Int32 × SoS) (hm : so_sorts s yr x1 x2 = some out) : CT yX11_sorts cX11_sorts 6 (some .int) 5 124 0 0 [.ref 0, .int x1, .int x2] (hSo yr s) (fun v h => v = (some (.int out.1)) ∧ h = (hSo yr out.2)) :=
  CT_of (by decide +kernel) (vs0 := [some (.ref 0), some (.int x1), some (.int x2), none, none, none]) rfl rfl (fun X C hq => t_so_sorts C hq s yr x1 x2 out hm ⟨rfl, rfl⟩)
/-! C: so_draw -/
def so_draw_L38 : Nat → SoS → Nat → Int32 → Int32 → Int32 → Int32 → Option (Int32)
  | 0, _, _, _, _, _, _ => none
  | n + 1, s, yr, x3, x4, x5, x6 =>
    if (0 : Int32) < x6 then
      if ¬ x6 = 0 then
        (rw_pick x4 (irm (irm ((x3 * 75) + 74) 65537) x6)).bind fun q61 =>
          so_draw_L38 n s yr (irm ((x3 * 75) + 74) 65537) (x4 &&& (((1 : Int32) <<< (q61 &&& 31)) ^^^ (-1))) ((x5 * 10) + q61) (x6 + (-1))
      else none
    else
      some x5
set_option maxRecDepth 100000 in
set_option maxHeartbeats 1000000 in
theorem l_so_draw_38 {X : CTX} {K : Option Value → AH → Prop} (C : CX X cX11_draw yX11_draw.cls (decide (yX11_draw.name = "<init>")) 1 23) (hq : RQ X (some .int) K) : ∀ (n : Nat) (s : SoS) (yr : Nat) (x3 : Int32) (x4 : Int32) (x5 : Int32) (x6 : Int32) (out : Int32) (hm : so_draw_L38 n s yr x3 x4 x5 x6 = some out) (hp : MW X (93, [none, none, none, none, none, some (.int out), none, none], [], (hSo yr s), 0, 0)), MW X (38, [none, none, none, some (.int x3), some (.int x4), some (.int x5), some (.int x6), none], [], (hSo yr s), 0, 0) := by
  intro n
  induction n with
  | zero => intro s yr x3 x4 x5 x6 out hm hp; rw [so_draw_L38] at hm; cases hm
  | succ n ih =>
    intro s yr x3 x4 x5 x6 out hm hp
    rw [so_draw_L38] at hm
    refine MW_run C okX11_draw 22 1 (gs := []) (cf' := (40, [none, none, none, some (.int x3), some (.int x4), some (.int x5), some (.int x6), none], [.int x6], (hSo yr s), 0, 0)) rfl trivial ?_
    obtain ⟨hmt40, hmf40⟩ := of_if hm
    refine MW_brF C okX11_draw 23 rfl rfl (fun hb40 => ?_) (fun hb40 => ?_)
    · have hm := hmt40 hb40
      obtain ⟨hg61, hm⟩ := of_guard hm
      refine MW_run C okX11_draw 24 12 (gs := [¬ (65537 : Int32) = 0, ¬ x6 = 0]) (cf' := (61, [none, none, none, some (.int (irm ((x3 * 75) + 74) 65537)), some (.int x4), some (.int x5), some (.int x6), none], [.int (irm (irm ((x3 * 75) + 74) 65537) x6), .int x4], (hSo yr s), 0, 0)) rfl ⟨(show ¬ (65537 : Int32) = 0 by decide), hg61⟩ ?_
      obtain ⟨q61, hc61, hm⟩ := of_bind hm
      refine MW_callS0 C okX11_draw 36 rfl (v0 := some (.int q61)) (c_rw_pick x4 (irm (irm ((x3 * 75) + 74) 65537) x6) q61 hc61) lkX11_257 2 dpX6_pick (by decide) (rest := []) rfl rfl rfl rfl rfl ?_
      refine MW_run C okX11_draw 37 17 (gs := []) (cf' := (38, [none, none, none, some (.int (irm ((x3 * 75) + 74) 65537)), some (.int (x4 &&& (((1 : Int32) <<< (q61 &&& 31)) ^^^ (-1)))), some (.int ((x5 * 10) + q61)), some (.int (x6 + (-1))), some (.int q61)], [], (hSo yr s), 0, 0)) rfl trivial ?_
      refine MW_pick [true, true, true, true, true, true, true, false] rfl (vs' := [none, none, none, some (.int (irm ((x3 * 75) + 74) 65537)), some (.int (x4 &&& (((1 : Int32) <<< (q61 &&& 31)) ^^^ (-1)))), some (.int ((x5 * 10) + q61)), some (.int (x6 + (-1))), none]) rfl ?_
      exact ih s yr (irm ((x3 * 75) + 74) 65537) (x4 &&& (((1 : Int32) <<< (q61 &&& 31)) ^^^ (-1))) ((x5 * 10) + q61) (x6 + (-1)) _ hm hp
    · have hm := hmf40 hb40
      obtain rfl := Option.some.inj hm
      refine MW_pick [true, true, true, false, false, true, false, true] rfl (vs' := [none, none, none, none, none, some (.int x5), none, none]) rfl ?_
      exact hp
def so_draw (s : SoS) (yr : Nat) (x1 : Int32) (x2 : Int32) : Option (Int32) :=
  if x1 < 0 then
    some (-2)
  else
    if (9999 : Int32) < x1 then
      some (-2)
    else
      if x2 < 1 then
        some (-2)
      else
        if (5 : Int32) < x2 then
          some (-2)
        else
          (rw_setUpTo x2).bind fun q27 =>
            (so_draw_L38 N0 s yr x1 q27 0 x2).bind fun q38 =>
              some q38
set_option maxRecDepth 100000 in
set_option maxHeartbeats 1000000 in
theorem t_so_draw {X : CTX} {K : Option Value → AH → Prop} (C : CX X cX11_draw yX11_draw.cls (decide (yX11_draw.name = "<init>")) 1 23) (hq : RQ X (some .int) K) (s : SoS) (yr : Nat) (x1 : Int32) (x2 : Int32) (out : Int32) (hm : so_draw s yr x1 x2 = some out) (hp : K (some (.int out)) (hSo yr s)) : MW X (0, [some (.ref 0), some (.int x1), some (.int x2), none, none, none, none, none], [], (hSo yr s), 0, 0) := by
  unfold so_draw at hm
  refine MW_run C okX11_draw 0 1 (gs := []) (cf' := (1, [some (.ref 0), some (.int x1), some (.int x2), none, none, none, none, none], [.int x1], (hSo yr s), 0, 0)) rfl trivial ?_
  obtain ⟨hmt1, hmf1⟩ := of_if hm
  refine MW_brT C okX11_draw 1 rfl rfl (fun hb1 => ?_) (fun hb1 => ?_)
  · have hm := hmt1 hb1
    refine MW_run C okX11_draw 11 1 (gs := []) (cf' := (23, [some (.ref 0), some (.int x1), some (.int x2), none, none, none, none, none], [.int (-2)], (hSo yr s), 0, 0)) rfl trivial ?_
    obtain rfl := Option.some.inj hm
    exact MW_iret C okX11_draw hq 12 rfl hp
  · have hm := hmf1 hb1
    refine MW_run C okX11_draw 2 2 (gs := []) (cf' := (8, [some (.ref 0), some (.int x1), some (.int x2), none, none, none, none, none], [.int 9999, .int x1], (hSo yr s), 0, 0)) rfl trivial ?_
    obtain ⟨hmt8, hmf8⟩ := of_if hm
    refine MW_brT C okX11_draw 4 rfl rfl (fun hb8 => ?_) (fun hb8 => ?_)
    · have hm := hmt8 hb8
      refine MW_run C okX11_draw 11 1 (gs := []) (cf' := (23, [some (.ref 0), some (.int x1), some (.int x2), none, none, none, none, none], [.int (-2)], (hSo yr s), 0, 0)) rfl trivial ?_
      obtain rfl := Option.some.inj hm
      exact MW_iret C okX11_draw hq 12 rfl hp
    · have hm := hmf8 hb8
      refine MW_run C okX11_draw 5 2 (gs := []) (cf' := (13, [some (.ref 0), some (.int x1), some (.int x2), none, none, none, none, none], [.int 1, .int x2], (hSo yr s), 0, 0)) rfl trivial ?_
      obtain ⟨hmt13, hmf13⟩ := of_if hm
      refine MW_brT C okX11_draw 7 rfl rfl (fun hb13 => ?_) (fun hb13 => ?_)
      · have hm := hmt13 hb13
        refine MW_run C okX11_draw 11 1 (gs := []) (cf' := (23, [some (.ref 0), some (.int x1), some (.int x2), none, none, none, none, none], [.int (-2)], (hSo yr s), 0, 0)) rfl trivial ?_
        obtain rfl := Option.some.inj hm
        exact MW_iret C okX11_draw hq 12 rfl hp
      · have hm := hmf13 hb13
        refine MW_run C okX11_draw 8 2 (gs := []) (cf' := (18, [some (.ref 0), some (.int x1), some (.int x2), none, none, none, none, none], [.int 5, .int x2], (hSo yr s), 0, 0)) rfl trivial ?_
        obtain ⟨hmt18, hmf18⟩ := of_if hm
        refine MW_brF C okX11_draw 10 rfl rfl (fun hb18 => ?_) (fun hb18 => ?_)
        · have hm := hmt18 hb18
          refine MW_run C okX11_draw 11 1 (gs := []) (cf' := (23, [some (.ref 0), some (.int x1), some (.int x2), none, none, none, none, none], [.int (-2)], (hSo yr s), 0, 0)) rfl trivial ?_
          obtain rfl := Option.some.inj hm
          exact MW_iret C okX11_draw hq 12 rfl hp
        · have hm := hmf18 hb18
          refine MW_run C okX11_draw 13 3 (gs := []) (cf' := (27, [some (.ref 0), some (.int x1), some (.int x2), some (.int x1), none, none, none, none], [.int x2], (hSo yr s), 0, 0)) rfl trivial ?_
          obtain ⟨q27, hc27, hm⟩ := of_bind hm
          refine MW_callS0 C okX11_draw 16 rfl (v0 := some (.int q27)) (c_rw_setUpTo x2 q27 hc27) lkX11_253 1 dpX6_setUpTo (by decide) (rest := []) rfl rfl rfl rfl rfl ?_
          refine MW_run C okX11_draw 17 5 (gs := []) (cf' := (38, [some (.ref 0), some (.int x1), some (.int x2), some (.int x1), some (.int q27), some (.int 0), some (.int x2), none], [], (hSo yr s), 0, 0)) rfl trivial ?_
          obtain ⟨q38, hc38, hm⟩ := of_bind hm
          refine MW_pick [false, false, false, true, true, true, true, true] rfl (vs' := [none, none, none, some (.int x1), some (.int q27), some (.int 0), some (.int x2), none]) rfl ?_
          refine l_so_draw_38 C hq N0 s yr x1 q27 0 x2 q38 hc38 ?_
          refine MW_run C okX11_draw 54 1 (gs := []) (cf' := (95, [none, none, none, none, none, some (.int q38), none, none], [.int q38], (hSo yr s), 0, 0)) rfl trivial ?_
          obtain rfl := Option.some.inj hm
          exact MW_iret C okX11_draw hq 55 rfl hp
theorem c_so_draw (s : SoS) (yr : Nat) (x1 : Int32) (x2 : Int32) (out : Int32) (hm : so_draw s yr x1 x2 = some out) : CT yX11_draw cX11_draw 8 (some .int) 1 23 0 0 [.ref 0, .int x1, .int x2] (hSo yr s) (fun v h => v = (some (.int out)) ∧ h = (hSo yr s)) :=
  CT_of (by decide +kernel) (vs0 := [some (.ref 0), some (.int x1), some (.int x2), none, none, none, none, none]) rfl rfl (fun X C hq => t_so_draw C hq s yr x1 x2 out hm ⟨rfl, rfl⟩)
/-! C: so_imageAt -/
def so_imageAt (s : SoS) (yr : Nat) (x1 : Int32) : Option (Nat) :=
  if x1 = 0 then
    some 24
  else
    some 46
set_option maxRecDepth 100000 in
set_option maxHeartbeats 1000000 in
theorem t_so_imageAt {X : CTX} {K : Option Value → AH → Prop} (C : CX X cX11_imageAt yX11_imageAt.cls (decide (yX11_imageAt.name = "<init>")) 0 0) (hq : RQ X (some (.object RX0)) K) (s : SoS) (yr : Nat) (x1 : Int32) (out : Nat) (hm : so_imageAt s yr x1 = some out) (hp : K (some (.ref out)) (hSo yr s)) : MW X (0, [some (.ref 0), some (.int x1)], [], (hSo yr s), 0, 0) := by
  unfold so_imageAt at hm
  refine MW_run C okX11_imageAt 0 1 (gs := []) (cf' := (1, [some (.ref 0), some (.int x1)], [.int x1], (hSo yr s), 0, 0)) rfl trivial ?_
  obtain ⟨hmt1, hmf1⟩ := of_if hm
  refine MW_brF C okX11_imageAt 1 rfl rfl (fun hb1 => ?_) (fun hb1 => ?_)
  · have hm := hmt1 hb1
    refine MW_run C okX11_imageAt 2 3 (gs := []) (cf' := (15, [some (.ref 0), some (.int x1)], [.ref 24], (hSo yr s), 0, 0)) rfl trivial ?_
    obtain rfl := Option.some.inj hm
    exact MW_aret C okX11_imageAt hq rfl 7 rfl hp
  · have hm := hmf1 hb1
    refine MW_run C okX11_imageAt 5 2 (gs := []) (cf' := (15, [some (.ref 0), some (.int x1)], [.ref 46], (hSo yr s), 0, 0)) rfl trivial ?_
    obtain rfl := Option.some.inj hm
    exact MW_aret C okX11_imageAt hq rfl 7 rfl hp
theorem c_so_imageAt (s : SoS) (yr : Nat) (x1 : Int32) (out : Nat) (hm : so_imageAt s yr x1 = some out) : CT yX11_imageAt cX11_imageAt 2 (some (.object RX0)) 0 0 0 0 [.ref 0, .int x1] (hSo yr s) (fun v h => v = (some (.ref out)) ∧ h = (hSo yr s)) :=
  CT_of (by decide +kernel) (vs0 := [some (.ref 0), some (.int x1)]) rfl rfl (fun X C hq => t_so_imageAt C hq s yr x1 out hm ⟨rfl, rfl⟩)
theorem im_at_24 {s : SoS} {yr : Nat} {x1 : Int32} (hn : x1 = 0) : so_imageAt s yr x1 = some 24 := by
  unfold so_imageAt; rw [if_pos hn]
theorem im_at_46 {s : SoS} {yr : Nat} {x1 : Int32} (hn : ¬ x1 = 0) : so_imageAt s yr x1 = some 46 := by
  unfold so_imageAt; rw [if_neg hn]
/-! C: so_image0 -/
def so_image0 (s : SoS) (yr : Nat) (x1 : Int32) : Option (Int32 × SoS) :=
  if x1 < 0 then
    some ((-2), s)
  else
    if (1 : Int32) < x1 then
      some ((-2), s)
    else
      (yd_copyFrom s.2.2.2.2.1.2.1 s.2.1).bind fun q31 =>
        (yd_copyFrom s.2.2.2.2.1.2.2.1 s.2.2.1).bind fun q42 =>
          (py_copyFrom s.2.2.2.2.1.2.2.2 s.2.2.2.1).bind fun q53 =>
            some (1, (s.1, s.2.1, s.2.2.1, s.2.2.2.1, (1, q31, q42, q53), s.2.2.2.2.2.1, s.2.2.2.2.2.2.1, s.2.2.2.2.2.2.2.1, s.2.2.2.2.2.2.2.2.1, s.2.2.2.2.2.2.2.2.2))
set_option maxRecDepth 100000 in
set_option maxHeartbeats 1000000 in
theorem t_so_image0 {X : CTX} {K : Option Value → AH → Prop} (C : CX X cX11_image yX11_image.cls (decide (yX11_image.name = "<init>")) 4 90) (hq : RQ X (some .int) K) (s : SoS) (yr : Nat) (x1 : Int32)  (hn : x1 = 0)(out : Int32 × SoS) (hm : so_image0 s yr x1 = some out) (hp : K (some (.int out.1)) (hSo yr out.2)) : MW X (0, [some (.ref 0), some (.int x1), none], [], (hSo yr s), 0, 0) := by
  unfold so_image0 at hm
  refine MW_run C okX11_image 0 1 (gs := []) (cf' := (1, [some (.ref 0), some (.int x1), none], [.int x1], (hSo yr s), 0, 0)) rfl trivial ?_
  obtain ⟨hmt1, hmf1⟩ := of_if hm
  refine MW_brT C okX11_image 1 rfl rfl (fun hb1 => ?_) (fun hb1 => ?_)
  · have hm := hmt1 hb1
    refine MW_run C okX11_image 5 1 (gs := []) (cf' := (11, [some (.ref 0), some (.int x1), none], [.int (-2)], (hSo yr s), 0, 0)) rfl trivial ?_
    obtain rfl := Option.some.inj hm
    exact MW_iret C okX11_image hq 6 rfl hp
  · have hm := hmf1 hb1
    refine MW_run C okX11_image 2 2 (gs := []) (cf' := (6, [some (.ref 0), some (.int x1), none], [.int 1, .int x1], (hSo yr s), 0, 0)) rfl trivial ?_
    obtain ⟨hmt6, hmf6⟩ := of_if hm
    refine MW_brF C okX11_image 4 rfl rfl (fun hb6 => ?_) (fun hb6 => ?_)
    · have hm := hmt6 hb6
      refine MW_run C okX11_image 5 1 (gs := []) (cf' := (11, [some (.ref 0), some (.int x1), none], [.int (-2)], (hSo yr s), 0, 0)) rfl trivial ?_
      obtain rfl := Option.some.inj hm
      exact MW_iret C okX11_image hq 6 rfl hp
    · have hm := hmf6 hb6
      refine MW_run C okX11_image 7 2 (gs := []) (cf' := (14, [some (.ref 0), some (.int x1), none], [.int x1, .ref 0], (hSo yr s), 0, 0)) rfl trivial ?_
      refine MW_callV0 C okX11_image 9 rfl (v0 := some (.ref 24)) (h0 := (hSo yr s)) (c_so_imageAt s yr x1 24 (im_at_24 hn)) lkX11_260 1 dpX11_imageAt (by decide) (rest := []) rfl rfl rfl rfl rfl rfl rfl rfl ?_
      refine MW_eq (cf' := (17, [some (.ref 0), some (.int x1), none], [.ref 24], (hSo yr s), 0, 0)) rfl ?_
      refine MW_run C okX11_image 10 8 (gs := [isZ 1]) (cf' := (31, [some (.ref 0), some (.int x1), some (.ref 24)], [.ref 3, .ref 25], (hSo yr (s.1, s.2.1, s.2.2.1, s.2.2.2.1, (1, s.2.2.2.2.1.2.1, s.2.2.2.2.1.2.2.1, s.2.2.2.2.1.2.2.2), s.2.2.2.2.2.1, s.2.2.2.2.2.2.1, s.2.2.2.2.2.2.2.1, s.2.2.2.2.2.2.2.2.1, s.2.2.2.2.2.2.2.2.2)), 0, 0)) rfl (show isZ 1 by decide) ?_
      obtain ⟨q31, hc31, hm⟩ := of_bind hm
      refine MW_callV1 C okX11_image 18 rfl [25, 26, 27, 28, 29, 30, 31, 32, 3, 4, 5, 6, 7, 8, 9, 10] (v0 := none) (h0 := (hYd 0 q31 ++ (hYd 8 s.2.1))) (c_yd_copyFrom s.2.2.2.2.1.2.1 s.2.1 q31 hc31) lkX11_83 1 dpX10_copyFrom (by decide) (rest := []) rfl rfl rfl rfl rfl rfl rfl rfl rfl rfl rfl (st2 := []) (h2 := (hSo yr (s.1, s.2.1, s.2.2.1, s.2.2.2.1, (1, q31, s.2.2.2.2.1.2.2.1, s.2.2.2.2.1.2.2.2), s.2.2.2.2.2.1, s.2.2.2.2.2.2.1, s.2.2.2.2.2.2.2.1, s.2.2.2.2.2.2.2.2.1, s.2.2.2.2.2.2.2.2.2))) rfl rfl ?_
      refine MW_run C okX11_image 19 4 (gs := []) (cf' := (42, [some (.ref 0), some (.int x1), some (.ref 24)], [.ref 11, .ref 33], (hSo yr (s.1, s.2.1, s.2.2.1, s.2.2.2.1, (1, q31, s.2.2.2.2.1.2.2.1, s.2.2.2.2.1.2.2.2), s.2.2.2.2.2.1, s.2.2.2.2.2.2.1, s.2.2.2.2.2.2.2.1, s.2.2.2.2.2.2.2.2.1, s.2.2.2.2.2.2.2.2.2)), 0, 0)) rfl trivial ?_
      obtain ⟨q42, hc42, hm⟩ := of_bind hm
      refine MW_callV1 C okX11_image 23 rfl [33, 34, 35, 36, 37, 38, 39, 40, 11, 12, 13, 14, 15, 16, 17, 18] (v0 := none) (h0 := (hYd 0 q42 ++ (hYd 8 s.2.2.1))) (c_yd_copyFrom s.2.2.2.2.1.2.2.1 s.2.2.1 q42 hc42) lkX11_83 1 dpX10_copyFrom (by decide) (rest := []) rfl rfl rfl rfl rfl rfl rfl rfl rfl rfl rfl (st2 := []) (h2 := (hSo yr (s.1, s.2.1, s.2.2.1, s.2.2.2.1, (1, q31, q42, s.2.2.2.2.1.2.2.2), s.2.2.2.2.2.1, s.2.2.2.2.2.2.1, s.2.2.2.2.2.2.2.1, s.2.2.2.2.2.2.2.2.1, s.2.2.2.2.2.2.2.2.2))) rfl rfl ?_
      refine MW_run C okX11_image 24 4 (gs := []) (cf' := (53, [some (.ref 0), some (.int x1), some (.ref 24)], [.ref 19, .ref 41], (hSo yr (s.1, s.2.1, s.2.2.1, s.2.2.2.1, (1, q31, q42, s.2.2.2.2.1.2.2.2), s.2.2.2.2.2.1, s.2.2.2.2.2.2.1, s.2.2.2.2.2.2.2.1, s.2.2.2.2.2.2.2.2.1, s.2.2.2.2.2.2.2.2.2)), 0, 0)) rfl trivial ?_
      obtain ⟨q53, hc53, hm⟩ := of_bind hm
      refine MW_callV1 C okX11_image 28 rfl [41, 42, 43, 44, 45, 19, 20, 21, 22, 23] (v0 := none) (h0 := (hPy 0 q53 ++ (hPy 5 s.2.2.2.1))) (c_py_copyFrom s.2.2.2.2.1.2.2.2 s.2.2.2.1 q53 hc53) lkX11_270 1 dpX5_copyFrom (by decide) (rest := []) rfl rfl rfl rfl rfl rfl rfl rfl rfl rfl rfl (st2 := []) (h2 := (hSo yr (s.1, s.2.1, s.2.2.1, s.2.2.2.1, (1, q31, q42, q53), s.2.2.2.2.2.1, s.2.2.2.2.2.2.1, s.2.2.2.2.2.2.2.1, s.2.2.2.2.2.2.2.2.1, s.2.2.2.2.2.2.2.2.2))) rfl rfl ?_
      refine MW_run C okX11_image 29 1 (gs := []) (cf' := (57, [some (.ref 0), some (.int x1), some (.ref 24)], [.int 1], (hSo yr (s.1, s.2.1, s.2.2.1, s.2.2.2.1, (1, q31, q42, q53), s.2.2.2.2.2.1, s.2.2.2.2.2.2.1, s.2.2.2.2.2.2.2.1, s.2.2.2.2.2.2.2.2.1, s.2.2.2.2.2.2.2.2.2)), 0, 0)) rfl trivial ?_
      obtain rfl := Option.some.inj hm
      exact MW_iret C okX11_image hq 30 rfl hp
theorem c_so_image0 (s : SoS) (yr : Nat) (x1 : Int32)  (hn : x1 = 0)(out : Int32 × SoS) (hm : so_image0 s yr x1 = some out) : CT yX11_image cX11_image 3 (some .int) 4 90 0 0 [.ref 0, .int x1] (hSo yr s) (fun v h => v = (some (.int out.1)) ∧ h = (hSo yr out.2)) :=
  CT_of (by decide +kernel) (vs0 := [some (.ref 0), some (.int x1), none]) rfl rfl (fun X C hq => t_so_image0 C hq s yr x1 hn out hm ⟨rfl, rfl⟩)
/-! C: so_image1 -/
def so_image1 (s : SoS) (yr : Nat) (x1 : Int32) : Option (Int32 × SoS) :=
  if x1 < 0 then
    some ((-2), s)
  else
    if (1 : Int32) < x1 then
      some ((-2), s)
    else
      (yd_copyFrom s.2.2.2.2.2.1.2.1 s.2.1).bind fun q31 =>
        (yd_copyFrom s.2.2.2.2.2.1.2.2.1 s.2.2.1).bind fun q42 =>
          (py_copyFrom s.2.2.2.2.2.1.2.2.2 s.2.2.2.1).bind fun q53 =>
            some (1, (s.1, s.2.1, s.2.2.1, s.2.2.2.1, s.2.2.2.2.1, (1, q31, q42, q53), s.2.2.2.2.2.2.1, s.2.2.2.2.2.2.2.1, s.2.2.2.2.2.2.2.2.1, s.2.2.2.2.2.2.2.2.2))
set_option maxRecDepth 100000 in
set_option maxHeartbeats 1000000 in
theorem t_so_image1 {X : CTX} {K : Option Value → AH → Prop} (C : CX X cX11_image yX11_image.cls (decide (yX11_image.name = "<init>")) 4 90) (hq : RQ X (some .int) K) (s : SoS) (yr : Nat) (x1 : Int32)  (hn : ¬ x1 = 0)(out : Int32 × SoS) (hm : so_image1 s yr x1 = some out) (hp : K (some (.int out.1)) (hSo yr out.2)) : MW X (0, [some (.ref 0), some (.int x1), none], [], (hSo yr s), 0, 0) := by
  unfold so_image1 at hm
  refine MW_run C okX11_image 0 1 (gs := []) (cf' := (1, [some (.ref 0), some (.int x1), none], [.int x1], (hSo yr s), 0, 0)) rfl trivial ?_
  obtain ⟨hmt1, hmf1⟩ := of_if hm
  refine MW_brT C okX11_image 1 rfl rfl (fun hb1 => ?_) (fun hb1 => ?_)
  · have hm := hmt1 hb1
    refine MW_run C okX11_image 5 1 (gs := []) (cf' := (11, [some (.ref 0), some (.int x1), none], [.int (-2)], (hSo yr s), 0, 0)) rfl trivial ?_
    obtain rfl := Option.some.inj hm
    exact MW_iret C okX11_image hq 6 rfl hp
  · have hm := hmf1 hb1
    refine MW_run C okX11_image 2 2 (gs := []) (cf' := (6, [some (.ref 0), some (.int x1), none], [.int 1, .int x1], (hSo yr s), 0, 0)) rfl trivial ?_
    obtain ⟨hmt6, hmf6⟩ := of_if hm
    refine MW_brF C okX11_image 4 rfl rfl (fun hb6 => ?_) (fun hb6 => ?_)
    · have hm := hmt6 hb6
      refine MW_run C okX11_image 5 1 (gs := []) (cf' := (11, [some (.ref 0), some (.int x1), none], [.int (-2)], (hSo yr s), 0, 0)) rfl trivial ?_
      obtain rfl := Option.some.inj hm
      exact MW_iret C okX11_image hq 6 rfl hp
    · have hm := hmf6 hb6
      refine MW_run C okX11_image 7 2 (gs := []) (cf' := (14, [some (.ref 0), some (.int x1), none], [.int x1, .ref 0], (hSo yr s), 0, 0)) rfl trivial ?_
      refine MW_callV0 C okX11_image 9 rfl (v0 := some (.ref 46)) (h0 := (hSo yr s)) (c_so_imageAt s yr x1 46 (im_at_46 hn)) lkX11_260 1 dpX11_imageAt (by decide) (rest := []) rfl rfl rfl rfl rfl rfl rfl rfl ?_
      refine MW_eq (cf' := (17, [some (.ref 0), some (.int x1), none], [.ref 46], (hSo yr s), 0, 0)) rfl ?_
      refine MW_run C okX11_image 10 8 (gs := [isZ 1]) (cf' := (31, [some (.ref 0), some (.int x1), some (.ref 46)], [.ref 3, .ref 47], (hSo yr (s.1, s.2.1, s.2.2.1, s.2.2.2.1, s.2.2.2.2.1, (1, s.2.2.2.2.2.1.2.1, s.2.2.2.2.2.1.2.2.1, s.2.2.2.2.2.1.2.2.2), s.2.2.2.2.2.2.1, s.2.2.2.2.2.2.2.1, s.2.2.2.2.2.2.2.2.1, s.2.2.2.2.2.2.2.2.2)), 0, 0)) rfl (show isZ 1 by decide) ?_
      obtain ⟨q31, hc31, hm⟩ := of_bind hm
      refine MW_callV1 C okX11_image 18 rfl [47, 48, 49, 50, 51, 52, 53, 54, 3, 4, 5, 6, 7, 8, 9, 10] (v0 := none) (h0 := (hYd 0 q31 ++ (hYd 8 s.2.1))) (c_yd_copyFrom s.2.2.2.2.2.1.2.1 s.2.1 q31 hc31) lkX11_83 1 dpX10_copyFrom (by decide) (rest := []) rfl rfl rfl rfl rfl rfl rfl rfl rfl rfl rfl (st2 := []) (h2 := (hSo yr (s.1, s.2.1, s.2.2.1, s.2.2.2.1, s.2.2.2.2.1, (1, q31, s.2.2.2.2.2.1.2.2.1, s.2.2.2.2.2.1.2.2.2), s.2.2.2.2.2.2.1, s.2.2.2.2.2.2.2.1, s.2.2.2.2.2.2.2.2.1, s.2.2.2.2.2.2.2.2.2))) rfl rfl ?_
      refine MW_run C okX11_image 19 4 (gs := []) (cf' := (42, [some (.ref 0), some (.int x1), some (.ref 46)], [.ref 11, .ref 55], (hSo yr (s.1, s.2.1, s.2.2.1, s.2.2.2.1, s.2.2.2.2.1, (1, q31, s.2.2.2.2.2.1.2.2.1, s.2.2.2.2.2.1.2.2.2), s.2.2.2.2.2.2.1, s.2.2.2.2.2.2.2.1, s.2.2.2.2.2.2.2.2.1, s.2.2.2.2.2.2.2.2.2)), 0, 0)) rfl trivial ?_
      obtain ⟨q42, hc42, hm⟩ := of_bind hm
      refine MW_callV1 C okX11_image 23 rfl [55, 56, 57, 58, 59, 60, 61, 62, 11, 12, 13, 14, 15, 16, 17, 18] (v0 := none) (h0 := (hYd 0 q42 ++ (hYd 8 s.2.2.1))) (c_yd_copyFrom s.2.2.2.2.2.1.2.2.1 s.2.2.1 q42 hc42) lkX11_83 1 dpX10_copyFrom (by decide) (rest := []) rfl rfl rfl rfl rfl rfl rfl rfl rfl rfl rfl (st2 := []) (h2 := (hSo yr (s.1, s.2.1, s.2.2.1, s.2.2.2.1, s.2.2.2.2.1, (1, q31, q42, s.2.2.2.2.2.1.2.2.2), s.2.2.2.2.2.2.1, s.2.2.2.2.2.2.2.1, s.2.2.2.2.2.2.2.2.1, s.2.2.2.2.2.2.2.2.2))) rfl rfl ?_
      refine MW_run C okX11_image 24 4 (gs := []) (cf' := (53, [some (.ref 0), some (.int x1), some (.ref 46)], [.ref 19, .ref 63], (hSo yr (s.1, s.2.1, s.2.2.1, s.2.2.2.1, s.2.2.2.2.1, (1, q31, q42, s.2.2.2.2.2.1.2.2.2), s.2.2.2.2.2.2.1, s.2.2.2.2.2.2.2.1, s.2.2.2.2.2.2.2.2.1, s.2.2.2.2.2.2.2.2.2)), 0, 0)) rfl trivial ?_
      obtain ⟨q53, hc53, hm⟩ := of_bind hm
      refine MW_callV1 C okX11_image 28 rfl [63, 64, 65, 66, 67, 19, 20, 21, 22, 23] (v0 := none) (h0 := (hPy 0 q53 ++ (hPy 5 s.2.2.2.1))) (c_py_copyFrom s.2.2.2.2.2.1.2.2.2 s.2.2.2.1 q53 hc53) lkX11_270 1 dpX5_copyFrom (by decide) (rest := []) rfl rfl rfl rfl rfl rfl rfl rfl rfl rfl rfl (st2 := []) (h2 := (hSo yr (s.1, s.2.1, s.2.2.1, s.2.2.2.1, s.2.2.2.2.1, (1, q31, q42, q53), s.2.2.2.2.2.2.1, s.2.2.2.2.2.2.2.1, s.2.2.2.2.2.2.2.2.1, s.2.2.2.2.2.2.2.2.2))) rfl rfl ?_
      refine MW_run C okX11_image 29 1 (gs := []) (cf' := (57, [some (.ref 0), some (.int x1), some (.ref 46)], [.int 1], (hSo yr (s.1, s.2.1, s.2.2.1, s.2.2.2.1, s.2.2.2.2.1, (1, q31, q42, q53), s.2.2.2.2.2.2.1, s.2.2.2.2.2.2.2.1, s.2.2.2.2.2.2.2.2.1, s.2.2.2.2.2.2.2.2.2)), 0, 0)) rfl trivial ?_
      obtain rfl := Option.some.inj hm
      exact MW_iret C okX11_image hq 30 rfl hp
theorem c_so_image1 (s : SoS) (yr : Nat) (x1 : Int32)  (hn : ¬ x1 = 0)(out : Int32 × SoS) (hm : so_image1 s yr x1 = some out) : CT yX11_image cX11_image 3 (some .int) 4 90 0 0 [.ref 0, .int x1] (hSo yr s) (fun v h => v = (some (.int out.1)) ∧ h = (hSo yr out.2)) :=
  CT_of (by decide +kernel) (vs0 := [some (.ref 0), some (.int x1), none]) rfl rfl (fun X C hq => t_so_image1 C hq s yr x1 hn out hm ⟨rfl, rfl⟩)
/-! C: so_restore0 -/
def so_restore0 (s : SoS) (yr : Nat) (x1 : Int32) : Option (Int32 × SoS) :=
  if x1 < 0 then
    some ((-2), s)
  else
    if (1 : Int32) < x1 then
      some ((-2), s)
    else
      if s.2.2.2.2.1.1 = 0 then
        some ((-3), s)
      else
        (yd_copyFrom s.2.1 s.2.2.2.2.1.2.1).bind fun q36 =>
          (yd_copyFrom s.2.2.1 s.2.2.2.2.1.2.2.1).bind fun q47 =>
            (py_copyFrom s.2.2.2.1 s.2.2.2.2.1.2.2.2).bind fun q58 =>
              (so_forgetFindings (s.1, q36, q47, q58, s.2.2.2.2.1, s.2.2.2.2.2.1, s.2.2.2.2.2.2.1, s.2.2.2.2.2.2.2.1, s.2.2.2.2.2.2.2.2.1, s.2.2.2.2.2.2.2.2.2) yr).bind fun q62 =>
                some (1, q62)
set_option maxRecDepth 100000 in
set_option maxHeartbeats 1000000 in
theorem t_so_restore0 {X : CTX} {K : Option Value → AH → Prop} (C : CX X cX11_restore yX11_restore.cls (decide (yX11_restore.name = "<init>")) 4 90) (hq : RQ X (some .int) K) (s : SoS) (yr : Nat) (x1 : Int32)  (hn : x1 = 0)(out : Int32 × SoS) (hm : so_restore0 s yr x1 = some out) (hp : K (some (.int out.1)) (hSo yr out.2)) : MW X (0, [some (.ref 0), some (.int x1), none], [], (hSo yr s), 0, 0) := by
  unfold so_restore0 at hm
  refine MW_run C okX11_restore 0 1 (gs := []) (cf' := (1, [some (.ref 0), some (.int x1), none], [.int x1], (hSo yr s), 0, 0)) rfl trivial ?_
  obtain ⟨hmt1, hmf1⟩ := of_if hm
  refine MW_brT C okX11_restore 1 rfl rfl (fun hb1 => ?_) (fun hb1 => ?_)
  · have hm := hmt1 hb1
    refine MW_run C okX11_restore 5 1 (gs := []) (cf' := (11, [some (.ref 0), some (.int x1), none], [.int (-2)], (hSo yr s), 0, 0)) rfl trivial ?_
    obtain rfl := Option.some.inj hm
    exact MW_iret C okX11_restore hq 6 rfl hp
  · have hm := hmf1 hb1
    refine MW_run C okX11_restore 2 2 (gs := []) (cf' := (6, [some (.ref 0), some (.int x1), none], [.int 1, .int x1], (hSo yr s), 0, 0)) rfl trivial ?_
    obtain ⟨hmt6, hmf6⟩ := of_if hm
    refine MW_brF C okX11_restore 4 rfl rfl (fun hb6 => ?_) (fun hb6 => ?_)
    · have hm := hmt6 hb6
      refine MW_run C okX11_restore 5 1 (gs := []) (cf' := (11, [some (.ref 0), some (.int x1), none], [.int (-2)], (hSo yr s), 0, 0)) rfl trivial ?_
      obtain rfl := Option.some.inj hm
      exact MW_iret C okX11_restore hq 6 rfl hp
    · have hm := hmf6 hb6
      refine MW_run C okX11_restore 7 2 (gs := []) (cf' := (14, [some (.ref 0), some (.int x1), none], [.int x1, .ref 0], (hSo yr s), 0, 0)) rfl trivial ?_
      refine MW_callV0 C okX11_restore 9 rfl (v0 := some (.ref 24)) (h0 := (hSo yr s)) (c_so_imageAt s yr x1 24 (im_at_24 hn)) lkX11_260 1 dpX11_imageAt (by decide) (rest := []) rfl rfl rfl rfl rfl rfl rfl rfl ?_
      refine MW_eq (cf' := (17, [some (.ref 0), some (.int x1), none], [.ref 24], (hSo yr s), 0, 0)) rfl ?_
      refine MW_run C okX11_restore 10 3 (gs := []) (cf' := (22, [some (.ref 0), some (.int x1), some (.ref 24)], [.int s.2.2.2.2.1.1], (hSo yr s), 0, 0)) rfl trivial ?_
      obtain ⟨hmt22, hmf22⟩ := of_if hm
      refine MW_brF C okX11_restore 13 rfl rfl (fun hb22 => ?_) (fun hb22 => ?_)
      · have hm := hmt22 hb22
        refine MW_run C okX11_restore 14 1 (gs := []) (cf' := (27, [some (.ref 0), some (.int x1), some (.ref 24)], [.int (-3)], (hSo yr s), 0, 0)) rfl trivial ?_
        obtain rfl := Option.some.inj hm
        exact MW_iret C okX11_restore hq 15 rfl hp
      · have hm := hmf22 hb22
        refine MW_run C okX11_restore 16 4 (gs := []) (cf' := (36, [some (.ref 0), some (.int x1), some (.ref 24)], [.ref 25, .ref 3], (hSo yr s), 0, 0)) rfl trivial ?_
        obtain ⟨q36, hc36, hm⟩ := of_bind hm
        refine MW_callV1 C okX11_restore 20 rfl [3, 4, 5, 6, 7, 8, 9, 10, 25, 26, 27, 28, 29, 30, 31, 32] (v0 := none) (h0 := (hYd 0 q36 ++ (hYd 8 s.2.2.2.2.1.2.1))) (c_yd_copyFrom s.2.1 s.2.2.2.2.1.2.1 q36 hc36) lkX11_83 1 dpX10_copyFrom (by decide) (rest := []) rfl rfl rfl rfl rfl rfl rfl rfl rfl rfl rfl (st2 := []) (h2 := (hSo yr (s.1, q36, s.2.2.1, s.2.2.2.1, s.2.2.2.2.1, s.2.2.2.2.2.1, s.2.2.2.2.2.2.1, s.2.2.2.2.2.2.2.1, s.2.2.2.2.2.2.2.2.1, s.2.2.2.2.2.2.2.2.2))) rfl rfl ?_
        refine MW_run C okX11_restore 21 4 (gs := []) (cf' := (47, [some (.ref 0), some (.int x1), some (.ref 24)], [.ref 33, .ref 11], (hSo yr (s.1, q36, s.2.2.1, s.2.2.2.1, s.2.2.2.2.1, s.2.2.2.2.2.1, s.2.2.2.2.2.2.1, s.2.2.2.2.2.2.2.1, s.2.2.2.2.2.2.2.2.1, s.2.2.2.2.2.2.2.2.2)), 0, 0)) rfl trivial ?_
        obtain ⟨q47, hc47, hm⟩ := of_bind hm
        refine MW_callV1 C okX11_restore 25 rfl [11, 12, 13, 14, 15, 16, 17, 18, 33, 34, 35, 36, 37, 38, 39, 40] (v0 := none) (h0 := (hYd 0 q47 ++ (hYd 8 s.2.2.2.2.1.2.2.1))) (c_yd_copyFrom s.2.2.1 s.2.2.2.2.1.2.2.1 q47 hc47) lkX11_83 1 dpX10_copyFrom (by decide) (rest := []) rfl rfl rfl rfl rfl rfl rfl rfl rfl rfl rfl (st2 := []) (h2 := (hSo yr (s.1, q36, q47, s.2.2.2.1, s.2.2.2.2.1, s.2.2.2.2.2.1, s.2.2.2.2.2.2.1, s.2.2.2.2.2.2.2.1, s.2.2.2.2.2.2.2.2.1, s.2.2.2.2.2.2.2.2.2))) rfl rfl ?_
        refine MW_run C okX11_restore 26 4 (gs := []) (cf' := (58, [some (.ref 0), some (.int x1), some (.ref 24)], [.ref 41, .ref 19], (hSo yr (s.1, q36, q47, s.2.2.2.1, s.2.2.2.2.1, s.2.2.2.2.2.1, s.2.2.2.2.2.2.1, s.2.2.2.2.2.2.2.1, s.2.2.2.2.2.2.2.2.1, s.2.2.2.2.2.2.2.2.2)), 0, 0)) rfl trivial ?_
        obtain ⟨q58, hc58, hm⟩ := of_bind hm
        refine MW_callV1 C okX11_restore 30 rfl [19, 20, 21, 22, 23, 41, 42, 43, 44, 45] (v0 := none) (h0 := (hPy 0 q58 ++ (hPy 5 s.2.2.2.2.1.2.2.2))) (c_py_copyFrom s.2.2.2.1 s.2.2.2.2.1.2.2.2 q58 hc58) lkX11_270 1 dpX5_copyFrom (by decide) (rest := []) rfl rfl rfl rfl rfl rfl rfl rfl rfl rfl rfl (st2 := []) (h2 := (hSo yr (s.1, q36, q47, q58, s.2.2.2.2.1, s.2.2.2.2.2.1, s.2.2.2.2.2.2.1, s.2.2.2.2.2.2.2.1, s.2.2.2.2.2.2.2.2.1, s.2.2.2.2.2.2.2.2.2))) rfl rfl ?_
        refine MW_run C okX11_restore 31 1 (gs := []) (cf' := (62, [some (.ref 0), some (.int x1), some (.ref 24)], [.ref 0], (hSo yr (s.1, q36, q47, q58, s.2.2.2.2.1, s.2.2.2.2.2.1, s.2.2.2.2.2.2.1, s.2.2.2.2.2.2.2.1, s.2.2.2.2.2.2.2.2.1, s.2.2.2.2.2.2.2.2.2)), 0, 0)) rfl trivial ?_
        obtain ⟨q62, hc62, hm⟩ := of_bind hm
        refine MW_callV0 C okX11_restore 32 rfl (v0 := none) (h0 := (hSo yr q62)) (c_so_forgetFindings (s.1, q36, q47, q58, s.2.2.2.2.1, s.2.2.2.2.2.1, s.2.2.2.2.2.2.1, s.2.2.2.2.2.2.2.1, s.2.2.2.2.2.2.2.2.1, s.2.2.2.2.2.2.2.2.2) yr q62 hc62) lkX11_98 0 dpX11_forgetFindings (by decide) (rest := []) rfl rfl rfl rfl rfl rfl rfl rfl ?_
        refine MW_run C okX11_restore 33 1 (gs := []) (cf' := (66, [some (.ref 0), some (.int x1), some (.ref 24)], [.int 1], (hSo yr q62), 0, 0)) rfl trivial ?_
        obtain rfl := Option.some.inj hm
        exact MW_iret C okX11_restore hq 34 rfl hp
theorem c_so_restore0 (s : SoS) (yr : Nat) (x1 : Int32)  (hn : x1 = 0)(out : Int32 × SoS) (hm : so_restore0 s yr x1 = some out) : CT yX11_restore cX11_restore 3 (some .int) 4 90 0 0 [.ref 0, .int x1] (hSo yr s) (fun v h => v = (some (.int out.1)) ∧ h = (hSo yr out.2)) :=
  CT_of (by decide +kernel) (vs0 := [some (.ref 0), some (.int x1), none]) rfl rfl (fun X C hq => t_so_restore0 C hq s yr x1 hn out hm ⟨rfl, rfl⟩)
/-! C: so_restore1 -/
def so_restore1 (s : SoS) (yr : Nat) (x1 : Int32) : Option (Int32 × SoS) :=
  if x1 < 0 then
    some ((-2), s)
  else
    if (1 : Int32) < x1 then
      some ((-2), s)
    else
      if s.2.2.2.2.2.1.1 = 0 then
        some ((-3), s)
      else
        (yd_copyFrom s.2.1 s.2.2.2.2.2.1.2.1).bind fun q36 =>
          (yd_copyFrom s.2.2.1 s.2.2.2.2.2.1.2.2.1).bind fun q47 =>
            (py_copyFrom s.2.2.2.1 s.2.2.2.2.2.1.2.2.2).bind fun q58 =>
              (so_forgetFindings (s.1, q36, q47, q58, s.2.2.2.2.1, s.2.2.2.2.2.1, s.2.2.2.2.2.2.1, s.2.2.2.2.2.2.2.1, s.2.2.2.2.2.2.2.2.1, s.2.2.2.2.2.2.2.2.2) yr).bind fun q62 =>
                some (1, q62)
set_option maxRecDepth 100000 in
set_option maxHeartbeats 1000000 in
theorem t_so_restore1 {X : CTX} {K : Option Value → AH → Prop} (C : CX X cX11_restore yX11_restore.cls (decide (yX11_restore.name = "<init>")) 4 90) (hq : RQ X (some .int) K) (s : SoS) (yr : Nat) (x1 : Int32)  (hn : ¬ x1 = 0)(out : Int32 × SoS) (hm : so_restore1 s yr x1 = some out) (hp : K (some (.int out.1)) (hSo yr out.2)) : MW X (0, [some (.ref 0), some (.int x1), none], [], (hSo yr s), 0, 0) := by
  unfold so_restore1 at hm
  refine MW_run C okX11_restore 0 1 (gs := []) (cf' := (1, [some (.ref 0), some (.int x1), none], [.int x1], (hSo yr s), 0, 0)) rfl trivial ?_
  obtain ⟨hmt1, hmf1⟩ := of_if hm
  refine MW_brT C okX11_restore 1 rfl rfl (fun hb1 => ?_) (fun hb1 => ?_)
  · have hm := hmt1 hb1
    refine MW_run C okX11_restore 5 1 (gs := []) (cf' := (11, [some (.ref 0), some (.int x1), none], [.int (-2)], (hSo yr s), 0, 0)) rfl trivial ?_
    obtain rfl := Option.some.inj hm
    exact MW_iret C okX11_restore hq 6 rfl hp
  · have hm := hmf1 hb1
    refine MW_run C okX11_restore 2 2 (gs := []) (cf' := (6, [some (.ref 0), some (.int x1), none], [.int 1, .int x1], (hSo yr s), 0, 0)) rfl trivial ?_
    obtain ⟨hmt6, hmf6⟩ := of_if hm
    refine MW_brF C okX11_restore 4 rfl rfl (fun hb6 => ?_) (fun hb6 => ?_)
    · have hm := hmt6 hb6
      refine MW_run C okX11_restore 5 1 (gs := []) (cf' := (11, [some (.ref 0), some (.int x1), none], [.int (-2)], (hSo yr s), 0, 0)) rfl trivial ?_
      obtain rfl := Option.some.inj hm
      exact MW_iret C okX11_restore hq 6 rfl hp
    · have hm := hmf6 hb6
      refine MW_run C okX11_restore 7 2 (gs := []) (cf' := (14, [some (.ref 0), some (.int x1), none], [.int x1, .ref 0], (hSo yr s), 0, 0)) rfl trivial ?_
      refine MW_callV0 C okX11_restore 9 rfl (v0 := some (.ref 46)) (h0 := (hSo yr s)) (c_so_imageAt s yr x1 46 (im_at_46 hn)) lkX11_260 1 dpX11_imageAt (by decide) (rest := []) rfl rfl rfl rfl rfl rfl rfl rfl ?_
      refine MW_eq (cf' := (17, [some (.ref 0), some (.int x1), none], [.ref 46], (hSo yr s), 0, 0)) rfl ?_
      refine MW_run C okX11_restore 10 3 (gs := []) (cf' := (22, [some (.ref 0), some (.int x1), some (.ref 46)], [.int s.2.2.2.2.2.1.1], (hSo yr s), 0, 0)) rfl trivial ?_
      obtain ⟨hmt22, hmf22⟩ := of_if hm
      refine MW_brF C okX11_restore 13 rfl rfl (fun hb22 => ?_) (fun hb22 => ?_)
      · have hm := hmt22 hb22
        refine MW_run C okX11_restore 14 1 (gs := []) (cf' := (27, [some (.ref 0), some (.int x1), some (.ref 46)], [.int (-3)], (hSo yr s), 0, 0)) rfl trivial ?_
        obtain rfl := Option.some.inj hm
        exact MW_iret C okX11_restore hq 15 rfl hp
      · have hm := hmf22 hb22
        refine MW_run C okX11_restore 16 4 (gs := []) (cf' := (36, [some (.ref 0), some (.int x1), some (.ref 46)], [.ref 47, .ref 3], (hSo yr s), 0, 0)) rfl trivial ?_
        obtain ⟨q36, hc36, hm⟩ := of_bind hm
        refine MW_callV1 C okX11_restore 20 rfl [3, 4, 5, 6, 7, 8, 9, 10, 47, 48, 49, 50, 51, 52, 53, 54] (v0 := none) (h0 := (hYd 0 q36 ++ (hYd 8 s.2.2.2.2.2.1.2.1))) (c_yd_copyFrom s.2.1 s.2.2.2.2.2.1.2.1 q36 hc36) lkX11_83 1 dpX10_copyFrom (by decide) (rest := []) rfl rfl rfl rfl rfl rfl rfl rfl rfl rfl rfl (st2 := []) (h2 := (hSo yr (s.1, q36, s.2.2.1, s.2.2.2.1, s.2.2.2.2.1, s.2.2.2.2.2.1, s.2.2.2.2.2.2.1, s.2.2.2.2.2.2.2.1, s.2.2.2.2.2.2.2.2.1, s.2.2.2.2.2.2.2.2.2))) rfl rfl ?_
        refine MW_run C okX11_restore 21 4 (gs := []) (cf' := (47, [some (.ref 0), some (.int x1), some (.ref 46)], [.ref 55, .ref 11], (hSo yr (s.1, q36, s.2.2.1, s.2.2.2.1, s.2.2.2.2.1, s.2.2.2.2.2.1, s.2.2.2.2.2.2.1, s.2.2.2.2.2.2.2.1, s.2.2.2.2.2.2.2.2.1, s.2.2.2.2.2.2.2.2.2)), 0, 0)) rfl trivial ?_
        obtain ⟨q47, hc47, hm⟩ := of_bind hm
        refine MW_callV1 C okX11_restore 25 rfl [11, 12, 13, 14, 15, 16, 17, 18, 55, 56, 57, 58, 59, 60, 61, 62] (v0 := none) (h0 := (hYd 0 q47 ++ (hYd 8 s.2.2.2.2.2.1.2.2.1))) (c_yd_copyFrom s.2.2.1 s.2.2.2.2.2.1.2.2.1 q47 hc47) lkX11_83 1 dpX10_copyFrom (by decide) (rest := []) rfl rfl rfl rfl rfl rfl rfl rfl rfl rfl rfl (st2 := []) (h2 := (hSo yr (s.1, q36, q47, s.2.2.2.1, s.2.2.2.2.1, s.2.2.2.2.2.1, s.2.2.2.2.2.2.1, s.2.2.2.2.2.2.2.1, s.2.2.2.2.2.2.2.2.1, s.2.2.2.2.2.2.2.2.2))) rfl rfl ?_
        refine MW_run C okX11_restore 26 4 (gs := []) (cf' := (58, [some (.ref 0), some (.int x1), some (.ref 46)], [.ref 63, .ref 19], (hSo yr (s.1, q36, q47, s.2.2.2.1, s.2.2.2.2.1, s.2.2.2.2.2.1, s.2.2.2.2.2.2.1, s.2.2.2.2.2.2.2.1, s.2.2.2.2.2.2.2.2.1, s.2.2.2.2.2.2.2.2.2)), 0, 0)) rfl trivial ?_
        obtain ⟨q58, hc58, hm⟩ := of_bind hm
        refine MW_callV1 C okX11_restore 30 rfl [19, 20, 21, 22, 23, 63, 64, 65, 66, 67] (v0 := none) (h0 := (hPy 0 q58 ++ (hPy 5 s.2.2.2.2.2.1.2.2.2))) (c_py_copyFrom s.2.2.2.1 s.2.2.2.2.2.1.2.2.2 q58 hc58) lkX11_270 1 dpX5_copyFrom (by decide) (rest := []) rfl rfl rfl rfl rfl rfl rfl rfl rfl rfl rfl (st2 := []) (h2 := (hSo yr (s.1, q36, q47, q58, s.2.2.2.2.1, s.2.2.2.2.2.1, s.2.2.2.2.2.2.1, s.2.2.2.2.2.2.2.1, s.2.2.2.2.2.2.2.2.1, s.2.2.2.2.2.2.2.2.2))) rfl rfl ?_
        refine MW_run C okX11_restore 31 1 (gs := []) (cf' := (62, [some (.ref 0), some (.int x1), some (.ref 46)], [.ref 0], (hSo yr (s.1, q36, q47, q58, s.2.2.2.2.1, s.2.2.2.2.2.1, s.2.2.2.2.2.2.1, s.2.2.2.2.2.2.2.1, s.2.2.2.2.2.2.2.2.1, s.2.2.2.2.2.2.2.2.2)), 0, 0)) rfl trivial ?_
        obtain ⟨q62, hc62, hm⟩ := of_bind hm
        refine MW_callV0 C okX11_restore 32 rfl (v0 := none) (h0 := (hSo yr q62)) (c_so_forgetFindings (s.1, q36, q47, q58, s.2.2.2.2.1, s.2.2.2.2.2.1, s.2.2.2.2.2.2.1, s.2.2.2.2.2.2.2.1, s.2.2.2.2.2.2.2.2.1, s.2.2.2.2.2.2.2.2.2) yr q62 hc62) lkX11_98 0 dpX11_forgetFindings (by decide) (rest := []) rfl rfl rfl rfl rfl rfl rfl rfl ?_
        refine MW_run C okX11_restore 33 1 (gs := []) (cf' := (66, [some (.ref 0), some (.int x1), some (.ref 46)], [.int 1], (hSo yr q62), 0, 0)) rfl trivial ?_
        obtain rfl := Option.some.inj hm
        exact MW_iret C okX11_restore hq 34 rfl hp
theorem c_so_restore1 (s : SoS) (yr : Nat) (x1 : Int32)  (hn : ¬ x1 = 0)(out : Int32 × SoS) (hm : so_restore1 s yr x1 = some out) : CT yX11_restore cX11_restore 3 (some .int) 4 90 0 0 [.ref 0, .int x1] (hSo yr s) (fun v h => v = (some (.int out.1)) ∧ h = (hSo yr out.2)) :=
  CT_of (by decide +kernel) (vs0 := [some (.ref 0), some (.int x1), none]) rfl rfl (fun X C hq => t_so_restore1 C hq s yr x1 hn out hm ⟨rfl, rfl⟩)
/-! C: so_told -/
def so_told (s : SoS) (yr : Nat) (x1 : Int32) : Option (Int32) :=
  if x1 = 0 then
    some s.1.2
  else if x1 = 1 then
    some s.2.1.1
  else if x1 = 2 then
    some s.2.1.2.1
  else if x1 = 3 then
    if s.2.2.2.1.1 = 0 then
      some (-6)
    else
      some s.2.2.2.1.2.2.2.2.1
  else if x1 = 4 then
    some s.2.2.1.1
  else
    some (-2)
set_option maxRecDepth 100000 in
set_option maxHeartbeats 1000000 in
theorem t_so_told {X : CTX} {K : Option Value → AH → Prop} (C : CX X cX11_told yX11_told.cls (decide (yX11_told.name = "<init>")) 0 0) (hq : RQ X (some .int) K) (s : SoS) (yr : Nat) (x1 : Int32) (out : Int32) (hm : so_told s yr x1 = some out) (hp : K (some (.int out)) (hSo yr s)) : MW X (0, [some (.ref 0), some (.int x1)], [], (hSo yr s), 0, 0) := by
  unfold so_told at hm
  refine MW_run C okX11_told 0 1 (gs := []) (cf' := (1, [some (.ref 0), some (.int x1)], [.int x1], (hSo yr s), 0, 0)) rfl trivial ?_
  refine MW_tsw C okX11_told 1 rfl (tgts := [36, 44, 52, 60, 83]) (dt := 91) (by decide) (fun j t hj hx => ?_) (fun hx => ?_)
  · match j, hj with
    | 0, hj =>
      cases hj
      have hm := (of_if hm).1 (by rw [hx]; rfl)
      refine MW_run C okX11_told 2 3 (gs := []) (cf' := (43, [some (.ref 0), some (.int x1)], [.int s.1.2], (hSo yr s), 0, 0)) rfl trivial ?_
      obtain rfl := Option.some.inj hm
      exact MW_iret C okX11_told hq 5 rfl hp
    | 1, hj =>
      cases hj
      have hm := (of_if hm).2 (by rw [hx]; decide)
      have hm := (of_if hm).1 (by rw [hx]; rfl)
      refine MW_run C okX11_told 6 3 (gs := []) (cf' := (51, [some (.ref 0), some (.int x1)], [.int s.2.1.1], (hSo yr s), 0, 0)) rfl trivial ?_
      obtain rfl := Option.some.inj hm
      exact MW_iret C okX11_told hq 9 rfl hp
    | 2, hj =>
      cases hj
      have hm := (of_if hm).2 (by rw [hx]; decide)
      have hm := (of_if hm).2 (by rw [hx]; decide)
      have hm := (of_if hm).1 (by rw [hx]; rfl)
      refine MW_run C okX11_told 10 3 (gs := []) (cf' := (59, [some (.ref 0), some (.int x1)], [.int s.2.1.2.1], (hSo yr s), 0, 0)) rfl trivial ?_
      obtain rfl := Option.some.inj hm
      exact MW_iret C okX11_told hq 13 rfl hp
    | 3, hj =>
      cases hj
      have hm := (of_if hm).2 (by rw [hx]; decide)
      have hm := (of_if hm).2 (by rw [hx]; decide)
      have hm := (of_if hm).2 (by rw [hx]; decide)
      have hm := (of_if hm).1 (by rw [hx]; rfl)
      refine MW_run C okX11_told 14 3 (gs := []) (cf' := (67, [some (.ref 0), some (.int x1)], [.int s.2.2.2.1.1], (hSo yr s), 0, 0)) rfl trivial ?_
      obtain ⟨hmt67, hmf67⟩ := of_if hm
      refine MW_brT C okX11_told 17 rfl rfl (fun hb67 => ?_) (fun hb67 => ?_)
      · have hm := hmt67 hb67
        refine MW_run C okX11_told 22 1 (gs := []) (cf' := (82, [some (.ref 0), some (.int x1)], [.int (-6)], (hSo yr s), 0, 0)) rfl trivial ?_
        obtain rfl := Option.some.inj hm
        exact MW_iret C okX11_told hq 23 rfl hp
      · have hm := hmf67 hb67
        refine MW_run C okX11_told 18 4 (gs := []) (cf' := (82, [some (.ref 0), some (.int x1)], [.int s.2.2.2.1.2.2.2.2.1], (hSo yr s), 0, 0)) rfl trivial ?_
        obtain rfl := Option.some.inj hm
        exact MW_iret C okX11_told hq 23 rfl hp
    | 4, hj =>
      cases hj
      have hm := (of_if hm).2 (by rw [hx]; decide)
      have hm := (of_if hm).2 (by rw [hx]; decide)
      have hm := (of_if hm).2 (by rw [hx]; decide)
      have hm := (of_if hm).2 (by rw [hx]; decide)
      have hm := (of_if hm).1 (by rw [hx]; rfl)
      refine MW_run C okX11_told 24 3 (gs := []) (cf' := (90, [some (.ref 0), some (.int x1)], [.int s.2.2.1.1], (hSo yr s), 0, 0)) rfl trivial ?_
      obtain rfl := Option.some.inj hm
      exact MW_iret C okX11_told hq 27 rfl hp
    | j + 5, hj => simp at hj
  · skip
    have hm := (of_if hm).2 (hx 0 (by decide))
    have hm := (of_if hm).2 (hx 1 (by decide))
    have hm := (of_if hm).2 (hx 2 (by decide))
    have hm := (of_if hm).2 (hx 3 (by decide))
    have hm := (of_if hm).2 (hx 4 (by decide))
    refine MW_run C okX11_told 28 1 (gs := []) (cf' := (93, [some (.ref 0), some (.int x1)], [.int (-2)], (hSo yr s), 0, 0)) rfl trivial ?_
    obtain rfl := Option.some.inj hm
    exact MW_iret C okX11_told hq 29 rfl hp
theorem c_so_told (s : SoS) (yr : Nat) (x1 : Int32) (out : Int32) (hm : so_told s yr x1 = some out) : CT yX11_told cX11_told 2 (some .int) 0 0 0 0 [.ref 0, .int x1] (hSo yr s) (fun v h => v = (some (.int out)) ∧ h = (hSo yr s)) :=
  CT_of (by decide +kernel) (vs0 := [some (.ref 0), some (.int x1)]) rfl rfl (fun X C hq => t_so_told C hq s yr x1 out hm ⟨rfl, rfl⟩)
