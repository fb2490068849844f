/-! X12_move -/
def m_move (σ : MS) (x1 : Int32) : Option (Int32 × MS) :=
  if (gI σ 37) = 0 then
    some ((-3), σ)
  else
    if x1 < 0 then
      some ((-5), σ)
    else
      (m_isMove σ (x1 / 1000) (irm (x1 / 100) 10) (irm (x1 / 10) 10) (irm x1 10)).bind fun q50 =>
        if q50 = 0 then
          some ((-5), σ)
        else
          if inb (gI σ 39) 41 then
            (m_decode σ (gA σ 27 (gI σ 39))).bind fun q69 =>
              (m_canMove q69 (x1 / 1000) (irm (x1 / 100) 10) (irm (x1 / 10) 10) (irm x1 10) (gI q69 37)).bind fun q83 =>
                if q83 = 0 then
                  some ((-5), q69)
                else
                  (m_doMove q69 (x1 / 1000) (irm (x1 / 100) 10) (irm (x1 / 10) 10) (irm x1 10)).bind fun q99 =>
                    (m_encode (sI q99 39 ((gI q99 39) + 1))).bind fun q121 =>
                      if inb ((gI q99 39) + 1) 41 then
                        some (((gI q99 39) + 1), (sA (sI q99 39 ((gI q99 39) + 1)) 27 ((gI q99 39) + 1) q121))
                      else none
          else none
set_option maxRecDepth 100000 in
set_option maxHeartbeats 1000000 in
theorem t_m_move {X : CTX} {K : Option Value → AH → Prop} (C : CX X cX12_move yX12_move.cls (decide (yX12_move.name = "<init>")) 2 53) (hq : RQ X (some .int) K) (σ : MS) (x1 : Int32) (out : Int32 × MS) (hm : m_move σ x1 = some out) (hp : K (some (.int out.1)) (hM out.2)) : MW X (0, [some (.ref 0), some (.int x1), none, none, none, none], [], (hM σ), 0, 0) := by
  unfold m_move at hm
  refine MW_run C okX12_move 0 2 (gs := []) (cf' := (4, [some (.ref 0), some (.int x1), none, none, none, none], [.int (gI σ 37)], (hM σ), 0, 0)) rfl trivial ?_
  obtain ⟨hmt4, hmf4⟩ := of_if hm
  refine MW_brF C okX12_move 2 rfl rfl (fun hb4 => ?_) (fun hb4 => ?_)
  · have hm := hmt4 hb4
    refine MW_run C okX12_move 3 1 (gs := []) (cf' := (9, [some (.ref 0), some (.int x1), none, none, none, none], [.int (-3)], (hM σ), 0, 0)) rfl trivial ?_
    obtain rfl := Option.some.inj hm
    exact MW_iret C okX12_move hq 4 rfl hp
  · have hm := hmf4 hb4
    refine MW_run C okX12_move 5 21 (gs := [¬ (1000 : Int32) = 0, ¬ (100 : Int32) = 0, ¬ (10 : Int32) = 0, ¬ (10 : Int32) = 0, ¬ (10 : Int32) = 0, ¬ (10 : Int32) = 0]) (cf' := (40, [some (.ref 0), some (.int x1), some (.int (x1 / 1000)), some (.int (irm (x1 / 100) 10)), some (.int (irm (x1 / 10) 10)), some (.int (irm x1 10))], [.int x1], (hM σ), 0, 0)) rfl ⟨(show ¬ (1000 : Int32) = 0 by decide), (show ¬ (100 : Int32) = 0 by decide), (show ¬ (10 : Int32) = 0 by decide), (show ¬ (10 : Int32) = 0 by decide), (show ¬ (10 : Int32) = 0 by decide), (show ¬ (10 : Int32) = 0 by decide)⟩ ?_
    obtain ⟨hmt40, hmf40⟩ := of_if hm
    refine MW_brT C okX12_move 26 rfl rfl (fun hb40 => ?_) (fun hb40 => ?_)
    · have hm := hmt40 hb40
      refine MW_run C okX12_move 34 1 (gs := []) (cf' := (58, [some (.ref 0), some (.int x1), some (.int (x1 / 1000)), some (.int (irm (x1 / 100) 10)), some (.int (irm (x1 / 10) 10)), some (.int (irm x1 10))], [.int (-5)], (hM σ), 0, 0)) rfl trivial ?_
      obtain rfl := Option.some.inj hm
      exact MW_iret C okX12_move hq 35 rfl hp
    · have hm := hmf40 hb40
      refine MW_run C okX12_move 27 5 (gs := []) (cf' := (50, [some (.ref 0), some (.int x1), some (.int (x1 / 1000)), some (.int (irm (x1 / 100) 10)), some (.int (irm (x1 / 10) 10)), some (.int (irm x1 10))], [.int (irm x1 10), .int (irm (x1 / 10) 10), .int (irm (x1 / 100) 10), .int (x1 / 1000), .ref 0], (hM σ), 0, 0)) rfl trivial ?_
      obtain ⟨q50, hc50, hm⟩ := of_bind hm
      refine MW_callV0 C okX12_move 32 rfl (v0 := some (.int q50)) (h0 := (hM σ)) (c_m_isMove σ (x1 / 1000) (irm (x1 / 100) 10) (irm (x1 / 10) 10) (irm x1 10) q50 hc50) lkX12_256 4 dpX12_isMove (by decide) (rest := []) rfl rfl rfl rfl rfl rfl rfl rfl ?_
      obtain ⟨hmt53, hmf53⟩ := of_if hm
      refine MW_brF C okX12_move 33 rfl rfl (fun hb53 => ?_) (fun hb53 => ?_)
      · have hm := hmt53 hb53
        refine MW_run C okX12_move 34 1 (gs := []) (cf' := (58, [some (.ref 0), some (.int x1), some (.int (x1 / 1000)), some (.int (irm (x1 / 100) 10)), some (.int (irm (x1 / 10) 10)), some (.int (irm x1 10))], [.int (-5)], (hM σ), 0, 0)) rfl trivial ?_
        obtain rfl := Option.some.inj hm
        exact MW_iret C okX12_move hq 35 rfl hp
      · have hm := hmf53 hb53
        obtain ⟨hg69, hm⟩ := of_guard hm
        refine MW_run C okX12_move 36 6 (gs := [inb (gI σ 39) 41]) (cf' := (69, [some (.ref 0), some (.int x1), some (.int (x1 / 1000)), some (.int (irm (x1 / 100) 10)), some (.int (irm (x1 / 10) 10)), some (.int (irm x1 10))], [.int (gA σ 27 (gI σ 39)), .ref 0], (hM σ), 0, 0)) rfl hg69 ?_
        obtain ⟨q69, hc69, hm⟩ := of_bind hm
        refine MW_callV0 C okX12_move 42 rfl (v0 := none) (h0 := (hM q69)) (c_m_decode σ (gA σ 27 (gI σ 39)) q69 hc69) lkX12_194 1 dpX12_decode (by decide) (rest := []) rfl rfl rfl rfl rfl rfl rfl rfl ?_
        refine MW_run C okX12_move 43 7 (gs := []) (cf' := (83, [some (.ref 0), some (.int x1), some (.int (x1 / 1000)), some (.int (irm (x1 / 100) 10)), some (.int (irm (x1 / 10) 10)), some (.int (irm x1 10))], [.int (gI q69 37), .int (irm x1 10), .int (irm (x1 / 10) 10), .int (irm (x1 / 100) 10), .int (x1 / 1000), .ref 0], (hM q69), 0, 0)) rfl trivial ?_
        obtain ⟨q83, hc83, hm⟩ := of_bind hm
        refine MW_callV0 C okX12_move 50 rfl (v0 := some (.int q83)) (h0 := (hM q69)) (c_m_canMove q69 (x1 / 1000) (irm (x1 / 100) 10) (irm (x1 / 10) 10) (irm x1 10) (gI q69 37) q83 hc83) lkX12_209 5 dpX12_canMove (by decide) (rest := []) rfl rfl rfl rfl rfl rfl rfl rfl ?_
        obtain ⟨hmt86, hmf86⟩ := of_if hm
        refine MW_brF C okX12_move 51 rfl rfl (fun hb86 => ?_) (fun hb86 => ?_)
        · have hm := hmt86 hb86
          refine MW_run C okX12_move 52 1 (gs := []) (cf' := (91, [some (.ref 0), some (.int x1), some (.int (x1 / 1000)), some (.int (irm (x1 / 100) 10)), some (.int (irm (x1 / 10) 10)), some (.int (irm x1 10))], [.int (-5)], (hM q69), 0, 0)) rfl trivial ?_
          obtain rfl := Option.some.inj hm
          exact MW_iret C okX12_move hq 53 rfl hp
        · have hm := hmf86 hb86
          refine MW_run C okX12_move 54 5 (gs := []) (cf' := (99, [some (.ref 0), some (.int x1), some (.int (x1 / 1000)), some (.int (irm (x1 / 100) 10)), some (.int (irm (x1 / 10) 10)), some (.int (irm x1 10))], [.int (irm x1 10), .int (irm (x1 / 10) 10), .int (irm (x1 / 100) 10), .int (x1 / 1000), .ref 0], (hM q69), 0, 0)) rfl trivial ?_
          obtain ⟨q99, hc99, hm⟩ := of_bind hm
          refine MW_callV0 C okX12_move 59 rfl (v0 := none) (h0 := (hM q99)) (c_m_doMove q69 (x1 / 1000) (irm (x1 / 100) 10) (irm (x1 / 10) 10) (irm x1 10) q99 hc99) lkX12_213 4 dpX12_doMove (by decide) (rest := []) rfl rfl rfl rfl rfl rfl rfl rfl ?_
          refine MW_run C okX12_move 60 11 (gs := []) (cf' := (121, [some (.ref 0), some (.int x1), some (.int (x1 / 1000)), some (.int (irm (x1 / 100) 10)), some (.int (irm (x1 / 10) 10)), some (.int (irm x1 10))], [.ref 0, .int ((gI q99 39) + 1), .ref 27], (hM (sI q99 39 ((gI q99 39) + 1))), 0, 0)) rfl trivial ?_
          obtain ⟨q121, hc121, hm⟩ := of_bind hm
          refine MW_callV0 C okX12_move 71 rfl (v0 := some (.int q121)) (h0 := (hM (sI q99 39 ((gI q99 39) + 1)))) (c_m_encode (sI q99 39 ((gI q99 39) + 1)) q121 hc121) lkX12_217 0 dpX12_encode (by decide) (rest := [.int ((gI q99 39) + 1), .ref 27]) rfl rfl rfl rfl rfl rfl rfl rfl ?_
          obtain ⟨hg129, hm⟩ := of_guard hm
          refine MW_run C okX12_move 72 3 (gs := [inb ((gI q99 39) + 1) 41]) (cf' := (129, [some (.ref 0), some (.int x1), some (.int (x1 / 1000)), some (.int (irm (x1 / 100) 10)), some (.int (irm (x1 / 10) 10)), some (.int (irm x1 10))], [.int ((gI q99 39) + 1)], (hM (sA (sI q99 39 ((gI q99 39) + 1)) 27 ((gI q99 39) + 1) q121)), 0, 0)) rfl hg129 ?_
          obtain rfl := Option.some.inj hm
          exact MW_iret C okX12_move hq 75 rfl hp
theorem c_m_move (σ : MS) (x1 : Int32) (out : Int32 × MS) (hm : m_move σ x1 = some out) : CT yX12_move cX12_move 6 (some .int) 2 53 0 0 [.ref 0, .int x1] (hM σ) (fun v h => v = (some (.int out.1)) ∧ h = (hM out.2)) :=
  CT_of (by decide +kernel) (vs0 := [some (.ref 0), some (.int x1), none, none, none, none]) rfl rfl (fun X C hq => t_m_move C hq σ x1 out hm ⟨rfl, rfl⟩)
/-! X12_back -/
def m_back (σ : MS) : Option (Int32 × MS) :=
  if (gI σ 37) = 0 then
    some ((-3), σ)
  else
    if (gI σ 39) = 0 then
      some ((-5), σ)
    else
      some (((gI σ 39) - 1), (sI σ 39 ((gI σ 39) - 1)))
set_option maxRecDepth 100000 in
set_option maxHeartbeats 1000000 in
theorem t_m_back {X : CTX} {K : Option Value → AH → Prop} (C : CX X cX12_back yX12_back.cls (decide (yX12_back.name = "<init>")) 0 0) (hq : RQ X (some .int) K) (σ : MS) (out : Int32 × MS) (hm : m_back σ = some out) (hp : K (some (.int out.1)) (hM out.2)) : MW X (0, [some (.ref 0)], [], (hM σ), 0, 0) := by
  unfold m_back at hm
  refine MW_run C okX12_back 0 2 (gs := []) (cf' := (4, [some (.ref 0)], [.int (gI σ 37)], (hM σ), 0, 0)) rfl trivial ?_
  obtain ⟨hmt4, hmf4⟩ := of_if hm
  refine MW_brF C okX12_back 2 rfl rfl (fun hb4 => ?_) (fun hb4 => ?_)
  · have hm := hmt4 hb4
    refine MW_run C okX12_back 3 1 (gs := []) (cf' := (9, [some (.ref 0)], [.int (-3)], (hM σ), 0, 0)) rfl trivial ?_
    obtain rfl := Option.some.inj hm
    exact MW_iret C okX12_back hq 4 rfl hp
  · have hm := hmf4 hb4
    refine MW_run C okX12_back 5 2 (gs := []) (cf' := (14, [some (.ref 0)], [.int (gI σ 39)], (hM σ), 0, 0)) rfl trivial ?_
    obtain ⟨hmt14, hmf14⟩ := of_if hm
    refine MW_brF C okX12_back 7 rfl rfl (fun hb14 => ?_) (fun hb14 => ?_)
    · have hm := hmt14 hb14
      refine MW_run C okX12_back 8 1 (gs := []) (cf' := (19, [some (.ref 0)], [.int (-5)], (hM σ), 0, 0)) rfl trivial ?_
      obtain rfl := Option.some.inj hm
      exact MW_iret C okX12_back hq 9 rfl hp
    · have hm := hmf14 hb14
      refine MW_run C okX12_back 10 8 (gs := []) (cf' := (34, [some (.ref 0)], [.int ((gI σ 39) - 1)], (hM (sI σ 39 ((gI σ 39) - 1))), 0, 0)) rfl trivial ?_
      obtain rfl := Option.some.inj hm
      exact MW_iret C okX12_back hq 18 rfl hp
theorem c_m_back (σ : MS) (out : Int32 × MS) (hm : m_back σ = some out) : CT yX12_back cX12_back 1 (some .int) 0 0 0 0 [.ref 0] (hM σ) (fun v h => v = (some (.int out.1)) ∧ h = (hM out.2)) :=
  CT_of (by decide +kernel) (vs0 := [some (.ref 0)]) rfl rfl (fun X C hq => t_m_back C hq σ out hm ⟨rfl, rfl⟩)
/-! X12_restOf -/
def m_restOf (σ : MS) : Option (Int32 × MS) :=
  (m_want σ (gI σ 35) (gI σ 36) (gI σ 37)).bind fun q13 =>
    if inb (gI q13 39) 41 then
      (m_search q13 (gA q13 27 (gI q13 39)) (gI q13 37)).bind fun q30 =>
        some (q30.1, q30.2)
    else none
set_option maxRecDepth 100000 in
set_option maxHeartbeats 1000000 in
theorem t_m_restOf {X : CTX} {K : Option Value → AH → Prop} (C : CX X cX12_restOf yX12_restOf.cls (decide (yX12_restOf.name = "<init>")) 4 103) (hq : RQ X (some .int) K) (σ : MS) (out : Int32 × MS) (hm : m_restOf σ = some out) (hp : K (some (.int out.1)) (hM out.2)) : MW X (0, [some (.ref 0)], [], (hM σ), 0, 0) := by
  unfold m_restOf at hm
  refine MW_run C okX12_restOf 0 7 (gs := []) (cf' := (13, [some (.ref 0)], [.int (gI σ 37), .int (gI σ 36), .int (gI σ 35), .ref 0], (hM σ), 0, 0)) rfl trivial ?_
  obtain ⟨q13, hc13, hm⟩ := of_bind hm
  refine MW_callV0 C okX12_restOf 7 rfl (v0 := none) (h0 := (hM q13)) (c_m_want σ (gI σ 35) (gI σ 36) (gI σ 37) q13 hc13) lkX12_260 3 dpX12_want (by decide) (rest := []) rfl rfl rfl rfl rfl rfl rfl rfl ?_
  obtain ⟨hg30, hm⟩ := of_guard hm
  refine MW_run C okX12_restOf 8 8 (gs := [inb (gI q13 39) 41]) (cf' := (30, [some (.ref 0)], [.int (gI q13 37), .int (gA q13 27 (gI q13 39)), .ref 0], (hM q13), 0, 0)) rfl hg30 ?_
  obtain ⟨q30, hc30, hm⟩ := of_bind hm
  refine MW_callV0 C okX12_restOf 16 rfl (v0 := some (.int q30.1)) (h0 := (hM q30.2)) (c_m_search q13 (gA q13 27 (gI q13 39)) (gI q13 37) q30 hc30) lkX12_220 2 dpX12_search (by decide) (rest := []) rfl rfl rfl rfl rfl rfl rfl rfl ?_
  obtain rfl := Option.some.inj hm
  exact MW_iret C okX12_restOf hq 17 rfl hp
theorem c_m_restOf (σ : MS) (out : Int32 × MS) (hm : m_restOf σ = some out) : CT yX12_restOf cX12_restOf 1 (some .int) 4 103 0 0 [.ref 0] (hM σ) (fun v h => v = (some (.int out.1)) ∧ h = (hM out.2)) :=
  CT_of (by decide +kernel) (vs0 := [some (.ref 0)]) rfl rfl (fun X C hq => t_m_restOf C hq σ out hm ⟨rfl, rfl⟩)
/-! X12_rest -/
def m_rest (σ : MS) : Option (Int32 × MS) :=
  if (gI σ 37) = 0 then
    some ((-3), σ)
  else
    (m_restOf σ).bind fun q13 =>
      some (q13.1, q13.2)
set_option maxRecDepth 100000 in
set_option maxHeartbeats 1000000 in
theorem t_m_rest {X : CTX} {K : Option Value → AH → Prop} (C : CX X cX12_rest yX12_rest.cls (decide (yX12_rest.name = "<init>")) 5 123) (hq : RQ X (some .int) K) (σ : MS) (out : Int32 × MS) (hm : m_rest σ = some out) (hp : K (some (.int out.1)) (hM out.2)) : MW X (0, [some (.ref 0)], [], (hM σ), 0, 0) := by
  unfold m_rest at hm
  refine MW_run C okX12_rest 0 2 (gs := []) (cf' := (4, [some (.ref 0)], [.int (gI σ 37)], (hM σ), 0, 0)) rfl trivial ?_
  obtain ⟨hmt4, hmf4⟩ := of_if hm
  refine MW_brF C okX12_rest 2 rfl rfl (fun hb4 => ?_) (fun hb4 => ?_)
  · have hm := hmt4 hb4
    refine MW_run C okX12_rest 3 2 (gs := []) (cf' := (16, [some (.ref 0)], [.int (-3)], (hM σ), 0, 0)) rfl trivial ?_
    obtain rfl := Option.some.inj hm
    exact MW_iret C okX12_rest hq 7 rfl hp
  · have hm := hmf4 hb4
    refine MW_run C okX12_rest 5 1 (gs := []) (cf' := (13, [some (.ref 0)], [.ref 0], (hM σ), 0, 0)) rfl trivial ?_
    obtain ⟨q13, hc13, hm⟩ := of_bind hm
    refine MW_callV0 C okX12_rest 6 rfl (v0 := some (.int q13.1)) (h0 := (hM q13.2)) (c_m_restOf σ q13 hc13) lkX12_312 0 dpX12_restOf (by decide) (rest := []) rfl rfl rfl rfl rfl rfl rfl rfl ?_
    obtain rfl := Option.some.inj hm
    exact MW_iret C okX12_rest hq 7 rfl hp
theorem c_m_rest (σ : MS) (out : Int32 × MS) (hm : m_rest σ = some out) : CT yX12_rest cX12_rest 1 (some .int) 5 123 0 0 [.ref 0] (hM σ) (fun v h => v = (some (.int out.1)) ∧ h = (hM out.2)) :=
  CT_of (by decide +kernel) (vs0 := [some (.ref 0)]) rfl rfl (fun X C hq => t_m_rest C hq σ out hm ⟨rfl, rfl⟩)
/-! X12_next -/
def m_next (σ : MS) : Option (Int32 × MS) :=
  if (gI σ 37) = 0 then
    some ((-3), σ)
  else
    (m_restOf σ).bind fun q11 =>
      if (0 : Int32) < q11.1 then
        if inb (gI q11.2 39) 41 then
          (m_nextOf q11.2 (gA q11.2 27 (gI q11.2 39)) (gI q11.2 37) q11.1).bind fun q39 =>
            some (q39.1, q39.2)
        else none
      else
        some ((-6), q11.2)
set_option maxRecDepth 100000 in
set_option maxHeartbeats 1000000 in
theorem t_m_next {X : CTX} {K : Option Value → AH → Prop} (C : CX X cX12_next yX12_next.cls (decide (yX12_next.name = "<init>")) 5 131) (hq : RQ X (some .int) K) (σ : MS) (out : Int32 × MS) (hm : m_next σ = some out) (hp : K (some (.int out.1)) (hM out.2)) : MW X (0, [some (.ref 0), none], [], (hM σ), 0, 0) := by
  unfold m_next at hm
  refine MW_run C okX12_next 0 2 (gs := []) (cf' := (4, [some (.ref 0), none], [.int (gI σ 37)], (hM σ), 0, 0)) rfl trivial ?_
  obtain ⟨hmt4, hmf4⟩ := of_if hm
  refine MW_brF C okX12_next 2 rfl rfl (fun hb4 => ?_) (fun hb4 => ?_)
  · have hm := hmt4 hb4
    refine MW_run C okX12_next 3 1 (gs := []) (cf' := (9, [some (.ref 0), none], [.int (-3)], (hM σ), 0, 0)) rfl trivial ?_
    obtain rfl := Option.some.inj hm
    exact MW_iret C okX12_next hq 4 rfl hp
  · have hm := hmf4 hb4
    refine MW_run C okX12_next 5 1 (gs := []) (cf' := (11, [some (.ref 0), none], [.ref 0], (hM σ), 0, 0)) rfl trivial ?_
    obtain ⟨q11, hc11, hm⟩ := of_bind hm
    refine MW_callV0 C okX12_next 6 rfl (v0 := some (.int q11.1)) (h0 := (hM q11.2)) (c_m_restOf σ q11 hc11) lkX12_312 0 dpX12_restOf (by decide) (rest := []) rfl rfl rfl rfl rfl rfl rfl rfl ?_
    refine MW_run C okX12_next 7 2 (gs := []) (cf' := (16, [some (.ref 0), some (.int q11.1)], [.int q11.1], (hM q11.2), 0, 0)) rfl trivial ?_
    obtain ⟨hmt16, hmf16⟩ := of_if hm
    refine MW_brT C okX12_next 9 rfl rfl (fun hb16 => ?_) (fun hb16 => ?_)
    · have hm := hmt16 hb16
      obtain ⟨hg39, hm⟩ := of_guard hm
      refine MW_run C okX12_next 12 9 (gs := [inb (gI q11.2 39) 41]) (cf' := (39, [some (.ref 0), some (.int q11.1)], [.int q11.1, .int (gI q11.2 37), .int (gA q11.2 27 (gI q11.2 39)), .ref 0], (hM q11.2), 0, 0)) rfl hg39 ?_
      obtain ⟨q39, hc39, hm⟩ := of_bind hm
      refine MW_callV0 C okX12_next 21 rfl (v0 := some (.int q39.1)) (h0 := (hM q39.2)) (c_m_nextOf q11.2 (gA q11.2 27 (gI q11.2 39)) (gI q11.2 37) q11.1 q39 hc39) lkX12_264 3 dpX12_nextOf (by decide) (rest := []) rfl rfl rfl rfl rfl rfl rfl rfl ?_
      obtain rfl := Option.some.inj hm
      exact MW_iret C okX12_next hq 22 rfl hp
    · have hm := hmf16 hb16
      refine MW_run C okX12_next 10 2 (gs := []) (cf' := (42, [some (.ref 0), some (.int q11.1)], [.int (-6)], (hM q11.2), 0, 0)) rfl trivial ?_
      obtain rfl := Option.some.inj hm
      exact MW_iret C okX12_next hq 22 rfl hp
theorem c_m_next (σ : MS) (out : Int32 × MS) (hm : m_next σ = some out) : CT yX12_next cX12_next 2 (some .int) 5 131 0 0 [.ref 0] (hM σ) (fun v h => v = (some (.int out.1)) ∧ h = (hM out.2)) :=
  CT_of (by decide +kernel) (vs0 := [some (.ref 0), none]) rfl rfl (fun X C hq => t_m_next C hq σ out hm ⟨rfl, rfl⟩)
/-! X12_moves -/
def m_moves_L27 : Nat → MS → Int32 → Int32 → Int32 → Option ((Int32) ⊕ (Int32 × MS))
  | 0, _, _, _, _ => none
  | n + 1, σ, x1, x2, x3 =>
    if x3 < 5000 then
      (m_isMove σ (x3 / 1000) (irm (x3 / 100) 10) (irm (x3 / 10) 10) (irm x3 10)).bind fun q74 =>
        if q74 = 0 then
          m_moves_L27 n σ x1 x2 (x3 + 1)
        else
          (m_canMove σ (x3 / 1000) (irm (x3 / 100) 10) (irm (x3 / 10) 10) (irm x3 10) (gI σ 37)).bind fun q93 =>
            if q93 = 0 then
              m_moves_L27 n σ x1 x2 (x3 + 1)
            else
              if x2 = x1 then
                some (.inr (x3, σ))
              else
                m_moves_L27 n σ x1 (x2 + 1) (x3 + 1)
    else
      some (.inl x2)
set_option maxRecDepth 100000 in
set_option maxHeartbeats 1000000 in
theorem l_m_moves_27 {X : CTX} {K : Option Value → AH → Prop} (C : CX X cX12_moves yX12_moves.cls (decide (yX12_moves.name = "<init>")) 2 53) (hq : RQ X (some .int) K) : ∀ (n : Nat) (σ : MS) (x1 : Int32) (x2 : Int32) (x3 : Int32) (out : (Int32) ⊕ (Int32 × MS)) (hm : m_moves_L27 n σ x1 x2 x3 = some out) (hp : Sum.elim (fun e => MW X (115, [none, some (.int x1), some (.int e), none, none, none, none, none], [], (hM σ), 0, 0)) (fun r => K (some (.int r.1)) (hM r.2)) out), MW X (27, [some (.ref 0), some (.int x1), some (.int x2), some (.int x3), none, none, none, none], [], (hM σ), 0, 0) := by
  intro n
  induction n with
  | zero => intro σ x1 x2 x3 out hm hp; rw [m_moves_L27] at hm; cases hm
  | succ n ih =>
    intro σ x1 x2 x3 out hm hp
    rw [m_moves_L27] at hm
    refine MW_run C okX12_moves 16 2 (gs := []) (cf' := (31, [some (.ref 0), some (.int x1), some (.int x2), some (.int x3), none, none, none, none], [.int 5000, .int x3], (hM σ), 0, 0)) rfl trivial ?_
    obtain ⟨hmt31, hmf31⟩ := of_if hm
    refine MW_brF C okX12_moves 18 rfl rfl (fun hb31 => ?_) (fun hb31 => ?_)
    · have hm := hmt31 hb31
      refine MW_run C okX12_moves 19 25 (gs := [¬ (1000 : Int32) = 0, ¬ (100 : Int32) = 0, ¬ (10 : Int32) = 0, ¬ (10 : Int32) = 0, ¬ (10 : Int32) = 0, ¬ (10 : Int32) = 0]) (cf' := (74, [some (.ref 0), some (.int x1), some (.int x2), some (.int x3), some (.int (x3 / 1000)), some (.int (irm (x3 / 100) 10)), some (.int (irm (x3 / 10) 10)), some (.int (irm x3 10))], [.int (irm x3 10), .int (irm (x3 / 10) 10), .int (irm (x3 / 100) 10), .int (x3 / 1000), .ref 0], (hM σ), 0, 0)) rfl ⟨(show ¬ (1000 : Int32) = 0 by decide), (show ¬ (100 : Int32) = 0 by decide), (show ¬ (10 : Int32) = 0 by decide), (show ¬ (10 : Int32) = 0 by decide), (show ¬ (10 : Int32) = 0 by decide), (show ¬ (10 : Int32) = 0 by decide)⟩ ?_
      obtain ⟨q74, hc74, hm⟩ := of_bind hm
      refine MW_callV0 C okX12_moves 44 rfl (v0 := some (.int q74)) (h0 := (hM σ)) (c_m_isMove σ (x3 / 1000) (irm (x3 / 100) 10) (irm (x3 / 10) 10) (irm x3 10) q74 hc74) lkX12_256 4 dpX12_isMove (by decide) (rest := []) rfl rfl rfl rfl rfl rfl rfl rfl ?_
      obtain ⟨hmt77, hmf77⟩ := of_if hm
      refine MW_brT C okX12_moves 45 rfl rfl (fun hb77 => ?_) (fun hb77 => ?_)
      · have hm := hmt77 hb77
        refine MW_run C okX12_moves 61 2 (gs := []) (cf' := (27, [some (.ref 0), some (.int x1), some (.int x2), some (.int (x3 + 1)), some (.int (x3 / 1000)), some (.int (irm (x3 / 100) 10)), some (.int (irm (x3 / 10) 10)), some (.int (irm x3 10))], [], (hM σ), 0, 0)) rfl trivial ?_
        refine MW_pick [true, true, true, true, false, false, false, false] rfl (vs' := [some (.ref 0), some (.int x1), some (.int x2), some (.int (x3 + 1)), none, none, none, none]) rfl ?_
        exact ih σ x1 x2 (x3 + 1) _ hm hp
      · have hm := hmf77 hb77
        refine MW_run C okX12_moves 46 7 (gs := []) (cf' := (93, [some (.ref 0), some (.int x1), some (.int x2), some (.int x3), some (.int (x3 / 1000)), some (.int (irm (x3 / 100) 10)), some (.int (irm (x3 / 10) 10)), some (.int (irm x3 10))], [.int (gI σ 37), .int (irm x3 10), .int (irm (x3 / 10) 10), .int (irm (x3 / 100) 10), .int (x3 / 1000), .ref 0], (hM σ), 0, 0)) rfl trivial ?_
        obtain ⟨q93, hc93, hm⟩ := of_bind hm
        refine MW_callV0 C okX12_moves 53 rfl (v0 := some (.int q93)) (h0 := (hM σ)) (c_m_canMove σ (x3 / 1000) (irm (x3 / 100) 10) (irm (x3 / 10) 10) (irm x3 10) (gI σ 37) q93 hc93) lkX12_209 5 dpX12_canMove (by decide) (rest := []) rfl rfl rfl rfl rfl rfl rfl rfl ?_
        obtain ⟨hmt96, hmf96⟩ := of_if hm
        refine MW_brT C okX12_moves 54 rfl rfl (fun hb96 => ?_) (fun hb96 => ?_)
        · have hm := hmt96 hb96
          refine MW_run C okX12_moves 61 2 (gs := []) (cf' := (27, [some (.ref 0), some (.int x1), some (.int x2), some (.int (x3 + 1)), some (.int (x3 / 1000)), some (.int (irm (x3 / 100) 10)), some (.int (irm (x3 / 10) 10)), some (.int (irm x3 10))], [], (hM σ), 0, 0)) rfl trivial ?_
          refine MW_pick [true, true, true, true, false, false, false, false] rfl (vs' := [some (.ref 0), some (.int x1), some (.int x2), some (.int (x3 + 1)), none, none, none, none]) rfl ?_
          exact ih σ x1 x2 (x3 + 1) _ hm hp
        · have hm := hmf96 hb96
          refine MW_run C okX12_moves 55 2 (gs := []) (cf' := (101, [some (.ref 0), some (.int x1), some (.int x2), some (.int x3), some (.int (x3 / 1000)), some (.int (irm (x3 / 100) 10)), some (.int (irm (x3 / 10) 10)), some (.int (irm x3 10))], [.int x1, .int x2], (hM σ), 0, 0)) rfl trivial ?_
          obtain ⟨hmt101, hmf101⟩ := of_if hm
          refine MW_brF C okX12_moves 57 rfl rfl (fun hb101 => ?_) (fun hb101 => ?_)
          · have hm := hmt101 hb101
            refine MW_run C okX12_moves 58 1 (gs := []) (cf' := (105, [some (.ref 0), some (.int x1), some (.int x2), some (.int x3), some (.int (x3 / 1000)), some (.int (irm (x3 / 100) 10)), some (.int (irm (x3 / 10) 10)), some (.int (irm x3 10))], [.int x3], (hM σ), 0, 0)) rfl trivial ?_
            obtain rfl := Option.some.inj hm
            exact MW_iret C okX12_moves hq 59 rfl hp
          · have hm := hmf101 hb101
            refine MW_run C okX12_moves 60 1 (gs := []) (cf' := (109, [some (.ref 0), some (.int x1), some (.int (x2 + 1)), some (.int x3), some (.int (x3 / 1000)), some (.int (irm (x3 / 100) 10)), some (.int (irm (x3 / 10) 10)), some (.int (irm x3 10))], [], (hM σ), 0, 0)) rfl trivial ?_
            refine MW_run C okX12_moves 61 2 (gs := []) (cf' := (27, [some (.ref 0), some (.int x1), some (.int (x2 + 1)), some (.int (x3 + 1)), some (.int (x3 / 1000)), some (.int (irm (x3 / 100) 10)), some (.int (irm (x3 / 10) 10)), some (.int (irm x3 10))], [], (hM σ), 0, 0)) rfl trivial ?_
            refine MW_pick [true, true, true, true, false, false, false, false] rfl (vs' := [some (.ref 0), some (.int x1), some (.int (x2 + 1)), some (.int (x3 + 1)), none, none, none, none]) rfl ?_
            exact ih σ x1 (x2 + 1) (x3 + 1) _ hm hp
    · have hm := hmf31 hb31
      obtain rfl := Option.some.inj hm
      refine MW_pick [false, true, true, false, true, true, true, true] rfl (vs' := [none, some (.int x1), some (.int x2), none, none, none, none, none]) rfl ?_
      exact hp
def m_moves (σ : MS) (x1 : Int32) : Option (Int32 × MS) :=
  if (gI σ 37) = 0 then
    some ((-3), σ)
  else
    if inb (gI σ 39) 41 then
      (m_decode σ (gA σ 27 (gI σ 39))).bind fun q20 =>
        (m_moves_L27 N0 q20 x1 0 0).bind fun q27 =>
          match q27 with
          | .inr r27 => some r27
          | .inl e27 =>
            if x1 = (-1) then
              some (e27, q20)
            else
              some ((-6), q20)
    else none
set_option maxRecDepth 100000 in
set_option maxHeartbeats 1000000 in
theorem t_m_moves {X : CTX} {K : Option Value → AH → Prop} (C : CX X cX12_moves yX12_moves.cls (decide (yX12_moves.name = "<init>")) 2 53) (hq : RQ X (some .int) K) (σ : MS) (x1 : Int32) (out : Int32 × MS) (hm : m_moves σ x1 = some out) (hp : K (some (.int out.1)) (hM out.2)) : MW X (0, [some (.ref 0), some (.int x1), none, none, none, none, none, none], [], (hM σ), 0, 0) := by
  unfold m_moves at hm
  refine MW_run C okX12_moves 0 2 (gs := []) (cf' := (4, [some (.ref 0), some (.int x1), none, none, none, none, none, none], [.int (gI σ 37)], (hM σ), 0, 0)) rfl trivial ?_
  obtain ⟨hmt4, hmf4⟩ := of_if hm
  refine MW_brF C okX12_moves 2 rfl rfl (fun hb4 => ?_) (fun hb4 => ?_)
  · have hm := hmt4 hb4
    refine MW_run C okX12_moves 3 1 (gs := []) (cf' := (9, [some (.ref 0), some (.int x1), none, none, none, none, none, none], [.int (-3)], (hM σ), 0, 0)) rfl trivial ?_
    obtain rfl := Option.some.inj hm
    exact MW_iret C okX12_moves hq 4 rfl hp
  · have hm := hmf4 hb4
    obtain ⟨hg20, hm⟩ := of_guard hm
    refine MW_run C okX12_moves 5 6 (gs := [inb (gI σ 39) 41]) (cf' := (20, [some (.ref 0), some (.int x1), none, none, none, none, none, none], [.int (gA σ 27 (gI σ 39)), .ref 0], (hM σ), 0, 0)) rfl hg20 ?_
    obtain ⟨q20, hc20, hm⟩ := of_bind hm
    refine MW_callV0 C okX12_moves 11 rfl (v0 := none) (h0 := (hM q20)) (c_m_decode σ (gA σ 27 (gI σ 39)) q20 hc20) lkX12_194 1 dpX12_decode (by decide) (rest := []) rfl rfl rfl rfl rfl rfl rfl rfl ?_
    refine MW_run C okX12_moves 12 4 (gs := []) (cf' := (27, [some (.ref 0), some (.int x1), some (.int 0), some (.int 0), none, none, none, none], [], (hM q20), 0, 0)) rfl trivial ?_
    obtain ⟨q27, hc27, hm⟩ := of_bind hm
    refine l_m_moves_27 C hq N0 q20 x1 0 0 q27 hc27 ?_
    cases q27 with
    | inr r27 =>
      obtain rfl := Option.some.inj hm
      exact hp
    | inl e27 =>
      show MW X (115, [none, some (.int x1), some (.int e27), none, none, none, none, none], [], (hM q20), 0, 0)
      refine MW_run C okX12_moves 63 2 (gs := []) (cf' := (117, [none, some (.int x1), some (.int e27), none, none, none, none, none], [.int (-1), .int x1], (hM q20), 0, 0)) rfl trivial ?_
      obtain ⟨hmt117, hmf117⟩ := of_if hm
      refine MW_brF C okX12_moves 65 rfl rfl (fun hb117 => ?_) (fun hb117 => ?_)
      · have hm := hmt117 hb117
        refine MW_run C okX12_moves 66 2 (gs := []) (cf' := (126, [none, some (.int x1), some (.int e27), none, none, none, none, none], [.int e27], (hM q20), 0, 0)) rfl trivial ?_
        obtain rfl := Option.some.inj hm
        exact MW_iret C okX12_moves hq 69 rfl hp
      · have hm := hmf117 hb117
        refine MW_run C okX12_moves 68 1 (gs := []) (cf' := (126, [none, some (.int x1), some (.int e27), none, none, none, none, none], [.int (-6)], (hM q20), 0, 0)) rfl trivial ?_
        obtain rfl := Option.some.inj hm
        exact MW_iret C okX12_moves hq 69 rfl hp
theorem c_m_moves (σ : MS) (x1 : Int32) (out : Int32 × MS) (hm : m_moves σ x1 = some out) : CT yX12_moves cX12_moves 8 (some .int) 2 53 0 0 [.ref 0, .int x1] (hM σ) (fun v h => v = (some (.int out.1)) ∧ h = (hM out.2)) :=
  CT_of (by decide +kernel) (vs0 := [some (.ref 0), some (.int x1), none, none, none, none, none, none]) rfl rfl (fun X C hq => t_m_moves C hq σ x1 out hm ⟨rfl, rfl⟩)
/-! X12_stand -/
def m_stand_L85 : Nat → MS → Int32 → Int32 → Option (Int32)
  | 0, _, _, _ => none
  | n + 1, σ, x2, x3 =>
    if x3 < (gI σ 37) then
      if inb x3 5 then
        m_stand_L85 n σ (((10 : Int32) * x2) + (gA σ 22 x3)) (x3 + 1)
      else none
    else
      some x2
set_option maxRecDepth 100000 in
set_option maxHeartbeats 1000000 in
theorem l_m_stand_85 {X : CTX} {K : Option Value → AH → Prop} (C : CX X cX12_stand yX12_stand.cls (decide (yX12_stand.name = "<init>")) 2 47) (hq : RQ X (some .int) K) : ∀ (n : Nat) (σ : MS) (x2 : Int32) (x3 : Int32) (out : Int32) (hm : m_stand_L85 n σ x2 x3 = some out) (hp : MW X (111, [none, none, some (.int out), none, none], [], (hM σ), 0, 0)), MW X (85, [some (.ref 0), none, some (.int x2), some (.int x3), none], [], (hM σ), 0, 0) := by
  intro n
  induction n with
  | zero => intro σ x2 x3 out hm hp; rw [m_stand_L85] at hm; cases hm
  | succ n ih =>
    intro σ x2 x3 out hm hp
    rw [m_stand_L85] at hm
    refine MW_run C okX12_stand 47 3 (gs := []) (cf' := (90, [some (.ref 0), none, some (.int x2), some (.int x3), none], [.int (gI σ 37), .int x3], (hM σ), 0, 0)) rfl trivial ?_
    obtain ⟨hmt90, hmf90⟩ := of_if hm
    refine MW_brF C okX12_stand 50 rfl rfl (fun hb90 => ?_) (fun hb90 => ?_)
    · have hm := hmt90 hb90
      obtain ⟨hg85, hm⟩ := of_guard hm
      refine MW_run C okX12_stand 51 11 (gs := [inb x3 5]) (cf' := (85, [some (.ref 0), none, some (.int (((10 : Int32) * x2) + (gA σ 22 x3))), some (.int (x3 + 1)), none], [], (hM σ), 0, 0)) rfl hg85 ?_
      exact ih σ (((10 : Int32) * x2) + (gA σ 22 x3)) (x3 + 1) _ hm hp
    · have hm := hmf90 hb90
      obtain rfl := Option.some.inj hm
      refine MW_pick [false, true, true, false, true] rfl (vs' := [none, none, some (.int x2), none, none]) rfl ?_
      exact hp
def m_stand_L132 : Nat → MS → Int32 → Int32 → Int32 → Option (Int32)
  | 0, _, _, _, _ => none
  | n + 1, σ, x2, x3, x4 =>
    if inb x3 5 then
      if x4 < (gA σ 11 x3) then
        if inb (((5 : Int32) * x3) + x4) 25 ∧ inb ((gA σ 10 (((5 : Int32) * x3) + x4)) - 1) 5 then
          m_stand_L132 n σ (((10 : Int32) * x2) + (gA σ 22 ((gA σ 10 (((5 : Int32) * x3) + x4)) - 1))) x3 (x4 + 1)
        else none
      else
        some x2
    else none
set_option maxRecDepth 100000 in
set_option maxHeartbeats 1000000 in
theorem l_m_stand_132 {X : CTX} {K : Option Value → AH → Prop} (C : CX X cX12_stand yX12_stand.cls (decide (yX12_stand.name = "<init>")) 2 47) (hq : RQ X (some .int) K) : ∀ (n : Nat) (σ : MS) (x2 : Int32) (x3 : Int32) (x4 : Int32) (out : Int32) (hm : m_stand_L132 n σ x2 x3 x4 = some out) (hp : MW X (173, [none, none, some (.int out), none, none], [], (hM σ), 0, 0)), MW X (132, [some (.ref 0), none, some (.int x2), some (.int x3), some (.int x4)], [], (hM σ), 0, 0) := by
  intro n
  induction n with
  | zero => intro σ x2 x3 x4 out hm hp; rw [m_stand_L132] at hm; cases hm
  | succ n ih =>
    intro σ x2 x3 x4 out hm hp
    rw [m_stand_L132] at hm
    obtain ⟨hg140, hm⟩ := of_guard hm
    refine MW_run C okX12_stand 76 5 (gs := [inb x3 5]) (cf' := (140, [some (.ref 0), none, some (.int x2), some (.int x3), some (.int x4)], [.int (gA σ 11 x3), .int x4], (hM σ), 0, 0)) rfl hg140 ?_
    obtain ⟨hmt140, hmf140⟩ := of_if hm
    refine MW_brF C okX12_stand 81 rfl rfl (fun hb140 => ?_) (fun hb140 => ?_)
    · have hm := hmt140 hb140
      obtain ⟨hg132, hm⟩ := of_guard hm
      refine MW_run C okX12_stand 82 20 (gs := [inb (((5 : Int32) * x3) + x4) 25, inb ((gA σ 10 (((5 : Int32) * x3) + x4)) - 1) 5]) (cf' := (132, [some (.ref 0), none, some (.int (((10 : Int32) * x2) + (gA σ 22 ((gA σ 10 (((5 : Int32) * x3) + x4)) - 1)))), some (.int x3), some (.int (x4 + 1))], [], (hM σ), 0, 0)) rfl ⟨hg132.1, hg132.2⟩ ?_
      exact ih σ (((10 : Int32) * x2) + (gA σ 22 ((gA σ 10 (((5 : Int32) * x3) + x4)) - 1))) x3 (x4 + 1) _ hm hp
    · have hm := hmf140 hb140
      obtain rfl := Option.some.inj hm
      refine MW_pick [false, true, true, false, false] rfl (vs' := [none, none, some (.int x2), none, none]) rfl ?_
      exact hp
def m_stand_J24 (σ : MS) (x1 : Int32) : Option (Int32 × MS) :=
  (m_in ((x1 : Int32).toInt64) 0 5).bind fun q30 =>
    if q30 = 0 then
      some ((-2), σ)
    else
      if (gI σ 37) = 0 then
        some ((-3), σ)
      else
        if inb (gI σ 39) 41 then
          (m_decode σ (gA σ 27 (gI σ 39))).bind fun q59 =>
            (m_layTrain q59 (gI q59 35) (gI q59 37)).bind fun q71 =>
              if x1 = 0 then
                (m_stand_L85 N0 q71 0 (gI q71 16)).bind fun q85 =>
                  some (q85, q71)
              else
                if x1 = 5 then
                  (m_stand_L132 N0 q71 0 (gI q71 4) 0).bind fun q132 =>
                    some (q132, q71)
                else
                  (m_stand_L132 N0 q71 0 (x1 - 1) 0).bind fun q132 =>
                    some (q132, q71)
        else none
set_option maxRecDepth 100000 in
set_option maxHeartbeats 1000000 in
theorem j_m_stand_24 {X : CTX} {K : Option Value → AH → Prop} (C : CX X cX12_stand yX12_stand.cls (decide (yX12_stand.name = "<init>")) 2 47) (hq : RQ X (some .int) K) (σ : MS) (x1 : Int32) (out : Int32 × MS) (hm : m_stand_J24 σ x1 = some out) (hp : K (some (.int out.1)) (hM out.2)) : MW X (24, [some (.ref 0), some (.int x1), none, none, none], [], (hM σ), 0, 0) := by
  unfold m_stand_J24 at hm
  refine MW_run C okX12_stand 14 4 (gs := []) (cf' := (30, [some (.ref 0), some (.int x1), none, none, none], [.long 5, .long 0, .long ((x1 : Int32).toInt64)], (hM σ), 0, 0)) rfl trivial ?_
  obtain ⟨q30, hc30, hm⟩ := of_bind hm
  refine MW_callS0 C okX12_stand 18 rfl (v0 := some (.int q30)) (c_m_in ((x1 : Int32).toInt64) 0 5 q30 hc30) lkX12_121 3 dpX12_in (by decide) (rest := []) rfl rfl rfl rfl rfl ?_
  obtain ⟨hmt33, hmf33⟩ := of_if hm
  refine MW_brF C okX12_stand 19 rfl rfl (fun hb33 => ?_) (fun hb33 => ?_)
  · have hm := hmt33 hb33
    refine MW_run C okX12_stand 20 1 (gs := []) (cf' := (38, [some (.ref 0), some (.int x1), none, none, none], [.int (-2)], (hM σ), 0, 0)) rfl trivial ?_
    obtain rfl := Option.some.inj hm
    exact MW_iret C okX12_stand hq 21 rfl hp
  · have hm := hmf33 hb33
    refine MW_run C okX12_stand 22 2 (gs := []) (cf' := (43, [some (.ref 0), some (.int x1), none, none, none], [.int (gI σ 37)], (hM σ), 0, 0)) rfl trivial ?_
    obtain ⟨hmt43, hmf43⟩ := of_if hm
    refine MW_brF C okX12_stand 24 rfl rfl (fun hb43 => ?_) (fun hb43 => ?_)
    · have hm := hmt43 hb43
      refine MW_run C okX12_stand 25 1 (gs := []) (cf' := (48, [some (.ref 0), some (.int x1), none, none, none], [.int (-3)], (hM σ), 0, 0)) rfl trivial ?_
      obtain rfl := Option.some.inj hm
      exact MW_iret C okX12_stand hq 26 rfl hp
    · have hm := hmf43 hb43
      obtain ⟨hg59, hm⟩ := of_guard hm
      refine MW_run C okX12_stand 27 6 (gs := [inb (gI σ 39) 41]) (cf' := (59, [some (.ref 0), some (.int x1), none, none, none], [.int (gA σ 27 (gI σ 39)), .ref 0], (hM σ), 0, 0)) rfl hg59 ?_
      obtain ⟨q59, hc59, hm⟩ := of_bind hm
      refine MW_callV0 C okX12_stand 33 rfl (v0 := none) (h0 := (hM q59)) (c_m_decode σ (gA σ 27 (gI σ 39)) q59 hc59) lkX12_194 1 dpX12_decode (by decide) (rest := []) rfl rfl rfl rfl rfl rfl rfl rfl ?_
      refine MW_run C okX12_stand 34 5 (gs := []) (cf' := (71, [some (.ref 0), some (.int x1), none, none, none], [.int (gI q59 37), .int (gI q59 35), .ref 0], (hM q59), 0, 0)) rfl trivial ?_
      obtain ⟨q71, hc71, hm⟩ := of_bind hm
      refine MW_callV0 C okX12_stand 39 rfl (v0 := none) (h0 := (hM q71)) (c_m_layTrain q59 (gI q59 35) (gI q59 37) q71 hc71) lkX12_239 2 dpX12_layTrain (by decide) (rest := []) rfl rfl rfl rfl rfl rfl rfl rfl ?_
      refine MW_run C okX12_stand 40 3 (gs := []) (cf' := (77, [some (.ref 0), some (.int x1), some (.int 0), none, none], [.int x1], (hM q71), 0, 0)) rfl trivial ?_
      obtain ⟨hmt77, hmf77⟩ := of_if hm
      refine MW_brF C okX12_stand 43 rfl rfl (fun hb77 => ?_) (fun hb77 => ?_)
      · have hm := hmt77 hb77
        refine MW_run C okX12_stand 44 3 (gs := []) (cf' := (85, [some (.ref 0), some (.int x1), some (.int 0), some (.int (gI q71 16)), none], [], (hM q71), 0, 0)) rfl trivial ?_
        obtain ⟨q85, hc85, hm⟩ := of_bind hm
        refine MW_pick [true, false, true, true, true] rfl (vs' := [some (.ref 0), none, some (.int 0), some (.int (gI q71 16)), none]) rfl ?_
        refine l_m_stand_85 C hq N0 q71 0 (gI q71 16) q85 hc85 ?_
        refine MW_run C okX12_stand 62 1 (gs := []) (cf' := (112, [none, none, some (.int q85), none, none], [.int q85], (hM q71), 0, 0)) rfl trivial ?_
        obtain rfl := Option.some.inj hm
        exact MW_iret C okX12_stand hq 63 rfl hp
      · have hm := hmf77 hb77
        refine MW_run C okX12_stand 64 2 (gs := []) (cf' := (115, [some (.ref 0), some (.int x1), some (.int 0), none, none], [.int 5, .int x1], (hM q71), 0, 0)) rfl trivial ?_
        obtain ⟨hmt115, hmf115⟩ := of_if hm
        refine MW_brF C okX12_stand 66 rfl rfl (fun hb115 => ?_) (fun hb115 => ?_)
        · have hm := hmt115 hb115
          refine MW_run C okX12_stand 67 3 (gs := []) (cf' := (128, [some (.ref 0), some (.int x1), some (.int 0), none, none], [.int (gI q71 4)], (hM q71), 0, 0)) rfl trivial ?_
          refine MW_run C okX12_stand 73 3 (gs := []) (cf' := (132, [some (.ref 0), some (.int x1), some (.int 0), some (.int (gI q71 4)), some (.int 0)], [], (hM q71), 0, 0)) rfl trivial ?_
          obtain ⟨q132, hc132, hm⟩ := of_bind hm
          refine MW_pick [true, false, true, true, true] rfl (vs' := [some (.ref 0), none, some (.int 0), some (.int (gI q71 4)), some (.int 0)]) rfl ?_
          refine l_m_stand_132 C hq N0 q71 0 (gI q71 4) 0 q132 hc132 ?_
          refine MW_run C okX12_stand 102 1 (gs := []) (cf' := (174, [none, none, some (.int q132), none, none], [.int q132], (hM q71), 0, 0)) rfl trivial ?_
          obtain rfl := Option.some.inj hm
          exact MW_iret C okX12_stand hq 103 rfl hp
        · have hm := hmf115 hb115
          refine MW_run C okX12_stand 70 3 (gs := []) (cf' := (128, [some (.ref 0), some (.int x1), some (.int 0), none, none], [.int (x1 - 1)], (hM q71), 0, 0)) rfl trivial ?_
          refine MW_run C okX12_stand 73 3 (gs := []) (cf' := (132, [some (.ref 0), some (.int x1), some (.int 0), some (.int (x1 - 1)), some (.int 0)], [], (hM q71), 0, 0)) rfl trivial ?_
          obtain ⟨q132, hc132, hm⟩ := of_bind hm
          refine MW_pick [true, false, true, true, true] rfl (vs' := [some (.ref 0), none, some (.int 0), some (.int (x1 - 1)), some (.int 0)]) rfl ?_
          refine l_m_stand_132 C hq N0 q71 0 (x1 - 1) 0 q132 hc132 ?_
          refine MW_run C okX12_stand 102 1 (gs := []) (cf' := (174, [none, none, some (.int q132), none, none], [.int q132], (hM q71), 0, 0)) rfl trivial ?_
          obtain rfl := Option.some.inj hm
          exact MW_iret C okX12_stand hq 103 rfl hp
def m_stand (σ : MS) (x1 : Int32) : Option (Int32 × MS) :=
  (m_in ((x1 : Int32).toInt64) 1 4).bind fun q6 =>
    if q6 = 0 then
      m_stand_J24 σ x1
    else
      (m_isSiding σ (x1 - 1)).bind fun q16 =>
        if q16 = 0 then
          some ((-1), σ)
        else
          m_stand_J24 σ x1
set_option maxRecDepth 100000 in
set_option maxHeartbeats 1000000 in
theorem t_m_stand {X : CTX} {K : Option Value → AH → Prop} (C : CX X cX12_stand yX12_stand.cls (decide (yX12_stand.name = "<init>")) 2 47) (hq : RQ X (some .int) K) (σ : MS) (x1 : Int32) (out : Int32 × MS) (hm : m_stand σ x1 = some out) (hp : K (some (.int out.1)) (hM out.2)) : MW X (0, [some (.ref 0), some (.int x1), none, none, none], [], (hM σ), 0, 0) := by
  unfold m_stand at hm
  refine MW_run C okX12_stand 0 4 (gs := []) (cf' := (6, [some (.ref 0), some (.int x1), none, none, none], [.long 4, .long 1, .long ((x1 : Int32).toInt64)], (hM σ), 0, 0)) rfl trivial ?_
  obtain ⟨q6, hc6, hm⟩ := of_bind hm
  refine MW_callS0 C okX12_stand 4 rfl (v0 := some (.int q6)) (c_m_in ((x1 : Int32).toInt64) 1 4 q6 hc6) lkX12_121 3 dpX12_in (by decide) (rest := []) rfl rfl rfl rfl rfl ?_
  obtain ⟨hmt9, hmf9⟩ := of_if hm
  refine MW_brT C okX12_stand 5 rfl rfl (fun hb9 => ?_) (fun hb9 => ?_)
  · have hm := hmt9 hb9
    exact j_m_stand_24 C hq σ x1 _ hm hp
  · have hm := hmf9 hb9
    refine MW_run C okX12_stand 6 4 (gs := []) (cf' := (16, [some (.ref 0), some (.int x1), none, none, none], [.int (x1 - 1), .ref 0], (hM σ), 0, 0)) rfl trivial ?_
    obtain ⟨q16, hc16, hm⟩ := of_bind hm
    refine MW_callV0 C okX12_stand 10 rfl (v0 := some (.int q16)) (h0 := (hM σ)) (c_m_isSiding σ (x1 - 1) q16 hc16) lkX12_143 1 dpX12_isSiding (by decide) (rest := []) rfl rfl rfl rfl rfl rfl rfl rfl ?_
    obtain ⟨hmt19, hmf19⟩ := of_if hm
    refine MW_brF C okX12_stand 11 rfl rfl (fun hb19 => ?_) (fun hb19 => ?_)
    · have hm := hmt19 hb19
      refine MW_run C okX12_stand 12 1 (gs := []) (cf' := (23, [some (.ref 0), some (.int x1), none, none, none], [.int (-1)], (hM σ), 0, 0)) rfl trivial ?_
      obtain rfl := Option.some.inj hm
      exact MW_iret C okX12_stand hq 13 rfl hp
    · have hm := hmf19 hb19
      exact j_m_stand_24 C hq σ x1 _ hm hp
theorem c_m_stand (σ : MS) (x1 : Int32) (out : Int32 × MS) (hm : m_stand σ x1 = some out) : CT yX12_stand cX12_stand 5 (some .int) 2 47 0 0 [.ref 0, .int x1] (hM σ) (fun v h => v = (some (.int out.1)) ∧ h = (hM out.2)) :=
  CT_of (by decide +kernel) (vs0 := [some (.ref 0), some (.int x1), none, none, none]) rfl rfl (fun X C hq => t_m_stand C hq σ x1 out hm ⟨rfl, rfl⟩)
/-! X12_wagonAt -/
def m_wagonAt (σ : MS) (x1 : Int32) : Option (Int32) :=
  if inb (x1 - 1) 5 then
    some (gA σ 22 (x1 - 1))
  else none
set_option maxRecDepth 100000 in
set_option maxHeartbeats 1000000 in
theorem t_m_wagonAt {X : CTX} {K : Option Value → AH → Prop} (C : CX X cX12_wagonAt yX12_wagonAt.cls (decide (yX12_wagonAt.name = "<init>")) 0 0) (hq : RQ X (some .int) K) (σ : MS) (x1 : Int32) (out : Int32) (hm : m_wagonAt σ x1 = some out) (hp : K (some (.int out)) (hM σ)) : MW X (0, [some (.ref 0), some (.int x1)], [], (hM σ), 0, 0) := by
  unfold m_wagonAt at hm
  obtain ⟨hg8, hm⟩ := of_guard hm
  refine MW_run C okX12_wagonAt 0 6 (gs := [inb (x1 - 1) 5]) (cf' := (8, [some (.ref 0), some (.int x1)], [.int (gA σ 22 (x1 - 1))], (hM σ), 0, 0)) rfl hg8 ?_
  obtain rfl := Option.some.inj hm
  exact MW_iret C okX12_wagonAt hq 6 rfl hp
theorem c_m_wagonAt (σ : MS) (x1 : Int32) (out : Int32) (hm : m_wagonAt σ x1 = some out) : CT yX12_wagonAt cX12_wagonAt 2 (some .int) 0 0 0 0 [.ref 0, .int x1] (hM σ) (fun v h => v = (some (.int out)) ∧ h = (hM σ)) :=
  CT_of (by decide +kernel) (vs0 := [some (.ref 0), some (.int x1)]) rfl rfl (fun X C hq => t_m_wagonAt C hq σ x1 out hm ⟨rfl, rfl⟩)
/-! X12_letOut -/
def m_letOut_J134 (k : MS → Int32 → Int32 → Int32 → Option ((MS) ⊕ (Int32 × MS))) (σ : MS) (x2 : Int32) (x3 : Int32) (x4 : Int32) (w0 : Int32) : Option ((MS) ⊕ (Int32 × MS)) :=
  (m_wagonAt σ w0).bind fun q139 =>
    if q139 = x2 then
      (m_doMove σ (x3 + 1) x4 5 0).bind fun q154 =>
        some (.inr (1, q154))
    else
      k σ x2 x3 (x4 + 1)
set_option maxRecDepth 100000 in
set_option maxHeartbeats 1000000 in
theorem j_m_letOut_134 {X : CTX} {K : Option Value → AH → Prop} (C : CX X cX12_letOut yX12_letOut.cls (decide (yX12_letOut.name = "<init>")) 2 49) (hq : RQ X (some .boolean) K) (k : MS → Int32 → Int32 → Int32 → Option ((MS) ⊕ (Int32 × MS))) (hk : ∀ (σ : MS) (x2 : Int32) (x3 : Int32) (x4 : Int32) (out : (MS) ⊕ (Int32 × MS)), k σ x2 x3 x4 = some out → Sum.elim (fun e => MW X (165, [some (.ref 0), none, some (.int x2), some (.int x3), none, none], [], (hM e), 0, 0)) (fun r => K (some (.int r.1)) (hM r.2)) out → MW X (65, [some (.ref 0), none, some (.int x2), some (.int x3), some (.int x4), none], [], (hM σ), 0, 0)) (σ : MS) (x2 : Int32) (x3 : Int32) (x4 : Int32) (w0 : Int32) (out : (MS) ⊕ (Int32 × MS)) (hm : m_letOut_J134 k σ x2 x3 x4 w0 = some out) (hp : Sum.elim (fun e => MW X (165, [some (.ref 0), none, some (.int x2), some (.int x3), none, none], [], (hM e), 0, 0)) (fun r => K (some (.int r.1)) (hM r.2)) out) : MW X (134, [some (.ref 0), none, some (.int x2), some (.int x3), some (.int x4), none], [.int w0], (hM σ), 0, 0) := by
  unfold m_letOut_J134 at hm
  refine MW_run C okX12_letOut 82 3 (gs := []) (cf' := (139, [some (.ref 0), none, some (.int x2), some (.int x3), some (.int x4), some (.int w0)], [.int w0, .ref 0], (hM σ), 0, 0)) rfl trivial ?_
  obtain ⟨q139, hc139, hm⟩ := of_bind hm
  refine MW_callV0 C okX12_letOut 85 rfl (v0 := some (.int q139)) (h0 := (hM σ)) (c_m_wagonAt σ w0 q139 hc139) lkX12_315 1 dpX12_wagonAt (by decide) (rest := []) rfl rfl rfl rfl rfl rfl rfl rfl ?_
  refine MW_run C okX12_letOut 86 1 (gs := []) (cf' := (143, [some (.ref 0), none, some (.int x2), some (.int x3), some (.int x4), some (.int w0)], [.int x2, .int q139], (hM σ), 0, 0)) rfl trivial ?_
  obtain ⟨hmt143, hmf143⟩ := of_if hm
  refine MW_brF C okX12_letOut 87 rfl rfl (fun hb143 => ?_) (fun hb143 => ?_)
  · have hm := hmt143 hb143
    refine MW_run C okX12_letOut 88 7 (gs := []) (cf' := (154, [some (.ref 0), none, some (.int x2), some (.int x3), some (.int x4), some (.int w0)], [.int 0, .int 5, .int x4, .int (x3 + 1), .ref 0], (hM σ), 0, 0)) rfl trivial ?_
    obtain ⟨q154, hc154, hm⟩ := of_bind hm
    refine MW_callV0 C okX12_letOut 95 rfl (v0 := none) (h0 := (hM q154)) (c_m_doMove σ (x3 + 1) x4 5 0 q154 hc154) lkX12_213 4 dpX12_doMove (by decide) (rest := []) rfl rfl rfl rfl rfl rfl rfl rfl ?_
    refine MW_run C okX12_letOut 96 1 (gs := []) (cf' := (158, [some (.ref 0), none, some (.int x2), some (.int x3), some (.int x4), some (.int w0)], [.int 1], (hM q154), 0, 0)) rfl trivial ?_
    obtain rfl := Option.some.inj hm
    exact MW_zret C okX12_letOut hq 97 rfl (by decide) hp
  · have hm := hmf143 hb143
    refine MW_run C okX12_letOut 98 2 (gs := []) (cf' := (65, [some (.ref 0), none, some (.int x2), some (.int x3), some (.int (x4 + 1)), some (.int w0)], [], (hM σ), 0, 0)) rfl trivial ?_
    refine MW_pick [true, true, true, true, true, false] rfl (vs' := [some (.ref 0), none, some (.int x2), some (.int x3), some (.int (x4 + 1)), none]) rfl ?_
    exact hk σ x2 x3 (x4 + 1) _ hm hp
def m_letOut_L65 : Nat → MS → Int32 → Int32 → Int32 → Option ((MS) ⊕ (Int32 × MS))
  | 0, _, _, _, _ => none
  | n + 1, σ, x2, x3, x4 =>
    if x4 < 2 then
      if inb x3 5 then
        if (0 : Int32) < (gA σ 11 x3) then
          (m_isOut σ x3 x4).bind fun q84 =>
            if q84 = 0 then
              m_letOut_L65 n σ x2 x3 (x4 + 1)
            else
              (m_goes σ (x3 + 1) 5).bind fun q95 =>
                if q95 = 0 then
                  m_letOut_L65 n σ x2 x3 (x4 + 1)
                else
                  if x4 = 0 then
                    if inb ((5 : Int32) * x3) 25 then
                      m_letOut_J134 (m_letOut_L65 n) σ x2 x3 x4 (gA σ 10 ((5 : Int32) * x3))
                    else none
                  else
                    if inb x3 5 ∧ inb ((((5 : Int32) * x3) + (gA σ 11 x3)) - 1) 25 then
                      m_letOut_J134 (m_letOut_L65 n) σ x2 x3 x4 (gA σ 10 ((((5 : Int32) * x3) + (gA σ 11 x3)) - 1))
                    else none
        else
          m_letOut_L65 n σ x2 x3 (x4 + 1)
      else none
    else
      some (.inl σ)
set_option maxRecDepth 100000 in
set_option maxHeartbeats 1000000 in
theorem l_m_letOut_65 {X : CTX} {K : Option Value → AH → Prop} (C : CX X cX12_letOut yX12_letOut.cls (decide (yX12_letOut.name = "<init>")) 2 49) (hq : RQ X (some .boolean) K) : ∀ (n : Nat) (σ : MS) (x2 : Int32) (x3 : Int32) (x4 : Int32) (out : (MS) ⊕ (Int32 × MS)) (hm : m_letOut_L65 n σ x2 x3 x4 = some out) (hp : Sum.elim (fun e => MW X (165, [some (.ref 0), none, some (.int x2), some (.int x3), none, none], [], (hM e), 0, 0)) (fun r => K (some (.int r.1)) (hM r.2)) out), MW X (65, [some (.ref 0), none, some (.int x2), some (.int x3), some (.int x4), none], [], (hM σ), 0, 0) := by
  intro n
  induction n with
  | zero => intro σ x2 x3 x4 out hm hp; rw [m_letOut_L65] at hm; cases hm
  | succ n ih =>
    intro σ x2 x3 x4 out hm hp
    rw [m_letOut_L65] at hm
    refine MW_run C okX12_letOut 40 2 (gs := []) (cf' := (68, [some (.ref 0), none, some (.int x2), some (.int x3), some (.int x4), none], [.int 2, .int x4], (hM σ), 0, 0)) rfl trivial ?_
    obtain ⟨hmt68, hmf68⟩ := of_if hm
    refine MW_brF C okX12_letOut 42 rfl rfl (fun hb68 => ?_) (fun hb68 => ?_)
    · have hm := hmt68 hb68
      obtain ⟨hg77, hm⟩ := of_guard hm
      refine MW_run C okX12_letOut 43 4 (gs := [inb x3 5]) (cf' := (77, [some (.ref 0), none, some (.int x2), some (.int x3), some (.int x4), none], [.int (gA σ 11 x3)], (hM σ), 0, 0)) rfl hg77 ?_
      obtain ⟨hmt77, hmf77⟩ := of_if hm
      refine MW_brF C okX12_letOut 47 rfl rfl (fun hb77 => ?_) (fun hb77 => ?_)
      · have hm := hmt77 hb77
        refine MW_run C okX12_letOut 48 3 (gs := []) (cf' := (84, [some (.ref 0), none, some (.int x2), some (.int x3), some (.int x4), none], [.int x4, .int x3, .ref 0], (hM σ), 0, 0)) rfl trivial ?_
        obtain ⟨q84, hc84, hm⟩ := of_bind hm
        refine MW_callV0 C okX12_letOut 51 rfl (v0 := some (.int q84)) (h0 := (hM σ)) (c_m_isOut σ x3 x4 q84 hc84) lkX12_161 2 dpX12_isOut (by decide) (rest := []) rfl rfl rfl rfl rfl rfl rfl rfl ?_
        obtain ⟨hmt87, hmf87⟩ := of_if hm
        refine MW_brT C okX12_letOut 52 rfl rfl (fun hb87 => ?_) (fun hb87 => ?_)
        · have hm := hmt87 hb87
          refine MW_run C okX12_letOut 98 2 (gs := []) (cf' := (65, [some (.ref 0), none, some (.int x2), some (.int x3), some (.int (x4 + 1)), none], [], (hM σ), 0, 0)) rfl trivial ?_
          exact ih σ x2 x3 (x4 + 1) _ hm hp
        · have hm := hmf87 hb87
          refine MW_run C okX12_letOut 53 5 (gs := []) (cf' := (95, [some (.ref 0), none, some (.int x2), some (.int x3), some (.int x4), none], [.int 5, .int (x3 + 1), .ref 0], (hM σ), 0, 0)) rfl trivial ?_
          obtain ⟨q95, hc95, hm⟩ := of_bind hm
          refine MW_callV0 C okX12_letOut 58 rfl (v0 := some (.int q95)) (h0 := (hM σ)) (c_m_goes σ (x3 + 1) 5 q95 hc95) lkX12_150 2 dpX12_goes (by decide) (rest := []) rfl rfl rfl rfl rfl rfl rfl rfl ?_
          obtain ⟨hmt98, hmf98⟩ := of_if hm
          refine MW_brT C okX12_letOut 59 rfl rfl (fun hb98 => ?_) (fun hb98 => ?_)
          · have hm := hmt98 hb98
            refine MW_run C okX12_letOut 98 2 (gs := []) (cf' := (65, [some (.ref 0), none, some (.int x2), some (.int x3), some (.int (x4 + 1)), none], [], (hM σ), 0, 0)) rfl trivial ?_
            exact ih σ x2 x3 (x4 + 1) _ hm hp
          · have hm := hmf98 hb98
            refine MW_run C okX12_letOut 60 1 (gs := []) (cf' := (103, [some (.ref 0), none, some (.int x2), some (.int x3), some (.int x4), none], [.int x4], (hM σ), 0, 0)) rfl trivial ?_
            obtain ⟨hmt103, hmf103⟩ := of_if hm
            refine MW_brF C okX12_letOut 61 rfl rfl (fun hb103 => ?_) (fun hb103 => ?_)
            · have hm := hmt103 hb103
              obtain ⟨hg134, hm⟩ := of_guard hm
              refine MW_run C okX12_letOut 62 7 (gs := [inb ((5 : Int32) * x3) 25]) (cf' := (134, [some (.ref 0), none, some (.int x2), some (.int x3), some (.int x4), none], [.int (gA σ 10 ((5 : Int32) * x3))], (hM σ), 0, 0)) rfl hg134 ?_
              exact j_m_letOut_134 C hq (m_letOut_L65 n) ih σ x2 x3 x4 (gA σ 10 ((5 : Int32) * x3)) _ hm hp
            · have hm := hmf103 hb103
              obtain ⟨hg134, hm⟩ := of_guard hm
              refine MW_run C okX12_letOut 69 13 (gs := [inb x3 5, inb ((((5 : Int32) * x3) + (gA σ 11 x3)) - 1) 25]) (cf' := (134, [some (.ref 0), none, some (.int x2), some (.int x3), some (.int x4), none], [.int (gA σ 10 ((((5 : Int32) * x3) + (gA σ 11 x3)) - 1))], (hM σ), 0, 0)) rfl ⟨hg134.1, hg134.2⟩ ?_
              exact j_m_letOut_134 C hq (m_letOut_L65 n) ih σ x2 x3 x4 (gA σ 10 ((((5 : Int32) * x3) + (gA σ 11 x3)) - 1)) _ hm hp
      · have hm := hmf77 hb77
        refine MW_run C okX12_letOut 98 2 (gs := []) (cf' := (65, [some (.ref 0), none, some (.int x2), some (.int x3), some (.int (x4 + 1)), none], [], (hM σ), 0, 0)) rfl trivial ?_
        exact ih σ x2 x3 (x4 + 1) _ hm hp
    · have hm := hmf68 hb68
      obtain rfl := Option.some.inj hm
      refine MW_pick [true, true, true, true, false, true] rfl (vs' := [some (.ref 0), none, some (.int x2), some (.int x3), none, none]) rfl ?_
      exact hp
def m_letOut_L54 : Nat → MS → Int32 → Int32 → Option ((MS) ⊕ (Int32 × MS))
  | 0, _, _, _ => none
  | n + 1, σ, x2, x3 =>
    if x3 < (gI σ 4) then
      (m_letOut_L65 N0 σ x2 x3 0).bind fun q65 =>
        match q65 with
        | .inr r65 => some (.inr r65)
        | .inl e65 =>
          m_letOut_L54 n e65 x2 (x3 + 1)
    else
      some (.inl σ)
set_option maxRecDepth 100000 in
set_option maxHeartbeats 1000000 in
theorem l_m_letOut_54 {X : CTX} {K : Option Value → AH → Prop} (C : CX X cX12_letOut yX12_letOut.cls (decide (yX12_letOut.name = "<init>")) 2 49) (hq : RQ X (some .boolean) K) : ∀ (n : Nat) (σ : MS) (x2 : Int32) (x3 : Int32) (out : (MS) ⊕ (Int32 × MS)) (hm : m_letOut_L54 n σ x2 x3 = some out) (hp : Sum.elim (fun e => MW X (171, [none, none, none, none, none, none], [], (hM e), 0, 0)) (fun r => K (some (.int r.1)) (hM r.2)) out), MW X (54, [some (.ref 0), none, some (.int x2), some (.int x3), none, none], [], (hM σ), 0, 0) := by
  intro n
  induction n with
  | zero => intro σ x2 x3 out hm hp; rw [m_letOut_L54] at hm; cases hm
  | succ n ih =>
    intro σ x2 x3 out hm hp
    rw [m_letOut_L54] at hm
    refine MW_run C okX12_letOut 34 3 (gs := []) (cf' := (59, [some (.ref 0), none, some (.int x2), some (.int x3), none, none], [.int (gI σ 4), .int x3], (hM σ), 0, 0)) rfl trivial ?_
    obtain ⟨hmt59, hmf59⟩ := of_if hm
    refine MW_brF C okX12_letOut 37 rfl rfl (fun hb59 => ?_) (fun hb59 => ?_)
    · have hm := hmt59 hb59
      refine MW_run C okX12_letOut 38 2 (gs := []) (cf' := (65, [some (.ref 0), none, some (.int x2), some (.int x3), some (.int 0), none], [], (hM σ), 0, 0)) rfl trivial ?_
      obtain ⟨q65, hc65, hm⟩ := of_bind hm
      refine l_m_letOut_65 C hq N0 σ x2 x3 0 q65 hc65 ?_
      cases q65 with
      | inr r65 =>
        obtain rfl := Option.some.inj hm
        exact hp
      | inl e65 =>
        show MW X (165, [some (.ref 0), none, some (.int x2), some (.int x3), none, none], [], (hM e65), 0, 0)
        refine MW_run C okX12_letOut 100 2 (gs := []) (cf' := (54, [some (.ref 0), none, some (.int x2), some (.int (x3 + 1)), none, none], [], (hM e65), 0, 0)) rfl trivial ?_
        exact ih e65 x2 (x3 + 1) _ hm hp
    · have hm := hmf59 hb59
      obtain rfl := Option.some.inj hm
      refine MW_pick [false, true, false, false, true, true] rfl (vs' := [none, none, none, none, none, none]) rfl ?_
      exact hp
def m_letOut (σ : MS) (x1 : Int32) : Option (Int32 × MS) :=
  if inb (gI σ 4) 5 then
    if (gI σ 16) < x1 then
      if inb (gI σ 16) 5 then
        if (gA σ 22 (gI σ 16)) = ((gA σ 11 (gI σ 4)) + 1) then
          (m_goes σ 0 5).bind fun q36 =>
            if q36 = 0 then
              (m_letOut_L54 N0 σ ((gA σ 11 (gI σ 4)) + 1) 0).bind fun q54 =>
                match q54 with
                | .inr r54 => some r54
                | .inl e54 =>
                  some (0, e54)
            else
              (m_doMove σ 0 0 5 0).bind fun q47 =>
                some (1, q47)
        else
          (m_letOut_L54 N0 σ ((gA σ 11 (gI σ 4)) + 1) 0).bind fun q54 =>
            match q54 with
            | .inr r54 => some r54
            | .inl e54 =>
              some (0, e54)
      else none
    else
      (m_letOut_L54 N0 σ ((gA σ 11 (gI σ 4)) + 1) 0).bind fun q54 =>
        match q54 with
        | .inr r54 => some r54
        | .inl e54 =>
          some (0, e54)
  else none
set_option maxRecDepth 100000 in
set_option maxHeartbeats 1000000 in
theorem t_m_letOut {X : CTX} {K : Option Value → AH → Prop} (C : CX X cX12_letOut yX12_letOut.cls (decide (yX12_letOut.name = "<init>")) 2 49) (hq : RQ X (some .boolean) K) (σ : MS) (x1 : Int32) (out : Int32 × MS) (hm : m_letOut σ x1 = some out) (hp : K (some (.int out.1)) (hM out.2)) : MW X (0, [some (.ref 0), some (.int x1), none, none, none, none], [], (hM σ), 0, 0) := by
  unfold m_letOut at hm
  obtain ⟨hg17, hm⟩ := of_guard hm
  refine MW_run C okX12_letOut 0 11 (gs := [inb (gI σ 4) 5]) (cf' := (17, [some (.ref 0), some (.int x1), some (.int ((gA σ 11 (gI σ 4)) + 1)), none, none, none], [.int x1, .int (gI σ 16)], (hM σ), 0, 0)) rfl hg17 ?_
  obtain ⟨hmt17, hmf17⟩ := of_if hm
  refine MW_brF C okX12_letOut 11 rfl rfl (fun hb17 => ?_) (fun hb17 => ?_)
  · have hm := hmt17 hb17
    obtain ⟨hg30, hm⟩ := of_guard hm
    refine MW_run C okX12_letOut 12 6 (gs := [inb (gI σ 16) 5]) (cf' := (30, [some (.ref 0), some (.int x1), some (.int ((gA σ 11 (gI σ 4)) + 1)), none, none, none], [.int ((gA σ 11 (gI σ 4)) + 1), .int (gA σ 22 (gI σ 16))], (hM σ), 0, 0)) rfl hg30 ?_
    obtain ⟨hmt30, hmf30⟩ := of_if hm
    refine MW_brF C okX12_letOut 18 rfl rfl (fun hb30 => ?_) (fun hb30 => ?_)
    · have hm := hmt30 hb30
      refine MW_run C okX12_letOut 19 3 (gs := []) (cf' := (36, [some (.ref 0), some (.int x1), some (.int ((gA σ 11 (gI σ 4)) + 1)), none, none, none], [.int 5, .int 0, .ref 0], (hM σ), 0, 0)) rfl trivial ?_
      obtain ⟨q36, hc36, hm⟩ := of_bind hm
      refine MW_callV0 C okX12_letOut 22 rfl (v0 := some (.int q36)) (h0 := (hM σ)) (c_m_goes σ 0 5 q36 hc36) lkX12_150 2 dpX12_goes (by decide) (rest := []) rfl rfl rfl rfl rfl rfl rfl rfl ?_
      obtain ⟨hmt39, hmf39⟩ := of_if hm
      refine MW_brT C okX12_letOut 23 rfl rfl (fun hb39 => ?_) (fun hb39 => ?_)
      · have hm := hmt39 hb39
        refine MW_run C okX12_letOut 32 2 (gs := []) (cf' := (54, [some (.ref 0), some (.int x1), some (.int ((gA σ 11 (gI σ 4)) + 1)), some (.int 0), none, none], [], (hM σ), 0, 0)) rfl trivial ?_
        obtain ⟨q54, hc54, hm⟩ := of_bind hm
        refine MW_pick [true, false, true, true, true, true] rfl (vs' := [some (.ref 0), none, some (.int ((gA σ 11 (gI σ 4)) + 1)), some (.int 0), none, none]) rfl ?_
        refine l_m_letOut_54 C hq N0 σ ((gA σ 11 (gI σ 4)) + 1) 0 q54 hc54 ?_
        cases q54 with
        | inr r54 =>
          obtain rfl := Option.some.inj hm
          exact hp
        | inl e54 =>
          show MW X (171, [none, none, none, none, none, none], [], (hM e54), 0, 0)
          refine MW_run C okX12_letOut 102 1 (gs := []) (cf' := (172, [none, none, none, none, none, none], [.int 0], (hM e54), 0, 0)) rfl trivial ?_
          obtain rfl := Option.some.inj hm
          exact MW_zret C okX12_letOut hq 103 rfl (by decide) hp
      · have hm := hmf39 hb39
        refine MW_run C okX12_letOut 24 5 (gs := []) (cf' := (47, [some (.ref 0), some (.int x1), some (.int ((gA σ 11 (gI σ 4)) + 1)), none, none, none], [.int 0, .int 5, .int 0, .int 0, .ref 0], (hM σ), 0, 0)) rfl trivial ?_
        obtain ⟨q47, hc47, hm⟩ := of_bind hm
        refine MW_callV0 C okX12_letOut 29 rfl (v0 := none) (h0 := (hM q47)) (c_m_doMove σ 0 0 5 0 q47 hc47) lkX12_213 4 dpX12_doMove (by decide) (rest := []) rfl rfl rfl rfl rfl rfl rfl rfl ?_
        refine MW_run C okX12_letOut 30 1 (gs := []) (cf' := (51, [some (.ref 0), some (.int x1), some (.int ((gA σ 11 (gI σ 4)) + 1)), none, none, none], [.int 1], (hM q47), 0, 0)) rfl trivial ?_
        obtain rfl := Option.some.inj hm
        exact MW_zret C okX12_letOut hq 31 rfl (by decide) hp
    · have hm := hmf30 hb30
      refine MW_run C okX12_letOut 32 2 (gs := []) (cf' := (54, [some (.ref 0), some (.int x1), some (.int ((gA σ 11 (gI σ 4)) + 1)), some (.int 0), none, none], [], (hM σ), 0, 0)) rfl trivial ?_
      obtain ⟨q54, hc54, hm⟩ := of_bind hm
      refine MW_pick [true, false, true, true, true, true] rfl (vs' := [some (.ref 0), none, some (.int ((gA σ 11 (gI σ 4)) + 1)), some (.int 0), none, none]) rfl ?_
      refine l_m_letOut_54 C hq N0 σ ((gA σ 11 (gI σ 4)) + 1) 0 q54 hc54 ?_
      cases q54 with
      | inr r54 =>
        obtain rfl := Option.some.inj hm
        exact hp
      | inl e54 =>
        show MW X (171, [none, none, none, none, none, none], [], (hM e54), 0, 0)
        refine MW_run C okX12_letOut 102 1 (gs := []) (cf' := (172, [none, none, none, none, none, none], [.int 0], (hM e54), 0, 0)) rfl trivial ?_
        obtain rfl := Option.some.inj hm
        exact MW_zret C okX12_letOut hq 103 rfl (by decide) hp
  · have hm := hmf17 hb17
    refine MW_run C okX12_letOut 32 2 (gs := []) (cf' := (54, [some (.ref 0), some (.int x1), some (.int ((gA σ 11 (gI σ 4)) + 1)), some (.int 0), none, none], [], (hM σ), 0, 0)) rfl trivial ?_
    obtain ⟨q54, hc54, hm⟩ := of_bind hm
    refine MW_pick [true, false, true, true, true, true] rfl (vs' := [some (.ref 0), none, some (.int ((gA σ 11 (gI σ 4)) + 1)), some (.int 0), none, none]) rfl ?_
    refine l_m_letOut_54 C hq N0 σ ((gA σ 11 (gI σ 4)) + 1) 0 q54 hc54 ?_
    cases q54 with
    | inr r54 =>
      obtain rfl := Option.some.inj hm
      exact hp
    | inl e54 =>
      show MW X (171, [none, none, none, none, none, none], [], (hM e54), 0, 0)
      refine MW_run C okX12_letOut 102 1 (gs := []) (cf' := (172, [none, none, none, none, none, none], [.int 0], (hM e54), 0, 0)) rfl trivial ?_
      obtain rfl := Option.some.inj hm
      exact MW_zret C okX12_letOut hq 103 rfl (by decide) hp
theorem c_m_letOut (σ : MS) (x1 : Int32) (out : Int32 × MS) (hm : m_letOut σ x1 = some out) : CT yX12_letOut cX12_letOut 6 (some .boolean) 2 49 0 0 [.ref 0, .int x1] (hM σ) (fun v h => v = (some (.int out.1)) ∧ h = (hM out.2)) :=
  CT_of (by decide +kernel) (vs0 := [some (.ref 0), some (.int x1), none, none, none, none]) rfl rfl (fun X C hq => t_m_letOut C hq σ x1 out hm ⟨rfl, rfl⟩)
/-! X12_areHigher -/
def m_areHigher_L5 : Nat → MS → Int32 → Int32 → Int32 → Int32 → Option (Int32)
  | 0, _, _, _, _, _ => none
  | n + 1, σ, x1, x2, x3, x4 =>
    if inb x1 5 then
      if x4 < (gA σ 11 x1) then
        if x3 = 0 then
          m_areHigher_L5 n σ x1 x2 0 (x4 + 1)
        else
          if inb (((5 : Int32) * x1) + x4) 25 then
            (m_wagonAt σ (gA σ 10 (((5 : Int32) * x1) + x4))).bind fun q32 =>
              if x2 < q32 then
                m_areHigher_L5 n σ x1 x2 1 (x4 + 1)
              else
                m_areHigher_L5 n σ x1 x2 0 (x4 + 1)
          else none
      else
        some x3
    else none
set_option maxRecDepth 100000 in
set_option maxHeartbeats 1000000 in
theorem l_m_areHigher_5 {X : CTX} {K : Option Value → AH → Prop} (C : CX X cX12_areHigher yX12_areHigher.cls (decide (yX12_areHigher.name = "<init>")) 1 21) (hq : RQ X (some .boolean) K) : ∀ (n : Nat) (σ : MS) (x1 : Int32) (x2 : Int32) (x3 : Int32) (x4 : Int32) (out : Int32) (hm : m_areHigher_L5 n σ x1 x2 x3 x4 = some out) (hp : MW X (51, [none, none, none, some (.int out), none], [], (hM σ), 0, 0)), MW X (5, [some (.ref 0), some (.int x1), some (.int x2), some (.int x3), some (.int x4)], [], (hM σ), 0, 0) := by
  intro n
  induction n with
  | zero => intro σ x1 x2 x3 x4 out hm hp; rw [m_areHigher_L5] at hm; cases hm
  | succ n ih =>
    intro σ x1 x2 x3 x4 out hm hp
    rw [m_areHigher_L5] at hm
    obtain ⟨hg13, hm⟩ := of_guard hm
    refine MW_run C okX12_areHigher 4 5 (gs := [inb x1 5]) (cf' := (13, [some (.ref 0), some (.int x1), some (.int x2), some (.int x3), some (.int x4)], [.int (gA σ 11 x1), .int x4], (hM σ), 0, 0)) rfl hg13 ?_
    obtain ⟨hmt13, hmf13⟩ := of_if hm
    refine MW_brF C okX12_areHigher 9 rfl rfl (fun hb13 => ?_) (fun hb13 => ?_)
    · have hm := hmt13 hb13
      refine MW_run C okX12_areHigher 10 1 (gs := []) (cf' := (17, [some (.ref 0), some (.int x1), some (.int x2), some (.int x3), some (.int x4)], [.int x3], (hM σ), 0, 0)) rfl trivial ?_
      obtain ⟨hmt17, hmf17⟩ := of_if hm
      refine MW_brT C okX12_areHigher 11 rfl rfl (fun hb17 => ?_) (fun hb17 => ?_)
      · have hm := hmt17 hb17
        refine MW_run C okX12_areHigher 26 1 (gs := []) (cf' := (44, [some (.ref 0), some (.int x1), some (.int x2), some (.int x3), some (.int x4)], [.int 0], (hM σ), 0, 0)) rfl trivial ?_
        refine MW_run C okX12_areHigher 27 3 (gs := []) (cf' := (5, [some (.ref 0), some (.int x1), some (.int x2), some (.int 0), some (.int (x4 + 1))], [], (hM σ), 0, 0)) rfl trivial ?_
        exact ih σ x1 x2 0 (x4 + 1) _ hm hp
      · have hm := hmf17 hb17
        obtain ⟨hg32, hm⟩ := of_guard hm
        refine MW_run C okX12_areHigher 12 9 (gs := [inb (((5 : Int32) * x1) + x4) 25]) (cf' := (32, [some (.ref 0), some (.int x1), some (.int x2), some (.int x3), some (.int x4)], [.int (gA σ 10 (((5 : Int32) * x1) + x4)), .ref 0], (hM σ), 0, 0)) rfl hg32 ?_
        obtain ⟨q32, hc32, hm⟩ := of_bind hm
        refine MW_callV0 C okX12_areHigher 21 rfl (v0 := some (.int q32)) (h0 := (hM σ)) (c_m_wagonAt σ (gA σ 10 (((5 : Int32) * x1) + x4)) q32 hc32) lkX12_315 1 dpX12_wagonAt (by decide) (rest := []) rfl rfl rfl rfl rfl rfl rfl rfl ?_
        refine MW_run C okX12_areHigher 22 1 (gs := []) (cf' := (36, [some (.ref 0), some (.int x1), some (.int x2), some (.int x3), some (.int x4)], [.int x2, .int q32], (hM σ), 0, 0)) rfl trivial ?_
        obtain ⟨hmt36, hmf36⟩ := of_if hm
        refine MW_brF C okX12_areHigher 23 rfl rfl (fun hb36 => ?_) (fun hb36 => ?_)
        · have hm := hmt36 hb36
          refine MW_run C okX12_areHigher 24 2 (gs := []) (cf' := (44, [some (.ref 0), some (.int x1), some (.int x2), some (.int x3), some (.int x4)], [.int 1], (hM σ), 0, 0)) rfl trivial ?_
          refine MW_run C okX12_areHigher 27 3 (gs := []) (cf' := (5, [some (.ref 0), some (.int x1), some (.int x2), some (.int 1), some (.int (x4 + 1))], [], (hM σ), 0, 0)) rfl trivial ?_
          exact ih σ x1 x2 1 (x4 + 1) _ hm hp
        · have hm := hmf36 hb36
          refine MW_run C okX12_areHigher 26 1 (gs := []) (cf' := (44, [some (.ref 0), some (.int x1), some (.int x2), some (.int x3), some (.int x4)], [.int 0], (hM σ), 0, 0)) rfl trivial ?_
          refine MW_run C okX12_areHigher 27 3 (gs := []) (cf' := (5, [some (.ref 0), some (.int x1), some (.int x2), some (.int 0), some (.int (x4 + 1))], [], (hM σ), 0, 0)) rfl trivial ?_
          exact ih σ x1 x2 0 (x4 + 1) _ hm hp
    · have hm := hmf13 hb13
      obtain rfl := Option.some.inj hm
      refine MW_pick [false, false, false, true, false] rfl (vs' := [none, none, none, some (.int x3), none]) rfl ?_
      exact hp
def m_areHigher (σ : MS) (x1 : Int32) (x2 : Int32) : Option (Int32) :=
  (m_areHigher_L5 N0 σ x1 x2 1 0).bind fun q5 =>
    if isZ q5 then some q5 else none
set_option maxRecDepth 100000 in
set_option maxHeartbeats 1000000 in
theorem t_m_areHigher {X : CTX} {K : Option Value → AH → Prop} (C : CX X cX12_areHigher yX12_areHigher.cls (decide (yX12_areHigher.name = "<init>")) 1 21) (hq : RQ X (some .boolean) K) (σ : MS) (x1 : Int32) (x2 : Int32) (out : Int32) (hm : m_areHigher σ x1 x2 = some out) (hp : K (some (.int out)) (hM σ)) : MW X (0, [some (.ref 0), some (.int x1), some (.int x2), none, none], [], (hM σ), 0, 0) := by
  unfold m_areHigher at hm
  refine MW_run C okX12_areHigher 0 4 (gs := []) (cf' := (5, [some (.ref 0), some (.int x1), some (.int x2), some (.int 1), some (.int 0)], [], (hM σ), 0, 0)) rfl trivial ?_
  obtain ⟨q5, hc5, hm⟩ := of_bind hm
  refine l_m_areHigher_5 C hq N0 σ x1 x2 1 0 q5 hc5 ?_
  refine MW_run C okX12_areHigher 30 1 (gs := []) (cf' := (52, [none, none, none, some (.int q5), none], [.int q5], (hM σ), 0, 0)) rfl trivial ?_
  obtain ⟨hz, hm⟩ := of_guard hm
  obtain rfl := Option.some.inj hm
  exact MW_zret C okX12_areHigher hq 31 rfl hz hp
theorem c_m_areHigher (σ : MS) (x1 : Int32) (x2 : Int32) (out : Int32) (hm : m_areHigher σ x1 x2 = some out) : CT yX12_areHigher cX12_areHigher 5 (some .boolean) 1 21 0 0 [.ref 0, .int x1, .int x2] (hM σ) (fun v h => v = (some (.int out)) ∧ h = (hM σ)) :=
  CT_of (by decide +kernel) (vs0 := [some (.ref 0), some (.int x1), some (.int x2), none, none]) rfl rfl (fun X C hq => t_m_areHigher C hq σ x1 x2 out hm ⟨rfl, rfl⟩)
/-! X12_hasRoom -/
def m_hasRoom (σ : MS) (x1 : Int32) : Option (Int32) :=
  if inb x1 5 ∧ inb x1 4 then
    if (gA σ 11 x1) < (gA σ 2 x1) then
      (m_goes σ 0 (x1 + 1)).bind fun q20 =>
        if q20 = 0 then
          some 0
        else
          some 1
    else
      some 0
  else none
set_option maxRecDepth 100000 in
set_option maxHeartbeats 1000000 in
theorem t_m_hasRoom {X : CTX} {K : Option Value → AH → Prop} (C : CX X cX12_hasRoom yX12_hasRoom.cls (decide (yX12_hasRoom.name = "<init>")) 1 26) (hq : RQ X (some .boolean) K) (σ : MS) (x1 : Int32) (out : Int32) (hm : m_hasRoom σ x1 = some out) (hp : K (some (.int out)) (hM σ)) : MW X (0, [some (.ref 0), some (.int x1)], [], (hM σ), 0, 0) := by
  unfold m_hasRoom at hm
  obtain ⟨hg12, hm⟩ := of_guard hm
  refine MW_run C okX12_hasRoom 0 8 (gs := [inb x1 5, inb x1 4]) (cf' := (12, [some (.ref 0), some (.int x1)], [.int (gA σ 2 x1), .int (gA σ 11 x1)], (hM σ), 0, 0)) rfl ⟨hg12.1, hg12.2⟩ ?_
  obtain ⟨hmt12, hmf12⟩ := of_if hm
  refine MW_brF C okX12_hasRoom 8 rfl rfl (fun hb12 => ?_) (fun hb12 => ?_)
  · have hm := hmt12 hb12
    refine MW_run C okX12_hasRoom 9 5 (gs := []) (cf' := (20, [some (.ref 0), some (.int x1)], [.int (x1 + 1), .int 0, .ref 0], (hM σ), 0, 0)) rfl trivial ?_
    obtain ⟨q20, hc20, hm⟩ := of_bind hm
    refine MW_callV0 C okX12_hasRoom 14 rfl (v0 := some (.int q20)) (h0 := (hM σ)) (c_m_goes σ 0 (x1 + 1) q20 hc20) lkX12_150 2 dpX12_goes (by decide) (rest := []) rfl rfl rfl rfl rfl rfl rfl rfl ?_
    obtain ⟨hmt23, hmf23⟩ := of_if hm
    refine MW_brT C okX12_hasRoom 15 rfl rfl (fun hb23 => ?_) (fun hb23 => ?_)
    · have hm := hmt23 hb23
      refine MW_run C okX12_hasRoom 18 1 (gs := []) (cf' := (31, [some (.ref 0), some (.int x1)], [.int 0], (hM σ), 0, 0)) rfl trivial ?_
      obtain rfl := Option.some.inj hm
      exact MW_zret C okX12_hasRoom hq 19 rfl (by decide) hp
    · have hm := hmf23 hb23
      refine MW_run C okX12_hasRoom 16 2 (gs := []) (cf' := (31, [some (.ref 0), some (.int x1)], [.int 1], (hM σ), 0, 0)) rfl trivial ?_
      obtain rfl := Option.some.inj hm
      exact MW_zret C okX12_hasRoom hq 19 rfl (by decide) hp
  · have hm := hmf12 hb12
    refine MW_run C okX12_hasRoom 18 1 (gs := []) (cf' := (31, [some (.ref 0), some (.int x1)], [.int 0], (hM σ), 0, 0)) rfl trivial ?_
    obtain rfl := Option.some.inj hm
    exact MW_zret C okX12_hasRoom hq 19 rfl (by decide) hp
theorem c_m_hasRoom (σ : MS) (x1 : Int32) (out : Int32) (hm : m_hasRoom σ x1 = some out) : CT yX12_hasRoom cX12_hasRoom 2 (some .boolean) 1 26 0 0 [.ref 0, .int x1] (hM σ) (fun v h => v = (some (.int out)) ∧ h = (hM σ)) :=
  CT_of (by decide +kernel) (vs0 := [some (.ref 0), some (.int x1)]) rfl rfl (fun X C hq => t_m_hasRoom C hq σ x1 out hm ⟨rfl, rfl⟩)
/-! X12_chosen -/
def m_chosen_J72 (k : MS → Int32 → Int32 → Int32 → Int32 → Int32 → Int32 → Option (Int32 × Int32 × Int32)) (σ : MS) (x1 : Int32) (x2 : Int32) (x3 : Int32) (x5 : Int32) (x6 : Int32) (w0 : Int32) : Option (Int32 × Int32 × Int32) :=
  if x5 < 0 then
    (m_areHigher σ x6 x1).bind fun q83 =>
      if q83 = 0 then
        k σ x1 x2 x3 w0 x5 (x6 + 1)
      else
        k σ x1 x2 x3 w0 x6 (x6 + 1)
  else
    k σ x1 x2 x3 w0 x5 (x6 + 1)
set_option maxRecDepth 100000 in
set_option maxHeartbeats 1000000 in
theorem j_m_chosen_72 {X : CTX} {K : Option Value → AH → Prop} (C : CX X cX12_chosen yX12_chosen.cls (decide (yX12_chosen.name = "<init>")) 2 47) (hq : RQ X (some .int) K) (k : MS → Int32 → Int32 → Int32 → Int32 → Int32 → Int32 → Option (Int32 × Int32 × Int32)) (hk : ∀ (σ : MS) (x1 : Int32) (x2 : Int32) (x3 : Int32) (x4 : Int32) (x5 : Int32) (x6 : Int32) (out : Int32 × Int32 × Int32), k σ x1 x2 x3 x4 x5 x6 = some out → MW X (104, [none, none, some (.int x2), some (.int out.1), some (.int out.2.1), some (.int out.2.2), none], [], (hM σ), 0, 0) → MW X (14, [some (.ref 0), some (.int x1), some (.int x2), some (.int x3), some (.int x4), some (.int x5), some (.int x6)], [], (hM σ), 0, 0)) (σ : MS) (x1 : Int32) (x2 : Int32) (x3 : Int32) (x5 : Int32) (x6 : Int32) (w0 : Int32) (out : Int32 × Int32 × Int32) (hm : m_chosen_J72 k σ x1 x2 x3 x5 x6 w0 = some out) (hp : MW X (104, [none, none, some (.int x2), some (.int out.1), some (.int out.2.1), some (.int out.2.2), none], [], (hM σ), 0, 0)) : MW X (72, [some (.ref 0), some (.int x1), some (.int x2), some (.int x3), none, some (.int x5), some (.int x6)], [.int w0], (hM σ), 0, 0) := by
  unfold m_chosen_J72 at hm
  refine MW_run C okX12_chosen 36 2 (gs := []) (cf' := (76, [some (.ref 0), some (.int x1), some (.int x2), some (.int x3), some (.int w0), some (.int x5), some (.int x6)], [.int x5], (hM σ), 0, 0)) rfl trivial ?_
  obtain ⟨hmt76, hmf76⟩ := of_if hm
  refine MW_brF C okX12_chosen 38 rfl rfl (fun hb76 => ?_) (fun hb76 => ?_)
  · have hm := hmt76 hb76
    refine MW_run C okX12_chosen 39 3 (gs := []) (cf' := (83, [some (.ref 0), some (.int x1), some (.int x2), some (.int x3), some (.int w0), some (.int x5), some (.int x6)], [.int x1, .int x6, .ref 0], (hM σ), 0, 0)) rfl trivial ?_
    obtain ⟨q83, hc83, hm⟩ := of_bind hm
    refine MW_callV0 C okX12_chosen 42 rfl (v0 := some (.int q83)) (h0 := (hM σ)) (c_m_areHigher σ x6 x1 q83 hc83) lkX12_321 2 dpX12_areHigher (by decide) (rest := []) rfl rfl rfl rfl rfl rfl rfl rfl ?_
    obtain ⟨hmt86, hmf86⟩ := of_if hm
    refine MW_brT C okX12_chosen 43 rfl rfl (fun hb86 => ?_) (fun hb86 => ?_)
    · have hm := hmt86 hb86
      refine MW_run C okX12_chosen 46 1 (gs := []) (cf' := (96, [some (.ref 0), some (.int x1), some (.int x2), some (.int x3), some (.int w0), some (.int x5), some (.int x6)], [.int x5], (hM σ), 0, 0)) rfl trivial ?_
      refine MW_run C okX12_chosen 47 1 (gs := []) (cf' := (98, [some (.ref 0), some (.int x1), some (.int x2), some (.int x3), some (.int w0), some (.int x5), some (.int x6)], [], (hM σ), 0, 0)) rfl trivial ?_
      refine MW_run C okX12_chosen 48 2 (gs := []) (cf' := (14, [some (.ref 0), some (.int x1), some (.int x2), some (.int x3), some (.int w0), some (.int x5), some (.int (x6 + 1))], [], (hM σ), 0, 0)) rfl trivial ?_
      exact hk σ x1 x2 x3 w0 x5 (x6 + 1) _ hm hp
    · have hm := hmf86 hb86
      refine MW_run C okX12_chosen 44 2 (gs := []) (cf' := (96, [some (.ref 0), some (.int x1), some (.int x2), some (.int x3), some (.int w0), some (.int x5), some (.int x6)], [.int x6], (hM σ), 0, 0)) rfl trivial ?_
      refine MW_run C okX12_chosen 47 1 (gs := []) (cf' := (98, [some (.ref 0), some (.int x1), some (.int x2), some (.int x3), some (.int w0), some (.int x6), some (.int x6)], [], (hM σ), 0, 0)) rfl trivial ?_
      refine MW_run C okX12_chosen 48 2 (gs := []) (cf' := (14, [some (.ref 0), some (.int x1), some (.int x2), some (.int x3), some (.int w0), some (.int x6), some (.int (x6 + 1))], [], (hM σ), 0, 0)) rfl trivial ?_
      exact hk σ x1 x2 x3 w0 x6 (x6 + 1) _ hm hp
  · have hm := hmf76 hb76
    refine MW_run C okX12_chosen 46 1 (gs := []) (cf' := (96, [some (.ref 0), some (.int x1), some (.int x2), some (.int x3), some (.int w0), some (.int x5), some (.int x6)], [.int x5], (hM σ), 0, 0)) rfl trivial ?_
    refine MW_run C okX12_chosen 47 1 (gs := []) (cf' := (98, [some (.ref 0), some (.int x1), some (.int x2), some (.int x3), some (.int w0), some (.int x5), some (.int x6)], [], (hM σ), 0, 0)) rfl trivial ?_
    refine MW_run C okX12_chosen 48 2 (gs := []) (cf' := (14, [some (.ref 0), some (.int x1), some (.int x2), some (.int x3), some (.int w0), some (.int x5), some (.int (x6 + 1))], [], (hM σ), 0, 0)) rfl trivial ?_
    exact hk σ x1 x2 x3 w0 x5 (x6 + 1) _ hm hp
def m_chosen_J42 (k : MS → Int32 → Int32 → Int32 → Int32 → Int32 → Int32 → Option (Int32 × Int32 × Int32)) (σ : MS) (x1 : Int32) (x2 : Int32) (x4 : Int32) (x5 : Int32) (x6 : Int32) (w0 : Int32) : Option (Int32 × Int32 × Int32) :=
  if x4 < 0 then
    m_chosen_J72 (k) σ x1 x2 w0 x5 x6 x6
  else
    if inb x6 5 ∧ inb x4 5 then
      if (gA σ 11 x6) < (gA σ 11 x4) then
        m_chosen_J72 (k) σ x1 x2 w0 x5 x6 x6
      else
        m_chosen_J72 (k) σ x1 x2 w0 x5 x6 x4
    else none
set_option maxRecDepth 100000 in
set_option maxHeartbeats 1000000 in
theorem j_m_chosen_42 {X : CTX} {K : Option Value → AH → Prop} (C : CX X cX12_chosen yX12_chosen.cls (decide (yX12_chosen.name = "<init>")) 2 47) (hq : RQ X (some .int) K) (k : MS → Int32 → Int32 → Int32 → Int32 → Int32 → Int32 → Option (Int32 × Int32 × Int32)) (hk : ∀ (σ : MS) (x1 : Int32) (x2 : Int32) (x3 : Int32) (x4 : Int32) (x5 : Int32) (x6 : Int32) (out : Int32 × Int32 × Int32), k σ x1 x2 x3 x4 x5 x6 = some out → MW X (104, [none, none, some (.int x2), some (.int out.1), some (.int out.2.1), some (.int out.2.2), none], [], (hM σ), 0, 0) → MW X (14, [some (.ref 0), some (.int x1), some (.int x2), some (.int x3), some (.int x4), some (.int x5), some (.int x6)], [], (hM σ), 0, 0)) (σ : MS) (x1 : Int32) (x2 : Int32) (x4 : Int32) (x5 : Int32) (x6 : Int32) (w0 : Int32) (out : Int32 × Int32 × Int32) (hm : m_chosen_J42 k σ x1 x2 x4 x5 x6 w0 = some out) (hp : MW X (104, [none, none, some (.int x2), some (.int out.1), some (.int out.2.1), some (.int out.2.2), none], [], (hM σ), 0, 0)) : MW X (42, [some (.ref 0), some (.int x1), some (.int x2), none, some (.int x4), some (.int x5), some (.int x6)], [.int w0], (hM σ), 0, 0) := by
  unfold m_chosen_J42 at hm
  refine MW_run C okX12_chosen 21 2 (gs := []) (cf' := (45, [some (.ref 0), some (.int x1), some (.int x2), some (.int w0), some (.int x4), some (.int x5), some (.int x6)], [.int x4], (hM σ), 0, 0)) rfl trivial ?_
  obtain ⟨hmt45, hmf45⟩ := of_if hm
  refine MW_brT C okX12_chosen 23 rfl rfl (fun hb45 => ?_) (fun hb45 => ?_)
  · have hm := hmt45 hb45
    refine MW_run C okX12_chosen 33 2 (gs := []) (cf' := (72, [some (.ref 0), some (.int x1), some (.int x2), some (.int w0), some (.int x4), some (.int x5), some (.int x6)], [.int x6], (hM σ), 0, 0)) rfl trivial ?_
    refine MW_pick [true, true, true, true, false, true, true] rfl (vs' := [some (.ref 0), some (.int x1), some (.int x2), some (.int w0), none, some (.int x5), some (.int x6)]) rfl ?_
    exact j_m_chosen_72 C hq (k) hk σ x1 x2 w0 x5 x6 x6 _ hm hp
  · have hm := hmf45 hb45
    obtain ⟨hg62, hm⟩ := of_guard hm
    refine MW_run C okX12_chosen 24 8 (gs := [inb x6 5, inb x4 5]) (cf' := (62, [some (.ref 0), some (.int x1), some (.int x2), some (.int w0), some (.int x4), some (.int x5), some (.int x6)], [.int (gA σ 11 x4), .int (gA σ 11 x6)], (hM σ), 0, 0)) rfl ⟨hg62.1, hg62.2⟩ ?_
    obtain ⟨hmt62, hmf62⟩ := of_if hm
    refine MW_brF C okX12_chosen 32 rfl rfl (fun hb62 => ?_) (fun hb62 => ?_)
    · have hm := hmt62 hb62
      refine MW_run C okX12_chosen 33 2 (gs := []) (cf' := (72, [some (.ref 0), some (.int x1), some (.int x2), some (.int w0), some (.int x4), some (.int x5), some (.int x6)], [.int x6], (hM σ), 0, 0)) rfl trivial ?_
      refine MW_pick [true, true, true, true, false, true, true] rfl (vs' := [some (.ref 0), some (.int x1), some (.int x2), some (.int w0), none, some (.int x5), some (.int x6)]) rfl ?_
      exact j_m_chosen_72 C hq (k) hk σ x1 x2 w0 x5 x6 x6 _ hm hp
    · have hm := hmf62 hb62
      refine MW_run C okX12_chosen 35 1 (gs := []) (cf' := (72, [some (.ref 0), some (.int x1), some (.int x2), some (.int w0), some (.int x4), some (.int x5), some (.int x6)], [.int x4], (hM σ), 0, 0)) rfl trivial ?_
      refine MW_pick [true, true, true, true, false, true, true] rfl (vs' := [some (.ref 0), some (.int x1), some (.int x2), some (.int w0), none, some (.int x5), some (.int x6)]) rfl ?_
      exact j_m_chosen_72 C hq (k) hk σ x1 x2 w0 x5 x6 x4 _ hm hp
def m_chosen_L14 : Nat → MS → Int32 → Int32 → Int32 → Int32 → Int32 → Int32 → Option (Int32 × Int32 × Int32)
  | 0, _, _, _, _, _, _, _ => none
  | n + 1, σ, x1, x2, x3, x4, x5, x6 =>
    if x6 < (gI σ 4) then
      (m_hasRoom σ x6).bind fun q26 =>
        if q26 = 0 then
          m_chosen_L14 n σ x1 x2 x3 x4 x5 (x6 + 1)
        else
          if x3 < 0 then
            m_chosen_J42 (m_chosen_L14 n) σ x1 x2 x4 x5 x6 x6
          else
            m_chosen_J42 (m_chosen_L14 n) σ x1 x2 x4 x5 x6 x3
    else
      some (x3, x4, x5)
set_option maxRecDepth 100000 in
set_option maxHeartbeats 1000000 in
theorem l_m_chosen_14 {X : CTX} {K : Option Value → AH → Prop} (C : CX X cX12_chosen yX12_chosen.cls (decide (yX12_chosen.name = "<init>")) 2 47) (hq : RQ X (some .int) K) : ∀ (n : Nat) (σ : MS) (x1 : Int32) (x2 : Int32) (x3 : Int32) (x4 : Int32) (x5 : Int32) (x6 : Int32) (out : Int32 × Int32 × Int32) (hm : m_chosen_L14 n σ x1 x2 x3 x4 x5 x6 = some out) (hp : MW X (104, [none, none, some (.int x2), some (.int out.1), some (.int out.2.1), some (.int out.2.2), none], [], (hM σ), 0, 0)), MW X (14, [some (.ref 0), some (.int x1), some (.int x2), some (.int x3), some (.int x4), some (.int x5), some (.int x6)], [], (hM σ), 0, 0) := by
  intro n
  induction n with
  | zero => intro σ x1 x2 x3 x4 x5 x6 out hm hp; rw [m_chosen_L14] at hm; cases hm
  | succ n ih =>
    intro σ x1 x2 x3 x4 x5 x6 out hm hp
    rw [m_chosen_L14] at hm
    refine MW_run C okX12_chosen 8 3 (gs := []) (cf' := (20, [some (.ref 0), some (.int x1), some (.int x2), some (.int x3), some (.int x4), some (.int x5), some (.int x6)], [.int (gI σ 4), .int x6], (hM σ), 0, 0)) rfl trivial ?_
    obtain ⟨hmt20, hmf20⟩ := of_if hm
    refine MW_brF C okX12_chosen 11 rfl rfl (fun hb20 => ?_) (fun hb20 => ?_)
    · have hm := hmt20 hb20
      refine MW_run C okX12_chosen 12 2 (gs := []) (cf' := (26, [some (.ref 0), some (.int x1), some (.int x2), some (.int x3), some (.int x4), some (.int x5), some (.int x6)], [.int x6, .ref 0], (hM σ), 0, 0)) rfl trivial ?_
      obtain ⟨q26, hc26, hm⟩ := of_bind hm
      refine MW_callV0 C okX12_chosen 14 rfl (v0 := some (.int q26)) (h0 := (hM σ)) (c_m_hasRoom σ x6 q26 hc26) lkX12_318 1 dpX12_hasRoom (by decide) (rest := []) rfl rfl rfl rfl rfl rfl rfl rfl ?_
      obtain ⟨hmt29, hmf29⟩ := of_if hm
      refine MW_brT C okX12_chosen 15 rfl rfl (fun hb29 => ?_) (fun hb29 => ?_)
      · have hm := hmt29 hb29
        refine MW_run C okX12_chosen 48 2 (gs := []) (cf' := (14, [some (.ref 0), some (.int x1), some (.int x2), some (.int x3), some (.int x4), some (.int x5), some (.int (x6 + 1))], [], (hM σ), 0, 0)) rfl trivial ?_
        exact ih σ x1 x2 x3 x4 x5 (x6 + 1) _ hm hp
      · have hm := hmf29 hb29
        refine MW_run C okX12_chosen 16 1 (gs := []) (cf' := (33, [some (.ref 0), some (.int x1), some (.int x2), some (.int x3), some (.int x4), some (.int x5), some (.int x6)], [.int x3], (hM σ), 0, 0)) rfl trivial ?_
        obtain ⟨hmt33, hmf33⟩ := of_if hm
        refine MW_brF C okX12_chosen 17 rfl rfl (fun hb33 => ?_) (fun hb33 => ?_)
        · have hm := hmt33 hb33
          refine MW_run C okX12_chosen 18 2 (gs := []) (cf' := (42, [some (.ref 0), some (.int x1), some (.int x2), some (.int x3), some (.int x4), some (.int x5), some (.int x6)], [.int x6], (hM σ), 0, 0)) rfl trivial ?_
          refine MW_pick [true, true, true, false, true, true, true] rfl (vs' := [some (.ref 0), some (.int x1), some (.int x2), none, some (.int x4), some (.int x5), some (.int x6)]) rfl ?_
          exact j_m_chosen_42 C hq (m_chosen_L14 n) ih σ x1 x2 x4 x5 x6 x6 _ hm hp
        · have hm := hmf33 hb33
          refine MW_run C okX12_chosen 20 1 (gs := []) (cf' := (42, [some (.ref 0), some (.int x1), some (.int x2), some (.int x3), some (.int x4), some (.int x5), some (.int x6)], [.int x3], (hM σ), 0, 0)) rfl trivial ?_
          refine MW_pick [true, true, true, false, true, true, true] rfl (vs' := [some (.ref 0), some (.int x1), some (.int x2), none, some (.int x4), some (.int x5), some (.int x6)]) rfl ?_
          exact j_m_chosen_42 C hq (m_chosen_L14 n) ih σ x1 x2 x4 x5 x6 x3 _ hm hp
    · have hm := hmf20 hb20
      obtain rfl := Option.some.inj hm
      refine MW_pick [false, false, true, true, true, true, false] rfl (vs' := [none, none, some (.int x2), some (.int x3), some (.int x4), some (.int x5), none]) rfl ?_
      exact hp
def m_chosen (σ : MS) (x1 : Int32) (x2 : Int32) : Option (Int32) :=
  (m_chosen_L14 N0 σ x1 x2 (-6) (-6) (-6) 0).bind fun q14 =>
    if x2 = 2 then
      some q14.2.1
    else
      if x2 = 1 then
        if q14.2.2 < 0 then
          some q14.1
        else
          some q14.2.2
      else
        some q14.1
set_option maxRecDepth 100000 in
set_option maxHeartbeats 1000000 in
theorem t_m_chosen {X : CTX} {K : Option Value → AH → Prop} (C : CX X cX12_chosen yX12_chosen.cls (decide (yX12_chosen.name = "<init>")) 2 47) (hq : RQ X (some .int) K) (σ : MS) (x1 : Int32) (x2 : Int32) (out : Int32) (hm : m_chosen σ x1 x2 = some out) (hp : K (some (.int out)) (hM σ)) : MW X (0, [some (.ref 0), some (.int x1), some (.int x2), none, none, none, none], [], (hM σ), 0, 0) := by
  unfold m_chosen at hm
  refine MW_run C okX12_chosen 0 8 (gs := []) (cf' := (14, [some (.ref 0), some (.int x1), some (.int x2), some (.int (-6)), some (.int (-6)), some (.int (-6)), some (.int 0)], [], (hM σ), 0, 0)) rfl trivial ?_
  obtain ⟨q14, hc14, hm⟩ := of_bind hm
  refine l_m_chosen_14 C hq N0 σ x1 x2 (-6) (-6) (-6) 0 q14 hc14 ?_
  refine MW_run C okX12_chosen 50 2 (gs := []) (cf' := (106, [none, none, some (.int x2), some (.int q14.1), some (.int q14.2.1), some (.int q14.2.2), none], [.int 2, .int x2], (hM σ), 0, 0)) rfl trivial ?_
  obtain ⟨hmt106, hmf106⟩ := of_if hm
  refine MW_brF C okX12_chosen 52 rfl rfl (fun hb106 => ?_) (fun hb106 => ?_)
  · have hm := hmt106 hb106
    refine MW_run C okX12_chosen 53 2 (gs := []) (cf' := (130, [none, none, some (.int x2), some (.int q14.1), some (.int q14.2.1), some (.int q14.2.2), none], [.int q14.2.1], (hM σ), 0, 0)) rfl trivial ?_
    obtain rfl := Option.some.inj hm
    exact MW_iret C okX12_chosen hq 63 rfl hp
  · have hm := hmf106 hb106
    refine MW_run C okX12_chosen 55 2 (gs := []) (cf' := (116, [none, none, some (.int x2), some (.int q14.1), some (.int q14.2.1), some (.int q14.2.2), none], [.int 1, .int x2], (hM σ), 0, 0)) rfl trivial ?_
    obtain ⟨hmt116, hmf116⟩ := of_if hm
    refine MW_brF C okX12_chosen 57 rfl rfl (fun hb116 => ?_) (fun hb116 => ?_)
    · have hm := hmt116 hb116
      refine MW_run C okX12_chosen 58 1 (gs := []) (cf' := (121, [none, none, some (.int x2), some (.int q14.1), some (.int q14.2.1), some (.int q14.2.2), none], [.int q14.2.2], (hM σ), 0, 0)) rfl trivial ?_
      obtain ⟨hmt121, hmf121⟩ := of_if hm
      refine MW_brT C okX12_chosen 59 rfl rfl (fun hb121 => ?_) (fun hb121 => ?_)
      · have hm := hmt121 hb121
        refine MW_run C okX12_chosen 62 1 (gs := []) (cf' := (130, [none, none, some (.int x2), some (.int q14.1), some (.int q14.2.1), some (.int q14.2.2), none], [.int q14.1], (hM σ), 0, 0)) rfl trivial ?_
        obtain rfl := Option.some.inj hm
        exact MW_iret C okX12_chosen hq 63 rfl hp
      · have hm := hmf121 hb121
        refine MW_run C okX12_chosen 60 2 (gs := []) (cf' := (130, [none, none, some (.int x2), some (.int q14.1), some (.int q14.2.1), some (.int q14.2.2), none], [.int q14.2.2], (hM σ), 0, 0)) rfl trivial ?_
        obtain rfl := Option.some.inj hm
        exact MW_iret C okX12_chosen hq 63 rfl hp
    · have hm := hmf116 hb116
      refine MW_run C okX12_chosen 62 1 (gs := []) (cf' := (130, [none, none, some (.int x2), some (.int q14.1), some (.int q14.2.1), some (.int q14.2.2), none], [.int q14.1], (hM σ), 0, 0)) rfl trivial ?_
      obtain rfl := Option.some.inj hm
      exact MW_iret C okX12_chosen hq 63 rfl hp
theorem c_m_chosen (σ : MS) (x1 : Int32) (x2 : Int32) (out : Int32) (hm : m_chosen σ x1 x2 = some out) : CT yX12_chosen cX12_chosen 7 (some .int) 2 47 0 0 [.ref 0, .int x1, .int x2] (hM σ) (fun v h => v = (some (.int out)) ∧ h = (hM σ)) :=
  CT_of (by decide +kernel) (vs0 := [some (.ref 0), some (.int x1), some (.int x2), none, none, none, none]) rfl rfl (fun X C hq => t_m_chosen C hq σ x1 x2 out hm ⟨rfl, rfl⟩)
/-! X12_goIn -/
def m_goIn (σ : MS) (x1 : Int32) (x2 : Int32) : Option (Int32 × MS) :=
  if (gI σ 16) = x1 then
    some (0, σ)
  else
    if inb (gI σ 16) 5 then
      (m_chosen σ (gA σ 22 (gI σ 16)) x2).bind fun q21 =>
        if q21 < 0 then
          some (0, σ)
        else
          (m_doMove σ 0 0 (q21 + 1) 0).bind fun q38 =>
            some (1, q38)
    else none
set_option maxRecDepth 100000 in
set_option maxHeartbeats 1000000 in
theorem t_m_goIn {X : CTX} {K : Option Value → AH → Prop} (C : CX X cX12_goIn yX12_goIn.cls (decide (yX12_goIn.name = "<init>")) 3 73) (hq : RQ X (some .boolean) K) (σ : MS) (x1 : Int32) (x2 : Int32) (out : Int32 × MS) (hm : m_goIn σ x1 x2 = some out) (hp : K (some (.int out.1)) (hM out.2)) : MW X (0, [some (.ref 0), some (.int x1), some (.int x2), none], [], (hM σ), 0, 0) := by
  unfold m_goIn at hm
  refine MW_run C okX12_goIn 0 3 (gs := []) (cf' := (5, [some (.ref 0), some (.int x1), some (.int x2), none], [.int x1, .int (gI σ 16)], (hM σ), 0, 0)) rfl trivial ?_
  obtain ⟨hmt5, hmf5⟩ := of_if hm
  refine MW_brF C okX12_goIn 3 rfl rfl (fun hb5 => ?_) (fun hb5 => ?_)
  · have hm := hmt5 hb5
    refine MW_run C okX12_goIn 4 1 (gs := []) (cf' := (9, [some (.ref 0), some (.int x1), some (.int x2), none], [.int 0], (hM σ), 0, 0)) rfl trivial ?_
    obtain rfl := Option.some.inj hm
    exact MW_zret C okX12_goIn hq 5 rfl (by decide) hp
  · have hm := hmf5 hb5
    obtain ⟨hg21, hm⟩ := of_guard hm
    refine MW_run C okX12_goIn 6 7 (gs := [inb (gI σ 16) 5]) (cf' := (21, [some (.ref 0), some (.int x1), some (.int x2), none], [.int x2, .int (gA σ 22 (gI σ 16)), .ref 0], (hM σ), 0, 0)) rfl hg21 ?_
    obtain ⟨q21, hc21, hm⟩ := of_bind hm
    refine MW_callV0 C okX12_goIn 13 rfl (v0 := some (.int q21)) (h0 := (hM σ)) (c_m_chosen σ (gA σ 22 (gI σ 16)) x2 q21 hc21) lkX12_324 2 dpX12_chosen (by decide) (rest := []) rfl rfl rfl rfl rfl rfl rfl rfl ?_
    refine MW_run C okX12_goIn 14 2 (gs := []) (cf' := (26, [some (.ref 0), some (.int x1), some (.int x2), some (.int q21)], [.int q21], (hM σ), 0, 0)) rfl trivial ?_
    obtain ⟨hmt26, hmf26⟩ := of_if hm
    refine MW_brF C okX12_goIn 16 rfl rfl (fun hb26 => ?_) (fun hb26 => ?_)
    · have hm := hmt26 hb26
      refine MW_run C okX12_goIn 17 1 (gs := []) (cf' := (30, [some (.ref 0), some (.int x1), some (.int x2), some (.int q21)], [.int 0], (hM σ), 0, 0)) rfl trivial ?_
      obtain rfl := Option.some.inj hm
      exact MW_zret C okX12_goIn hq 18 rfl (by decide) hp
    · have hm := hmf26 hb26
      refine MW_run C okX12_goIn 19 7 (gs := []) (cf' := (38, [some (.ref 0), some (.int x1), some (.int x2), some (.int q21)], [.int 0, .int (q21 + 1), .int 0, .int 0, .ref 0], (hM σ), 0, 0)) rfl trivial ?_
      obtain ⟨q38, hc38, hm⟩ := of_bind hm
      refine MW_callV0 C okX12_goIn 26 rfl (v0 := none) (h0 := (hM q38)) (c_m_doMove σ 0 0 (q21 + 1) 0 q38 hc38) lkX12_213 4 dpX12_doMove (by decide) (rest := []) rfl rfl rfl rfl rfl rfl rfl rfl ?_
      refine MW_run C okX12_goIn 27 1 (gs := []) (cf' := (42, [some (.ref 0), some (.int x1), some (.int x2), some (.int q21)], [.int 1], (hM q38), 0, 0)) rfl trivial ?_
      obtain rfl := Option.some.inj hm
      exact MW_zret C okX12_goIn hq 28 rfl (by decide) hp
theorem c_m_goIn (σ : MS) (x1 : Int32) (x2 : Int32) (out : Int32 × MS) (hm : m_goIn σ x1 x2 = some out) : CT yX12_goIn cX12_goIn 4 (some .boolean) 3 73 0 0 [.ref 0, .int x1, .int x2] (hM σ) (fun v h => v = (some (.int out.1)) ∧ h = (hM out.2)) :=
  CT_of (by decide +kernel) (vs0 := [some (.ref 0), some (.int x1), some (.int x2), none]) rfl rfl (fun X C hq => t_m_goIn C hq σ x1 x2 out hm ⟨rfl, rfl⟩)
