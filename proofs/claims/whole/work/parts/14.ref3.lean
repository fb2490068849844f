/-! X12_trainOf -/
def m_trainOf_L11 : Nat → MS → Int32 → Int32 → Int32 → Option (Int32)
  | 0, _, _, _, _ => none
  | n + 1, σ, x2, x3, x4 =>
    if x4 < x2 then
      if inb x4 5 then
        m_trainOf_L11 n σ x2 (((10 : Int32) * x3) + (gA σ 21 x4)) (x4 + 1)
      else none
    else
      some x3
set_option maxRecDepth 100000 in
set_option maxHeartbeats 1000000 in
theorem l_m_trainOf_11 {X : CTX} {K : Option Value → AH → Prop} (C : CX X cX12_trainOf yX12_trainOf.cls (decide (yX12_trainOf.name = "<init>")) 1 25) (hq : RQ X (some .int) K) : ∀ (n : Nat) (σ : MS) (x2 : Int32) (x3 : Int32) (x4 : Int32) (out : Int32) (hm : m_trainOf_L11 n σ x2 x3 x4 = some out) (hp : MW X (36, [none, none, none, some (.int out), none], [], (hM σ), 0, 0)), MW X (11, [some (.ref 0), none, some (.int x2), some (.int x3), some (.int x4)], [], (hM σ), 0, 0) := by
  intro n
  induction n with
  | zero => intro σ x2 x3 x4 out hm hp; rw [m_trainOf_L11] at hm; cases hm
  | succ n ih =>
    intro σ x2 x3 x4 out hm hp
    rw [m_trainOf_L11] at hm
    refine MW_run C okX12_trainOf 8 2 (gs := []) (cf' := (14, [some (.ref 0), none, some (.int x2), some (.int x3), some (.int x4)], [.int x2, .int x4], (hM σ), 0, 0)) rfl trivial ?_
    obtain ⟨hmt14, hmf14⟩ := of_if hm
    refine MW_brF C okX12_trainOf 10 rfl rfl (fun hb14 => ?_) (fun hb14 => ?_)
    · have hm := hmt14 hb14
      obtain ⟨hg11, hm⟩ := of_guard hm
      refine MW_run C okX12_trainOf 11 11 (gs := [inb x4 5]) (cf' := (11, [some (.ref 0), none, some (.int x2), some (.int (((10 : Int32) * x3) + (gA σ 21 x4))), some (.int (x4 + 1))], [], (hM σ), 0, 0)) rfl hg11 ?_
      exact ih σ x2 (((10 : Int32) * x3) + (gA σ 21 x4)) (x4 + 1) _ hm hp
    · have hm := hmf14 hb14
      obtain rfl := Option.some.inj hm
      refine MW_pick [false, true, false, true, false] rfl (vs' := [none, none, none, some (.int x3), none]) rfl ?_
      exact hp
def m_trainOf (σ : MS) (x1 : Int32) (x2 : Int32) : Option (Int32 × MS) :=
  (m_layRow σ x1 x2).bind fun q3 =>
    (m_trainOf_L11 N0 q3 x2 0 0).bind fun q11 =>
      some (q11, q3)
set_option maxRecDepth 100000 in
set_option maxHeartbeats 1000000 in
theorem t_m_trainOf {X : CTX} {K : Option Value → AH → Prop} (C : CX X cX12_trainOf yX12_trainOf.cls (decide (yX12_trainOf.name = "<init>")) 1 25) (hq : RQ X (some .int) K) (σ : MS) (x1 : Int32) (x2 : Int32) (out : Int32 × MS) (hm : m_trainOf σ x1 x2 = some out) (hp : K (some (.int out.1)) (hM out.2)) : MW X (0, [some (.ref 0), some (.int x1), some (.int x2), none, none], [], (hM σ), 0, 0) := by
  unfold m_trainOf at hm
  refine MW_run C okX12_trainOf 0 3 (gs := []) (cf' := (3, [some (.ref 0), some (.int x1), some (.int x2), none, none], [.int x2, .int x1, .ref 0], (hM σ), 0, 0)) rfl trivial ?_
  obtain ⟨q3, hc3, hm⟩ := of_bind hm
  refine MW_callV0 C okX12_trainOf 3 rfl (v0 := none) (h0 := (hM q3)) (c_m_layRow σ x1 x2 q3 hc3) lkX12_273 2 dpX12_layRow (by decide) (rest := []) rfl rfl rfl rfl rfl rfl rfl rfl ?_
  refine MW_run C okX12_trainOf 4 4 (gs := []) (cf' := (11, [some (.ref 0), some (.int x1), some (.int x2), some (.int 0), some (.int 0)], [], (hM q3), 0, 0)) rfl trivial ?_
  obtain ⟨q11, hc11, hm⟩ := of_bind hm
  refine MW_pick [true, false, true, true, true] rfl (vs' := [some (.ref 0), none, some (.int x2), some (.int 0), some (.int 0)]) rfl ?_
  refine l_m_trainOf_11 C hq N0 q3 x2 0 0 q11 hc11 ?_
  refine MW_run C okX12_trainOf 22 1 (gs := []) (cf' := (37, [none, none, none, some (.int q11), none], [.int q11], (hM q3), 0, 0)) rfl trivial ?_
  obtain rfl := Option.some.inj hm
  exact MW_iret C okX12_trainOf hq 23 rfl hp
theorem c_m_trainOf (σ : MS) (x1 : Int32) (x2 : Int32) (out : Int32 × MS) (hm : m_trainOf σ x1 x2 = some out) : CT yX12_trainOf cX12_trainOf 5 (some .int) 1 25 0 0 [.ref 0, .int x1, .int x2] (hM σ) (fun v h => v = (some (.int out.1)) ∧ h = (hM out.2)) :=
  CT_of (by decide +kernel) (vs0 := [some (.ref 0), some (.int x1), some (.int x2), none, none]) rfl rfl (fun X C hq => t_m_trainOf C hq σ x1 x2 out hm ⟨rfl, rfl⟩)
/-! X12_sortFar -/
def m_sortFar (σ : MS) (x1 : Int32) (x2 : Int32) : Option (Int32 × MS) :=
  (m_sortedOf σ x2).bind fun q8 =>
    (m_found σ x1 q8 x2).bind fun q12 =>
      if inb q12.1 720 then
        some ((gA q12.2 18 q12.1), q12.2)
      else none
set_option maxRecDepth 100000 in
set_option maxHeartbeats 1000000 in
theorem t_m_sortFar {X : CTX} {K : Option Value → AH → Prop} (C : CX X cX12_sortFar yX12_sortFar.cls (decide (yX12_sortFar.name = "<init>")) 6 150) (hq : RQ X (some .int) K) (σ : MS) (x1 : Int32) (x2 : Int32) (out : Int32 × MS) (hm : m_sortFar σ x1 x2 = some out) (hp : K (some (.int out.1)) (hM out.2)) : MW X (0, [some (.ref 0), some (.int x1), some (.int x2)], [], (hM σ), 0, 0) := by
  unfold m_sortFar at hm
  refine MW_run C okX12_sortFar 0 6 (gs := []) (cf' := (8, [some (.ref 0), some (.int x1), some (.int x2)], [.int x2, .ref 0, .int x1, .ref 0, .ref 18], (hM σ), 0, 0)) rfl trivial ?_
  obtain ⟨q8, hc8, hm⟩ := of_bind hm
  refine MW_callV0 C okX12_sortFar 6 rfl (v0 := some (.int q8)) (h0 := (hM σ)) (c_m_sortedOf σ x2 q8 hc8) lkX12_279 1 dpX12_sortedOf (by decide) (rest := [.int x1, .ref 0, .ref 18]) rfl rfl rfl rfl rfl rfl rfl rfl ?_
  refine MW_run C okX12_sortFar 7 1 (gs := []) (cf' := (12, [some (.ref 0), some (.int x1), some (.int x2)], [.int x2, .int q8, .int x1, .ref 0, .ref 18], (hM σ), 0, 0)) rfl trivial ?_
  obtain ⟨q12, hc12, hm⟩ := of_bind hm
  refine MW_callV0 C okX12_sortFar 8 rfl (v0 := some (.int q12.1)) (h0 := (hM q12.2)) (c_m_found σ x1 q8 x2 q12 hc12) lkX12_251 3 dpX12_found (by decide) (rest := [.ref 18]) rfl rfl rfl rfl rfl rfl rfl rfl ?_
  obtain ⟨hg16, hm⟩ := of_guard hm
  refine MW_run C okX12_sortFar 9 1 (gs := [inb q12.1 720]) (cf' := (16, [some (.ref 0), some (.int x1), some (.int x2)], [.int (gA q12.2 18 q12.1)], (hM q12.2), 0, 0)) rfl hg16 ?_
  obtain rfl := Option.some.inj hm
  exact MW_iret C okX12_sortFar hq 10 rfl hp
theorem c_m_sortFar (σ : MS) (x1 : Int32) (x2 : Int32) (out : Int32 × MS) (hm : m_sortFar σ x1 x2 = some out) : CT yX12_sortFar cX12_sortFar 3 (some .int) 6 150 0 0 [.ref 0, .int x1, .int x2] (hM σ) (fun v h => v = (some (.int out.1)) ∧ h = (hM out.2)) :=
  CT_of (by decide +kernel) (vs0 := [some (.ref 0), some (.int x1), some (.int x2)]) rfl rfl (fun X C hq => t_m_sortFar C hq σ x1 x2 out hm ⟨rfl, rfl⟩)
/-! X12_isCount -/
def m_isCount (x0 : Int32) : Option (Int32) :=
  (m_in ((x0 : Int32).toInt64) 1 5).bind fun q6 =>
    if isZ q6 then some q6 else none
set_option maxRecDepth 100000 in
set_option maxHeartbeats 1000000 in
theorem t_m_isCount {X : CTX} {K : Option Value → AH → Prop} (C : CX X cX12_isCount yX12_isCount.cls (decide (yX12_isCount.name = "<init>")) 1 25) (hq : RQ X (some .boolean) K) (x0 : Int32) (out : Int32) (hm : m_isCount x0 = some out) (hp : K (some (.int out)) []) : MW X (0, [some (.int x0)], [], [], 0, 0) := by
  unfold m_isCount at hm
  refine MW_run C okX12_isCount 0 4 (gs := []) (cf' := (6, [some (.int x0)], [.long 5, .long 1, .long ((x0 : Int32).toInt64)], [], 0, 0)) rfl trivial ?_
  obtain ⟨q6, hc6, hm⟩ := of_bind hm
  refine MW_callS0 C okX12_isCount 4 rfl (v0 := some (.int q6)) (c_m_in ((x0 : Int32).toInt64) 1 5 q6 hc6) lkX12_121 3 dpX12_in (by decide) (rest := []) rfl rfl rfl rfl rfl ?_
  obtain ⟨hz, hm⟩ := of_guard hm
  obtain rfl := Option.some.inj hm
  exact MW_zret C okX12_isCount hq 5 rfl hz hp
theorem c_m_isCount (x0 : Int32) (out : Int32) (hm : m_isCount x0 = some out) : CT yX12_isCount cX12_isCount 1 (some .boolean) 1 25 0 0 [.int x0] [] (fun v h => v = (some (.int out)) ∧ h = []) :=
  CT_of (by decide +kernel) (vs0 := [some (.int x0)]) rfl rfl (fun X C hq => t_m_isCount C hq x0 out hm ⟨rfl, rfl⟩)
/-! X12_good -/
def m_good_L34 : Nat → MS → Int32 → Int32 → Int32 → Int32 → Int32 → Option (MS × Int32 × Int32)
  | 0, _, _, _, _, _, _ => none
  | n + 1, σ, x1, x2, x3, x4, x5 =>
    if x5 < 0 then
      some (σ, x3, x4)
    else
      (m_trainOf σ x5 x1).bind fun q43 =>
        (m_sortFar q43.2 q43.1 x1).bind fun q52 =>
          if q52.1 < 0 then
            m_good_L34 n q52.2 x1 x2 x3 q43.1 (x5 + (-1))
          else
            m_good_L34 n q52.2 x1 x2 (x3 + 1) x4 (x5 + (-1))
set_option maxRecDepth 100000 in
set_option maxHeartbeats 1000000 in
theorem l_m_good_34 {X : CTX} {K : Option Value → AH → Prop} (C : CX X cX12_good yX12_good.cls (decide (yX12_good.name = "<init>")) 7 172) (hq : RQ X (some .int) K) : ∀ (n : Nat) (σ : MS) (x1 : Int32) (x2 : Int32) (x3 : Int32) (x4 : Int32) (x5 : Int32) (out : MS × Int32 × Int32) (hm : m_good_L34 n σ x1 x2 x3 x4 x5 = some out) (hp : MW X (74, [none, none, some (.int x2), some (.int out.2.1), some (.int out.2.2), none, none], [], (hM out.1), 0, 0)), MW X (34, [some (.ref 0), some (.int x1), some (.int x2), some (.int x3), some (.int x4), some (.int x5), none], [], (hM σ), 0, 0) := by
  intro n
  induction n with
  | zero => intro σ x1 x2 x3 x4 x5 out hm hp; rw [m_good_L34] at hm; cases hm
  | succ n ih =>
    intro σ x1 x2 x3 x4 x5 out hm hp
    rw [m_good_L34] at hm
    refine MW_run C okX12_good 20 1 (gs := []) (cf' := (36, [some (.ref 0), some (.int x1), some (.int x2), some (.int x3), some (.int x4), some (.int x5), none], [.int x5], (hM σ), 0, 0)) rfl trivial ?_
    obtain ⟨hmt36, hmf36⟩ := of_if hm
    refine MW_brT C okX12_good 21 rfl rfl (fun hb36 => ?_) (fun hb36 => ?_)
    · have hm := hmt36 hb36
      obtain rfl := Option.some.inj hm
      refine MW_pick [false, false, true, true, true, false, true] rfl (vs' := [none, none, some (.int x2), some (.int x3), some (.int x4), none, none]) rfl ?_
      exact hp
    · have hm := hmf36 hb36
      refine MW_run C okX12_good 22 3 (gs := []) (cf' := (43, [some (.ref 0), some (.int x1), some (.int x2), some (.int x3), some (.int x4), some (.int x5), none], [.int x1, .int x5, .ref 0], (hM σ), 0, 0)) rfl trivial ?_
      obtain ⟨q43, hc43, hm⟩ := of_bind hm
      refine MW_callV0 C okX12_good 25 rfl (v0 := some (.int q43.1)) (h0 := (hM q43.2)) (c_m_trainOf σ x5 x1 q43 hc43) lkX12_285 2 dpX12_trainOf (by decide) (rest := []) rfl rfl rfl rfl rfl rfl rfl rfl ?_
      refine MW_run C okX12_good 26 4 (gs := []) (cf' := (52, [some (.ref 0), some (.int x1), some (.int x2), some (.int x3), some (.int x4), some (.int x5), some (.int q43.1)], [.int x1, .int q43.1, .ref 0], (hM q43.2), 0, 0)) rfl trivial ?_
      obtain ⟨q52, hc52, hm⟩ := of_bind hm
      refine MW_callV0 C okX12_good 30 rfl (v0 := some (.int q52.1)) (h0 := (hM q52.2)) (c_m_sortFar q43.2 q43.1 x1 q52 hc52) lkX12_288 2 dpX12_sortFar (by decide) (rest := []) rfl rfl rfl rfl rfl rfl rfl rfl ?_
      obtain ⟨hmt55, hmf55⟩ := of_if hm
      refine MW_brT C okX12_good 31 rfl rfl (fun hb55 => ?_) (fun hb55 => ?_)
      · have hm := hmt55 hb55
        refine MW_run C okX12_good 34 2 (gs := []) (cf' := (68, [some (.ref 0), some (.int x1), some (.int x2), some (.int x3), some (.int q43.1), some (.int x5), some (.int q43.1)], [], (hM q52.2), 0, 0)) rfl trivial ?_
        refine MW_run C okX12_good 36 2 (gs := []) (cf' := (34, [some (.ref 0), some (.int x1), some (.int x2), some (.int x3), some (.int q43.1), some (.int (x5 + (-1))), some (.int q43.1)], [], (hM q52.2), 0, 0)) rfl trivial ?_
        refine MW_pick [true, true, true, true, true, true, false] rfl (vs' := [some (.ref 0), some (.int x1), some (.int x2), some (.int x3), some (.int q43.1), some (.int (x5 + (-1))), none]) rfl ?_
        exact ih q52.2 x1 x2 x3 q43.1 (x5 + (-1)) _ hm hp
      · have hm := hmf55 hb55
        refine MW_run C okX12_good 32 2 (gs := []) (cf' := (68, [some (.ref 0), some (.int x1), some (.int x2), some (.int (x3 + 1)), some (.int x4), some (.int x5), some (.int q43.1)], [], (hM q52.2), 0, 0)) rfl trivial ?_
        refine MW_run C okX12_good 36 2 (gs := []) (cf' := (34, [some (.ref 0), some (.int x1), some (.int x2), some (.int (x3 + 1)), some (.int x4), some (.int (x5 + (-1))), some (.int q43.1)], [], (hM q52.2), 0, 0)) rfl trivial ?_
        refine MW_pick [true, true, true, true, true, true, false] rfl (vs' := [some (.ref 0), some (.int x1), some (.int x2), some (.int (x3 + 1)), some (.int x4), some (.int (x5 + (-1))), none]) rfl ?_
        exact ih q52.2 x1 x2 (x3 + 1) x4 (x5 + (-1)) _ hm hp
def m_good (σ : MS) (x1 : Int32) (x2 : Int32) : Option (Int32 × MS) :=
  (m_isCount x1).bind fun q1 =>
    if q1 = 0 then
      some ((-2), σ)
    else
      (m_in ((x2 : Int32).toInt64) 0 1).bind fun q11 =>
        if q11 = 0 then
          some ((-2), σ)
        else
          (m_power x1).bind fun q27 =>
            (m_good_L34 N0 σ x1 x2 0 (-6) (q27 - 1)).bind fun q34 =>
              if x2 = 0 then
                some (q34.2.1, q34.1)
              else
                some (q34.2.2, q34.1)
set_option maxRecDepth 100000 in
set_option maxHeartbeats 1000000 in
theorem t_m_good {X : CTX} {K : Option Value → AH → Prop} (C : CX X cX12_good yX12_good.cls (decide (yX12_good.name = "<init>")) 7 172) (hq : RQ X (some .int) K) (σ : MS) (x1 : Int32) (x2 : Int32) (out : Int32 × MS) (hm : m_good σ x1 x2 = some out) (hp : K (some (.int out.1)) (hM out.2)) : MW X (0, [some (.ref 0), some (.int x1), some (.int x2), none, none, none, none], [], (hM σ), 0, 0) := by
  unfold m_good at hm
  refine MW_run C okX12_good 0 1 (gs := []) (cf' := (1, [some (.ref 0), some (.int x1), some (.int x2), none, none, none, none], [.int x1], (hM σ), 0, 0)) rfl trivial ?_
  obtain ⟨q1, hc1, hm⟩ := of_bind hm
  refine MW_callS0 C okX12_good 1 rfl (v0 := some (.int q1)) (c_m_isCount x1 q1 hc1) lkX12_282 1 dpX12_isCount (by decide) (rest := []) rfl rfl rfl rfl rfl ?_
  obtain ⟨hmt4, hmf4⟩ := of_if hm
  refine MW_brT C okX12_good 2 rfl rfl (fun hb4 => ?_) (fun hb4 => ?_)
  · have hm := hmt4 hb4
    refine MW_run C okX12_good 9 1 (gs := []) (cf' := (19, [some (.ref 0), some (.int x1), some (.int x2), none, none, none, none], [.int (-2)], (hM σ), 0, 0)) rfl trivial ?_
    obtain rfl := Option.some.inj hm
    exact MW_iret C okX12_good hq 10 rfl hp
  · have hm := hmf4 hb4
    refine MW_run C okX12_good 3 4 (gs := []) (cf' := (11, [some (.ref 0), some (.int x1), some (.int x2), none, none, none, none], [.long 1, .long 0, .long ((x2 : Int32).toInt64)], (hM σ), 0, 0)) rfl trivial ?_
    obtain ⟨q11, hc11, hm⟩ := of_bind hm
    refine MW_callS0 C okX12_good 7 rfl (v0 := some (.int q11)) (c_m_in ((x2 : Int32).toInt64) 0 1 q11 hc11) lkX12_121 3 dpX12_in (by decide) (rest := []) rfl rfl rfl rfl rfl ?_
    obtain ⟨hmt14, hmf14⟩ := of_if hm
    refine MW_brF C okX12_good 8 rfl rfl (fun hb14 => ?_) (fun hb14 => ?_)
    · have hm := hmt14 hb14
      refine MW_run C okX12_good 9 1 (gs := []) (cf' := (19, [some (.ref 0), some (.int x1), some (.int x2), none, none, none, none], [.int (-2)], (hM σ), 0, 0)) rfl trivial ?_
      obtain rfl := Option.some.inj hm
      exact MW_iret C okX12_good hq 10 rfl hp
    · have hm := hmf14 hb14
      refine MW_run C okX12_good 11 5 (gs := []) (cf' := (27, [some (.ref 0), some (.int x1), some (.int x2), some (.int 0), some (.int (-6)), none, none], [.int x1], (hM σ), 0, 0)) rfl trivial ?_
      obtain ⟨q27, hc27, hm⟩ := of_bind hm
      refine MW_callS0 C okX12_good 16 rfl (v0 := some (.int q27)) (c_m_power x1 q27 hc27) lkX12_270 1 dpX12_power (by decide) (rest := []) rfl rfl rfl rfl rfl ?_
      refine MW_run C okX12_good 17 3 (gs := []) (cf' := (34, [some (.ref 0), some (.int x1), some (.int x2), some (.int 0), some (.int (-6)), some (.int (q27 - 1)), none], [], (hM σ), 0, 0)) rfl trivial ?_
      obtain ⟨q34, hc34, hm⟩ := of_bind hm
      refine l_m_good_34 C hq N0 σ x1 x2 0 (-6) (q27 - 1) q34 hc34 ?_
      refine MW_run C okX12_good 38 1 (gs := []) (cf' := (75, [none, none, some (.int x2), some (.int q34.2.1), some (.int q34.2.2), none, none], [.int x2], (hM q34.1), 0, 0)) rfl trivial ?_
      obtain ⟨hmt75, hmf75⟩ := of_if hm
      refine MW_brF C okX12_good 39 rfl rfl (fun hb75 => ?_) (fun hb75 => ?_)
      · have hm := hmt75 hb75
        refine MW_run C okX12_good 40 2 (gs := []) (cf' := (84, [none, none, some (.int x2), some (.int q34.2.1), some (.int q34.2.2), none, none], [.int q34.2.1], (hM q34.1), 0, 0)) rfl trivial ?_
        obtain rfl := Option.some.inj hm
        exact MW_iret C okX12_good hq 43 rfl hp
      · have hm := hmf75 hb75
        refine MW_run C okX12_good 42 1 (gs := []) (cf' := (84, [none, none, some (.int x2), some (.int q34.2.1), some (.int q34.2.2), none, none], [.int q34.2.2], (hM q34.1), 0, 0)) rfl trivial ?_
        obtain rfl := Option.some.inj hm
        exact MW_iret C okX12_good hq 43 rfl hp
theorem c_m_good (σ : MS) (x1 : Int32) (x2 : Int32) (out : Int32 × MS) (hm : m_good σ x1 x2 = some out) : CT yX12_good cX12_good 7 (some .int) 7 172 0 0 [.ref 0, .int x1, .int x2] (hM σ) (fun v h => v = (some (.int out.1)) ∧ h = (hM out.2)) :=
  CT_of (by decide +kernel) (vs0 := [some (.ref 0), some (.int x1), some (.int x2), none, none, none, none]) rfl rfl (fun X C hq => t_m_good C hq σ x1 x2 out hm ⟨rfl, rfl⟩)
/-! X12_mean -/
def m_mean_J65 (k : MS → Int32 → Int32 → Int64 → Int64 → Int32 → Option (MS × Int64 × Int64)) (σ : MS) (x1 : Int32) (x2 : Int32) (x5 : Int64) (x7 : Int32) (x8 : Int32) (w0 : Int64) (w1 : Int64) : Option (MS × Int64 × Int64) :=
  if x8 < 0 then
    k σ x1 x2 (w0 + w1) (x5 + 0) (x7 + 1)
  else
    k σ x1 x2 (w0 + w1) (x5 + 1) (x7 + 1)
set_option maxRecDepth 100000 in
set_option maxHeartbeats 1000000 in
theorem j_m_mean_65 {X : CTX} {K : Option Value → AH → Prop} (C : CX X cX12_mean yX12_mean.cls (decide (yX12_mean.name = "<init>")) 7 172) (hq : RQ X (some .long) K) (k : MS → Int32 → Int32 → Int64 → Int64 → Int32 → Option (MS × Int64 × Int64)) (hk : ∀ (σ : MS) (x1 : Int32) (x2 : Int32) (x3 : Int64) (x5 : Int64) (x7 : Int32) (out : MS × Int64 × Int64), k σ x1 x2 x3 x5 x7 = some out → MW X (88, [none, none, some (.int x2), some (.long out.2.1), none, some (.long out.2.2), none, none, none], [], (hM out.1), 0, 0) → MW X (29, [some (.ref 0), some (.int x1), some (.int x2), some (.long x3), none, some (.long x5), none, some (.int x7), none], [], (hM σ), 0, 0)) (σ : MS) (x1 : Int32) (x2 : Int32) (x5 : Int64) (x7 : Int32) (x8 : Int32) (w0 : Int64) (w1 : Int64) (out : MS × Int64 × Int64) (hm : m_mean_J65 k σ x1 x2 x5 x7 x8 w0 w1 = some out) (hp : MW X (88, [none, none, some (.int x2), some (.long out.2.1), none, some (.long out.2.2), none, none, none], [], (hM out.1), 0, 0)) : MW X (65, [some (.ref 0), some (.int x1), some (.int x2), none, none, some (.long x5), none, some (.int x7), some (.int x8)], [.long w1, .long w0], (hM σ), 0, 0) := by
  unfold m_mean_J65 at hm
  refine MW_run C okX12_mean 36 4 (gs := []) (cf' := (71, [some (.ref 0), some (.int x1), some (.int x2), some (.long (w0 + w1)), none, some (.long x5), none, some (.int x7), some (.int x8)], [.int x8, .long x5], (hM σ), 0, 0)) rfl trivial ?_
  obtain ⟨hmt71, hmf71⟩ := of_if hm
  refine MW_brF C okX12_mean 40 rfl rfl (fun hb71 => ?_) (fun hb71 => ?_)
  · have hm := hmt71 hb71
    refine MW_run C okX12_mean 41 2 (gs := []) (cf' := (79, [some (.ref 0), some (.int x1), some (.int x2), some (.long (w0 + w1)), none, some (.long x5), none, some (.int x7), some (.int x8)], [.long 0, .long x5], (hM σ), 0, 0)) rfl trivial ?_
    refine MW_run C okX12_mean 44 4 (gs := []) (cf' := (29, [some (.ref 0), some (.int x1), some (.int x2), some (.long (w0 + w1)), none, some (.long (x5 + 0)), none, some (.int (x7 + 1)), some (.int x8)], [], (hM σ), 0, 0)) rfl trivial ?_
    refine MW_pick [true, true, true, true, true, true, true, true, false] rfl (vs' := [some (.ref 0), some (.int x1), some (.int x2), some (.long (w0 + w1)), none, some (.long (x5 + 0)), none, some (.int (x7 + 1)), none]) rfl ?_
    exact hk σ x1 x2 (w0 + w1) (x5 + 0) (x7 + 1) _ hm hp
  · have hm := hmf71 hb71
    refine MW_run C okX12_mean 43 1 (gs := []) (cf' := (79, [some (.ref 0), some (.int x1), some (.int x2), some (.long (w0 + w1)), none, some (.long x5), none, some (.int x7), some (.int x8)], [.long 1, .long x5], (hM σ), 0, 0)) rfl trivial ?_
    refine MW_run C okX12_mean 44 4 (gs := []) (cf' := (29, [some (.ref 0), some (.int x1), some (.int x2), some (.long (w0 + w1)), none, some (.long (x5 + 1)), none, some (.int (x7 + 1)), some (.int x8)], [], (hM σ), 0, 0)) rfl trivial ?_
    refine MW_pick [true, true, true, true, true, true, true, true, false] rfl (vs' := [some (.ref 0), some (.int x1), some (.int x2), some (.long (w0 + w1)), none, some (.long (x5 + 1)), none, some (.int (x7 + 1)), none]) rfl ?_
    exact hk σ x1 x2 (w0 + w1) (x5 + 1) (x7 + 1) _ hm hp
def m_mean_L29 : Nat → MS → Int32 → Int32 → Int64 → Int64 → Int32 → Option (MS × Int64 × Int64)
  | 0, _, _, _, _, _, _ => none
  | n + 1, σ, x1, x2, x3, x5, x7 =>
    (m_power x1).bind fun q32 =>
      if x7 < q32 then
        (m_trainOf σ x7 x1).bind fun q43 =>
          (m_sortFar q43.2 q43.1 x1).bind fun q47 =>
            if q47.1 < 0 then
              m_mean_J65 (m_mean_L29 n) q47.2 x1 x2 x5 x7 q47.1 x3 0
            else
              m_mean_J65 (m_mean_L29 n) q47.2 x1 x2 x5 x7 q47.1 x3 ((q47.1 : Int32).toInt64)
      else
        some (σ, x3, x5)
set_option maxRecDepth 100000 in
set_option maxHeartbeats 1000000 in
theorem l_m_mean_29 {X : CTX} {K : Option Value → AH → Prop} (C : CX X cX12_mean yX12_mean.cls (decide (yX12_mean.name = "<init>")) 7 172) (hq : RQ X (some .long) K) : ∀ (n : Nat) (σ : MS) (x1 : Int32) (x2 : Int32) (x3 : Int64) (x5 : Int64) (x7 : Int32) (out : MS × Int64 × Int64) (hm : m_mean_L29 n σ x1 x2 x3 x5 x7 = some out) (hp : MW X (88, [none, none, some (.int x2), some (.long out.2.1), none, some (.long out.2.2), none, none, none], [], (hM out.1), 0, 0)), MW X (29, [some (.ref 0), some (.int x1), some (.int x2), some (.long x3), none, some (.long x5), none, some (.int x7), none], [], (hM σ), 0, 0) := by
  intro n
  induction n with
  | zero => intro σ x1 x2 x3 x5 x7 out hm hp; rw [m_mean_L29] at hm; cases hm
  | succ n ih =>
    intro σ x1 x2 x3 x5 x7 out hm hp
    rw [m_mean_L29] at hm
    refine MW_run C okX12_mean 17 2 (gs := []) (cf' := (32, [some (.ref 0), some (.int x1), some (.int x2), some (.long x3), none, some (.long x5), none, some (.int x7), none], [.int x1, .int x7], (hM σ), 0, 0)) rfl trivial ?_
    obtain ⟨q32, hc32, hm⟩ := of_bind hm
    refine MW_callS0 C okX12_mean 19 rfl (v0 := some (.int q32)) (c_m_power x1 q32 hc32) lkX12_270 1 dpX12_power (by decide) (rest := [.int x7]) rfl rfl rfl rfl rfl ?_
    obtain ⟨hmt35, hmf35⟩ := of_if hm
    refine MW_brF C okX12_mean 20 rfl rfl (fun hb35 => ?_) (fun hb35 => ?_)
    · have hm := hmt35 hb35
      refine MW_run C okX12_mean 21 4 (gs := []) (cf' := (43, [some (.ref 0), some (.int x1), some (.int x2), some (.long x3), none, some (.long x5), none, some (.int x7), none], [.int x1, .int x7, .ref 0, .ref 0], (hM σ), 0, 0)) rfl trivial ?_
      obtain ⟨q43, hc43, hm⟩ := of_bind hm
      refine MW_callV0 C okX12_mean 25 rfl (v0 := some (.int q43.1)) (h0 := (hM q43.2)) (c_m_trainOf σ x7 x1 q43 hc43) lkX12_285 2 dpX12_trainOf (by decide) (rest := [.ref 0]) rfl rfl rfl rfl rfl rfl rfl rfl ?_
      refine MW_run C okX12_mean 26 1 (gs := []) (cf' := (47, [some (.ref 0), some (.int x1), some (.int x2), some (.long x3), none, some (.long x5), none, some (.int x7), none], [.int x1, .int q43.1, .ref 0], (hM q43.2), 0, 0)) rfl trivial ?_
      obtain ⟨q47, hc47, hm⟩ := of_bind hm
      refine MW_callV0 C okX12_mean 27 rfl (v0 := some (.int q47.1)) (h0 := (hM q47.2)) (c_m_sortFar q43.2 q43.1 x1 q47 hc47) lkX12_288 2 dpX12_sortFar (by decide) (rest := []) rfl rfl rfl rfl rfl rfl rfl rfl ?_
      refine MW_run C okX12_mean 28 3 (gs := []) (cf' := (55, [some (.ref 0), some (.int x1), some (.int x2), some (.long x3), none, some (.long x5), none, some (.int x7), some (.int q47.1)], [.int q47.1, .long x3], (hM q47.2), 0, 0)) rfl trivial ?_
      obtain ⟨hmt55, hmf55⟩ := of_if hm
      refine MW_brF C okX12_mean 31 rfl rfl (fun hb55 => ?_) (fun hb55 => ?_)
      · have hm := hmt55 hb55
        refine MW_run C okX12_mean 32 2 (gs := []) (cf' := (65, [some (.ref 0), some (.int x1), some (.int x2), some (.long x3), none, some (.long x5), none, some (.int x7), some (.int q47.1)], [.long 0, .long x3], (hM q47.2), 0, 0)) rfl trivial ?_
        refine MW_pick [true, true, true, false, true, true, true, true, true] rfl (vs' := [some (.ref 0), some (.int x1), some (.int x2), none, none, some (.long x5), none, some (.int x7), some (.int q47.1)]) rfl ?_
        exact j_m_mean_65 C hq (m_mean_L29 n) ih q47.2 x1 x2 x5 x7 q47.1 x3 0 _ hm hp
      · have hm := hmf55 hb55
        refine MW_run C okX12_mean 34 2 (gs := []) (cf' := (65, [some (.ref 0), some (.int x1), some (.int x2), some (.long x3), none, some (.long x5), none, some (.int x7), some (.int q47.1)], [.long ((q47.1 : Int32).toInt64), .long x3], (hM q47.2), 0, 0)) rfl trivial ?_
        refine MW_pick [true, true, true, false, true, true, true, true, true] rfl (vs' := [some (.ref 0), some (.int x1), some (.int x2), none, none, some (.long x5), none, some (.int x7), some (.int q47.1)]) rfl ?_
        exact j_m_mean_65 C hq (m_mean_L29 n) ih q47.2 x1 x2 x5 x7 q47.1 x3 ((q47.1 : Int32).toInt64) _ hm hp
    · have hm := hmf35 hb35
      obtain rfl := Option.some.inj hm
      refine MW_pick [false, false, true, true, true, true, true, false, true] rfl (vs' := [none, none, some (.int x2), some (.long x3), none, some (.long x5), none, none, none]) rfl ?_
      exact hp
def m_mean (σ : MS) (x1 : Int32) (x2 : Int32) : Option (Int64 × MS) :=
  (m_isCount x1).bind fun q1 =>
    if q1 = 0 then
      some ((-1000000000000000002), σ)
    else
      (m_in ((x2 : Int32).toInt64) 0 1).bind fun q11 =>
        if q11 = 0 then
          some ((-1000000000000000002), σ)
        else
          (m_mean_L29 N0 σ x1 x2 0 0 0).bind fun q29 =>
            (m_lowest q29.2.1 q29.2.2 x2).bind fun q92 =>
              some (q92, q29.1)
set_option maxRecDepth 100000 in
set_option maxHeartbeats 1000000 in
theorem t_m_mean {X : CTX} {K : Option Value → AH → Prop} (C : CX X cX12_mean yX12_mean.cls (decide (yX12_mean.name = "<init>")) 7 172) (hq : RQ X (some .long) K) (σ : MS) (x1 : Int32) (x2 : Int32) (out : Int64 × MS) (hm : m_mean σ x1 x2 = some out) (hp : K (some (.long out.1)) (hM out.2)) : MW X (0, [some (.ref 0), some (.int x1), some (.int x2), none, none, none, none, none, none], [], (hM σ), 0, 0) := by
  unfold m_mean at hm
  refine MW_run C okX12_mean 0 1 (gs := []) (cf' := (1, [some (.ref 0), some (.int x1), some (.int x2), none, none, none, none, none, none], [.int x1], (hM σ), 0, 0)) rfl trivial ?_
  obtain ⟨q1, hc1, hm⟩ := of_bind hm
  refine MW_callS0 C okX12_mean 1 rfl (v0 := some (.int q1)) (c_m_isCount x1 q1 hc1) lkX12_282 1 dpX12_isCount (by decide) (rest := []) rfl rfl rfl rfl rfl ?_
  obtain ⟨hmt4, hmf4⟩ := of_if hm
  refine MW_brT C okX12_mean 2 rfl rfl (fun hb4 => ?_) (fun hb4 => ?_)
  · have hm := hmt4 hb4
    refine MW_run C okX12_mean 9 1 (gs := []) (cf' := (20, [some (.ref 0), some (.int x1), some (.int x2), none, none, none, none, none, none], [.long (-1000000000000000002)], (hM σ), 0, 0)) rfl trivial ?_
    obtain rfl := Option.some.inj hm
    exact MW_lret C okX12_mean hq 10 rfl hp
  · have hm := hmf4 hb4
    refine MW_run C okX12_mean 3 4 (gs := []) (cf' := (11, [some (.ref 0), some (.int x1), some (.int x2), none, none, none, none, none, none], [.long 1, .long 0, .long ((x2 : Int32).toInt64)], (hM σ), 0, 0)) rfl trivial ?_
    obtain ⟨q11, hc11, hm⟩ := of_bind hm
    refine MW_callS0 C okX12_mean 7 rfl (v0 := some (.int q11)) (c_m_in ((x2 : Int32).toInt64) 0 1 q11 hc11) lkX12_121 3 dpX12_in (by decide) (rest := []) rfl rfl rfl rfl rfl ?_
    obtain ⟨hmt14, hmf14⟩ := of_if hm
    refine MW_brF C okX12_mean 8 rfl rfl (fun hb14 => ?_) (fun hb14 => ?_)
    · have hm := hmt14 hb14
      refine MW_run C okX12_mean 9 1 (gs := []) (cf' := (20, [some (.ref 0), some (.int x1), some (.int x2), none, none, none, none, none, none], [.long (-1000000000000000002)], (hM σ), 0, 0)) rfl trivial ?_
      obtain rfl := Option.some.inj hm
      exact MW_lret C okX12_mean hq 10 rfl hp
    · have hm := hmf14 hb14
      refine MW_run C okX12_mean 11 6 (gs := []) (cf' := (29, [some (.ref 0), some (.int x1), some (.int x2), some (.long 0), none, some (.long 0), none, some (.int 0), none], [], (hM σ), 0, 0)) rfl trivial ?_
      obtain ⟨q29, hc29, hm⟩ := of_bind hm
      refine l_m_mean_29 C hq N0 σ x1 x2 0 0 0 q29 hc29 ?_
      refine MW_run C okX12_mean 48 3 (gs := []) (cf' := (92, [none, none, some (.int x2), some (.long q29.2.1), none, some (.long q29.2.2), none, none, none], [.int x2, .long q29.2.2, .long q29.2.1], (hM q29.1), 0, 0)) rfl trivial ?_
      obtain ⟨q92, hc92, hm⟩ := of_bind hm
      refine MW_callS0 C okX12_mean 51 rfl (v0 := some (.long q92)) (c_m_lowest q29.2.1 q29.2.2 x2 q92 hc92) lkX12_293 3 dpX12_lowest (by decide) (rest := []) rfl rfl rfl rfl rfl ?_
      obtain rfl := Option.some.inj hm
      exact MW_lret C okX12_mean hq 52 rfl hp
theorem c_m_mean (σ : MS) (x1 : Int32) (x2 : Int32) (out : Int64 × MS) (hm : m_mean σ x1 x2 = some out) : CT yX12_mean cX12_mean 9 (some .long) 7 172 0 0 [.ref 0, .int x1, .int x2] (hM σ) (fun v h => v = (some (.long out.1)) ∧ h = (hM out.2)) :=
  CT_of (by decide +kernel) (vs0 := [some (.ref 0), some (.int x1), some (.int x2), none, none, none, none, none, none]) rfl rfl (fun X C hq => t_m_mean C hq σ x1 x2 out hm ⟨rfl, rfl⟩)
/-! X12_findNeed -/
def m_findNeed_L13 : Nat → MS → Int32 → Int32 → Option (MS)
  | 0, _, _, _ => none
  | n + 1, σ, x2, x3 =>
    if x3 < 4 then
      if inb x3 4 ∧ inb x3 4 ∧ inb x3 4 then
        m_findNeed_L13 n (sA (sA σ 24 x3 (gA σ 2 x3)) 2 x3 1) x2 (x3 + 1)
      else none
    else
      some σ
set_option maxRecDepth 100000 in
set_option maxHeartbeats 1000000 in
theorem l_m_findNeed_13 {X : CTX} {K : Option Value → AH → Prop} (C : CX X cX12_findNeed yX12_findNeed.cls (decide (yX12_findNeed.name = "<init>")) 4 103) (hq : RQ X (some .int) K) : ∀ (n : Nat) (σ : MS) (x2 : Int32) (x3 : Int32) (out : MS) (hm : m_findNeed_L13 n σ x2 x3 = some out) (hp : MW X (43, [some (.ref 0), none, some (.int x2), none, none, none, none], [], (hM out), 0, 0)), MW X (13, [some (.ref 0), none, some (.int x2), some (.int x3), none, none, none], [], (hM σ), 0, 0) := by
  intro n
  induction n with
  | zero => intro σ x2 x3 out hm hp; rw [m_findNeed_L13] at hm; cases hm
  | succ n ih =>
    intro σ x2 x3 out hm hp
    rw [m_findNeed_L13] at hm
    refine MW_run C okX12_findNeed 9 2 (gs := []) (cf' := (15, [some (.ref 0), none, some (.int x2), some (.int x3), none, none, none], [.int 4, .int x3], (hM σ), 0, 0)) rfl trivial ?_
    obtain ⟨hmt15, hmf15⟩ := of_if hm
    refine MW_brF C okX12_findNeed 11 rfl rfl (fun hb15 => ?_) (fun hb15 => ?_)
    · have hm := hmt15 hb15
      obtain ⟨hg13, hm⟩ := of_guard hm
      refine MW_run C okX12_findNeed 12 15 (gs := [inb x3 4, inb x3 4, inb x3 4]) (cf' := (13, [some (.ref 0), none, some (.int x2), some (.int (x3 + 1)), none, none, none], [], (hM (sA (sA σ 24 x3 (gA σ 2 x3)) 2 x3 1)), 0, 0)) rfl ⟨hg13.1, hg13.2.1, hg13.2.2⟩ ?_
      exact ih (sA (sA σ 24 x3 (gA σ 2 x3)) 2 x3 1) x2 (x3 + 1) _ hm hp
    · have hm := hmf15 hb15
      obtain rfl := Option.some.inj hm
      refine MW_pick [true, true, true, false, true, true, true] rfl (vs' := [some (.ref 0), none, some (.int x2), none, none, none, none]) rfl ?_
      exact hp
def m_findNeed_L60 : Nat → MS → Int32 → Int32 → Int32 → Int32 → Option (Int32)
  | 0, _, _, _, _, _ => none
  | n + 1, σ, x2, x3, x5, x6 =>
    if x6 < (gI σ 4) then
      if inb x6 4 then
        m_findNeed_L60 n σ x2 x3 (x5 + (gA σ 2 x6)) (x6 + 1)
      else none
    else
      some x5
set_option maxRecDepth 100000 in
set_option maxHeartbeats 1000000 in
theorem l_m_findNeed_60 {X : CTX} {K : Option Value → AH → Prop} (C : CX X cX12_findNeed yX12_findNeed.cls (decide (yX12_findNeed.name = "<init>")) 4 103) (hq : RQ X (some .int) K) : ∀ (n : Nat) (σ : MS) (x2 : Int32) (x3 : Int32) (x5 : Int32) (x6 : Int32) (out : Int32) (hm : m_findNeed_L60 n σ x2 x3 x5 x6 = some out) (hp : MW X (87, [some (.ref 0), none, some (.int x2), some (.int x3), none, some (.int out), none], [], (hM σ), 0, 0)), MW X (60, [some (.ref 0), none, some (.int x2), some (.int x3), none, some (.int x5), some (.int x6)], [], (hM σ), 0, 0) := by
  intro n
  induction n with
  | zero => intro σ x2 x3 x5 x6 out hm hp; rw [m_findNeed_L60] at hm; cases hm
  | succ n ih =>
    intro σ x2 x3 x5 x6 out hm hp
    rw [m_findNeed_L60] at hm
    refine MW_run C okX12_findNeed 37 3 (gs := []) (cf' := (66, [some (.ref 0), none, some (.int x2), some (.int x3), none, some (.int x5), some (.int x6)], [.int (gI σ 4), .int x6], (hM σ), 0, 0)) rfl trivial ?_
    obtain ⟨hmt66, hmf66⟩ := of_if hm
    refine MW_brF C okX12_findNeed 40 rfl rfl (fun hb66 => ?_) (fun hb66 => ?_)
    · have hm := hmt66 hb66
      obtain ⟨hg60, hm⟩ := of_guard hm
      refine MW_run C okX12_findNeed 41 9 (gs := [inb x6 4]) (cf' := (60, [some (.ref 0), none, some (.int x2), some (.int x3), none, some (.int (x5 + (gA σ 2 x6))), some (.int (x6 + 1))], [], (hM σ), 0, 0)) rfl hg60 ?_
      exact ih σ x2 x3 (x5 + (gA σ 2 x6)) (x6 + 1) _ hm hp
    · have hm := hmf66 hb66
      obtain rfl := Option.some.inj hm
      refine MW_pick [true, true, true, true, true, true, false] rfl (vs' := [some (.ref 0), none, some (.int x2), some (.int x3), none, some (.int x5), none]) rfl ?_
      exact hp
def m_findNeed_L149 : Nat → MS → Int32 → Int32 → Int32 → Option (MS × Int32)
  | 0, _, _, _, _ => none
  | n + 1, σ, x2, x3, x6 =>
    if x6 < 0 then
      some (σ, x6)
    else
      if inb x6 4 ∧ inb x6 4 then
        if (gA σ 2 x6) = (gA σ 24 x6) then
          if inb x6 4 then
            m_findNeed_L149 n (sA σ 2 x6 1) x2 x3 (x6 + (-1))
          else none
        else
          some (σ, x6)
      else none
set_option maxRecDepth 100000 in
set_option maxHeartbeats 1000000 in
theorem l_m_findNeed_149 {X : CTX} {K : Option Value → AH → Prop} (C : CX X cX12_findNeed yX12_findNeed.cls (decide (yX12_findNeed.name = "<init>")) 4 103) (hq : RQ X (some .int) K) : ∀ (n : Nat) (σ : MS) (x2 : Int32) (x3 : Int32) (x6 : Int32) (out : MS × Int32) (hm : m_findNeed_L149 n σ x2 x3 x6 = some out) (hp : MW X (185, [some (.ref 0), none, some (.int x2), some (.int x3), none, none, some (.int out.2)], [], (hM out.1), 0, 0)), MW X (149, [some (.ref 0), none, some (.int x2), some (.int x3), none, none, some (.int x6)], [], (hM σ), 0, 0) := by
  intro n
  induction n with
  | zero => intro σ x2 x3 x6 out hm hp; rw [m_findNeed_L149] at hm; cases hm
  | succ n ih =>
    intro σ x2 x3 x6 out hm hp
    rw [m_findNeed_L149] at hm
    refine MW_run C okX12_findNeed 83 1 (gs := []) (cf' := (151, [some (.ref 0), none, some (.int x2), some (.int x3), none, none, some (.int x6)], [.int x6], (hM σ), 0, 0)) rfl trivial ?_
    obtain ⟨hmt151, hmf151⟩ := of_if hm
    refine MW_brT C okX12_findNeed 84 rfl rfl (fun hb151 => ?_) (fun hb151 => ?_)
    · have hm := hmt151 hb151
      obtain rfl := Option.some.inj hm
      exact hp
    · have hm := hmf151 hb151
      obtain ⟨hg168, hm⟩ := of_guard hm
      refine MW_run C okX12_findNeed 85 8 (gs := [inb x6 4, inb x6 4]) (cf' := (168, [some (.ref 0), none, some (.int x2), some (.int x3), none, none, some (.int x6)], [.int (gA σ 24 x6), .int (gA σ 2 x6)], (hM σ), 0, 0)) rfl ⟨hg168.1, hg168.2⟩ ?_
      obtain ⟨hmt168, hmf168⟩ := of_if hm
      refine MW_brF C okX12_findNeed 93 rfl rfl (fun hb168 => ?_) (fun hb168 => ?_)
      · have hm := hmt168 hb168
        obtain ⟨hg149, hm⟩ := of_guard hm
        refine MW_run C okX12_findNeed 94 7 (gs := [inb x6 4]) (cf' := (149, [some (.ref 0), none, some (.int x2), some (.int x3), none, none, some (.int (x6 + (-1)))], [], (hM (sA σ 2 x6 1)), 0, 0)) rfl hg149 ?_
        exact ih (sA σ 2 x6 1) x2 x3 (x6 + (-1)) _ hm hp
      · have hm := hmf168 hb168
        obtain rfl := Option.some.inj hm
        exact hp
def m_findNeed_J195 (k : MS → Int32 → Int32 → Int32 → Option (MS × Int32)) (σ : MS) (x2 : Int32) (x3 : Int32) (x6 : Int32) (w0 : Int32) : Option (MS × Int32) :=
  if w0 = 0 then
    k σ x2 x3 w0
  else
    if inb x6 4 ∧ inb x6 4 then
      k (sA σ 2 x6 ((gA σ 2 x6) + 1)) x2 x3 w0
    else none
set_option maxRecDepth 100000 in
set_option maxHeartbeats 1000000 in
theorem j_m_findNeed_195 {X : CTX} {K : Option Value → AH → Prop} (C : CX X cX12_findNeed yX12_findNeed.cls (decide (yX12_findNeed.name = "<init>")) 4 103) (hq : RQ X (some .int) K) (k : MS → Int32 → Int32 → Int32 → Option (MS × Int32)) (hk : ∀ (σ : MS) (x2 : Int32) (x3 : Int32) (x4 : Int32) (out : MS × Int32), k σ x2 x3 x4 = some out → MW X (216, [some (.ref 0), none, none, some (.int out.2), none, none, none], [], (hM out.1), 0, 0) → MW X (49, [some (.ref 0), none, some (.int x2), some (.int x3), some (.int x4), none, none], [], (hM σ), 0, 0)) (σ : MS) (x2 : Int32) (x3 : Int32) (x6 : Int32) (w0 : Int32) (out : MS × Int32) (hm : m_findNeed_J195 k σ x2 x3 x6 w0 = some out) (hp : MW X (216, [some (.ref 0), none, none, some (.int out.2), none, none, none], [], (hM out.1), 0, 0)) : MW X (195, [some (.ref 0), none, some (.int x2), some (.int x3), none, none, some (.int x6)], [.int w0], (hM σ), 0, 0) := by
  unfold m_findNeed_J195 at hm
  refine MW_run C okX12_findNeed 106 2 (gs := []) (cf' := (199, [some (.ref 0), none, some (.int x2), some (.int x3), some (.int w0), none, some (.int x6)], [.int w0], (hM σ), 0, 0)) rfl trivial ?_
  obtain ⟨hmt199, hmf199⟩ := of_if hm
  refine MW_brT C okX12_findNeed 108 rfl rfl (fun hb199 => ?_) (fun hb199 => ?_)
  · have hm := hmt199 hb199
    refine MW_run C okX12_findNeed 117 1 (gs := []) (cf' := (49, [some (.ref 0), none, some (.int x2), some (.int x3), some (.int w0), none, some (.int x6)], [], (hM σ), 0, 0)) rfl trivial ?_
    refine MW_pick [true, true, true, true, true, true, false] rfl (vs' := [some (.ref 0), none, some (.int x2), some (.int x3), some (.int w0), none, none]) rfl ?_
    exact hk σ x2 x3 w0 _ hm hp
  · have hm := hmf199 hb199
    obtain ⟨hg213, hm⟩ := of_guard hm
    refine MW_run C okX12_findNeed 109 8 (gs := [inb x6 4, inb x6 4]) (cf' := (213, [some (.ref 0), none, some (.int x2), some (.int x3), some (.int w0), none, some (.int x6)], [], (hM (sA σ 2 x6 ((gA σ 2 x6) + 1))), 0, 0)) rfl ⟨hg213.1, hg213.2⟩ ?_
    refine MW_run C okX12_findNeed 117 1 (gs := []) (cf' := (49, [some (.ref 0), none, some (.int x2), some (.int x3), some (.int w0), none, some (.int x6)], [], (hM (sA σ 2 x6 ((gA σ 2 x6) + 1))), 0, 0)) rfl trivial ?_
    refine MW_pick [true, true, true, true, true, true, false] rfl (vs' := [some (.ref 0), none, some (.int x2), some (.int x3), some (.int w0), none, none]) rfl ?_
    exact hk (sA σ 2 x6 ((gA σ 2 x6) + 1)) x2 x3 w0 _ hm hp
def m_findNeed_L112 : Nat → MS → Int32 → Int32 → Int32 → Option (MS)
  | 0, _, _, _, _ => none
  | n + 1, σ, x2, x3, x6 =>
    if x6 < (gI σ 4) then
      if inb x6 4 ∧ inb x6 4 then
        m_findNeed_L112 n (sA σ 25 x6 (gA σ 2 x6)) x2 x3 (x6 + 1)
      else none
    else
      some σ
set_option maxRecDepth 100000 in
set_option maxHeartbeats 1000000 in
theorem l_m_findNeed_112 {X : CTX} {K : Option Value → AH → Prop} (C : CX X cX12_findNeed yX12_findNeed.cls (decide (yX12_findNeed.name = "<init>")) 4 103) (hq : RQ X (some .int) K) : ∀ (n : Nat) (σ : MS) (x2 : Int32) (x3 : Int32) (x6 : Int32) (out : MS) (hm : m_findNeed_L112 n σ x2 x3 x6 = some out) (hp : MW X (141, [some (.ref 0), none, some (.int x2), some (.int x3), none, none, none], [], (hM out), 0, 0)), MW X (112, [some (.ref 0), none, some (.int x2), some (.int x3), none, none, some (.int x6)], [], (hM σ), 0, 0) := by
  intro n
  induction n with
  | zero => intro σ x2 x3 x6 out hm hp; rw [m_findNeed_L112] at hm; cases hm
  | succ n ih =>
    intro σ x2 x3 x6 out hm hp
    rw [m_findNeed_L112] at hm
    refine MW_run C okX12_findNeed 64 3 (gs := []) (cf' := (118, [some (.ref 0), none, some (.int x2), some (.int x3), none, none, some (.int x6)], [.int (gI σ 4), .int x6], (hM σ), 0, 0)) rfl trivial ?_
    obtain ⟨hmt118, hmf118⟩ := of_if hm
    refine MW_brF C okX12_findNeed 67 rfl rfl (fun hb118 => ?_) (fun hb118 => ?_)
    · have hm := hmt118 hb118
      obtain ⟨hg112, hm⟩ := of_guard hm
      refine MW_run C okX12_findNeed 68 10 (gs := [inb x6 4, inb x6 4]) (cf' := (112, [some (.ref 0), none, some (.int x2), some (.int x3), none, none, some (.int (x6 + 1))], [], (hM (sA σ 25 x6 (gA σ 2 x6))), 0, 0)) rfl ⟨hg112.1, hg112.2⟩ ?_
      exact ih (sA σ 25 x6 (gA σ 2 x6)) x2 x3 (x6 + 1) _ hm hp
    · have hm := hmf118 hb118
      obtain rfl := Option.some.inj hm
      refine MW_pick [true, true, true, true, true, true, false] rfl (vs' := [some (.ref 0), none, some (.int x2), some (.int x3), none, none, none]) rfl ?_
      exact hp
def m_findNeed_J97 (k : MS → Int32 → Int32 → Int32 → Option (MS × Int32)) (σ : MS) (x2 : Int32) (x3 : Int32) (x5 : Int32) : Option (MS × Int32) :=
  (m_search σ 0 x2).bind fun q100 =>
    if q100.1 < 0 then
      (m_findNeed_L149 N0 q100.2 x2 x3 ((gI q100.2 4) - 1)).bind fun q149 =>
        if q149.2 < 0 then
          m_findNeed_J195 (k) q149.1 x2 x3 q149.2 0
        else
          m_findNeed_J195 (k) q149.1 x2 x3 q149.2 1
    else
      (m_findNeed_L112 N0 q100.2 x2 x5 0).bind fun q112 =>
        (m_findNeed_L149 N0 q112 x2 x5 ((gI q112 4) - 1)).bind fun q149 =>
          if q149.2 < 0 then
            m_findNeed_J195 (k) q149.1 x2 x5 q149.2 0
          else
            m_findNeed_J195 (k) q149.1 x2 x5 q149.2 1
set_option maxRecDepth 100000 in
set_option maxHeartbeats 1000000 in
theorem j_m_findNeed_97 {X : CTX} {K : Option Value → AH → Prop} (C : CX X cX12_findNeed yX12_findNeed.cls (decide (yX12_findNeed.name = "<init>")) 4 103) (hq : RQ X (some .int) K) (k : MS → Int32 → Int32 → Int32 → Option (MS × Int32)) (hk : ∀ (σ : MS) (x2 : Int32) (x3 : Int32) (x4 : Int32) (out : MS × Int32), k σ x2 x3 x4 = some out → MW X (216, [some (.ref 0), none, none, some (.int out.2), none, none, none], [], (hM out.1), 0, 0) → MW X (49, [some (.ref 0), none, some (.int x2), some (.int x3), some (.int x4), none, none], [], (hM σ), 0, 0)) (σ : MS) (x2 : Int32) (x3 : Int32) (x5 : Int32) (out : MS × Int32) (hm : m_findNeed_J97 k σ x2 x3 x5 = some out) (hp : MW X (216, [some (.ref 0), none, none, some (.int out.2), none, none, none], [], (hM out.1), 0, 0)) : MW X (97, [some (.ref 0), none, some (.int x2), some (.int x3), none, some (.int x5), none], [], (hM σ), 0, 0) := by
  unfold m_findNeed_J97 at hm
  refine MW_run C okX12_findNeed 55 3 (gs := []) (cf' := (100, [some (.ref 0), none, some (.int x2), some (.int x3), none, some (.int x5), none], [.int x2, .int 0, .ref 0], (hM σ), 0, 0)) rfl trivial ?_
  obtain ⟨q100, hc100, hm⟩ := of_bind hm
  refine MW_callV0 C okX12_findNeed 58 rfl (v0 := some (.int q100.1)) (h0 := (hM q100.2)) (c_m_search σ 0 x2 q100 hc100) lkX12_220 2 dpX12_search (by decide) (rest := []) rfl rfl rfl rfl rfl rfl rfl rfl ?_
  obtain ⟨hmt103, hmf103⟩ := of_if hm
  refine MW_brT C okX12_findNeed 59 rfl rfl (fun hb103 => ?_) (fun hb103 => ?_)
  · have hm := hmt103 hb103
    refine MW_run C okX12_findNeed 78 5 (gs := []) (cf' := (149, [some (.ref 0), none, some (.int x2), some (.int x3), none, some (.int x5), some (.int ((gI q100.2 4) - 1))], [], (hM q100.2), 0, 0)) rfl trivial ?_
    obtain ⟨q149, hc149, hm⟩ := of_bind hm
    refine MW_pick [true, true, true, true, true, false, true] rfl (vs' := [some (.ref 0), none, some (.int x2), some (.int x3), none, none, some (.int ((gI q100.2 4) - 1))]) rfl ?_
    refine l_m_findNeed_149 C hq N0 q100.2 x2 x3 ((gI q100.2 4) - 1) q149 hc149 ?_
    refine MW_run C okX12_findNeed 101 1 (gs := []) (cf' := (187, [some (.ref 0), none, some (.int x2), some (.int x3), none, none, some (.int q149.2)], [.int q149.2], (hM q149.1), 0, 0)) rfl trivial ?_
    obtain ⟨hmt187, hmf187⟩ := of_if hm
    refine MW_brT C okX12_findNeed 102 rfl rfl (fun hb187 => ?_) (fun hb187 => ?_)
    · have hm := hmt187 hb187
      refine MW_run C okX12_findNeed 105 1 (gs := []) (cf' := (195, [some (.ref 0), none, some (.int x2), some (.int x3), none, none, some (.int q149.2)], [.int 0], (hM q149.1), 0, 0)) rfl trivial ?_
      exact j_m_findNeed_195 C hq (k) hk q149.1 x2 x3 q149.2 0 _ hm hp
    · have hm := hmf187 hb187
      refine MW_run C okX12_findNeed 103 2 (gs := []) (cf' := (195, [some (.ref 0), none, some (.int x2), some (.int x3), none, none, some (.int q149.2)], [.int 1], (hM q149.1), 0, 0)) rfl trivial ?_
      exact j_m_findNeed_195 C hq (k) hk q149.1 x2 x3 q149.2 1 _ hm hp
  · have hm := hmf103 hb103
    refine MW_run C okX12_findNeed 60 4 (gs := []) (cf' := (112, [some (.ref 0), none, some (.int x2), some (.int x5), none, some (.int x5), some (.int 0)], [], (hM q100.2), 0, 0)) rfl trivial ?_
    obtain ⟨q112, hc112, hm⟩ := of_bind hm
    refine MW_pick [true, true, true, true, true, false, true] rfl (vs' := [some (.ref 0), none, some (.int x2), some (.int x5), none, none, some (.int 0)]) rfl ?_
    refine l_m_findNeed_112 C hq N0 q100.2 x2 x5 0 q112 hc112 ?_
    refine MW_run C okX12_findNeed 78 5 (gs := []) (cf' := (149, [some (.ref 0), none, some (.int x2), some (.int x5), none, none, some (.int ((gI q112 4) - 1))], [], (hM q112), 0, 0)) rfl trivial ?_
    obtain ⟨q149, hc149, hm⟩ := of_bind hm
    refine l_m_findNeed_149 C hq N0 q112 x2 x5 ((gI q112 4) - 1) q149 hc149 ?_
    refine MW_run C okX12_findNeed 101 1 (gs := []) (cf' := (187, [some (.ref 0), none, some (.int x2), some (.int x5), none, none, some (.int q149.2)], [.int q149.2], (hM q149.1), 0, 0)) rfl trivial ?_
    obtain ⟨hmt187, hmf187⟩ := of_if hm
    refine MW_brT C okX12_findNeed 102 rfl rfl (fun hb187 => ?_) (fun hb187 => ?_)
    · have hm := hmt187 hb187
      refine MW_run C okX12_findNeed 105 1 (gs := []) (cf' := (195, [some (.ref 0), none, some (.int x2), some (.int x5), none, none, some (.int q149.2)], [.int 0], (hM q149.1), 0, 0)) rfl trivial ?_
      exact j_m_findNeed_195 C hq (k) hk q149.1 x2 x5 q149.2 0 _ hm hp
    · have hm := hmf187 hb187
      refine MW_run C okX12_findNeed 103 2 (gs := []) (cf' := (195, [some (.ref 0), none, some (.int x2), some (.int x5), none, none, some (.int q149.2)], [.int 1], (hM q149.1), 0, 0)) rfl trivial ?_
      exact j_m_findNeed_195 C hq (k) hk q149.1 x2 x5 q149.2 1 _ hm hp
def m_findNeed_L49 : Nat → MS → Int32 → Int32 → Int32 → Option (MS × Int32)
  | 0, _, _, _, _ => none
  | n + 1, σ, x2, x3, x4 =>
    if x4 = 0 then
      some (σ, x3)
    else
      (m_findNeed_L60 N0 σ x2 x3 0 0).bind fun q60 =>
        if x3 < 0 then
          m_findNeed_J97 (m_findNeed_L49 n) σ x2 x3 q60
        else
          if q60 < x3 then
            m_findNeed_J97 (m_findNeed_L49 n) σ x2 x3 q60
          else
            (m_findNeed_L149 N0 σ x2 x3 ((gI σ 4) - 1)).bind fun q149 =>
              if q149.2 < 0 then
                m_findNeed_J195 (m_findNeed_L49 n) q149.1 x2 x3 q149.2 0
              else
                m_findNeed_J195 (m_findNeed_L49 n) q149.1 x2 x3 q149.2 1
set_option maxRecDepth 100000 in
set_option maxHeartbeats 1000000 in
theorem l_m_findNeed_49 {X : CTX} {K : Option Value → AH → Prop} (C : CX X cX12_findNeed yX12_findNeed.cls (decide (yX12_findNeed.name = "<init>")) 4 103) (hq : RQ X (some .int) K) : ∀ (n : Nat) (σ : MS) (x2 : Int32) (x3 : Int32) (x4 : Int32) (out : MS × Int32) (hm : m_findNeed_L49 n σ x2 x3 x4 = some out) (hp : MW X (216, [some (.ref 0), none, none, some (.int out.2), none, none, none], [], (hM out.1), 0, 0)), MW X (49, [some (.ref 0), none, some (.int x2), some (.int x3), some (.int x4), none, none], [], (hM σ), 0, 0) := by
  intro n
  induction n with
  | zero => intro σ x2 x3 x4 out hm hp; rw [m_findNeed_L49] at hm; cases hm
  | succ n ih =>
    intro σ x2 x3 x4 out hm hp
    rw [m_findNeed_L49] at hm
    refine MW_run C okX12_findNeed 31 1 (gs := []) (cf' := (51, [some (.ref 0), none, some (.int x2), some (.int x3), some (.int x4), none, none], [.int x4], (hM σ), 0, 0)) rfl trivial ?_
    obtain ⟨hmt51, hmf51⟩ := of_if hm
    refine MW_brT C okX12_findNeed 32 rfl rfl (fun hb51 => ?_) (fun hb51 => ?_)
    · have hm := hmt51 hb51
      obtain rfl := Option.some.inj hm
      refine MW_pick [true, true, false, true, false, true, true] rfl (vs' := [some (.ref 0), none, none, some (.int x3), none, none, none]) rfl ?_
      exact hp
    · have hm := hmf51 hb51
      refine MW_run C okX12_findNeed 33 4 (gs := []) (cf' := (60, [some (.ref 0), none, some (.int x2), some (.int x3), some (.int x4), some (.int 0), some (.int 0)], [], (hM σ), 0, 0)) rfl trivial ?_
      obtain ⟨q60, hc60, hm⟩ := of_bind hm
      refine MW_pick [true, true, true, true, false, true, true] rfl (vs' := [some (.ref 0), none, some (.int x2), some (.int x3), none, some (.int 0), some (.int 0)]) rfl ?_
      refine l_m_findNeed_60 C hq N0 σ x2 x3 0 0 q60 hc60 ?_
      refine MW_run C okX12_findNeed 50 1 (gs := []) (cf' := (88, [some (.ref 0), none, some (.int x2), some (.int x3), none, some (.int q60), none], [.int x3], (hM σ), 0, 0)) rfl trivial ?_
      obtain ⟨hmt88, hmf88⟩ := of_if hm
      refine MW_brT C okX12_findNeed 51 rfl rfl (fun hb88 => ?_) (fun hb88 => ?_)
      · have hm := hmt88 hb88
        exact j_m_findNeed_97 C hq (m_findNeed_L49 n) ih σ x2 x3 q60 _ hm hp
      · have hm := hmf88 hb88
        refine MW_run C okX12_findNeed 52 2 (gs := []) (cf' := (94, [some (.ref 0), none, some (.int x2), some (.int x3), none, some (.int q60), none], [.int x3, .int q60], (hM σ), 0, 0)) rfl trivial ?_
        obtain ⟨hmt94, hmf94⟩ := of_if hm
        refine MW_brF C okX12_findNeed 54 rfl rfl (fun hb94 => ?_) (fun hb94 => ?_)
        · have hm := hmt94 hb94
          exact j_m_findNeed_97 C hq (m_findNeed_L49 n) ih σ x2 x3 q60 _ hm hp
        · have hm := hmf94 hb94
          refine MW_run C okX12_findNeed 78 5 (gs := []) (cf' := (149, [some (.ref 0), none, some (.int x2), some (.int x3), none, some (.int q60), some (.int ((gI σ 4) - 1))], [], (hM σ), 0, 0)) rfl trivial ?_
          obtain ⟨q149, hc149, hm⟩ := of_bind hm
          refine MW_pick [true, true, true, true, true, false, true] rfl (vs' := [some (.ref 0), none, some (.int x2), some (.int x3), none, none, some (.int ((gI σ 4) - 1))]) rfl ?_
          refine l_m_findNeed_149 C hq N0 σ x2 x3 ((gI σ 4) - 1) q149 hc149 ?_
          refine MW_run C okX12_findNeed 101 1 (gs := []) (cf' := (187, [some (.ref 0), none, some (.int x2), some (.int x3), none, none, some (.int q149.2)], [.int q149.2], (hM q149.1), 0, 0)) rfl trivial ?_
          obtain ⟨hmt187, hmf187⟩ := of_if hm
          refine MW_brT C okX12_findNeed 102 rfl rfl (fun hb187 => ?_) (fun hb187 => ?_)
          · have hm := hmt187 hb187
            refine MW_run C okX12_findNeed 105 1 (gs := []) (cf' := (195, [some (.ref 0), none, some (.int x2), some (.int x3), none, none, some (.int q149.2)], [.int 0], (hM q149.1), 0, 0)) rfl trivial ?_
            exact j_m_findNeed_195 C hq (m_findNeed_L49 n) ih q149.1 x2 x3 q149.2 0 _ hm hp
          · have hm := hmf187 hb187
            refine MW_run C okX12_findNeed 103 2 (gs := []) (cf' := (195, [some (.ref 0), none, some (.int x2), some (.int x3), none, none, some (.int q149.2)], [.int 1], (hM q149.1), 0, 0)) rfl trivial ?_
            exact j_m_findNeed_195 C hq (m_findNeed_L49 n) ih q149.1 x2 x3 q149.2 1 _ hm hp
def m_findNeed_L219 : Nat → MS → Int32 → Int32 → Option (MS)
  | 0, _, _, _ => none
  | n + 1, σ, x3, x5 =>
    if x5 < 4 then
      if inb x5 4 ∧ inb x5 4 then
        m_findNeed_L219 n (sA σ 2 x5 (gA σ 24 x5)) x3 (x5 + 1)
      else none
    else
      some σ
set_option maxRecDepth 100000 in
set_option maxHeartbeats 1000000 in
theorem l_m_findNeed_219 {X : CTX} {K : Option Value → AH → Prop} (C : CX X cX12_findNeed yX12_findNeed.cls (decide (yX12_findNeed.name = "<init>")) 4 103) (hq : RQ X (some .int) K) : ∀ (n : Nat) (σ : MS) (x3 : Int32) (x5 : Int32) (out : MS) (hm : m_findNeed_L219 n σ x3 x5 = some out) (hp : MW X (245, [none, none, none, some (.int x3), none, none, none], [], (hM out), 0, 0)), MW X (219, [some (.ref 0), none, none, some (.int x3), none, some (.int x5), none], [], (hM σ), 0, 0) := by
  intro n
  induction n with
  | zero => intro σ x3 x5 out hm hp; rw [m_findNeed_L219] at hm; cases hm
  | succ n ih =>
    intro σ x3 x5 out hm hp
    rw [m_findNeed_L219] at hm
    refine MW_run C okX12_findNeed 120 2 (gs := []) (cf' := (222, [some (.ref 0), none, none, some (.int x3), none, some (.int x5), none], [.int 4, .int x5], (hM σ), 0, 0)) rfl trivial ?_
    obtain ⟨hmt222, hmf222⟩ := of_if hm
    refine MW_brF C okX12_findNeed 122 rfl rfl (fun hb222 => ?_) (fun hb222 => ?_)
    · have hm := hmt222 hb222
      obtain ⟨hg219, hm⟩ := of_guard hm
      refine MW_run C okX12_findNeed 123 10 (gs := [inb x5 4, inb x5 4]) (cf' := (219, [some (.ref 0), none, none, some (.int x3), none, some (.int (x5 + 1)), none], [], (hM (sA σ 2 x5 (gA σ 24 x5))), 0, 0)) rfl ⟨hg219.1, hg219.2⟩ ?_
      exact ih (sA σ 2 x5 (gA σ 24 x5)) x3 (x5 + 1) _ hm hp
    · have hm := hmf222 hb222
      obtain rfl := Option.some.inj hm
      refine MW_pick [false, true, true, true, true, false, true] rfl (vs' := [none, none, none, some (.int x3), none, none, none]) rfl ?_
      exact hp
def m_findNeed (σ : MS) (x1 : Int32) (x2 : Int32) : Option (Int32 × MS) :=
  (m_sortedOf σ x2).bind fun q4 =>
    (m_want σ x1 q4 x2).bind fun q8 =>
      (m_findNeed_L13 N0 q8 x2 0).bind fun q13 =>
        (m_findNeed_L49 N0 q13 x2 (-6) 1).bind fun q49 =>
          (m_findNeed_L219 N0 q49.1 q49.2 0).bind fun q219 =>
            some (q49.2, q219)
set_option maxRecDepth 100000 in
set_option maxHeartbeats 1000000 in
theorem t_m_findNeed {X : CTX} {K : Option Value → AH → Prop} (C : CX X cX12_findNeed yX12_findNeed.cls (decide (yX12_findNeed.name = "<init>")) 4 103) (hq : RQ X (some .int) K) (σ : MS) (x1 : Int32) (x2 : Int32) (out : Int32 × MS) (hm : m_findNeed σ x1 x2 = some out) (hp : K (some (.int out.1)) (hM out.2)) : MW X (0, [some (.ref 0), some (.int x1), some (.int x2), none, none, none, none], [], (hM σ), 0, 0) := by
  unfold m_findNeed at hm
  refine MW_run C okX12_findNeed 0 4 (gs := []) (cf' := (4, [some (.ref 0), some (.int x1), some (.int x2), none, none, none, none], [.int x2, .ref 0, .int x1, .ref 0], (hM σ), 0, 0)) rfl trivial ?_
  obtain ⟨q4, hc4, hm⟩ := of_bind hm
  refine MW_callV0 C okX12_findNeed 4 rfl (v0 := some (.int q4)) (h0 := (hM σ)) (c_m_sortedOf σ x2 q4 hc4) lkX12_279 1 dpX12_sortedOf (by decide) (rest := [.int x1, .ref 0]) rfl rfl rfl rfl rfl rfl rfl rfl ?_
  refine MW_run C okX12_findNeed 5 1 (gs := []) (cf' := (8, [some (.ref 0), some (.int x1), some (.int x2), none, none, none, none], [.int x2, .int q4, .int x1, .ref 0], (hM σ), 0, 0)) rfl trivial ?_
  obtain ⟨q8, hc8, hm⟩ := of_bind hm
  refine MW_callV0 C okX12_findNeed 6 rfl (v0 := none) (h0 := (hM q8)) (c_m_want σ x1 q4 x2 q8 hc8) lkX12_260 3 dpX12_want (by decide) (rest := []) rfl rfl rfl rfl rfl rfl rfl rfl ?_
  refine MW_run C okX12_findNeed 7 2 (gs := []) (cf' := (13, [some (.ref 0), some (.int x1), some (.int x2), some (.int 0), none, none, none], [], (hM q8), 0, 0)) rfl trivial ?_
  obtain ⟨q13, hc13, hm⟩ := of_bind hm
  refine MW_pick [true, false, true, true, true, true, true] rfl (vs' := [some (.ref 0), none, some (.int x2), some (.int 0), none, none, none]) rfl ?_
  refine l_m_findNeed_13 C hq N0 q8 x2 0 q13 hc13 ?_
  refine MW_run C okX12_findNeed 27 4 (gs := []) (cf' := (49, [some (.ref 0), none, some (.int x2), some (.int (-6)), some (.int 1), none, none], [], (hM q13), 0, 0)) rfl trivial ?_
  obtain ⟨q49, hc49, hm⟩ := of_bind hm
  refine l_m_findNeed_49 C hq N0 q13 x2 (-6) 1 q49 hc49 ?_
  refine MW_run C okX12_findNeed 118 2 (gs := []) (cf' := (219, [some (.ref 0), none, none, some (.int q49.2), none, some (.int 0), none], [], (hM q49.1), 0, 0)) rfl trivial ?_
  obtain ⟨q219, hc219, hm⟩ := of_bind hm
  refine l_m_findNeed_219 C hq N0 q49.1 q49.2 0 q219 hc219 ?_
  refine MW_run C okX12_findNeed 133 1 (gs := []) (cf' := (246, [none, none, none, some (.int q49.2), none, none, none], [.int q49.2], (hM q219), 0, 0)) rfl trivial ?_
  obtain rfl := Option.some.inj hm
  exact MW_iret C okX12_findNeed hq 134 rfl hp
theorem c_m_findNeed (σ : MS) (x1 : Int32) (x2 : Int32) (out : Int32 × MS) (hm : m_findNeed σ x1 x2 = some out) : CT yX12_findNeed cX12_findNeed 7 (some .int) 4 103 0 0 [.ref 0, .int x1, .int x2] (hM σ) (fun v h => v = (some (.int out.1)) ∧ h = (hM out.2)) :=
  CT_of (by decide +kernel) (vs0 := [some (.ref 0), some (.int x1), some (.int x2), none, none, none, none]) rfl rfl (fun X C hq => t_m_findNeed C hq σ x1 x2 out hm ⟨rfl, rfl⟩)
/-! X12_need -/
def m_need_J15 (σ : MS) (x1 : Int32) (x2 : Int32) : Option (Int32 × MS) :=
  (m_wagonsOf x1).bind fun q16 =>
    if q16 = 0 then
      some ((-2), σ)
    else
      (m_findNeed σ x1 q16).bind fun q30 =>
        if q30.1 < 0 then
          some ((-5), q30.2)
        else
          if x2 = (-1) then
            some (q30.1, q30.2)
          else
            if inb x2 4 then
              some ((gA q30.2 25 x2), q30.2)
            else none
set_option maxRecDepth 100000 in
set_option maxHeartbeats 1000000 in
theorem j_m_need_15 {X : CTX} {K : Option Value → AH → Prop} (C : CX X cX12_need yX12_need.cls (decide (yX12_need.name = "<init>")) 5 129) (hq : RQ X (some .int) K) (σ : MS) (x1 : Int32) (x2 : Int32) (out : Int32 × MS) (hm : m_need_J15 σ x1 x2 = some out) (hp : K (some (.int out.1)) (hM out.2)) : MW X (15, [some (.ref 0), some (.int x1), some (.int x2), none, none], [], (hM σ), 0, 0) := by
  unfold m_need_J15 at hm
  refine MW_run C okX12_need 9 1 (gs := []) (cf' := (16, [some (.ref 0), some (.int x1), some (.int x2), none, none], [.int x1], (hM σ), 0, 0)) rfl trivial ?_
  obtain ⟨q16, hc16, hm⟩ := of_bind hm
  refine MW_callS0 C okX12_need 10 rfl (v0 := some (.int q16)) (c_m_wagonsOf x1 q16 hc16) lkX12_245 1 dpX12_wagonsOf (by decide) (rest := []) rfl rfl rfl rfl rfl ?_
  refine MW_run C okX12_need 11 2 (gs := []) (cf' := (21, [some (.ref 0), some (.int x1), some (.int x2), some (.int q16), none], [.int q16], (hM σ), 0, 0)) rfl trivial ?_
  obtain ⟨hmt21, hmf21⟩ := of_if hm
  refine MW_brF C okX12_need 13 rfl rfl (fun hb21 => ?_) (fun hb21 => ?_)
  · have hm := hmt21 hb21
    refine MW_run C okX12_need 14 1 (gs := []) (cf' := (26, [some (.ref 0), some (.int x1), some (.int x2), some (.int q16), none], [.int (-2)], (hM σ), 0, 0)) rfl trivial ?_
    obtain rfl := Option.some.inj hm
    exact MW_iret C okX12_need hq 15 rfl hp
  · have hm := hmf21 hb21
    refine MW_run C okX12_need 16 3 (gs := []) (cf' := (30, [some (.ref 0), some (.int x1), some (.int x2), some (.int q16), none], [.int q16, .int x1, .ref 0], (hM σ), 0, 0)) rfl trivial ?_
    obtain ⟨q30, hc30, hm⟩ := of_bind hm
    refine MW_callV0 C okX12_need 19 rfl (v0 := some (.int q30.1)) (h0 := (hM q30.2)) (c_m_findNeed σ x1 q16 q30 hc30) lkX12_297 2 dpX12_findNeed (by decide) (rest := []) rfl rfl rfl rfl rfl rfl rfl rfl ?_
    refine MW_run C okX12_need 20 2 (gs := []) (cf' := (37, [some (.ref 0), some (.int x1), some (.int x2), some (.int q16), some (.int q30.1)], [.int q30.1], (hM q30.2), 0, 0)) rfl trivial ?_
    obtain ⟨hmt37, hmf37⟩ := of_if hm
    refine MW_brF C okX12_need 22 rfl rfl (fun hb37 => ?_) (fun hb37 => ?_)
    · have hm := hmt37 hb37
      refine MW_run C okX12_need 23 2 (gs := []) (cf' := (61, [some (.ref 0), some (.int x1), some (.int x2), some (.int q16), some (.int q30.1)], [.int (-5)], (hM q30.2), 0, 0)) rfl trivial ?_
      obtain rfl := Option.some.inj hm
      exact MW_iret C okX12_need hq 34 rfl hp
    · have hm := hmf37 hb37
      refine MW_run C okX12_need 25 2 (gs := []) (cf' := (47, [some (.ref 0), some (.int x1), some (.int x2), some (.int q16), some (.int q30.1)], [.int (-1), .int x2], (hM q30.2), 0, 0)) rfl trivial ?_
      obtain ⟨hmt47, hmf47⟩ := of_if hm
      refine MW_brF C okX12_need 27 rfl rfl (fun hb47 => ?_) (fun hb47 => ?_)
      · have hm := hmt47 hb47
        refine MW_run C okX12_need 28 2 (gs := []) (cf' := (61, [some (.ref 0), some (.int x1), some (.int x2), some (.int q16), some (.int q30.1)], [.int q30.1], (hM q30.2), 0, 0)) rfl trivial ?_
        obtain rfl := Option.some.inj hm
        exact MW_iret C okX12_need hq 34 rfl hp
      · have hm := hmf47 hb47
        obtain ⟨hg61, hm⟩ := of_guard hm
        refine MW_run C okX12_need 30 4 (gs := [inb x2 4]) (cf' := (61, [some (.ref 0), some (.int x1), some (.int x2), some (.int q16), some (.int q30.1)], [.int (gA q30.2 25 x2)], (hM q30.2), 0, 0)) rfl hg61 ?_
        obtain rfl := Option.some.inj hm
        exact MW_iret C okX12_need hq 34 rfl hp
def m_need (σ : MS) (x1 : Int32) (x2 : Int32) : Option (Int32 × MS) :=
  if x2 = (-1) then
    m_need_J15 σ x1 x2
  else
    (m_isSiding σ x2).bind fun q7 =>
      if q7 = 0 then
        some ((-1), σ)
      else
        m_need_J15 σ x1 x2
set_option maxRecDepth 100000 in
set_option maxHeartbeats 1000000 in
theorem t_m_need {X : CTX} {K : Option Value → AH → Prop} (C : CX X cX12_need yX12_need.cls (decide (yX12_need.name = "<init>")) 5 129) (hq : RQ X (some .int) K) (σ : MS) (x1 : Int32) (x2 : Int32) (out : Int32 × MS) (hm : m_need σ x1 x2 = some out) (hp : K (some (.int out.1)) (hM out.2)) : MW X (0, [some (.ref 0), some (.int x1), some (.int x2), none, none], [], (hM σ), 0, 0) := by
  unfold m_need at hm
  refine MW_run C okX12_need 0 2 (gs := []) (cf' := (2, [some (.ref 0), some (.int x1), some (.int x2), none, none], [.int (-1), .int x2], (hM σ), 0, 0)) rfl trivial ?_
  obtain ⟨hmt2, hmf2⟩ := of_if hm
  refine MW_brT C okX12_need 2 rfl rfl (fun hb2 => ?_) (fun hb2 => ?_)
  · have hm := hmt2 hb2
    exact j_m_need_15 C hq σ x1 x2 _ hm hp
  · have hm := hmf2 hb2
    refine MW_run C okX12_need 3 2 (gs := []) (cf' := (7, [some (.ref 0), some (.int x1), some (.int x2), none, none], [.int x2, .ref 0], (hM σ), 0, 0)) rfl trivial ?_
    obtain ⟨q7, hc7, hm⟩ := of_bind hm
    refine MW_callV0 C okX12_need 5 rfl (v0 := some (.int q7)) (h0 := (hM σ)) (c_m_isSiding σ x2 q7 hc7) lkX12_143 1 dpX12_isSiding (by decide) (rest := []) rfl rfl rfl rfl rfl rfl rfl rfl ?_
    obtain ⟨hmt10, hmf10⟩ := of_if hm
    refine MW_brF C okX12_need 6 rfl rfl (fun hb10 => ?_) (fun hb10 => ?_)
    · have hm := hmt10 hb10
      refine MW_run C okX12_need 7 1 (gs := []) (cf' := (14, [some (.ref 0), some (.int x1), some (.int x2), none, none], [.int (-1)], (hM σ), 0, 0)) rfl trivial ?_
      obtain rfl := Option.some.inj hm
      exact MW_iret C okX12_need hq 8 rfl hp
    · have hm := hmf10 hb10
      exact j_m_need_15 C hq σ x1 x2 _ hm hp
theorem c_m_need (σ : MS) (x1 : Int32) (x2 : Int32) (out : Int32 × MS) (hm : m_need σ x1 x2 = some out) : CT yX12_need cX12_need 5 (some .int) 5 129 0 0 [.ref 0, .int x1, .int x2] (hM σ) (fun v h => v = (some (.int out.1)) ∧ h = (hM out.2)) :=
  CT_of (by decide +kernel) (vs0 := [some (.ref 0), some (.int x1), some (.int x2), none, none]) rfl rfl (fun X C hq => t_m_need C hq σ x1 x2 out hm ⟨rfl, rfl⟩)
/-! X12_keep -/
def m_keep_L2 : Nat → MS → Int32 → Option (MS)
  | 0, _, _ => none
  | n + 1, σ, x1 =>
    if x1 < 4 then
      if inb x1 4 ∧ inb x1 4 ∧ inb x1 4 ∧ inb x1 4 ∧ inb x1 4 ∧ inb x1 4 then
        m_keep_L2 n (sA (sA (sA σ 5 x1 (gA σ 1 x1)) 6 x1 (gA σ 2 x1)) 7 x1 (gA σ 3 x1)) (x1 + 1)
      else none
    else
      some σ
set_option maxRecDepth 100000 in
set_option maxHeartbeats 1000000 in
theorem l_m_keep_2 {X : CTX} {K : Option Value → AH → Prop} (C : CX X cX12_keep yX12_keep.cls (decide (yX12_keep.name = "<init>")) 0 0) (hq : RQ X (some .int) K) : ∀ (n : Nat) (σ : MS) (x1 : Int32) (out : MS) (hm : m_keep_L2 n σ x1 = some out) (hp : MW X (49, [some (.ref 0), none], [], (hM out), 0, 0)), MW X (2, [some (.ref 0), some (.int x1)], [], (hM σ), 0, 0) := by
  intro n
  induction n with
  | zero => intro σ x1 out hm hp; rw [m_keep_L2] at hm; cases hm
  | succ n ih =>
    intro σ x1 out hm hp
    rw [m_keep_L2] at hm
    refine MW_run C okX12_keep 2 2 (gs := []) (cf' := (4, [some (.ref 0), some (.int x1)], [.int 4, .int x1], (hM σ), 0, 0)) rfl trivial ?_
    obtain ⟨hmt4, hmf4⟩ := of_if hm
    refine MW_brF C okX12_keep 4 rfl rfl (fun hb4 => ?_) (fun hb4 => ?_)
    · have hm := hmt4 hb4
      obtain ⟨hg2, hm⟩ := of_guard hm
      refine MW_run C okX12_keep 5 26 (gs := [inb x1 4, inb x1 4, inb x1 4, inb x1 4, inb x1 4, inb x1 4]) (cf' := (2, [some (.ref 0), some (.int (x1 + 1))], [], (hM (sA (sA (sA σ 5 x1 (gA σ 1 x1)) 6 x1 (gA σ 2 x1)) 7 x1 (gA σ 3 x1))), 0, 0)) rfl ⟨hg2.1, hg2.2.1, hg2.2.2.1, hg2.2.2.2.1, hg2.2.2.2.2.1, hg2.2.2.2.2.2⟩ ?_
      exact ih (sA (sA (sA σ 5 x1 (gA σ 1 x1)) 6 x1 (gA σ 2 x1)) 7 x1 (gA σ 3 x1)) (x1 + 1) _ hm hp
    · have hm := hmf4 hb4
      obtain rfl := Option.some.inj hm
      refine MW_pick [true, false] rfl (vs' := [some (.ref 0), none]) rfl ?_
      exact hp
def m_keep_L51 : Nat → MS → Int32 → Option (MS)
  | 0, _, _ => none
  | n + 1, σ, x1 =>
    if x1 < 3 then
      if inb x1 3 ∧ inb x1 3 then
        m_keep_L51 n (sA σ 8 x1 (gA σ 4 x1)) (x1 + 1)
      else none
    else
      some σ
set_option maxRecDepth 100000 in
set_option maxHeartbeats 1000000 in
theorem l_m_keep_51 {X : CTX} {K : Option Value → AH → Prop} (C : CX X cX12_keep yX12_keep.cls (decide (yX12_keep.name = "<init>")) 0 0) (hq : RQ X (some .int) K) : ∀ (n : Nat) (σ : MS) (x1 : Int32) (out : MS) (hm : m_keep_L51 n σ x1 = some out) (hp : MW X (74, [some (.ref 0), none], [], (hM out), 0, 0)), MW X (51, [some (.ref 0), some (.int x1)], [], (hM σ), 0, 0) := by
  intro n
  induction n with
  | zero => intro σ x1 out hm hp; rw [m_keep_L51] at hm; cases hm
  | succ n ih =>
    intro σ x1 out hm hp
    rw [m_keep_L51] at hm
    refine MW_run C okX12_keep 33 2 (gs := []) (cf' := (53, [some (.ref 0), some (.int x1)], [.int 3, .int x1], (hM σ), 0, 0)) rfl trivial ?_
    obtain ⟨hmt53, hmf53⟩ := of_if hm
    refine MW_brF C okX12_keep 35 rfl rfl (fun hb53 => ?_) (fun hb53 => ?_)
    · have hm := hmt53 hb53
      obtain ⟨hg51, hm⟩ := of_guard hm
      refine MW_run C okX12_keep 36 10 (gs := [inb x1 3, inb x1 3]) (cf' := (51, [some (.ref 0), some (.int (x1 + 1))], [], (hM (sA σ 8 x1 (gA σ 4 x1))), 0, 0)) rfl ⟨hg51.1, hg51.2⟩ ?_
      exact ih (sA σ 8 x1 (gA σ 4 x1)) (x1 + 1) _ hm hp
    · have hm := hmf53 hb53
      obtain rfl := Option.some.inj hm
      refine MW_pick [true, false] rfl (vs' := [some (.ref 0), none]) rfl ?_
      exact hp
def m_keep (σ : MS) : Option (Int32 × MS) :=
  (m_keep_L2 N0 σ 0).bind fun q2 =>
    (m_keep_L51 N0 q2 0).bind fun q51 =>
      some ((gI q51 4), (sI (sI q51 10 (gI q51 4)) 11 (gI q51 5)))
set_option maxRecDepth 100000 in
set_option maxHeartbeats 1000000 in
theorem t_m_keep {X : CTX} {K : Option Value → AH → Prop} (C : CX X cX12_keep yX12_keep.cls (decide (yX12_keep.name = "<init>")) 0 0) (hq : RQ X (some .int) K) (σ : MS) (out : Int32 × MS) (hm : m_keep σ = some out) (hp : K (some (.int out.1)) (hM out.2)) : MW X (0, [some (.ref 0), none], [], (hM σ), 0, 0) := by
  unfold m_keep at hm
  refine MW_run C okX12_keep 0 2 (gs := []) (cf' := (2, [some (.ref 0), some (.int 0)], [], (hM σ), 0, 0)) rfl trivial ?_
  obtain ⟨q2, hc2, hm⟩ := of_bind hm
  refine l_m_keep_2 C hq N0 σ 0 q2 hc2 ?_
  refine MW_run C okX12_keep 31 2 (gs := []) (cf' := (51, [some (.ref 0), some (.int 0)], [], (hM q2), 0, 0)) rfl trivial ?_
  obtain ⟨q51, hc51, hm⟩ := of_bind hm
  refine l_m_keep_51 C hq N0 q2 0 q51 hc51 ?_
  refine MW_run C okX12_keep 46 10 (gs := []) (cf' := (94, [some (.ref 0), none], [.int (gI q51 4)], (hM (sI (sI q51 10 (gI q51 4)) 11 (gI q51 5))), 0, 0)) rfl trivial ?_
  obtain rfl := Option.some.inj hm
  exact MW_iret C okX12_keep hq 56 rfl hp
theorem c_m_keep (σ : MS) (out : Int32 × MS) (hm : m_keep σ = some out) : CT yX12_keep cX12_keep 2 (some .int) 0 0 0 0 [.ref 0] (hM σ) (fun v h => v = (some (.int out.1)) ∧ h = (hM out.2)) :=
  CT_of (by decide +kernel) (vs0 := [some (.ref 0), none]) rfl rfl (fun X C hq => t_m_keep C hq σ out hm ⟨rfl, rfl⟩)
/-! X12_changeAbout -/
def m_changeAbout_L2 : Nat → MS → Int32 → Option (MS)
  | 0, _, _ => none
  | n + 1, σ, x1 =>
    if x1 < 4 then
      if inb x1 4 ∧ inb x1 4 ∧ inb x1 4 ∧ inb x1 4 ∧ inb x1 4 ∧ inb x1 4 ∧ inb x1 4 ∧ inb x1 4 ∧ inb x1 4 ∧ inb x1 4 ∧ inb x1 4 ∧ inb x1 4 then
        m_changeAbout_L2 n (sA (sA (sA (sA (sA (sA σ 1 x1 (gA σ 5 x1)) 5 x1 (gA σ 1 x1)) 2 x1 (gA σ 6 x1)) 6 x1 (gA σ 2 x1)) 3 x1 (gA σ 7 x1)) 7 x1 (gA σ 3 x1)) (x1 + 1)
      else none
    else
      some σ
set_option maxRecDepth 100000 in
set_option maxHeartbeats 1000000 in
theorem l_m_changeAbout_2 {X : CTX} {K : Option Value → AH → Prop} (C : CX X cX12_changeAbout yX12_changeAbout.cls (decide (yX12_changeAbout.name = "<init>")) 1 21) (hq : RQ X none K) : ∀ (n : Nat) (σ : MS) (x1 : Int32) (out : MS) (hm : m_changeAbout_L2 n σ x1 = some out) (hp : MW X (91, [some (.ref 0), none, none], [], (hM out), 0, 0)), MW X (2, [some (.ref 0), some (.int x1), none], [], (hM σ), 0, 0) := by
  intro n
  induction n with
  | zero => intro σ x1 out hm hp; rw [m_changeAbout_L2] at hm; cases hm
  | succ n ih =>
    intro σ x1 out hm hp
    rw [m_changeAbout_L2] at hm
    refine MW_run C okX12_changeAbout 2 2 (gs := []) (cf' := (4, [some (.ref 0), some (.int x1), none], [.int 4, .int x1], (hM σ), 0, 0)) rfl trivial ?_
    obtain ⟨hmt4, hmf4⟩ := of_if hm
    refine MW_brF C okX12_changeAbout 4 rfl rfl (fun hb4 => ?_) (fun hb4 => ?_)
    · have hm := hmt4 hb4
      obtain ⟨hg2, hm⟩ := of_guard hm
      refine MW_run C okX12_changeAbout 5 56 (gs := [inb x1 4, inb x1 4, inb x1 4, inb x1 4, inb x1 4, inb x1 4, inb x1 4, inb x1 4, inb x1 4, inb x1 4, inb x1 4, inb x1 4]) (cf' := (2, [some (.ref 0), some (.int (x1 + 1)), some (.int (gA σ 3 x1))], [], (hM (sA (sA (sA (sA (sA (sA σ 1 x1 (gA σ 5 x1)) 5 x1 (gA σ 1 x1)) 2 x1 (gA σ 6 x1)) 6 x1 (gA σ 2 x1)) 3 x1 (gA σ 7 x1)) 7 x1 (gA σ 3 x1))), 0, 0)) rfl ⟨hg2.1, hg2.2.1, hg2.2.2.1, hg2.2.2.2.1, hg2.2.2.2.2.1, hg2.2.2.2.2.2.1, hg2.2.2.2.2.2.2.1, hg2.2.2.2.2.2.2.2.1, hg2.2.2.2.2.2.2.2.2.1, hg2.2.2.2.2.2.2.2.2.2.1, hg2.2.2.2.2.2.2.2.2.2.2.1, hg2.2.2.2.2.2.2.2.2.2.2.2⟩ ?_
      refine MW_pick [true, true, false] rfl (vs' := [some (.ref 0), some (.int (x1 + 1)), none]) rfl ?_
      exact ih (sA (sA (sA (sA (sA (sA σ 1 x1 (gA σ 5 x1)) 5 x1 (gA σ 1 x1)) 2 x1 (gA σ 6 x1)) 6 x1 (gA σ 2 x1)) 3 x1 (gA σ 7 x1)) 7 x1 (gA σ 3 x1)) (x1 + 1) _ hm hp
    · have hm := hmf4 hb4
      obtain rfl := Option.some.inj hm
      refine MW_pick [true, false, true] rfl (vs' := [some (.ref 0), none, none]) rfl ?_
      exact hp
def m_changeAbout_L93 : Nat → MS → Int32 → Option (MS)
  | 0, _, _ => none
  | n + 1, σ, x1 =>
    if x1 < 3 then
      if inb x1 3 ∧ inb x1 3 ∧ inb x1 3 ∧ inb x1 3 then
        m_changeAbout_L93 n (sA (sA σ 4 x1 (gA σ 8 x1)) 8 x1 (gA σ 4 x1)) (x1 + 1)
      else none
    else
      some σ
set_option maxRecDepth 100000 in
set_option maxHeartbeats 1000000 in
theorem l_m_changeAbout_93 {X : CTX} {K : Option Value → AH → Prop} (C : CX X cX12_changeAbout yX12_changeAbout.cls (decide (yX12_changeAbout.name = "<init>")) 1 21) (hq : RQ X none K) : ∀ (n : Nat) (σ : MS) (x1 : Int32) (out : MS) (hm : m_changeAbout_L93 n σ x1 = some out) (hp : MW X (130, [some (.ref 0), none, none], [], (hM out), 0, 0)), MW X (93, [some (.ref 0), some (.int x1), none], [], (hM σ), 0, 0) := by
  intro n
  induction n with
  | zero => intro σ x1 out hm hp; rw [m_changeAbout_L93] at hm; cases hm
  | succ n ih =>
    intro σ x1 out hm hp
    rw [m_changeAbout_L93] at hm
    refine MW_run C okX12_changeAbout 63 2 (gs := []) (cf' := (95, [some (.ref 0), some (.int x1), none], [.int 3, .int x1], (hM σ), 0, 0)) rfl trivial ?_
    obtain ⟨hmt95, hmf95⟩ := of_if hm
    refine MW_brF C okX12_changeAbout 65 rfl rfl (fun hb95 => ?_) (fun hb95 => ?_)
    · have hm := hmt95 hb95
      obtain ⟨hg93, hm⟩ := of_guard hm
      refine MW_run C okX12_changeAbout 66 20 (gs := [inb x1 3, inb x1 3, inb x1 3, inb x1 3]) (cf' := (93, [some (.ref 0), some (.int (x1 + 1)), some (.int (gA σ 4 x1))], [], (hM (sA (sA σ 4 x1 (gA σ 8 x1)) 8 x1 (gA σ 4 x1))), 0, 0)) rfl ⟨hg93.1, hg93.2.1, hg93.2.2.1, hg93.2.2.2⟩ ?_
      refine MW_pick [true, true, false] rfl (vs' := [some (.ref 0), some (.int (x1 + 1)), none]) rfl ?_
      exact ih (sA (sA σ 4 x1 (gA σ 8 x1)) 8 x1 (gA σ 4 x1)) (x1 + 1) _ hm hp
    · have hm := hmf95 hb95
      obtain rfl := Option.some.inj hm
      refine MW_pick [true, false, true] rfl (vs' := [some (.ref 0), none, none]) rfl ?_
      exact hp
def m_changeAbout (σ : MS) : Option (MS) :=
  (m_changeAbout_L2 N0 σ 0).bind fun q2 =>
    (m_changeAbout_L93 N0 q2 0).bind fun q93 =>
      (m_forget (sI (sI (sI (sI q93 4 (gI q93 10)) 10 (gI q93 4)) 5 (gI q93 11)) 11 (gI q93 5))).bind fun q167 =>
        some q167
set_option maxRecDepth 100000 in
set_option maxHeartbeats 1000000 in
theorem t_m_changeAbout {X : CTX} {K : Option Value → AH → Prop} (C : CX X cX12_changeAbout yX12_changeAbout.cls (decide (yX12_changeAbout.name = "<init>")) 1 21) (hq : RQ X none K) (σ : MS) (out : MS) (hm : m_changeAbout σ = some out) (hp : K none (hM out)) : MW X (0, [some (.ref 0), none, none], [], (hM σ), 0, 0) := by
  unfold m_changeAbout at hm
  refine MW_run C okX12_changeAbout 0 2 (gs := []) (cf' := (2, [some (.ref 0), some (.int 0), none], [], (hM σ), 0, 0)) rfl trivial ?_
  obtain ⟨q2, hc2, hm⟩ := of_bind hm
  refine l_m_changeAbout_2 C hq N0 σ 0 q2 hc2 ?_
  refine MW_run C okX12_changeAbout 61 2 (gs := []) (cf' := (93, [some (.ref 0), some (.int 0), none], [], (hM q2), 0, 0)) rfl trivial ?_
  obtain ⟨q93, hc93, hm⟩ := of_bind hm
  refine l_m_changeAbout_93 C hq N0 q2 0 q93 hc93 ?_
  refine MW_run C okX12_changeAbout 86 21 (gs := []) (cf' := (167, [some (.ref 0), some (.int (gI q93 5)), none], [.ref 0], (hM (sI (sI (sI (sI q93 4 (gI q93 10)) 10 (gI q93 4)) 5 (gI q93 11)) 11 (gI q93 5))), 0, 0)) rfl trivial ?_
  obtain ⟨q167, hc167, hm⟩ := of_bind hm
  refine MW_callV0 C okX12_changeAbout 107 rfl (v0 := none) (h0 := (hM q167)) (c_m_forget (sI (sI (sI (sI q93 4 (gI q93 10)) 10 (gI q93 4)) 5 (gI q93 11)) 11 (gI q93 5)) q167 hc167) lkX12_140 0 dpX12_forget (by decide) (rest := []) rfl rfl rfl rfl rfl rfl rfl rfl ?_
  obtain rfl := Option.some.inj hm
  exact MW_vret C okX12_changeAbout hq 108 rfl hp
theorem c_m_changeAbout (σ : MS) (out : MS) (hm : m_changeAbout σ = some out) : CT yX12_changeAbout cX12_changeAbout 3 none 1 21 0 0 [.ref 0] (hM σ) (fun v h => v = none ∧ h = (hM out)) :=
  CT_of (by decide +kernel) (vs0 := [some (.ref 0), none, none]) rfl rfl (fun X C hq => t_m_changeAbout C hq σ out hm ⟨rfl, rfl⟩)
/-! X12_unlike -/
def m_unlike_L16 : Nat → MS → Int32 → Int32 → Option (MS)
  | 0, _, _, _ => none
  | n + 1, σ, x1, x2 =>
    (m_power x1).bind fun q18 =>
      if x2 < q18 then
        (m_trainOf σ x2 x1).bind fun q33 =>
          (m_sortFar q33.2 q33.1 x1).bind fun q37 =>
            if q37.1 < 0 then
              if inb x2 120 then
                m_unlike_L16 n (sA q37.2 26 x2 (narZ 0)) x1 (x2 + 1)
              else none
            else
              if inb x2 120 then
                m_unlike_L16 n (sA q37.2 26 x2 (narZ 1)) x1 (x2 + 1)
              else none
      else
        some σ
set_option maxRecDepth 100000 in
set_option maxHeartbeats 1000000 in
theorem l_m_unlike_16 {X : CTX} {K : Option Value → AH → Prop} (C : CX X cX12_unlike yX12_unlike.cls (decide (yX12_unlike.name = "<init>")) 7 172) (hq : RQ X (some .int) K) : ∀ (n : Nat) (σ : MS) (x1 : Int32) (x2 : Int32) (out : MS) (hm : m_unlike_L16 n σ x1 x2 = some out) (hp : MW X (55, [some (.ref 0), some (.int x1), none, none], [], (hM out), 0, 0)), MW X (16, [some (.ref 0), some (.int x1), some (.int x2), none], [], (hM σ), 0, 0) := by
  intro n
  induction n with
  | zero => intro σ x1 x2 out hm hp; rw [m_unlike_L16] at hm; cases hm
  | succ n ih =>
    intro σ x1 x2 out hm hp
    rw [m_unlike_L16] at hm
    refine MW_run C okX12_unlike 9 2 (gs := []) (cf' := (18, [some (.ref 0), some (.int x1), some (.int x2), none], [.int x1, .int x2], (hM σ), 0, 0)) rfl trivial ?_
    obtain ⟨q18, hc18, hm⟩ := of_bind hm
    refine MW_callS0 C okX12_unlike 11 rfl (v0 := some (.int q18)) (c_m_power x1 q18 hc18) lkX12_270 1 dpX12_power (by decide) (rest := [.int x2]) rfl rfl rfl rfl rfl ?_
    obtain ⟨hmt21, hmf21⟩ := of_if hm
    refine MW_brF C okX12_unlike 12 rfl rfl (fun hb21 => ?_) (fun hb21 => ?_)
    · have hm := hmt21 hb21
      refine MW_run C okX12_unlike 13 7 (gs := []) (cf' := (33, [some (.ref 0), some (.int x1), some (.int x2), none], [.int x1, .int x2, .ref 0, .ref 0, .int x2, .ref 26], (hM σ), 0, 0)) rfl trivial ?_
      obtain ⟨q33, hc33, hm⟩ := of_bind hm
      refine MW_callV0 C okX12_unlike 20 rfl (v0 := some (.int q33.1)) (h0 := (hM q33.2)) (c_m_trainOf σ x2 x1 q33 hc33) lkX12_285 2 dpX12_trainOf (by decide) (rest := [.ref 0, .int x2, .ref 26]) rfl rfl rfl rfl rfl rfl rfl rfl ?_
      refine MW_run C okX12_unlike 21 1 (gs := []) (cf' := (37, [some (.ref 0), some (.int x1), some (.int x2), none], [.int x1, .int q33.1, .ref 0, .int x2, .ref 26], (hM q33.2), 0, 0)) rfl trivial ?_
      obtain ⟨q37, hc37, hm⟩ := of_bind hm
      refine MW_callV0 C okX12_unlike 22 rfl (v0 := some (.int q37.1)) (h0 := (hM q37.2)) (c_m_sortFar q33.2 q33.1 x1 q37 hc37) lkX12_288 2 dpX12_sortFar (by decide) (rest := [.int x2, .ref 26]) rfl rfl rfl rfl rfl rfl rfl rfl ?_
      obtain ⟨hmt40, hmf40⟩ := of_if hm
      refine MW_brT C okX12_unlike 23 rfl rfl (fun hb40 => ?_) (fun hb40 => ?_)
      · have hm := hmt40 hb40
        refine MW_run C okX12_unlike 26 1 (gs := []) (cf' := (48, [some (.ref 0), some (.int x1), some (.int x2), none], [.int 0, .int x2, .ref 26], (hM q37.2), 0, 0)) rfl trivial ?_
        obtain ⟨hg16, hm⟩ := of_guard hm
        refine MW_run C okX12_unlike 27 3 (gs := [inb x2 120]) (cf' := (16, [some (.ref 0), some (.int x1), some (.int (x2 + 1)), none], [], (hM (sA q37.2 26 x2 (narZ 0))), 0, 0)) rfl hg16 ?_
        exact ih (sA q37.2 26 x2 (narZ 0)) x1 (x2 + 1) _ hm hp
      · have hm := hmf40 hb40
        refine MW_run C okX12_unlike 24 2 (gs := []) (cf' := (48, [some (.ref 0), some (.int x1), some (.int x2), none], [.int 1, .int x2, .ref 26], (hM q37.2), 0, 0)) rfl trivial ?_
        obtain ⟨hg16, hm⟩ := of_guard hm
        refine MW_run C okX12_unlike 27 3 (gs := [inb x2 120]) (cf' := (16, [some (.ref 0), some (.int x1), some (.int (x2 + 1)), none], [], (hM (sA q37.2 26 x2 (narZ 1))), 0, 0)) rfl hg16 ?_
        exact ih (sA q37.2 26 x2 (narZ 1)) x1 (x2 + 1) _ hm hp
    · have hm := hmf21 hb21
      obtain rfl := Option.some.inj hm
      refine MW_pick [true, true, false, true] rfl (vs' := [some (.ref 0), some (.int x1), none, none]) rfl ?_
      exact hp
def m_unlike_L61 : Nat → MS → Int32 → Int32 → Option ((MS) ⊕ (Int32 × MS))
  | 0, _, _, _ => none
  | n + 1, σ, x1, x2 =>
    (m_power x1).bind fun q63 =>
      if x2 < q63 then
        (m_trainOf σ x2 x1).bind fun q72 =>
          if inb x2 120 then
            (m_sortFar q72.2 q72.1 x1).bind fun q85 =>
              if q85.1 < 0 then
                if (gA q72.2 26 x2) = 0 then
                  m_unlike_L61 n q85.2 x1 (x2 + 1)
                else
                  some (.inr (q72.1, q85.2))
              else
                if (gA q72.2 26 x2) = 1 then
                  m_unlike_L61 n q85.2 x1 (x2 + 1)
                else
                  some (.inr (q72.1, q85.2))
          else none
      else
        some (.inl σ)
set_option maxRecDepth 100000 in
set_option maxHeartbeats 1000000 in
theorem l_m_unlike_61 {X : CTX} {K : Option Value → AH → Prop} (C : CX X cX12_unlike yX12_unlike.cls (decide (yX12_unlike.name = "<init>")) 7 172) (hq : RQ X (some .int) K) : ∀ (n : Nat) (σ : MS) (x1 : Int32) (x2 : Int32) (out : (MS) ⊕ (Int32 × MS)) (hm : m_unlike_L61 n σ x1 x2 = some out) (hp : Sum.elim (fun e => MW X (107, [none, none, none, none], [], (hM e), 0, 0)) (fun r => K (some (.int r.1)) (hM r.2)) out), MW X (61, [some (.ref 0), some (.int x1), some (.int x2), none], [], (hM σ), 0, 0) := by
  intro n
  induction n with
  | zero => intro σ x1 x2 out hm hp; rw [m_unlike_L61] at hm; cases hm
  | succ n ih =>
    intro σ x1 x2 out hm hp
    rw [m_unlike_L61] at hm
    refine MW_run C okX12_unlike 34 2 (gs := []) (cf' := (63, [some (.ref 0), some (.int x1), some (.int x2), none], [.int x1, .int x2], (hM σ), 0, 0)) rfl trivial ?_
    obtain ⟨q63, hc63, hm⟩ := of_bind hm
    refine MW_callS0 C okX12_unlike 36 rfl (v0 := some (.int q63)) (c_m_power x1 q63 hc63) lkX12_270 1 dpX12_power (by decide) (rest := [.int x2]) rfl rfl rfl rfl rfl ?_
    obtain ⟨hmt66, hmf66⟩ := of_if hm
    refine MW_brF C okX12_unlike 37 rfl rfl (fun hb66 => ?_) (fun hb66 => ?_)
    · have hm := hmt66 hb66
      refine MW_run C okX12_unlike 38 3 (gs := []) (cf' := (72, [some (.ref 0), some (.int x1), some (.int x2), none], [.int x1, .int x2, .ref 0], (hM σ), 0, 0)) rfl trivial ?_
      obtain ⟨q72, hc72, hm⟩ := of_bind hm
      refine MW_callV0 C okX12_unlike 41 rfl (v0 := some (.int q72.1)) (h0 := (hM q72.2)) (c_m_trainOf σ x2 x1 q72 hc72) lkX12_285 2 dpX12_trainOf (by decide) (rest := []) rfl rfl rfl rfl rfl rfl rfl rfl ?_
      obtain ⟨hg85, hm⟩ := of_guard hm
      refine MW_run C okX12_unlike 42 8 (gs := [inb x2 120]) (cf' := (85, [some (.ref 0), some (.int x1), some (.int x2), some (.int q72.1)], [.int x1, .int q72.1, .ref 0, .int (gA q72.2 26 x2)], (hM q72.2), 0, 0)) rfl hg85 ?_
      obtain ⟨q85, hc85, hm⟩ := of_bind hm
      refine MW_callV0 C okX12_unlike 50 rfl (v0 := some (.int q85.1)) (h0 := (hM q85.2)) (c_m_sortFar q72.2 q72.1 x1 q85 hc85) lkX12_288 2 dpX12_sortFar (by decide) (rest := [.int (gA q72.2 26 x2)]) rfl rfl rfl rfl rfl rfl rfl rfl ?_
      obtain ⟨hmt88, hmf88⟩ := of_if hm
      refine MW_brT C okX12_unlike 51 rfl rfl (fun hb88 => ?_) (fun hb88 => ?_)
      · have hm := hmt88 hb88
        refine MW_run C okX12_unlike 54 1 (gs := []) (cf' := (96, [some (.ref 0), some (.int x1), some (.int x2), some (.int q72.1)], [.int 0, .int (gA q72.2 26 x2)], (hM q85.2), 0, 0)) rfl trivial ?_
        obtain ⟨hmt96, hmf96⟩ := of_if hm
        refine MW_brT C okX12_unlike 55 rfl rfl (fun hb96 => ?_) (fun hb96 => ?_)
        · have hm := hmt96 hb96
          refine MW_run C okX12_unlike 58 2 (gs := []) (cf' := (61, [some (.ref 0), some (.int x1), some (.int (x2 + 1)), some (.int q72.1)], [], (hM q85.2), 0, 0)) rfl trivial ?_
          refine MW_pick [true, true, true, false] rfl (vs' := [some (.ref 0), some (.int x1), some (.int (x2 + 1)), none]) rfl ?_
          exact ih q85.2 x1 (x2 + 1) _ hm hp
        · have hm := hmf96 hb96
          refine MW_run C okX12_unlike 56 1 (gs := []) (cf' := (100, [some (.ref 0), some (.int x1), some (.int x2), some (.int q72.1)], [.int q72.1], (hM q85.2), 0, 0)) rfl trivial ?_
          obtain rfl := Option.some.inj hm
          exact MW_iret C okX12_unlike hq 57 rfl hp
      · have hm := hmf88 hb88
        refine MW_run C okX12_unlike 52 2 (gs := []) (cf' := (96, [some (.ref 0), some (.int x1), some (.int x2), some (.int q72.1)], [.int 1, .int (gA q72.2 26 x2)], (hM q85.2), 0, 0)) rfl trivial ?_
        obtain ⟨hmt96, hmf96⟩ := of_if hm
        refine MW_brT C okX12_unlike 55 rfl rfl (fun hb96 => ?_) (fun hb96 => ?_)
        · have hm := hmt96 hb96
          refine MW_run C okX12_unlike 58 2 (gs := []) (cf' := (61, [some (.ref 0), some (.int x1), some (.int (x2 + 1)), some (.int q72.1)], [], (hM q85.2), 0, 0)) rfl trivial ?_
          refine MW_pick [true, true, true, false] rfl (vs' := [some (.ref 0), some (.int x1), some (.int (x2 + 1)), none]) rfl ?_
          exact ih q85.2 x1 (x2 + 1) _ hm hp
        · have hm := hmf96 hb96
          refine MW_run C okX12_unlike 56 1 (gs := []) (cf' := (100, [some (.ref 0), some (.int x1), some (.int x2), some (.int q72.1)], [.int q72.1], (hM q85.2), 0, 0)) rfl trivial ?_
          obtain rfl := Option.some.inj hm
          exact MW_iret C okX12_unlike hq 57 rfl hp
    · have hm := hmf66 hb66
      obtain rfl := Option.some.inj hm
      refine MW_pick [false, false, false, true] rfl (vs' := [none, none, none, none]) rfl ?_
      exact hp
def m_unlike (σ : MS) (x1 : Int32) : Option (Int32 × MS) :=
  (m_isCount x1).bind fun q1 =>
    if q1 = 0 then
      some ((-2), σ)
    else
      (m_changeAbout σ).bind fun q11 =>
        (m_unlike_L16 N0 q11 x1 0).bind fun q16 =>
          (m_changeAbout q16).bind fun q56 =>
            (m_unlike_L61 N0 q56 x1 0).bind fun q61 =>
              match q61 with
              | .inr r61 => some r61
              | .inl e61 =>
                some ((-6), e61)
set_option maxRecDepth 100000 in
set_option maxHeartbeats 1000000 in
theorem t_m_unlike {X : CTX} {K : Option Value → AH → Prop} (C : CX X cX12_unlike yX12_unlike.cls (decide (yX12_unlike.name = "<init>")) 7 172) (hq : RQ X (some .int) K) (σ : MS) (x1 : Int32) (out : Int32 × MS) (hm : m_unlike σ x1 = some out) (hp : K (some (.int out.1)) (hM out.2)) : MW X (0, [some (.ref 0), some (.int x1), none, none], [], (hM σ), 0, 0) := by
  unfold m_unlike at hm
  refine MW_run C okX12_unlike 0 1 (gs := []) (cf' := (1, [some (.ref 0), some (.int x1), none, none], [.int x1], (hM σ), 0, 0)) rfl trivial ?_
  obtain ⟨q1, hc1, hm⟩ := of_bind hm
  refine MW_callS0 C okX12_unlike 1 rfl (v0 := some (.int q1)) (c_m_isCount x1 q1 hc1) lkX12_282 1 dpX12_isCount (by decide) (rest := []) rfl rfl rfl rfl rfl ?_
  obtain ⟨hmt4, hmf4⟩ := of_if hm
  refine MW_brF C okX12_unlike 2 rfl rfl (fun hb4 => ?_) (fun hb4 => ?_)
  · have hm := hmt4 hb4
    refine MW_run C okX12_unlike 3 1 (gs := []) (cf' := (9, [some (.ref 0), some (.int x1), none, none], [.int (-2)], (hM σ), 0, 0)) rfl trivial ?_
    obtain rfl := Option.some.inj hm
    exact MW_iret C okX12_unlike hq 4 rfl hp
  · have hm := hmf4 hb4
    refine MW_run C okX12_unlike 5 1 (gs := []) (cf' := (11, [some (.ref 0), some (.int x1), none, none], [.ref 0], (hM σ), 0, 0)) rfl trivial ?_
    obtain ⟨q11, hc11, hm⟩ := of_bind hm
    refine MW_callV0 C okX12_unlike 6 rfl (v0 := none) (h0 := (hM q11)) (c_m_changeAbout σ q11 hc11) lkX12_300 0 dpX12_changeAbout (by decide) (rest := []) rfl rfl rfl rfl rfl rfl rfl rfl ?_
    refine MW_run C okX12_unlike 7 2 (gs := []) (cf' := (16, [some (.ref 0), some (.int x1), some (.int 0), none], [], (hM q11), 0, 0)) rfl trivial ?_
    obtain ⟨q16, hc16, hm⟩ := of_bind hm
    refine l_m_unlike_16 C hq N0 q11 x1 0 q16 hc16 ?_
    refine MW_run C okX12_unlike 30 1 (gs := []) (cf' := (56, [some (.ref 0), some (.int x1), none, none], [.ref 0], (hM q16), 0, 0)) rfl trivial ?_
    obtain ⟨q56, hc56, hm⟩ := of_bind hm
    refine MW_callV0 C okX12_unlike 31 rfl (v0 := none) (h0 := (hM q56)) (c_m_changeAbout q16 q56 hc56) lkX12_300 0 dpX12_changeAbout (by decide) (rest := []) rfl rfl rfl rfl rfl rfl rfl rfl ?_
    refine MW_run C okX12_unlike 32 2 (gs := []) (cf' := (61, [some (.ref 0), some (.int x1), some (.int 0), none], [], (hM q56), 0, 0)) rfl trivial ?_
    obtain ⟨q61, hc61, hm⟩ := of_bind hm
    refine l_m_unlike_61 C hq N0 q56 x1 0 q61 hc61 ?_
    cases q61 with
    | inr r61 =>
      obtain rfl := Option.some.inj hm
      exact hp
    | inl e61 =>
      show MW X (107, [none, none, none, none], [], (hM e61), 0, 0)
      refine MW_run C okX12_unlike 60 1 (gs := []) (cf' := (109, [none, none, none, none], [.int (-6)], (hM e61), 0, 0)) rfl trivial ?_
      obtain rfl := Option.some.inj hm
      exact MW_iret C okX12_unlike hq 61 rfl hp
theorem c_m_unlike (σ : MS) (x1 : Int32) (out : Int32 × MS) (hm : m_unlike σ x1 = some out) : CT yX12_unlike cX12_unlike 4 (some .int) 7 172 0 0 [.ref 0, .int x1] (hM σ) (fun v h => v = (some (.int out.1)) ∧ h = (hM out.2)) :=
  CT_of (by decide +kernel) (vs0 := [some (.ref 0), some (.int x1), none, none]) rfl rfl (fun X C hq => t_m_unlike C hq σ x1 out hm ⟨rfl, rfl⟩)
/-! X12_play -/
def m_play (σ : MS) (x1 : Int32) (x2 : Int32) : Option (Int32 × MS) :=
  (m_areTwo x1 x2).bind fun q2 =>
    if q2 = 0 then
      some ((-2), σ)
    else
      (m_wagonsOf x1).bind fun q23 =>
        (m_found (sA (sI (sI (sI (sI σ 35 x1) 36 x2) 37 q23) 39 0) 27 0 0) x1 x2 q23).bind fun q52 =>
          if inb q52.1 720 then
            some ((gA q52.2 18 q52.1), q52.2)
          else none
set_option maxRecDepth 100000 in
set_option maxHeartbeats 1000000 in
theorem t_m_play {X : CTX} {K : Option Value → AH → Prop} (C : CX X cX12_play yX12_play.cls (decide (yX12_play.name = "<init>")) 6 150) (hq : RQ X (some .int) K) (σ : MS) (x1 : Int32) (x2 : Int32) (out : Int32 × MS) (hm : m_play σ x1 x2 = some out) (hp : K (some (.int out.1)) (hM out.2)) : MW X (0, [some (.ref 0), some (.int x1), some (.int x2)], [], (hM σ), 0, 0) := by
  unfold m_play at hm
  refine MW_run C okX12_play 0 2 (gs := []) (cf' := (2, [some (.ref 0), some (.int x1), some (.int x2)], [.int x2, .int x1], (hM σ), 0, 0)) rfl trivial ?_
  obtain ⟨q2, hc2, hm⟩ := of_bind hm
  refine MW_callS0 C okX12_play 2 rfl (v0 := some (.int q2)) (c_m_areTwo x1 x2 q2 hc2) lkX12_248 2 dpX12_areTwo (by decide) (rest := []) rfl rfl rfl rfl rfl ?_
  obtain ⟨hmt5, hmf5⟩ := of_if hm
  refine MW_brF C okX12_play 3 rfl rfl (fun hb5 => ?_) (fun hb5 => ?_)
  · have hm := hmt5 hb5
    refine MW_run C okX12_play 4 1 (gs := []) (cf' := (10, [some (.ref 0), some (.int x1), some (.int x2)], [.int (-2)], (hM σ), 0, 0)) rfl trivial ?_
    obtain rfl := Option.some.inj hm
    exact MW_iret C okX12_play hq 5 rfl hp
  · have hm := hmf5 hb5
    refine MW_run C okX12_play 6 8 (gs := []) (cf' := (23, [some (.ref 0), some (.int x1), some (.int x2)], [.int x1, .ref 0], (hM (sI (sI σ 35 x1) 36 x2)), 0, 0)) rfl trivial ?_
    obtain ⟨q23, hc23, hm⟩ := of_bind hm
    refine MW_callS0 C okX12_play 14 rfl (v0 := some (.int q23)) (c_m_wagonsOf x1 q23 hc23) lkX12_245 1 dpX12_wagonsOf (by decide) (rest := [.ref 0]) rfl rfl rfl rfl rfl ?_
    refine MW_run C okX12_play 15 16 (gs := [inb 0 41]) (cf' := (52, [some (.ref 0), some (.int x1), some (.int x2)], [.int q23, .int x2, .int x1, .ref 0, .ref 18], (hM (sA (sI (sI (sI (sI σ 35 x1) 36 x2) 37 q23) 39 0) 27 0 0)), 0, 0)) rfl (show inb 0 41 by decide) ?_
    obtain ⟨q52, hc52, hm⟩ := of_bind hm
    refine MW_callV0 C okX12_play 31 rfl (v0 := some (.int q52.1)) (h0 := (hM q52.2)) (c_m_found (sA (sI (sI (sI (sI σ 35 x1) 36 x2) 37 q23) 39 0) 27 0 0) x1 x2 q23 q52 hc52) lkX12_251 3 dpX12_found (by decide) (rest := [.ref 18]) rfl rfl rfl rfl rfl rfl rfl rfl ?_
    obtain ⟨hg56, hm⟩ := of_guard hm
    refine MW_run C okX12_play 32 1 (gs := [inb q52.1 720]) (cf' := (56, [some (.ref 0), some (.int x1), some (.int x2)], [.int (gA q52.2 18 q52.1)], (hM q52.2), 0, 0)) rfl hg56 ?_
    obtain rfl := Option.some.inj hm
    exact MW_iret C okX12_play hq 33 rfl hp
theorem c_m_play (σ : MS) (x1 : Int32) (x2 : Int32) (out : Int32 × MS) (hm : m_play σ x1 x2 = some out) : CT yX12_play cX12_play 3 (some .int) 6 150 0 0 [.ref 0, .int x1, .int x2] (hM σ) (fun v h => v = (some (.int out.1)) ∧ h = (hM out.2)) :=
  CT_of (by decide +kernel) (vs0 := [some (.ref 0), some (.int x1), some (.int x2)]) rfl rfl (fun X C hq => t_m_play C hq σ x1 x2 out hm ⟨rfl, rfl⟩)
