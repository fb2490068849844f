/-! X12_findAll -/
def m_findAll_L19 : Nat → MS → Int32 → Int32 → Option (MS)
  | 0, _, _, _ => none
  | n + 1, σ, x1, x2 =>
    if x2 < 120 then
      if inb (((120 : Int32) * x1) + x2) 720 ∧ inb (((120 : Int32) * x1) + x2) 720 then
        m_findAll_L19 n (sL (sA σ 18 (((120 : Int32) * x1) + x2) (-6)) 19 (((120 : Int32) * x1) + x2) 0) x1 (x2 + 1)
      else none
    else
      some σ
set_option maxRecDepth 100000 in
set_option maxHeartbeats 1000000 in
theorem l_m_findAll_19 {X : CTX} {K : Option Value → AH → Prop} (C : CX X cX12_findAll yX12_findAll.cls (decide (yX12_findAll.name = "<init>")) 4 103) (hq : RQ X none K) : ∀ (n : Nat) (σ : MS) (x1 : Int32) (x2 : Int32) (out : MS) (hm : m_findAll_L19 n σ x1 x2 = some out) (hp : MW X (56, [some (.ref 0), some (.int x1), none, none, none], [], (hM out), 0, 0)), MW X (19, [some (.ref 0), some (.int x1), some (.int x2), none, none], [], (hM σ), 0, 0) := by
  intro n
  induction n with
  | zero => intro σ x1 x2 out hm hp; rw [m_findAll_L19] at hm; cases hm
  | succ n ih =>
    intro σ x1 x2 out hm hp
    rw [m_findAll_L19] at hm
    refine MW_run C okX12_findAll 13 2 (gs := []) (cf' := (22, [some (.ref 0), some (.int x1), some (.int x2), none, none], [.int 120, .int x2], (hM σ), 0, 0)) rfl trivial ?_
    obtain ⟨hmt22, hmf22⟩ := of_if hm
    refine MW_brF C okX12_findAll 15 rfl rfl (fun hb22 => ?_) (fun hb22 => ?_)
    · have hm := hmt22 hb22
      obtain ⟨hg19, hm⟩ := of_guard hm
      refine MW_run C okX12_findAll 16 20 (gs := [inb (((120 : Int32) * x1) + x2) 720, inb (((120 : Int32) * x1) + x2) 720]) (cf' := (19, [some (.ref 0), some (.int x1), some (.int (x2 + 1)), none, none], [], (hM (sL (sA σ 18 (((120 : Int32) * x1) + x2) (-6)) 19 (((120 : Int32) * x1) + x2) 0)), 0, 0)) rfl ⟨hg19.1, hg19.2⟩ ?_
      exact ih (sL (sA σ 18 (((120 : Int32) * x1) + x2) (-6)) 19 (((120 : Int32) * x1) + x2) 0) x1 (x2 + 1) _ hm hp
    · have hm := hmf22 hb22
      obtain rfl := Option.some.inj hm
      refine MW_pick [true, true, false, true, true] rfl (vs' := [some (.ref 0), some (.int x1), none, none, none]) rfl ?_
      exact hp
def m_findAll_L111 : Nat → MS → Int32 → Int32 → Int32 → Int32 → Option (MS)
  | 0, _, _, _, _, _ => none
  | n + 1, σ, x1, x2, x3, x4 =>
    if x4 < x1 then
      if inb (((5 : Int32) * (gI σ 4)) + x4) 25 ∧ inb x4 5 then
        m_findAll_L111 n (sA σ 21 x4 (gA σ 10 (((5 : Int32) * (gI σ 4)) + x4))) x1 x2 x3 (x4 + 1)
      else none
    else
      some σ
set_option maxRecDepth 100000 in
set_option maxHeartbeats 1000000 in
theorem l_m_findAll_111 {X : CTX} {K : Option Value → AH → Prop} (C : CX X cX12_findAll yX12_findAll.cls (decide (yX12_findAll.name = "<init>")) 4 103) (hq : RQ X none K) : ∀ (n : Nat) (σ : MS) (x1 : Int32) (x2 : Int32) (x3 : Int32) (x4 : Int32) (out : MS) (hm : m_findAll_L111 n σ x1 x2 x3 x4 = some out) (hp : MW X (144, [some (.ref 0), some (.int x1), some (.int x2), some (.int x3), none], [], (hM out), 0, 0)), MW X (111, [some (.ref 0), some (.int x1), some (.int x2), some (.int x3), some (.int x4)], [], (hM σ), 0, 0) := by
  intro n
  induction n with
  | zero => intro σ x1 x2 x3 x4 out hm hp; rw [m_findAll_L111] at hm; cases hm
  | succ n ih =>
    intro σ x1 x2 x3 x4 out hm hp
    rw [m_findAll_L111] at hm
    refine MW_run C okX12_findAll 70 2 (gs := []) (cf' := (114, [some (.ref 0), some (.int x1), some (.int x2), some (.int x3), some (.int x4)], [.int x1, .int x4], (hM σ), 0, 0)) rfl trivial ?_
    obtain ⟨hmt114, hmf114⟩ := of_if hm
    refine MW_brF C okX12_findAll 72 rfl rfl (fun hb114 => ?_) (fun hb114 => ?_)
    · have hm := hmt114 hb114
      obtain ⟨hg111, hm⟩ := of_guard hm
      refine MW_run C okX12_findAll 73 15 (gs := [inb (((5 : Int32) * (gI σ 4)) + x4) 25, inb x4 5]) (cf' := (111, [some (.ref 0), some (.int x1), some (.int x2), some (.int x3), some (.int (x4 + 1))], [], (hM (sA σ 21 x4 (gA σ 10 (((5 : Int32) * (gI σ 4)) + x4)))), 0, 0)) rfl ⟨hg111.1, hg111.2⟩ ?_
      exact ih (sA σ 21 x4 (gA σ 10 (((5 : Int32) * (gI σ 4)) + x4))) x1 x2 x3 (x4 + 1) _ hm hp
    · have hm := hmf114 hb114
      obtain rfl := Option.some.inj hm
      refine MW_pick [true, true, true, true, false] rfl (vs' := [some (.ref 0), some (.int x1), some (.int x2), some (.int x3), none]) rfl ?_
      exact hp
def m_findAll_L70 : Nat → MS → Int32 → Int32 → Option (MS)
  | 0, _, _, _ => none
  | n + 1, σ, x1, x2 =>
    if x2 < (gI σ 22) then
      if inb x2 32768 ∧ inb (gA σ 16 x2) 65536 then
        (m_decode σ (gA σ 12 (gA σ 16 x2))).bind fun q92 =>
          if inb (gI q92 4) 5 then
            if (gA q92 11 (gI q92 4)) = x1 then
              (m_findAll_L111 N0 q92 x1 x2 (gA σ 16 x2) 0).bind fun q111 =>
                (m_rankOf q111 x1).bind fun q150 =>
                  if inb (gA σ 16 x2) 65536 ∧ inb (((120 : Int32) * x1) + q150) 720 ∧ inb (gA σ 16 x2) 65536 ∧ inb (((120 : Int32) * x1) + q150) 720 then
                    m_findAll_L70 n (sL (sA q111 18 (((120 : Int32) * x1) + q150) (gA q111 14 (gA σ 16 x2))) 19 (((120 : Int32) * x1) + q150) (gL q111 15 (gA σ 16 x2))) x1 (x2 + 1)
                  else none
            else
              m_findAll_L70 n q92 x1 (x2 + 1)
          else none
      else none
    else
      some σ
set_option maxRecDepth 100000 in
set_option maxHeartbeats 1000000 in
theorem l_m_findAll_70 {X : CTX} {K : Option Value → AH → Prop} (C : CX X cX12_findAll yX12_findAll.cls (decide (yX12_findAll.name = "<init>")) 4 103) (hq : RQ X none K) : ∀ (n : Nat) (σ : MS) (x1 : Int32) (x2 : Int32) (out : MS) (hm : m_findAll_L70 n σ x1 x2 = some out) (hp : MW X (188, [none, none, none, none, none], [], (hM out), 0, 0)), MW X (70, [some (.ref 0), some (.int x1), some (.int x2), none, none], [], (hM σ), 0, 0) := by
  intro n
  induction n with
  | zero => intro σ x1 x2 out hm hp; rw [m_findAll_L70] at hm; cases hm
  | succ n ih =>
    intro σ x1 x2 out hm hp
    rw [m_findAll_L70] at hm
    refine MW_run C okX12_findAll 46 3 (gs := []) (cf' := (75, [some (.ref 0), some (.int x1), some (.int x2), none, none], [.int (gI σ 22), .int x2], (hM σ), 0, 0)) rfl trivial ?_
    obtain ⟨hmt75, hmf75⟩ := of_if hm
    refine MW_brF C okX12_findAll 49 rfl rfl (fun hb75 => ?_) (fun hb75 => ?_)
    · have hm := hmt75 hb75
      obtain ⟨hg92, hm⟩ := of_guard hm
      refine MW_run C okX12_findAll 50 10 (gs := [inb x2 32768, inb (gA σ 16 x2) 65536]) (cf' := (92, [some (.ref 0), some (.int x1), some (.int x2), some (.int (gA σ 16 x2)), none], [.int (gA σ 12 (gA σ 16 x2)), .ref 0], (hM σ), 0, 0)) rfl ⟨hg92.1, hg92.2⟩ ?_
      obtain ⟨q92, hc92, hm⟩ := of_bind hm
      refine MW_callV0 C okX12_findAll 60 rfl (v0 := none) (h0 := (hM q92)) (c_m_decode σ (gA σ 12 (gA σ 16 x2)) q92 hc92) lkX12_194 1 dpX12_decode (by decide) (rest := []) rfl rfl rfl rfl rfl rfl rfl rfl ?_
      obtain ⟨hg105, hm⟩ := of_guard hm
      refine MW_run C okX12_findAll 61 6 (gs := [inb (gI q92 4) 5]) (cf' := (105, [some (.ref 0), some (.int x1), some (.int x2), some (.int (gA σ 16 x2)), none], [.int x1, .int (gA q92 11 (gI q92 4))], (hM q92), 0, 0)) rfl hg105 ?_
      obtain ⟨hmt105, hmf105⟩ := of_if hm
      refine MW_brF C okX12_findAll 67 rfl rfl (fun hb105 => ?_) (fun hb105 => ?_)
      · have hm := hmt105 hb105
        refine MW_run C okX12_findAll 68 2 (gs := []) (cf' := (111, [some (.ref 0), some (.int x1), some (.int x2), some (.int (gA σ 16 x2)), some (.int 0)], [], (hM q92), 0, 0)) rfl trivial ?_
        obtain ⟨q111, hc111, hm⟩ := of_bind hm
        refine l_m_findAll_111 C hq N0 q92 x1 x2 (gA σ 16 x2) 0 q111 hc111 ?_
        refine MW_run C okX12_findAll 88 5 (gs := []) (cf' := (150, [some (.ref 0), some (.int x1), some (.int x2), some (.int (gA σ 16 x2)), none], [.int x1, .ref 0, .int ((120 : Int32) * x1)], (hM q111), 0, 0)) rfl trivial ?_
        obtain ⟨q150, hc150, hm⟩ := of_bind hm
        refine MW_callV0 C okX12_findAll 93 rfl (v0 := some (.int q150)) (h0 := (hM q111)) (c_m_rankOf q111 x1 q150 hc150) lkX12_224 1 dpX12_rankOf (by decide) (rest := [.int ((120 : Int32) * x1)]) rfl rfl rfl rfl rfl rfl rfl rfl ?_
        obtain ⟨hg182, hm⟩ := of_guard hm
        refine MW_run C okX12_findAll 94 18 (gs := [inb (gA σ 16 x2) 65536, inb (((120 : Int32) * x1) + q150) 720, inb (gA σ 16 x2) 65536, inb (((120 : Int32) * x1) + q150) 720]) (cf' := (182, [some (.ref 0), some (.int x1), some (.int x2), some (.int (gA σ 16 x2)), some (.int (((120 : Int32) * x1) + q150))], [], (hM (sL (sA q111 18 (((120 : Int32) * x1) + q150) (gA q111 14 (gA σ 16 x2))) 19 (((120 : Int32) * x1) + q150) (gL q111 15 (gA σ 16 x2)))), 0, 0)) rfl ⟨hg182.1, hg182.2.1, hg182.2.2.1, hg182.2.2.2⟩ ?_
        refine MW_run C okX12_findAll 112 2 (gs := []) (cf' := (70, [some (.ref 0), some (.int x1), some (.int (x2 + 1)), some (.int (gA σ 16 x2)), some (.int (((120 : Int32) * x1) + q150))], [], (hM (sL (sA q111 18 (((120 : Int32) * x1) + q150) (gA q111 14 (gA σ 16 x2))) 19 (((120 : Int32) * x1) + q150) (gL q111 15 (gA σ 16 x2)))), 0, 0)) rfl trivial ?_
        refine MW_pick [true, true, true, false, false] rfl (vs' := [some (.ref 0), some (.int x1), some (.int (x2 + 1)), none, none]) rfl ?_
        exact ih (sL (sA q111 18 (((120 : Int32) * x1) + q150) (gA q111 14 (gA σ 16 x2))) 19 (((120 : Int32) * x1) + q150) (gL q111 15 (gA σ 16 x2))) x1 (x2 + 1) _ hm hp
      · have hm := hmf105 hb105
        refine MW_run C okX12_findAll 112 2 (gs := []) (cf' := (70, [some (.ref 0), some (.int x1), some (.int (x2 + 1)), some (.int (gA σ 16 x2)), none], [], (hM q92), 0, 0)) rfl trivial ?_
        refine MW_pick [true, true, true, false, true] rfl (vs' := [some (.ref 0), some (.int x1), some (.int (x2 + 1)), none, none]) rfl ?_
        exact ih q92 x1 (x2 + 1) _ hm hp
    · have hm := hmf75 hb75
      obtain rfl := Option.some.inj hm
      refine MW_pick [false, false, false, true, true] rfl (vs' := [none, none, none, none, none]) rfl ?_
      exact hp
def m_findAll (σ : MS) (x1 : Int32) : Option (MS) :=
  if inb x1 6 then
    if (gA σ 20 x1) = 0 then
      if inb x1 6 then
        (m_findAll_L19 N0 (sA σ 20 x1 (narZ 1)) x1 0).bind fun q19 =>
          (m_search (sI q19 25 0) 0 x1).bind fun q64 =>
            (m_findAll_L70 N0 q64.2 x1 0).bind fun q70 =>
              some q70
      else none
    else
      some σ
  else none
set_option maxRecDepth 100000 in
set_option maxHeartbeats 1000000 in
theorem t_m_findAll {X : CTX} {K : Option Value → AH → Prop} (C : CX X cX12_findAll yX12_findAll.cls (decide (yX12_findAll.name = "<init>")) 4 103) (hq : RQ X none K) (σ : MS) (x1 : Int32) (out : MS) (hm : m_findAll σ x1 = some out) (hp : K none (hM out)) : MW X (0, [some (.ref 0), some (.int x1), none, none, none], [], (hM σ), 0, 0) := by
  unfold m_findAll at hm
  obtain ⟨hg6, hm⟩ := of_guard hm
  refine MW_run C okX12_findAll 0 4 (gs := [inb x1 6]) (cf' := (6, [some (.ref 0), some (.int x1), none, none, none], [.int (gA σ 20 x1)], (hM σ), 0, 0)) rfl hg6 ?_
  obtain ⟨hmt6, hmf6⟩ := of_if hm
  refine MW_brT C okX12_findAll 4 rfl rfl (fun hb6 => ?_) (fun hb6 => ?_)
  · have hm := hmt6 hb6
    obtain ⟨hg19, hm⟩ := of_guard hm
    refine MW_run C okX12_findAll 6 7 (gs := [inb x1 6]) (cf' := (19, [some (.ref 0), some (.int x1), some (.int 0), none, none], [], (hM (sA σ 20 x1 (narZ 1))), 0, 0)) rfl hg19 ?_
    obtain ⟨q19, hc19, hm⟩ := of_bind hm
    refine l_m_findAll_19 C hq N0 (sA σ 20 x1 (narZ 1)) x1 0 q19 hc19 ?_
    refine MW_run C okX12_findAll 36 6 (gs := []) (cf' := (64, [some (.ref 0), some (.int x1), none, none, none], [.int x1, .int 0, .ref 0], (hM (sI q19 25 0)), 0, 0)) rfl trivial ?_
    obtain ⟨q64, hc64, hm⟩ := of_bind hm
    refine MW_callV0 C okX12_findAll 42 rfl (v0 := some (.int q64.1)) (h0 := (hM q64.2)) (c_m_search (sI q19 25 0) 0 x1 q64 hc64) lkX12_220 2 dpX12_search (by decide) (rest := []) rfl rfl rfl rfl rfl rfl rfl rfl ?_
    refine MW_run C okX12_findAll 43 3 (gs := []) (cf' := (70, [some (.ref 0), some (.int x1), some (.int 0), none, none], [], (hM q64.2), 0, 0)) rfl trivial ?_
    obtain ⟨q70, hc70, hm⟩ := of_bind hm
    refine l_m_findAll_70 C hq N0 q64.2 x1 0 q70 hc70 ?_
    obtain rfl := Option.some.inj hm
    exact MW_vret C okX12_findAll hq 114 rfl hp
  · have hm := hmf6 hb6
    obtain rfl := Option.some.inj hm
    exact MW_vret C okX12_findAll hq 5 rfl hp
theorem c_m_findAll (σ : MS) (x1 : Int32) (out : MS) (hm : m_findAll σ x1 = some out) : CT yX12_findAll cX12_findAll 5 none 4 103 0 0 [.ref 0, .int x1] (hM σ) (fun v h => v = none ∧ h = (hM out)) :=
  CT_of (by decide +kernel) (vs0 := [some (.ref 0), some (.int x1), none, none, none]) rfl rfl (fun X C hq => t_m_findAll C hq σ x1 out hm ⟨rfl, rfl⟩)
/-! X12_wagonsOf -/
def m_wagonsOf_L6 : Nat → Int32 → Int32 → Int32 → Int32 → Option (Int32 × Int32)
  | 0, _, _, _, _ => none
  | n + 1, x0, x1, x2, x3 =>
    if (0 : Int32) < x3 then
      m_wagonsOf_L6 n x0 (x1 + 1) (x2 ||| ((1 : Int32) <<< ((irm x3 10) &&& 31))) (x3 / 10)
    else
      some (x1, x2)
set_option maxRecDepth 100000 in
set_option maxHeartbeats 1000000 in
theorem l_m_wagonsOf_6 {X : CTX} {K : Option Value → AH → Prop} (C : CX X cX12_wagonsOf yX12_wagonsOf.cls (decide (yX12_wagonsOf.name = "<init>")) 1 25) (hq : RQ X (some .int) K) : ∀ (n : Nat) (x0 : Int32) (x1 : Int32) (x2 : Int32) (x3 : Int32) (out : Int32 × Int32) (hm : m_wagonsOf_L6 n x0 x1 x2 x3 = some out) (hp : MW X (34, [some (.int x0), some (.int out.1), some (.int out.2), none, none], [], [], 0, 0)), MW X (6, [some (.int x0), some (.int x1), some (.int x2), some (.int x3), none], [], [], 0, 0) := by
  intro n
  induction n with
  | zero => intro x0 x1 x2 x3 out hm hp; rw [m_wagonsOf_L6] at hm; cases hm
  | succ n ih =>
    intro x0 x1 x2 x3 out hm hp
    rw [m_wagonsOf_L6] at hm
    refine MW_run C okX12_wagonsOf 6 1 (gs := []) (cf' := (7, [some (.int x0), some (.int x1), some (.int x2), some (.int x3), none], [.int x3], [], 0, 0)) rfl trivial ?_
    obtain ⟨hmt7, hmf7⟩ := of_if hm
    refine MW_brF C okX12_wagonsOf 7 rfl rfl (fun hb7 => ?_) (fun hb7 => ?_)
    · have hm := hmt7 hb7
      refine MW_run C okX12_wagonsOf 8 16 (gs := [¬ (10 : Int32) = 0, ¬ (10 : Int32) = 0]) (cf' := (6, [some (.int x0), some (.int (x1 + 1)), some (.int (x2 ||| ((1 : Int32) <<< ((irm x3 10) &&& 31)))), some (.int (x3 / 10)), some (.int (irm x3 10))], [], [], 0, 0)) rfl ⟨(show ¬ (10 : Int32) = 0 by decide), (show ¬ (10 : Int32) = 0 by decide)⟩ ?_
      refine MW_pick [true, true, true, true, false] rfl (vs' := [some (.int x0), some (.int (x1 + 1)), some (.int (x2 ||| ((1 : Int32) <<< ((irm x3 10) &&& 31)))), some (.int (x3 / 10)), none]) rfl ?_
      exact ih x0 (x1 + 1) (x2 ||| ((1 : Int32) <<< ((irm x3 10) &&& 31))) (x3 / 10) _ hm hp
    · have hm := hmf7 hb7
      obtain rfl := Option.some.inj hm
      refine MW_pick [true, true, true, false, true] rfl (vs' := [some (.int x0), some (.int x1), some (.int x2), none, none]) rfl ?_
      exact hp
def m_wagonsOf (x0 : Int32) : Option (Int32) :=
  (m_wagonsOf_L6 N0 x0 0 0 x0).bind fun q6 =>
    (m_in ((x0 : Int32).toInt64) 1 54321).bind fun q40 =>
      if q40 = 0 then
        some 0
      else
        if q6.2 = (((1 : Int32) <<< ((q6.1 + 1) &&& 31)) - 2) then
          some q6.1
        else
          some 0
set_option maxRecDepth 100000 in
set_option maxHeartbeats 1000000 in
theorem t_m_wagonsOf {X : CTX} {K : Option Value → AH → Prop} (C : CX X cX12_wagonsOf yX12_wagonsOf.cls (decide (yX12_wagonsOf.name = "<init>")) 1 25) (hq : RQ X (some .int) K) (x0 : Int32) (out : Int32) (hm : m_wagonsOf x0 = some out) (hp : K (some (.int out)) []) : MW X (0, [some (.int x0), none, none, none, none], [], [], 0, 0) := by
  unfold m_wagonsOf at hm
  refine MW_run C okX12_wagonsOf 0 6 (gs := []) (cf' := (6, [some (.int x0), some (.int 0), some (.int 0), some (.int x0), none], [], [], 0, 0)) rfl trivial ?_
  obtain ⟨q6, hc6, hm⟩ := of_bind hm
  refine l_m_wagonsOf_6 C hq N0 x0 0 0 x0 q6 hc6 ?_
  refine MW_run C okX12_wagonsOf 24 4 (gs := []) (cf' := (40, [some (.int x0), some (.int q6.1), some (.int q6.2), none, none], [.long 54321, .long 1, .long ((x0 : Int32).toInt64)], [], 0, 0)) rfl trivial ?_
  obtain ⟨q40, hc40, hm⟩ := of_bind hm
  refine MW_callS0 C okX12_wagonsOf 28 rfl (v0 := some (.int q40)) (c_m_in ((x0 : Int32).toInt64) 1 54321 q40 hc40) lkX12_121 3 dpX12_in (by decide) (rest := []) rfl rfl rfl rfl rfl ?_
  obtain ⟨hmt43, hmf43⟩ := of_if hm
  refine MW_brT C okX12_wagonsOf 29 rfl rfl (fun hb43 => ?_) (fun hb43 => ?_)
  · have hm := hmt43 hb43
    refine MW_run C okX12_wagonsOf 41 1 (gs := []) (cf' := (62, [some (.int x0), some (.int q6.1), some (.int q6.2), none, none], [.int 0], [], 0, 0)) rfl trivial ?_
    obtain rfl := Option.some.inj hm
    exact MW_iret C okX12_wagonsOf hq 42 rfl hp
  · have hm := hmf43 hb43
    refine MW_run C okX12_wagonsOf 30 8 (gs := []) (cf' := (54, [some (.int x0), some (.int q6.1), some (.int q6.2), none, none], [.int (((1 : Int32) <<< ((q6.1 + 1) &&& 31)) - 2), .int q6.2], [], 0, 0)) rfl trivial ?_
    obtain ⟨hmt54, hmf54⟩ := of_if hm
    refine MW_brF C okX12_wagonsOf 38 rfl rfl (fun hb54 => ?_) (fun hb54 => ?_)
    · have hm := hmt54 hb54
      refine MW_run C okX12_wagonsOf 39 2 (gs := []) (cf' := (62, [some (.int x0), some (.int q6.1), some (.int q6.2), none, none], [.int q6.1], [], 0, 0)) rfl trivial ?_
      obtain rfl := Option.some.inj hm
      exact MW_iret C okX12_wagonsOf hq 42 rfl hp
    · have hm := hmf54 hb54
      refine MW_run C okX12_wagonsOf 41 1 (gs := []) (cf' := (62, [some (.int x0), some (.int q6.1), some (.int q6.2), none, none], [.int 0], [], 0, 0)) rfl trivial ?_
      obtain rfl := Option.some.inj hm
      exact MW_iret C okX12_wagonsOf hq 42 rfl hp
theorem c_m_wagonsOf (x0 : Int32) (out : Int32) (hm : m_wagonsOf x0 = some out) : CT yX12_wagonsOf cX12_wagonsOf 5 (some .int) 1 25 0 0 [.int x0] [] (fun v h => v = (some (.int out)) ∧ h = []) :=
  CT_of (by decide +kernel) (vs0 := [some (.int x0), none, none, none, none]) rfl rfl (fun X C hq => t_m_wagonsOf C hq x0 out hm ⟨rfl, rfl⟩)
/-! X12_digitAt -/
def m_digitAt_L7 : Nat → Int32 → Int32 → Int32 → Option (Int32)
  | 0, _, _, _ => none
  | n + 1, x2, x3, x4 =>
    if x2 < x4 then
      m_digitAt_L7 n x2 (x3 / 10) (x4 + (-1))
    else
      some x3
set_option maxRecDepth 100000 in
set_option maxHeartbeats 1000000 in
theorem l_m_digitAt_7 {X : CTX} {K : Option Value → AH → Prop} (C : CX X cX12_digitAt yX12_digitAt.cls (decide (yX12_digitAt.name = "<init>")) 0 0) (hq : RQ X (some .int) K) : ∀ (n : Nat) (x2 : Int32) (x3 : Int32) (x4 : Int32) (out : Int32) (hm : m_digitAt_L7 n x2 x3 x4 = some out) (hp : MW X (24, [none, none, none, some (.int out), none], [], [], 0, 0)), MW X (7, [none, none, some (.int x2), some (.int x3), some (.int x4)], [], [], 0, 0) := by
  intro n
  induction n with
  | zero => intro x2 x3 x4 out hm hp; rw [m_digitAt_L7] at hm; cases hm
  | succ n ih =>
    intro x2 x3 x4 out hm hp
    rw [m_digitAt_L7] at hm
    refine MW_run C okX12_digitAt 6 2 (gs := []) (cf' := (10, [none, none, some (.int x2), some (.int x3), some (.int x4)], [.int x2, .int x4], [], 0, 0)) rfl trivial ?_
    obtain ⟨hmt10, hmf10⟩ := of_if hm
    refine MW_brF C okX12_digitAt 8 rfl rfl (fun hb10 => ?_) (fun hb10 => ?_)
    · have hm := hmt10 hb10
      refine MW_run C okX12_digitAt 9 6 (gs := [¬ (10 : Int32) = 0]) (cf' := (7, [none, none, some (.int x2), some (.int (x3 / 10)), some (.int (x4 + (-1)))], [], [], 0, 0)) rfl (show ¬ (10 : Int32) = 0 by decide) ?_
      exact ih x2 (x3 / 10) (x4 + (-1)) _ hm hp
    · have hm := hmf10 hb10
      obtain rfl := Option.some.inj hm
      refine MW_pick [true, true, false, true, false] rfl (vs' := [none, none, none, some (.int x3), none]) rfl ?_
      exact hp
def m_digitAt (x0 : Int32) (x1 : Int32) (x2 : Int32) : Option (Int32) :=
  (m_digitAt_L7 N0 x2 x0 (x1 - 1)).bind fun q7 =>
    some (irm q7 10)
set_option maxRecDepth 100000 in
set_option maxHeartbeats 1000000 in
theorem t_m_digitAt {X : CTX} {K : Option Value → AH → Prop} (C : CX X cX12_digitAt yX12_digitAt.cls (decide (yX12_digitAt.name = "<init>")) 0 0) (hq : RQ X (some .int) K) (x0 : Int32) (x1 : Int32) (x2 : Int32) (out : Int32) (hm : m_digitAt x0 x1 x2 = some out) (hp : K (some (.int out)) []) : MW X (0, [some (.int x0), some (.int x1), some (.int x2), none, none], [], [], 0, 0) := by
  unfold m_digitAt at hm
  refine MW_run C okX12_digitAt 0 6 (gs := []) (cf' := (7, [some (.int x0), some (.int x1), some (.int x2), some (.int x0), some (.int (x1 - 1))], [], [], 0, 0)) rfl trivial ?_
  obtain ⟨q7, hc7, hm⟩ := of_bind hm
  refine MW_pick [false, false, true, true, true] rfl (vs' := [none, none, some (.int x2), some (.int x0), some (.int (x1 - 1))]) rfl ?_
  refine l_m_digitAt_7 C hq N0 x2 x0 (x1 - 1) q7 hc7 ?_
  refine MW_run C okX12_digitAt 15 3 (gs := [¬ (10 : Int32) = 0]) (cf' := (28, [none, none, none, some (.int q7), none], [.int (irm q7 10)], [], 0, 0)) rfl (show ¬ (10 : Int32) = 0 by decide) ?_
  obtain rfl := Option.some.inj hm
  exact MW_iret C okX12_digitAt hq 18 rfl hp
theorem c_m_digitAt (x0 : Int32) (x1 : Int32) (x2 : Int32) (out : Int32) (hm : m_digitAt x0 x1 x2 = some out) : CT yX12_digitAt cX12_digitAt 5 (some .int) 0 0 0 0 [.int x0, .int x1, .int x2] [] (fun v h => v = (some (.int out)) ∧ h = []) :=
  CT_of (by decide +kernel) (vs0 := [some (.int x0), some (.int x1), some (.int x2), none, none]) rfl rfl (fun X C hq => t_m_digitAt C hq x0 x1 x2 out hm ⟨rfl, rfl⟩)
/-! X12_layTrain -/
def m_layTrain_L2 : Nat → MS → Int32 → Int32 → Int32 → Option (MS)
  | 0, _, _, _, _ => none
  | n + 1, σ, x1, x2, x3 =>
    if x3 < x2 then
      (m_digitAt x1 x2 x3).bind fun q15 =>
        if inb x3 5 then
          m_layTrain_L2 n (sA σ 22 x3 q15) x1 x2 (x3 + 1)
        else none
    else
      some σ
set_option maxRecDepth 100000 in
set_option maxHeartbeats 1000000 in
theorem l_m_layTrain_2 {X : CTX} {K : Option Value → AH → Prop} (C : CX X cX12_layTrain yX12_layTrain.cls (decide (yX12_layTrain.name = "<init>")) 1 24) (hq : RQ X none K) : ∀ (n : Nat) (σ : MS) (x1 : Int32) (x2 : Int32) (x3 : Int32) (out : MS) (hm : m_layTrain_L2 n σ x1 x2 x3 = some out) (hp : MW X (25, [none, none, none, none], [], (hM out), 0, 0)), MW X (2, [some (.ref 0), some (.int x1), some (.int x2), some (.int x3)], [], (hM σ), 0, 0) := by
  intro n
  induction n with
  | zero => intro σ x1 x2 x3 out hm hp; rw [m_layTrain_L2] at hm; cases hm
  | succ n ih =>
    intro σ x1 x2 x3 out hm hp
    rw [m_layTrain_L2] at hm
    refine MW_run C okX12_layTrain 2 2 (gs := []) (cf' := (4, [some (.ref 0), some (.int x1), some (.int x2), some (.int x3)], [.int x2, .int x3], (hM σ), 0, 0)) rfl trivial ?_
    obtain ⟨hmt4, hmf4⟩ := of_if hm
    refine MW_brF C okX12_layTrain 4 rfl rfl (fun hb4 => ?_) (fun hb4 => ?_)
    · have hm := hmt4 hb4
      refine MW_run C okX12_layTrain 5 6 (gs := []) (cf' := (15, [some (.ref 0), some (.int x1), some (.int x2), some (.int x3)], [.int x3, .int x2, .int x1, .int x3, .ref 22], (hM σ), 0, 0)) rfl trivial ?_
      obtain ⟨q15, hc15, hm⟩ := of_bind hm
      refine MW_callS0 C okX12_layTrain 11 rfl (v0 := some (.int q15)) (c_m_digitAt x1 x2 x3 q15 hc15) lkX12_229 3 dpX12_digitAt (by decide) (rest := [.int x3, .ref 22]) rfl rfl rfl rfl rfl ?_
      obtain ⟨hg2, hm⟩ := of_guard hm
      refine MW_run C okX12_layTrain 12 3 (gs := [inb x3 5]) (cf' := (2, [some (.ref 0), some (.int x1), some (.int x2), some (.int (x3 + 1))], [], (hM (sA σ 22 x3 q15)), 0, 0)) rfl hg2 ?_
      exact ih (sA σ 22 x3 q15) x1 x2 (x3 + 1) _ hm hp
    · have hm := hmf4 hb4
      obtain rfl := Option.some.inj hm
      refine MW_pick [false, false, false, false] rfl (vs' := [none, none, none, none]) rfl ?_
      exact hp
def m_layTrain (σ : MS) (x1 : Int32) (x2 : Int32) : Option (MS) :=
  (m_layTrain_L2 N0 σ x1 x2 0).bind fun q2 =>
    some q2
set_option maxRecDepth 100000 in
set_option maxHeartbeats 1000000 in
theorem t_m_layTrain {X : CTX} {K : Option Value → AH → Prop} (C : CX X cX12_layTrain yX12_layTrain.cls (decide (yX12_layTrain.name = "<init>")) 1 24) (hq : RQ X none K) (σ : MS) (x1 : Int32) (x2 : Int32) (out : MS) (hm : m_layTrain σ x1 x2 = some out) (hp : K none (hM out)) : MW X (0, [some (.ref 0), some (.int x1), some (.int x2), none], [], (hM σ), 0, 0) := by
  unfold m_layTrain at hm
  refine MW_run C okX12_layTrain 0 2 (gs := []) (cf' := (2, [some (.ref 0), some (.int x1), some (.int x2), some (.int 0)], [], (hM σ), 0, 0)) rfl trivial ?_
  obtain ⟨q2, hc2, hm⟩ := of_bind hm
  refine l_m_layTrain_2 C hq N0 σ x1 x2 0 q2 hc2 ?_
  obtain rfl := Option.some.inj hm
  exact MW_vret C okX12_layTrain hq 15 rfl hp
theorem c_m_layTrain (σ : MS) (x1 : Int32) (x2 : Int32) (out : MS) (hm : m_layTrain σ x1 x2 = some out) : CT yX12_layTrain cX12_layTrain 4 none 1 24 0 0 [.ref 0, .int x1, .int x2] (hM σ) (fun v h => v = none ∧ h = (hM out)) :=
  CT_of (by decide +kernel) (vs0 := [some (.ref 0), some (.int x1), some (.int x2), none]) rfl rfl (fun X C hq => t_m_layTrain C hq σ x1 x2 out hm ⟨rfl, rfl⟩)
/-! X12_placeOf -/
def m_placeOf_L5 : Nat → MS → Int32 → Int32 → Int32 → Int32 → Option (Int32)
  | 0, _, _, _, _, _ => none
  | n + 1, σ, x1, x2, x3, x4 =>
    if x4 < x2 then
      if inb x4 5 then
        if (gA σ 22 x4) = x1 then
          m_placeOf_L5 n σ x1 x2 (x4 + 1) (x4 + 1)
        else
          m_placeOf_L5 n σ x1 x2 x3 (x4 + 1)
      else none
    else
      some x3
set_option maxRecDepth 100000 in
set_option maxHeartbeats 1000000 in
theorem l_m_placeOf_5 {X : CTX} {K : Option Value → AH → Prop} (C : CX X cX12_placeOf yX12_placeOf.cls (decide (yX12_placeOf.name = "<init>")) 0 0) (hq : RQ X (some .int) K) : ∀ (n : Nat) (σ : MS) (x1 : Int32) (x2 : Int32) (x3 : Int32) (x4 : Int32) (out : Int32) (hm : m_placeOf_L5 n σ x1 x2 x3 x4 = some out) (hp : MW X (37, [none, none, none, some (.int out), none], [], (hM σ), 0, 0)), MW X (5, [some (.ref 0), some (.int x1), some (.int x2), some (.int x3), some (.int x4)], [], (hM σ), 0, 0) := by
  intro n
  induction n with
  | zero => intro σ x1 x2 x3 x4 out hm hp; rw [m_placeOf_L5] at hm; cases hm
  | succ n ih =>
    intro σ x1 x2 x3 x4 out hm hp
    rw [m_placeOf_L5] at hm
    refine MW_run C okX12_placeOf 4 2 (gs := []) (cf' := (8, [some (.ref 0), some (.int x1), some (.int x2), some (.int x3), some (.int x4)], [.int x2, .int x4], (hM σ), 0, 0)) rfl trivial ?_
    obtain ⟨hmt8, hmf8⟩ := of_if hm
    refine MW_brF C okX12_placeOf 6 rfl rfl (fun hb8 => ?_) (fun hb8 => ?_)
    · have hm := hmt8 hb8
      obtain ⟨hg19, hm⟩ := of_guard hm
      refine MW_run C okX12_placeOf 7 5 (gs := [inb x4 5]) (cf' := (19, [some (.ref 0), some (.int x1), some (.int x2), some (.int x3), some (.int x4)], [.int x1, .int (gA σ 22 x4)], (hM σ), 0, 0)) rfl hg19 ?_
      obtain ⟨hmt19, hmf19⟩ := of_if hm
      refine MW_brF C okX12_placeOf 12 rfl rfl (fun hb19 => ?_) (fun hb19 => ?_)
      · have hm := hmt19 hb19
        refine MW_run C okX12_placeOf 13 4 (gs := []) (cf' := (30, [some (.ref 0), some (.int x1), some (.int x2), some (.int x3), some (.int x4)], [.int (x4 + 1)], (hM σ), 0, 0)) rfl trivial ?_
        refine MW_run C okX12_placeOf 18 3 (gs := []) (cf' := (5, [some (.ref 0), some (.int x1), some (.int x2), some (.int (x4 + 1)), some (.int (x4 + 1))], [], (hM σ), 0, 0)) rfl trivial ?_
        exact ih σ x1 x2 (x4 + 1) (x4 + 1) _ hm hp
      · have hm := hmf19 hb19
        refine MW_run C okX12_placeOf 17 1 (gs := []) (cf' := (30, [some (.ref 0), some (.int x1), some (.int x2), some (.int x3), some (.int x4)], [.int x3], (hM σ), 0, 0)) rfl trivial ?_
        refine MW_run C okX12_placeOf 18 3 (gs := []) (cf' := (5, [some (.ref 0), some (.int x1), some (.int x2), some (.int x3), some (.int (x4 + 1))], [], (hM σ), 0, 0)) rfl trivial ?_
        exact ih σ x1 x2 x3 (x4 + 1) _ hm hp
    · have hm := hmf8 hb8
      obtain rfl := Option.some.inj hm
      refine MW_pick [false, false, false, true, false] rfl (vs' := [none, none, none, some (.int x3), none]) rfl ?_
      exact hp
def m_placeOf (σ : MS) (x1 : Int32) (x2 : Int32) : Option (Int32) :=
  (m_placeOf_L5 N0 σ x1 x2 0 0).bind fun q5 =>
    some q5
set_option maxRecDepth 100000 in
set_option maxHeartbeats 1000000 in
theorem t_m_placeOf {X : CTX} {K : Option Value → AH → Prop} (C : CX X cX12_placeOf yX12_placeOf.cls (decide (yX12_placeOf.name = "<init>")) 0 0) (hq : RQ X (some .int) K) (σ : MS) (x1 : Int32) (x2 : Int32) (out : Int32) (hm : m_placeOf σ x1 x2 = some out) (hp : K (some (.int out)) (hM σ)) : MW X (0, [some (.ref 0), some (.int x1), some (.int x2), none, none], [], (hM σ), 0, 0) := by
  unfold m_placeOf at hm
  refine MW_run C okX12_placeOf 0 4 (gs := []) (cf' := (5, [some (.ref 0), some (.int x1), some (.int x2), some (.int 0), some (.int 0)], [], (hM σ), 0, 0)) rfl trivial ?_
  obtain ⟨q5, hc5, hm⟩ := of_bind hm
  refine l_m_placeOf_5 C hq N0 σ x1 x2 0 0 q5 hc5 ?_
  refine MW_run C okX12_placeOf 21 1 (gs := []) (cf' := (38, [none, none, none, some (.int q5), none], [.int q5], (hM σ), 0, 0)) rfl trivial ?_
  obtain rfl := Option.some.inj hm
  exact MW_iret C okX12_placeOf hq 22 rfl hp
theorem c_m_placeOf (σ : MS) (x1 : Int32) (x2 : Int32) (out : Int32) (hm : m_placeOf σ x1 x2 = some out) : CT yX12_placeOf cX12_placeOf 5 (some .int) 0 0 0 0 [.ref 0, .int x1, .int x2] (hM σ) (fun v h => v = (some (.int out)) ∧ h = (hM σ)) :=
  CT_of (by decide +kernel) (vs0 := [some (.ref 0), some (.int x1), some (.int x2), none, none]) rfl rfl (fun X C hq => t_m_placeOf C hq σ x1 x2 out hm ⟨rfl, rfl⟩)
/-! X12_layOrder -/
def m_layOrder_L2 : Nat → MS → Int32 → Int32 → Int32 → Option (MS)
  | 0, _, _, _, _ => none
  | n + 1, σ, x1, x2, x3 =>
    if x3 < x2 then
      (m_digitAt x1 x2 x3).bind fun q16 =>
        (m_placeOf σ q16 x2).bind fun q20 =>
          if inb x3 5 then
            m_layOrder_L2 n (sA σ 21 x3 q20) x1 x2 (x3 + 1)
          else none
    else
      some σ
set_option maxRecDepth 100000 in
set_option maxHeartbeats 1000000 in
theorem l_m_layOrder_2 {X : CTX} {K : Option Value → AH → Prop} (C : CX X cX12_layOrder yX12_layOrder.cls (decide (yX12_layOrder.name = "<init>")) 1 24) (hq : RQ X none K) : ∀ (n : Nat) (σ : MS) (x1 : Int32) (x2 : Int32) (x3 : Int32) (out : MS) (hm : m_layOrder_L2 n σ x1 x2 x3 = some out) (hp : MW X (30, [none, none, none, none], [], (hM out), 0, 0)), MW X (2, [some (.ref 0), some (.int x1), some (.int x2), some (.int x3)], [], (hM σ), 0, 0) := by
  intro n
  induction n with
  | zero => intro σ x1 x2 x3 out hm hp; rw [m_layOrder_L2] at hm; cases hm
  | succ n ih =>
    intro σ x1 x2 x3 out hm hp
    rw [m_layOrder_L2] at hm
    refine MW_run C okX12_layOrder 2 2 (gs := []) (cf' := (4, [some (.ref 0), some (.int x1), some (.int x2), some (.int x3)], [.int x2, .int x3], (hM σ), 0, 0)) rfl trivial ?_
    obtain ⟨hmt4, hmf4⟩ := of_if hm
    refine MW_brF C okX12_layOrder 4 rfl rfl (fun hb4 => ?_) (fun hb4 => ?_)
    · have hm := hmt4 hb4
      refine MW_run C okX12_layOrder 5 7 (gs := []) (cf' := (16, [some (.ref 0), some (.int x1), some (.int x2), some (.int x3)], [.int x3, .int x2, .int x1, .ref 0, .int x3, .ref 21], (hM σ), 0, 0)) rfl trivial ?_
      obtain ⟨q16, hc16, hm⟩ := of_bind hm
      refine MW_callS0 C okX12_layOrder 12 rfl (v0 := some (.int q16)) (c_m_digitAt x1 x2 x3 q16 hc16) lkX12_229 3 dpX12_digitAt (by decide) (rest := [.ref 0, .int x3, .ref 21]) rfl rfl rfl rfl rfl ?_
      refine MW_run C okX12_layOrder 13 1 (gs := []) (cf' := (20, [some (.ref 0), some (.int x1), some (.int x2), some (.int x3)], [.int x2, .int q16, .ref 0, .int x3, .ref 21], (hM σ), 0, 0)) rfl trivial ?_
      obtain ⟨q20, hc20, hm⟩ := of_bind hm
      refine MW_callV0 C okX12_layOrder 14 rfl (v0 := some (.int q20)) (h0 := (hM σ)) (c_m_placeOf σ q16 x2 q20 hc20) lkX12_233 2 dpX12_placeOf (by decide) (rest := [.int x3, .ref 21]) rfl rfl rfl rfl rfl rfl rfl rfl ?_
      obtain ⟨hg2, hm⟩ := of_guard hm
      refine MW_run C okX12_layOrder 15 3 (gs := [inb x3 5]) (cf' := (2, [some (.ref 0), some (.int x1), some (.int x2), some (.int (x3 + 1))], [], (hM (sA σ 21 x3 q20)), 0, 0)) rfl hg2 ?_
      exact ih (sA σ 21 x3 q20) x1 x2 (x3 + 1) _ hm hp
    · have hm := hmf4 hb4
      obtain rfl := Option.some.inj hm
      refine MW_pick [false, false, false, false] rfl (vs' := [none, none, none, none]) rfl ?_
      exact hp
def m_layOrder (σ : MS) (x1 : Int32) (x2 : Int32) : Option (MS) :=
  (m_layOrder_L2 N0 σ x1 x2 0).bind fun q2 =>
    some q2
set_option maxRecDepth 100000 in
set_option maxHeartbeats 1000000 in
theorem t_m_layOrder {X : CTX} {K : Option Value → AH → Prop} (C : CX X cX12_layOrder yX12_layOrder.cls (decide (yX12_layOrder.name = "<init>")) 1 24) (hq : RQ X none K) (σ : MS) (x1 : Int32) (x2 : Int32) (out : MS) (hm : m_layOrder σ x1 x2 = some out) (hp : K none (hM out)) : MW X (0, [some (.ref 0), some (.int x1), some (.int x2), none], [], (hM σ), 0, 0) := by
  unfold m_layOrder at hm
  refine MW_run C okX12_layOrder 0 2 (gs := []) (cf' := (2, [some (.ref 0), some (.int x1), some (.int x2), some (.int 0)], [], (hM σ), 0, 0)) rfl trivial ?_
  obtain ⟨q2, hc2, hm⟩ := of_bind hm
  refine l_m_layOrder_2 C hq N0 σ x1 x2 0 q2 hc2 ?_
  obtain rfl := Option.some.inj hm
  exact MW_vret C okX12_layOrder hq 18 rfl hp
theorem c_m_layOrder (σ : MS) (x1 : Int32) (x2 : Int32) (out : MS) (hm : m_layOrder σ x1 x2 = some out) : CT yX12_layOrder cX12_layOrder 4 none 1 24 0 0 [.ref 0, .int x1, .int x2] (hM σ) (fun v h => v = none ∧ h = (hM out)) :=
  CT_of (by decide +kernel) (vs0 := [some (.ref 0), some (.int x1), some (.int x2), none]) rfl rfl (fun X C hq => t_m_layOrder C hq σ x1 x2 out hm ⟨rfl, rfl⟩)
/-! X12_sortedOf -/
def m_sortedOf_L4 : Nat → MS → Int32 → Int32 → Int32 → Option (Int32)
  | 0, _, _, _, _ => none
  | n + 1, σ, x1, x2, x3 =>
    if x1 < x3 then
      some x2
    else
      m_sortedOf_L4 n σ x1 (((10 : Int32) * x2) + x3) (x3 + 1)
set_option maxRecDepth 100000 in
set_option maxHeartbeats 1000000 in
theorem l_m_sortedOf_4 {X : CTX} {K : Option Value → AH → Prop} (C : CX X cX12_sortedOf yX12_sortedOf.cls (decide (yX12_sortedOf.name = "<init>")) 0 0) (hq : RQ X (some .int) K) : ∀ (n : Nat) (σ : MS) (x1 : Int32) (x2 : Int32) (x3 : Int32) (out : Int32) (hm : m_sortedOf_L4 n σ x1 x2 x3 = some out) (hp : MW X (22, [none, none, some (.int out), none], [], (hM σ), 0, 0)), MW X (4, [none, some (.int x1), some (.int x2), some (.int x3)], [], (hM σ), 0, 0) := by
  intro n
  induction n with
  | zero => intro σ x1 x2 x3 out hm hp; rw [m_sortedOf_L4] at hm; cases hm
  | succ n ih =>
    intro σ x1 x2 x3 out hm hp
    rw [m_sortedOf_L4] at hm
    refine MW_run C okX12_sortedOf 4 2 (gs := []) (cf' := (6, [none, some (.int x1), some (.int x2), some (.int x3)], [.int x1, .int x3], (hM σ), 0, 0)) rfl trivial ?_
    obtain ⟨hmt6, hmf6⟩ := of_if hm
    refine MW_brT C okX12_sortedOf 6 rfl rfl (fun hb6 => ?_) (fun hb6 => ?_)
    · have hm := hmt6 hb6
      obtain rfl := Option.some.inj hm
      refine MW_pick [true, false, true, false] rfl (vs' := [none, none, some (.int x2), none]) rfl ?_
      exact hp
    · have hm := hmf6 hb6
      refine MW_run C okX12_sortedOf 7 8 (gs := []) (cf' := (4, [none, some (.int x1), some (.int (((10 : Int32) * x2) + x3)), some (.int (x3 + 1))], [], (hM σ), 0, 0)) rfl trivial ?_
      exact ih σ x1 (((10 : Int32) * x2) + x3) (x3 + 1) _ hm hp
def m_sortedOf (σ : MS) (x1 : Int32) : Option (Int32) :=
  (m_sortedOf_L4 N0 σ x1 0 1).bind fun q4 =>
    some q4
set_option maxRecDepth 100000 in
set_option maxHeartbeats 1000000 in
theorem t_m_sortedOf {X : CTX} {K : Option Value → AH → Prop} (C : CX X cX12_sortedOf yX12_sortedOf.cls (decide (yX12_sortedOf.name = "<init>")) 0 0) (hq : RQ X (some .int) K) (σ : MS) (x1 : Int32) (out : Int32) (hm : m_sortedOf σ x1 = some out) (hp : K (some (.int out)) (hM σ)) : MW X (0, [some (.ref 0), some (.int x1), none, none], [], (hM σ), 0, 0) := by
  unfold m_sortedOf at hm
  refine MW_run C okX12_sortedOf 0 4 (gs := []) (cf' := (4, [some (.ref 0), some (.int x1), some (.int 0), some (.int 1)], [], (hM σ), 0, 0)) rfl trivial ?_
  obtain ⟨q4, hc4, hm⟩ := of_bind hm
  refine MW_pick [false, true, true, true] rfl (vs' := [none, some (.int x1), some (.int 0), some (.int 1)]) rfl ?_
  refine l_m_sortedOf_4 C hq N0 σ x1 0 1 q4 hc4 ?_
  refine MW_run C okX12_sortedOf 15 1 (gs := []) (cf' := (23, [none, none, some (.int q4), none], [.int q4], (hM σ), 0, 0)) rfl trivial ?_
  obtain rfl := Option.some.inj hm
  exact MW_iret C okX12_sortedOf hq 16 rfl hp
theorem c_m_sortedOf (σ : MS) (x1 : Int32) (out : Int32) (hm : m_sortedOf σ x1 = some out) : CT yX12_sortedOf cX12_sortedOf 4 (some .int) 0 0 0 0 [.ref 0, .int x1] (hM σ) (fun v h => v = (some (.int out)) ∧ h = (hM σ)) :=
  CT_of (by decide +kernel) (vs0 := [some (.ref 0), some (.int x1), none, none]) rfl rfl (fun X C hq => t_m_sortedOf C hq σ x1 out hm ⟨rfl, rfl⟩)
/-! X12_found -/
def m_found (σ : MS) (x1 : Int32) (x2 : Int32) (x3 : Int32) : Option (Int32 × MS) :=
  (m_findAll σ x3).bind fun q2 =>
    (m_layTrain q2 x1 x3).bind fun q8 =>
      (m_layOrder q8 x2 x3).bind fun q14 =>
        (m_rankOf q14 x3).bind fun q23 =>
          some ((((120 : Int32) * x3) + q23), q14)
set_option maxRecDepth 100000 in
set_option maxHeartbeats 1000000 in
theorem t_m_found {X : CTX} {K : Option Value → AH → Prop} (C : CX X cX12_found yX12_found.cls (decide (yX12_found.name = "<init>")) 5 127) (hq : RQ X (some .int) K) (σ : MS) (x1 : Int32) (x2 : Int32) (x3 : Int32) (out : Int32 × MS) (hm : m_found σ x1 x2 x3 = some out) (hp : K (some (.int out.1)) (hM out.2)) : MW X (0, [some (.ref 0), some (.int x1), some (.int x2), some (.int x3)], [], (hM σ), 0, 0) := by
  unfold m_found at hm
  refine MW_run C okX12_found 0 2 (gs := []) (cf' := (2, [some (.ref 0), some (.int x1), some (.int x2), some (.int x3)], [.int x3, .ref 0], (hM σ), 0, 0)) rfl trivial ?_
  obtain ⟨q2, hc2, hm⟩ := of_bind hm
  refine MW_callV0 C okX12_found 2 rfl (v0 := none) (h0 := (hM q2)) (c_m_findAll σ x3 q2 hc2) lkX12_236 1 dpX12_findAll (by decide) (rest := []) rfl rfl rfl rfl rfl rfl rfl rfl ?_
  refine MW_run C okX12_found 3 3 (gs := []) (cf' := (8, [some (.ref 0), some (.int x1), some (.int x2), some (.int x3)], [.int x3, .int x1, .ref 0], (hM q2), 0, 0)) rfl trivial ?_
  obtain ⟨q8, hc8, hm⟩ := of_bind hm
  refine MW_callV0 C okX12_found 6 rfl (v0 := none) (h0 := (hM q8)) (c_m_layTrain q2 x1 x3 q8 hc8) lkX12_239 2 dpX12_layTrain (by decide) (rest := []) rfl rfl rfl rfl rfl rfl rfl rfl ?_
  refine MW_run C okX12_found 7 3 (gs := []) (cf' := (14, [some (.ref 0), some (.int x1), some (.int x2), some (.int x3)], [.int x3, .int x2, .ref 0], (hM q8), 0, 0)) rfl trivial ?_
  obtain ⟨q14, hc14, hm⟩ := of_bind hm
  refine MW_callV0 C okX12_found 10 rfl (v0 := none) (h0 := (hM q14)) (c_m_layOrder q8 x2 x3 q14 hc14) lkX12_242 2 dpX12_layOrder (by decide) (rest := []) rfl rfl rfl rfl rfl rfl rfl rfl ?_
  refine MW_run C okX12_found 11 5 (gs := []) (cf' := (23, [some (.ref 0), some (.int x1), some (.int x2), some (.int x3)], [.int x3, .ref 0, .int ((120 : Int32) * x3)], (hM q14), 0, 0)) rfl trivial ?_
  obtain ⟨q23, hc23, hm⟩ := of_bind hm
  refine MW_callV0 C okX12_found 16 rfl (v0 := some (.int q23)) (h0 := (hM q14)) (c_m_rankOf q14 x3 q23 hc23) lkX12_224 1 dpX12_rankOf (by decide) (rest := [.int ((120 : Int32) * x3)]) rfl rfl rfl rfl rfl rfl rfl rfl ?_
  refine MW_run C okX12_found 17 1 (gs := []) (cf' := (27, [some (.ref 0), some (.int x1), some (.int x2), some (.int x3)], [.int (((120 : Int32) * x3) + q23)], (hM q14), 0, 0)) rfl trivial ?_
  obtain rfl := Option.some.inj hm
  exact MW_iret C okX12_found hq 18 rfl hp
theorem c_m_found (σ : MS) (x1 : Int32) (x2 : Int32) (x3 : Int32) (out : Int32 × MS) (hm : m_found σ x1 x2 x3 = some out) : CT yX12_found cX12_found 4 (some .int) 5 127 0 0 [.ref 0, .int x1, .int x2, .int x3] (hM σ) (fun v h => v = (some (.int out.1)) ∧ h = (hM out.2)) :=
  CT_of (by decide +kernel) (vs0 := [some (.ref 0), some (.int x1), some (.int x2), some (.int x3)]) rfl rfl (fun X C hq => t_m_found C hq σ x1 x2 x3 out hm ⟨rfl, rfl⟩)
/-! X12_areTwo -/
def m_areTwo (x0 : Int32) (x1 : Int32) : Option (Int32) :=
  (m_wagonsOf x0).bind fun q1 =>
    if (0 : Int32) < q1 then
      (m_wagonsOf x1).bind fun q8 =>
        (m_wagonsOf x0).bind fun q12 =>
          if q8 = q12 then
            some 1
          else
            some 0
    else
      some 0
set_option maxRecDepth 100000 in
set_option maxHeartbeats 1000000 in
theorem t_m_areTwo {X : CTX} {K : Option Value → AH → Prop} (C : CX X cX12_areTwo yX12_areTwo.cls (decide (yX12_areTwo.name = "<init>")) 2 49) (hq : RQ X (some .boolean) K) (x0 : Int32) (x1 : Int32) (out : Int32) (hm : m_areTwo x0 x1 = some out) (hp : K (some (.int out)) []) : MW X (0, [some (.int x0), some (.int x1)], [], [], 0, 0) := by
  unfold m_areTwo at hm
  refine MW_run C okX12_areTwo 0 1 (gs := []) (cf' := (1, [some (.int x0), some (.int x1)], [.int x0], [], 0, 0)) rfl trivial ?_
  obtain ⟨q1, hc1, hm⟩ := of_bind hm
  refine MW_callS0 C okX12_areTwo 1 rfl (v0 := some (.int q1)) (c_m_wagonsOf x0 q1 hc1) lkX12_245 1 dpX12_wagonsOf (by decide) (rest := []) rfl rfl rfl rfl rfl ?_
  obtain ⟨hmt4, hmf4⟩ := of_if hm
  refine MW_brF C okX12_areTwo 2 rfl rfl (fun hb4 => ?_) (fun hb4 => ?_)
  · have hm := hmt4 hb4
    refine MW_run C okX12_areTwo 3 1 (gs := []) (cf' := (8, [some (.int x0), some (.int x1)], [.int x1], [], 0, 0)) rfl trivial ?_
    obtain ⟨q8, hc8, hm⟩ := of_bind hm
    refine MW_callS0 C okX12_areTwo 4 rfl (v0 := some (.int q8)) (c_m_wagonsOf x1 q8 hc8) lkX12_245 1 dpX12_wagonsOf (by decide) (rest := []) rfl rfl rfl rfl rfl ?_
    refine MW_run C okX12_areTwo 5 1 (gs := []) (cf' := (12, [some (.int x0), some (.int x1)], [.int x0, .int q8], [], 0, 0)) rfl trivial ?_
    obtain ⟨q12, hc12, hm⟩ := of_bind hm
    refine MW_callS0 C okX12_areTwo 6 rfl (v0 := some (.int q12)) (c_m_wagonsOf x0 q12 hc12) lkX12_245 1 dpX12_wagonsOf (by decide) (rest := [.int q8]) rfl rfl rfl rfl rfl ?_
    obtain ⟨hmt15, hmf15⟩ := of_if hm
    refine MW_brF C okX12_areTwo 7 rfl rfl (fun hb15 => ?_) (fun hb15 => ?_)
    · have hm := hmt15 hb15
      refine MW_run C okX12_areTwo 8 2 (gs := []) (cf' := (23, [some (.int x0), some (.int x1)], [.int 1], [], 0, 0)) rfl trivial ?_
      obtain rfl := Option.some.inj hm
      exact MW_zret C okX12_areTwo hq 11 rfl (by decide) hp
    · have hm := hmf15 hb15
      refine MW_run C okX12_areTwo 10 1 (gs := []) (cf' := (23, [some (.int x0), some (.int x1)], [.int 0], [], 0, 0)) rfl trivial ?_
      obtain rfl := Option.some.inj hm
      exact MW_zret C okX12_areTwo hq 11 rfl (by decide) hp
  · have hm := hmf4 hb4
    refine MW_run C okX12_areTwo 10 1 (gs := []) (cf' := (23, [some (.int x0), some (.int x1)], [.int 0], [], 0, 0)) rfl trivial ?_
    obtain rfl := Option.some.inj hm
    exact MW_zret C okX12_areTwo hq 11 rfl (by decide) hp
theorem c_m_areTwo (x0 : Int32) (x1 : Int32) (out : Int32) (hm : m_areTwo x0 x1 = some out) : CT yX12_areTwo cX12_areTwo 2 (some .boolean) 2 49 0 0 [.int x0, .int x1] [] (fun v h => v = (some (.int out)) ∧ h = []) :=
  CT_of (by decide +kernel) (vs0 := [some (.int x0), some (.int x1)]) rfl rfl (fun X C hq => t_m_areTwo C hq x0 x1 out hm ⟨rfl, rfl⟩)
/-! X12_least -/
def m_least (σ : MS) (x1 : Int32) (x2 : Int32) : Option (Int32 × MS) :=
  (m_areTwo x1 x2).bind fun q2 =>
    if q2 = 0 then
      some ((-2), σ)
    else
      (m_wagonsOf x1).bind fun q16 =>
        (m_found σ x1 x2 q16).bind fun q19 =>
          if inb q19.1 720 then
            some ((gA q19.2 18 q19.1), q19.2)
          else none
set_option maxRecDepth 100000 in
set_option maxHeartbeats 1000000 in
theorem t_m_least {X : CTX} {K : Option Value → AH → Prop} (C : CX X cX12_least yX12_least.cls (decide (yX12_least.name = "<init>")) 6 150) (hq : RQ X (some .int) K) (σ : MS) (x1 : Int32) (x2 : Int32) (out : Int32 × MS) (hm : m_least σ x1 x2 = some out) (hp : K (some (.int out.1)) (hM out.2)) : MW X (0, [some (.ref 0), some (.int x1), some (.int x2)], [], (hM σ), 0, 0) := by
  unfold m_least at hm
  refine MW_run C okX12_least 0 2 (gs := []) (cf' := (2, [some (.ref 0), some (.int x1), some (.int x2)], [.int x2, .int x1], (hM σ), 0, 0)) rfl trivial ?_
  obtain ⟨q2, hc2, hm⟩ := of_bind hm
  refine MW_callS0 C okX12_least 2 rfl (v0 := some (.int q2)) (c_m_areTwo x1 x2 q2 hc2) lkX12_248 2 dpX12_areTwo (by decide) (rest := []) rfl rfl rfl rfl rfl ?_
  obtain ⟨hmt5, hmf5⟩ := of_if hm
  refine MW_brT C okX12_least 3 rfl rfl (fun hb5 => ?_) (fun hb5 => ?_)
  · have hm := hmt5 hb5
    refine MW_run C okX12_least 14 1 (gs := []) (cf' := (28, [some (.ref 0), some (.int x1), some (.int x2)], [.int (-2)], (hM σ), 0, 0)) rfl trivial ?_
    obtain rfl := Option.some.inj hm
    exact MW_iret C okX12_least hq 15 rfl hp
  · have hm := hmf5 hb5
    refine MW_run C okX12_least 4 6 (gs := []) (cf' := (16, [some (.ref 0), some (.int x1), some (.int x2)], [.int x1, .int x2, .int x1, .ref 0, .ref 18], (hM σ), 0, 0)) rfl trivial ?_
    obtain ⟨q16, hc16, hm⟩ := of_bind hm
    refine MW_callS0 C okX12_least 10 rfl (v0 := some (.int q16)) (c_m_wagonsOf x1 q16 hc16) lkX12_245 1 dpX12_wagonsOf (by decide) (rest := [.int x2, .int x1, .ref 0, .ref 18]) rfl rfl rfl rfl rfl ?_
    obtain ⟨q19, hc19, hm⟩ := of_bind hm
    refine MW_callV0 C okX12_least 11 rfl (v0 := some (.int q19.1)) (h0 := (hM q19.2)) (c_m_found σ x1 x2 q16 q19 hc19) lkX12_251 3 dpX12_found (by decide) (rest := [.ref 18]) rfl rfl rfl rfl rfl rfl rfl rfl ?_
    obtain ⟨hg28, hm⟩ := of_guard hm
    refine MW_run C okX12_least 12 2 (gs := [inb q19.1 720]) (cf' := (28, [some (.ref 0), some (.int x1), some (.int x2)], [.int (gA q19.2 18 q19.1)], (hM q19.2), 0, 0)) rfl hg28 ?_
    obtain rfl := Option.some.inj hm
    exact MW_iret C okX12_least hq 15 rfl hp
theorem c_m_least (σ : MS) (x1 : Int32) (x2 : Int32) (out : Int32 × MS) (hm : m_least σ x1 x2 = some out) : CT yX12_least cX12_least 3 (some .int) 6 150 0 0 [.ref 0, .int x1, .int x2] (hM σ) (fun v h => v = (some (.int out.1)) ∧ h = (hM out.2)) :=
  CT_of (by decide +kernel) (vs0 := [some (.ref 0), some (.int x1), some (.int x2)]) rfl rfl (fun X C hq => t_m_least C hq σ x1 x2 out hm ⟨rfl, rfl⟩)
/-! X12_ways -/
def m_ways (σ : MS) (x1 : Int32) (x2 : Int32) : Option (Int64 × MS) :=
  (m_areTwo x1 x2).bind fun q2 =>
    if q2 = 0 then
      some ((-2), σ)
    else
      (m_wagonsOf x1).bind fun q16 =>
        (m_found σ x1 x2 q16).bind fun q19 =>
          if inb q19.1 720 then
            some ((gL q19.2 19 q19.1), q19.2)
          else none
set_option maxRecDepth 100000 in
set_option maxHeartbeats 1000000 in
theorem t_m_ways {X : CTX} {K : Option Value → AH → Prop} (C : CX X cX12_ways yX12_ways.cls (decide (yX12_ways.name = "<init>")) 6 150) (hq : RQ X (some .long) K) (σ : MS) (x1 : Int32) (x2 : Int32) (out : Int64 × MS) (hm : m_ways σ x1 x2 = some out) (hp : K (some (.long out.1)) (hM out.2)) : MW X (0, [some (.ref 0), some (.int x1), some (.int x2)], [], (hM σ), 0, 0) := by
  unfold m_ways at hm
  refine MW_run C okX12_ways 0 2 (gs := []) (cf' := (2, [some (.ref 0), some (.int x1), some (.int x2)], [.int x2, .int x1], (hM σ), 0, 0)) rfl trivial ?_
  obtain ⟨q2, hc2, hm⟩ := of_bind hm
  refine MW_callS0 C okX12_ways 2 rfl (v0 := some (.int q2)) (c_m_areTwo x1 x2 q2 hc2) lkX12_248 2 dpX12_areTwo (by decide) (rest := []) rfl rfl rfl rfl rfl ?_
  obtain ⟨hmt5, hmf5⟩ := of_if hm
  refine MW_brT C okX12_ways 3 rfl rfl (fun hb5 => ?_) (fun hb5 => ?_)
  · have hm := hmt5 hb5
    refine MW_run C okX12_ways 14 1 (gs := []) (cf' := (29, [some (.ref 0), some (.int x1), some (.int x2)], [.long (-2)], (hM σ), 0, 0)) rfl trivial ?_
    obtain rfl := Option.some.inj hm
    exact MW_lret C okX12_ways hq 15 rfl hp
  · have hm := hmf5 hb5
    refine MW_run C okX12_ways 4 6 (gs := []) (cf' := (16, [some (.ref 0), some (.int x1), some (.int x2)], [.int x1, .int x2, .int x1, .ref 0, .ref 19], (hM σ), 0, 0)) rfl trivial ?_
    obtain ⟨q16, hc16, hm⟩ := of_bind hm
    refine MW_callS0 C okX12_ways 10 rfl (v0 := some (.int q16)) (c_m_wagonsOf x1 q16 hc16) lkX12_245 1 dpX12_wagonsOf (by decide) (rest := [.int x2, .int x1, .ref 0, .ref 19]) rfl rfl rfl rfl rfl ?_
    obtain ⟨q19, hc19, hm⟩ := of_bind hm
    refine MW_callV0 C okX12_ways 11 rfl (v0 := some (.int q19.1)) (h0 := (hM q19.2)) (c_m_found σ x1 x2 q16 q19 hc19) lkX12_251 3 dpX12_found (by decide) (rest := [.ref 19]) rfl rfl rfl rfl rfl rfl rfl rfl ?_
    obtain ⟨hg29, hm⟩ := of_guard hm
    refine MW_run C okX12_ways 12 2 (gs := [inb q19.1 720]) (cf' := (29, [some (.ref 0), some (.int x1), some (.int x2)], [.long (gL q19.2 19 q19.1)], (hM q19.2), 0, 0)) rfl hg29 ?_
    obtain rfl := Option.some.inj hm
    exact MW_lret C okX12_ways hq 15 rfl hp
theorem c_m_ways (σ : MS) (x1 : Int32) (x2 : Int32) (out : Int64 × MS) (hm : m_ways σ x1 x2 = some out) : CT yX12_ways cX12_ways 3 (some .long) 6 150 0 0 [.ref 0, .int x1, .int x2] (hM σ) (fun v h => v = (some (.long out.1)) ∧ h = (hM out.2)) :=
  CT_of (by decide +kernel) (vs0 := [some (.ref 0), some (.int x1), some (.int x2)]) rfl rfl (fun X C hq => t_m_ways C hq σ x1 x2 out hm ⟨rfl, rfl⟩)
/-! X12_isMove -/
def m_isMove (σ : MS) (x1 : Int32) (x2 : Int32) (x3 : Int32) (x4 : Int32) : Option (Int32) :=
  (m_in ((x1 : Int32).toInt64) 0 (((gI σ 4) : Int32).toInt64)).bind fun q8 =>
    if q8 = 0 then
      some 0
    else
      if x2 < 2 then
        if x3 = 5 then
          if x4 < 2 then
            some 1
          else
            some 0
        else
          (m_in ((x3 : Int32).toInt64) 1 (((gI σ 4) : Int32).toInt64)).bind fun q32 =>
            if q32 = 0 then
              some 0
            else
              if x4 < 2 then
                some 1
              else
                some 0
      else
        some 0
set_option maxRecDepth 100000 in
set_option maxHeartbeats 1000000 in
theorem t_m_isMove {X : CTX} {K : Option Value → AH → Prop} (C : CX X cX12_isMove yX12_isMove.cls (decide (yX12_isMove.name = "<init>")) 1 25) (hq : RQ X (some .boolean) K) (σ : MS) (x1 : Int32) (x2 : Int32) (x3 : Int32) (x4 : Int32) (out : Int32) (hm : m_isMove σ x1 x2 x3 x4 = some out) (hp : K (some (.int out)) (hM σ)) : MW X (0, [some (.ref 0), some (.int x1), some (.int x2), some (.int x3), some (.int x4)], [], (hM σ), 0, 0) := by
  unfold m_isMove at hm
  refine MW_run C okX12_isMove 0 6 (gs := []) (cf' := (8, [some (.ref 0), some (.int x1), some (.int x2), some (.int x3), some (.int x4)], [.long (((gI σ 4) : Int32).toInt64), .long 0, .long ((x1 : Int32).toInt64)], (hM σ), 0, 0)) rfl trivial ?_
  obtain ⟨q8, hc8, hm⟩ := of_bind hm
  refine MW_callS0 C okX12_isMove 6 rfl (v0 := some (.int q8)) (c_m_in ((x1 : Int32).toInt64) 0 (((gI σ 4) : Int32).toInt64) q8 hc8) lkX12_121 3 dpX12_in (by decide) (rest := []) rfl rfl rfl rfl rfl ?_
  obtain ⟨hmt11, hmf11⟩ := of_if hm
  refine MW_brT C okX12_isMove 7 rfl rfl (fun hb11 => ?_) (fun hb11 => ?_)
  · have hm := hmt11 hb11
    refine MW_run C okX12_isMove 27 1 (gs := []) (cf' := (49, [some (.ref 0), some (.int x1), some (.int x2), some (.int x3), some (.int x4)], [.int 0], (hM σ), 0, 0)) rfl trivial ?_
    obtain rfl := Option.some.inj hm
    exact MW_zret C okX12_isMove hq 28 rfl (by decide) hp
  · have hm := hmf11 hb11
    refine MW_run C okX12_isMove 8 2 (gs := []) (cf' := (16, [some (.ref 0), some (.int x1), some (.int x2), some (.int x3), some (.int x4)], [.int 2, .int x2], (hM σ), 0, 0)) rfl trivial ?_
    obtain ⟨hmt16, hmf16⟩ := of_if hm
    refine MW_brF C okX12_isMove 10 rfl rfl (fun hb16 => ?_) (fun hb16 => ?_)
    · have hm := hmt16 hb16
      refine MW_run C okX12_isMove 11 2 (gs := []) (cf' := (21, [some (.ref 0), some (.int x1), some (.int x2), some (.int x3), some (.int x4)], [.int 5, .int x3], (hM σ), 0, 0)) rfl trivial ?_
      obtain ⟨hmt21, hmf21⟩ := of_if hm
      refine MW_brT C okX12_isMove 13 rfl rfl (fun hb21 => ?_) (fun hb21 => ?_)
      · have hm := hmt21 hb21
        refine MW_run C okX12_isMove 22 2 (gs := []) (cf' := (41, [some (.ref 0), some (.int x1), some (.int x2), some (.int x3), some (.int x4)], [.int 2, .int x4], (hM σ), 0, 0)) rfl trivial ?_
        obtain ⟨hmt41, hmf41⟩ := of_if hm
        refine MW_brF C okX12_isMove 24 rfl rfl (fun hb41 => ?_) (fun hb41 => ?_)
        · have hm := hmt41 hb41
          refine MW_run C okX12_isMove 25 2 (gs := []) (cf' := (49, [some (.ref 0), some (.int x1), some (.int x2), some (.int x3), some (.int x4)], [.int 1], (hM σ), 0, 0)) rfl trivial ?_
          obtain rfl := Option.some.inj hm
          exact MW_zret C okX12_isMove hq 28 rfl (by decide) hp
        · have hm := hmf41 hb41
          refine MW_run C okX12_isMove 27 1 (gs := []) (cf' := (49, [some (.ref 0), some (.int x1), some (.int x2), some (.int x3), some (.int x4)], [.int 0], (hM σ), 0, 0)) rfl trivial ?_
          obtain rfl := Option.some.inj hm
          exact MW_zret C okX12_isMove hq 28 rfl (by decide) hp
      · have hm := hmf21 hb21
        refine MW_run C okX12_isMove 14 6 (gs := []) (cf' := (32, [some (.ref 0), some (.int x1), some (.int x2), some (.int x3), some (.int x4)], [.long (((gI σ 4) : Int32).toInt64), .long 1, .long ((x3 : Int32).toInt64)], (hM σ), 0, 0)) rfl trivial ?_
        obtain ⟨q32, hc32, hm⟩ := of_bind hm
        refine MW_callS0 C okX12_isMove 20 rfl (v0 := some (.int q32)) (c_m_in ((x3 : Int32).toInt64) 1 (((gI σ 4) : Int32).toInt64) q32 hc32) lkX12_121 3 dpX12_in (by decide) (rest := []) rfl rfl rfl rfl rfl ?_
        obtain ⟨hmt35, hmf35⟩ := of_if hm
        refine MW_brT C okX12_isMove 21 rfl rfl (fun hb35 => ?_) (fun hb35 => ?_)
        · have hm := hmt35 hb35
          refine MW_run C okX12_isMove 27 1 (gs := []) (cf' := (49, [some (.ref 0), some (.int x1), some (.int x2), some (.int x3), some (.int x4)], [.int 0], (hM σ), 0, 0)) rfl trivial ?_
          obtain rfl := Option.some.inj hm
          exact MW_zret C okX12_isMove hq 28 rfl (by decide) hp
        · have hm := hmf35 hb35
          refine MW_run C okX12_isMove 22 2 (gs := []) (cf' := (41, [some (.ref 0), some (.int x1), some (.int x2), some (.int x3), some (.int x4)], [.int 2, .int x4], (hM σ), 0, 0)) rfl trivial ?_
          obtain ⟨hmt41, hmf41⟩ := of_if hm
          refine MW_brF C okX12_isMove 24 rfl rfl (fun hb41 => ?_) (fun hb41 => ?_)
          · have hm := hmt41 hb41
            refine MW_run C okX12_isMove 25 2 (gs := []) (cf' := (49, [some (.ref 0), some (.int x1), some (.int x2), some (.int x3), some (.int x4)], [.int 1], (hM σ), 0, 0)) rfl trivial ?_
            obtain rfl := Option.some.inj hm
            exact MW_zret C okX12_isMove hq 28 rfl (by decide) hp
          · have hm := hmf41 hb41
            refine MW_run C okX12_isMove 27 1 (gs := []) (cf' := (49, [some (.ref 0), some (.int x1), some (.int x2), some (.int x3), some (.int x4)], [.int 0], (hM σ), 0, 0)) rfl trivial ?_
            obtain rfl := Option.some.inj hm
            exact MW_zret C okX12_isMove hq 28 rfl (by decide) hp
    · have hm := hmf16 hb16
      refine MW_run C okX12_isMove 27 1 (gs := []) (cf' := (49, [some (.ref 0), some (.int x1), some (.int x2), some (.int x3), some (.int x4)], [.int 0], (hM σ), 0, 0)) rfl trivial ?_
      obtain rfl := Option.some.inj hm
      exact MW_zret C okX12_isMove hq 28 rfl (by decide) hp
theorem c_m_isMove (σ : MS) (x1 : Int32) (x2 : Int32) (x3 : Int32) (x4 : Int32) (out : Int32) (hm : m_isMove σ x1 x2 x3 x4 = some out) : CT yX12_isMove cX12_isMove 5 (some .boolean) 1 25 0 0 [.ref 0, .int x1, .int x2, .int x3, .int x4] (hM σ) (fun v h => v = (some (.int out)) ∧ h = (hM σ)) :=
  CT_of (by decide +kernel) (vs0 := [some (.ref 0), some (.int x1), some (.int x2), some (.int x3), some (.int x4)]) rfl rfl (fun X C hq => t_m_isMove C hq σ x1 x2 x3 x4 out hm ⟨rfl, rfl⟩)
/-! X12_nextOf -/
def m_nextOf_L3 : Nat → MS → Int32 → Int32 → Int32 → Int32 → Option ((MS) ⊕ (Int32 × MS))
  | 0, _, _, _, _, _ => none
  | n + 1, σ, x1, x2, x3, x4 =>
    if x4 < 5000 then
      (m_isMove σ (x4 / 1000) (irm (x4 / 100) 10) (irm (x4 / 10) 10) (irm x4 10)).bind fun q55 =>
        if q55 = 0 then
          m_nextOf_L3 n σ x1 x2 x3 (x4 + 1)
        else
          (m_decode σ x1).bind fun q63 =>
            (m_canMove q63 (x4 / 1000) (irm (x4 / 100) 10) (irm (x4 / 10) 10) (irm x4 10) x2).bind fun q76 =>
              if q76 = 0 then
                m_nextOf_L3 n q63 x1 x2 x3 (x4 + 1)
              else
                (m_doMove q63 (x4 / 1000) (irm (x4 / 100) 10) (irm (x4 / 10) 10) (irm x4 10)).bind fun q91 =>
                  (m_encode q91).bind fun q96 =>
                    (m_search q91 q96 x2).bind fun q100 =>
                      if q100.1 = (x3 - 1) then
                        some (.inr (x4, q100.2))
                      else
                        m_nextOf_L3 n q100.2 x1 x2 x3 (x4 + 1)
    else
      some (.inl σ)
set_option maxRecDepth 100000 in
set_option maxHeartbeats 1000000 in
theorem l_m_nextOf_3 {X : CTX} {K : Option Value → AH → Prop} (C : CX X cX12_nextOf yX12_nextOf.cls (decide (yX12_nextOf.name = "<init>")) 4 103) (hq : RQ X (some .int) K) : ∀ (n : Nat) (σ : MS) (x1 : Int32) (x2 : Int32) (x3 : Int32) (x4 : Int32) (out : (MS) ⊕ (Int32 × MS)) (hm : m_nextOf_L3 n σ x1 x2 x3 x4 = some out) (hp : Sum.elim (fun e => MW X (118, [none, none, none, none, none, none, none, none, none], [], (hM e), 0, 0)) (fun r => K (some (.int r.1)) (hM r.2)) out), MW X (3, [some (.ref 0), some (.int x1), some (.int x2), some (.int x3), some (.int x4), none, none, none, none], [], (hM σ), 0, 0) := by
  intro n
  induction n with
  | zero => intro σ x1 x2 x3 x4 out hm hp; rw [m_nextOf_L3] at hm; cases hm
  | succ n ih =>
    intro σ x1 x2 x3 x4 out hm hp
    rw [m_nextOf_L3] at hm
    refine MW_run C okX12_nextOf 2 2 (gs := []) (cf' := (8, [some (.ref 0), some (.int x1), some (.int x2), some (.int x3), some (.int x4), none, none, none, none], [.int 5000, .int x4], (hM σ), 0, 0)) rfl trivial ?_
    obtain ⟨hmt8, hmf8⟩ := of_if hm
    refine MW_brF C okX12_nextOf 4 rfl rfl (fun hb8 => ?_) (fun hb8 => ?_)
    · have hm := hmt8 hb8
      refine MW_run C okX12_nextOf 5 25 (gs := [¬ (1000 : Int32) = 0, ¬ (100 : Int32) = 0, ¬ (10 : Int32) = 0, ¬ (10 : Int32) = 0, ¬ (10 : Int32) = 0, ¬ (10 : Int32) = 0]) (cf' := (55, [some (.ref 0), some (.int x1), some (.int x2), some (.int x3), some (.int x4), some (.int (x4 / 1000)), some (.int (irm (x4 / 100) 10)), some (.int (irm (x4 / 10) 10)), some (.int (irm x4 10))], [.int (irm x4 10), .int (irm (x4 / 10) 10), .int (irm (x4 / 100) 10), .int (x4 / 1000), .ref 0], (hM σ), 0, 0)) rfl ⟨(show ¬ (1000 : Int32) = 0 by decide), (show ¬ (100 : Int32) = 0 by decide), (show ¬ (10 : Int32) = 0 by decide), (show ¬ (10 : Int32) = 0 by decide), (show ¬ (10 : Int32) = 0 by decide), (show ¬ (10 : Int32) = 0 by decide)⟩ ?_
      obtain ⟨q55, hc55, hm⟩ := of_bind hm
      refine MW_callV0 C okX12_nextOf 30 rfl (v0 := some (.int q55)) (h0 := (hM σ)) (c_m_isMove σ (x4 / 1000) (irm (x4 / 100) 10) (irm (x4 / 10) 10) (irm x4 10) q55 hc55) lkX12_256 4 dpX12_isMove (by decide) (rest := []) rfl rfl rfl rfl rfl rfl rfl rfl ?_
      obtain ⟨hmt58, hmf58⟩ := of_if hm
      refine MW_brT C okX12_nextOf 31 rfl rfl (fun hb58 => ?_) (fun hb58 => ?_)
      · have hm := hmt58 hb58
        refine MW_run C okX12_nextOf 60 2 (gs := []) (cf' := (3, [some (.ref 0), some (.int x1), some (.int x2), some (.int x3), some (.int (x4 + 1)), some (.int (x4 / 1000)), some (.int (irm (x4 / 100) 10)), some (.int (irm (x4 / 10) 10)), some (.int (irm x4 10))], [], (hM σ), 0, 0)) rfl trivial ?_
        refine MW_pick [true, true, true, true, true, false, false, false, false] rfl (vs' := [some (.ref 0), some (.int x1), some (.int x2), some (.int x3), some (.int (x4 + 1)), none, none, none, none]) rfl ?_
        exact ih σ x1 x2 x3 (x4 + 1) _ hm hp
      · have hm := hmf58 hb58
        refine MW_run C okX12_nextOf 32 2 (gs := []) (cf' := (63, [some (.ref 0), some (.int x1), some (.int x2), some (.int x3), some (.int x4), some (.int (x4 / 1000)), some (.int (irm (x4 / 100) 10)), some (.int (irm (x4 / 10) 10)), some (.int (irm x4 10))], [.int x1, .ref 0], (hM σ), 0, 0)) rfl trivial ?_
        obtain ⟨q63, hc63, hm⟩ := of_bind hm
        refine MW_callV0 C okX12_nextOf 34 rfl (v0 := none) (h0 := (hM q63)) (c_m_decode σ x1 q63 hc63) lkX12_194 1 dpX12_decode (by decide) (rest := []) rfl rfl rfl rfl rfl rfl rfl rfl ?_
        refine MW_run C okX12_nextOf 35 6 (gs := []) (cf' := (76, [some (.ref 0), some (.int x1), some (.int x2), some (.int x3), some (.int x4), some (.int (x4 / 1000)), some (.int (irm (x4 / 100) 10)), some (.int (irm (x4 / 10) 10)), some (.int (irm x4 10))], [.int x2, .int (irm x4 10), .int (irm (x4 / 10) 10), .int (irm (x4 / 100) 10), .int (x4 / 1000), .ref 0], (hM q63), 0, 0)) rfl trivial ?_
        obtain ⟨q76, hc76, hm⟩ := of_bind hm
        refine MW_callV0 C okX12_nextOf 41 rfl (v0 := some (.int q76)) (h0 := (hM q63)) (c_m_canMove q63 (x4 / 1000) (irm (x4 / 100) 10) (irm (x4 / 10) 10) (irm x4 10) x2 q76 hc76) lkX12_209 5 dpX12_canMove (by decide) (rest := []) rfl rfl rfl rfl rfl rfl rfl rfl ?_
        obtain ⟨hmt79, hmf79⟩ := of_if hm
        refine MW_brT C okX12_nextOf 42 rfl rfl (fun hb79 => ?_) (fun hb79 => ?_)
        · have hm := hmt79 hb79
          refine MW_run C okX12_nextOf 60 2 (gs := []) (cf' := (3, [some (.ref 0), some (.int x1), some (.int x2), some (.int x3), some (.int (x4 + 1)), some (.int (x4 / 1000)), some (.int (irm (x4 / 100) 10)), some (.int (irm (x4 / 10) 10)), some (.int (irm x4 10))], [], (hM q63), 0, 0)) rfl trivial ?_
          refine MW_pick [true, true, true, true, true, false, false, false, false] rfl (vs' := [some (.ref 0), some (.int x1), some (.int x2), some (.int x3), some (.int (x4 + 1)), none, none, none, none]) rfl ?_
          exact ih q63 x1 x2 x3 (x4 + 1) _ hm hp
        · have hm := hmf79 hb79
          refine MW_run C okX12_nextOf 43 5 (gs := []) (cf' := (91, [some (.ref 0), some (.int x1), some (.int x2), some (.int x3), some (.int x4), some (.int (x4 / 1000)), some (.int (irm (x4 / 100) 10)), some (.int (irm (x4 / 10) 10)), some (.int (irm x4 10))], [.int (irm x4 10), .int (irm (x4 / 10) 10), .int (irm (x4 / 100) 10), .int (x4 / 1000), .ref 0], (hM q63), 0, 0)) rfl trivial ?_
          obtain ⟨q91, hc91, hm⟩ := of_bind hm
          refine MW_callV0 C okX12_nextOf 48 rfl (v0 := none) (h0 := (hM q91)) (c_m_doMove q63 (x4 / 1000) (irm (x4 / 100) 10) (irm (x4 / 10) 10) (irm x4 10) q91 hc91) lkX12_213 4 dpX12_doMove (by decide) (rest := []) rfl rfl rfl rfl rfl rfl rfl rfl ?_
          refine MW_run C okX12_nextOf 49 2 (gs := []) (cf' := (96, [some (.ref 0), some (.int x1), some (.int x2), some (.int x3), some (.int x4), some (.int (x4 / 1000)), some (.int (irm (x4 / 100) 10)), some (.int (irm (x4 / 10) 10)), some (.int (irm x4 10))], [.ref 0, .ref 0], (hM q91), 0, 0)) rfl trivial ?_
          obtain ⟨q96, hc96, hm⟩ := of_bind hm
          refine MW_callV0 C okX12_nextOf 51 rfl (v0 := some (.int q96)) (h0 := (hM q91)) (c_m_encode q91 q96 hc96) lkX12_217 0 dpX12_encode (by decide) (rest := [.ref 0]) rfl rfl rfl rfl rfl rfl rfl rfl ?_
          refine MW_run C okX12_nextOf 52 1 (gs := []) (cf' := (100, [some (.ref 0), some (.int x1), some (.int x2), some (.int x3), some (.int x4), some (.int (x4 / 1000)), some (.int (irm (x4 / 100) 10)), some (.int (irm (x4 / 10) 10)), some (.int (irm x4 10))], [.int x2, .int q96, .ref 0], (hM q91), 0, 0)) rfl trivial ?_
          obtain ⟨q100, hc100, hm⟩ := of_bind hm
          refine MW_callV0 C okX12_nextOf 53 rfl (v0 := some (.int q100.1)) (h0 := (hM q100.2)) (c_m_search q91 q96 x2 q100 hc100) lkX12_220 2 dpX12_search (by decide) (rest := []) rfl rfl rfl rfl rfl rfl rfl rfl ?_
          refine MW_run C okX12_nextOf 54 3 (gs := []) (cf' := (106, [some (.ref 0), some (.int x1), some (.int x2), some (.int x3), some (.int x4), some (.int (x4 / 1000)), some (.int (irm (x4 / 100) 10)), some (.int (irm (x4 / 10) 10)), some (.int (irm x4 10))], [.int (x3 - 1), .int q100.1], (hM q100.2), 0, 0)) rfl trivial ?_
          obtain ⟨hmt106, hmf106⟩ := of_if hm
          refine MW_brF C okX12_nextOf 57 rfl rfl (fun hb106 => ?_) (fun hb106 => ?_)
          · have hm := hmt106 hb106
            refine MW_run C okX12_nextOf 58 1 (gs := []) (cf' := (111, [some (.ref 0), some (.int x1), some (.int x2), some (.int x3), some (.int x4), some (.int (x4 / 1000)), some (.int (irm (x4 / 100) 10)), some (.int (irm (x4 / 10) 10)), some (.int (irm x4 10))], [.int x4], (hM q100.2), 0, 0)) rfl trivial ?_
            obtain rfl := Option.some.inj hm
            exact MW_iret C okX12_nextOf hq 59 rfl hp
          · have hm := hmf106 hb106
            refine MW_run C okX12_nextOf 60 2 (gs := []) (cf' := (3, [some (.ref 0), some (.int x1), some (.int x2), some (.int x3), some (.int (x4 + 1)), some (.int (x4 / 1000)), some (.int (irm (x4 / 100) 10)), some (.int (irm (x4 / 10) 10)), some (.int (irm x4 10))], [], (hM q100.2), 0, 0)) rfl trivial ?_
            refine MW_pick [true, true, true, true, true, false, false, false, false] rfl (vs' := [some (.ref 0), some (.int x1), some (.int x2), some (.int x3), some (.int (x4 + 1)), none, none, none, none]) rfl ?_
            exact ih q100.2 x1 x2 x3 (x4 + 1) _ hm hp
    · have hm := hmf8 hb8
      obtain rfl := Option.some.inj hm
      refine MW_pick [false, false, false, false, false, true, true, true, true] rfl (vs' := [none, none, none, none, none, none, none, none, none]) rfl ?_
      exact hp
def m_nextOf (σ : MS) (x1 : Int32) (x2 : Int32) (x3 : Int32) : Option (Int32 × MS) :=
  (m_nextOf_L3 N0 σ x1 x2 x3 0).bind fun q3 =>
    match q3 with
    | .inr r3 => some r3
    | .inl e3 =>
      some ((-6), e3)
set_option maxRecDepth 100000 in
set_option maxHeartbeats 1000000 in
theorem t_m_nextOf {X : CTX} {K : Option Value → AH → Prop} (C : CX X cX12_nextOf yX12_nextOf.cls (decide (yX12_nextOf.name = "<init>")) 4 103) (hq : RQ X (some .int) K) (σ : MS) (x1 : Int32) (x2 : Int32) (x3 : Int32) (out : Int32 × MS) (hm : m_nextOf σ x1 x2 x3 = some out) (hp : K (some (.int out.1)) (hM out.2)) : MW X (0, [some (.ref 0), some (.int x1), some (.int x2), some (.int x3), none, none, none, none, none], [], (hM σ), 0, 0) := by
  unfold m_nextOf at hm
  refine MW_run C okX12_nextOf 0 2 (gs := []) (cf' := (3, [some (.ref 0), some (.int x1), some (.int x2), some (.int x3), some (.int 0), none, none, none, none], [], (hM σ), 0, 0)) rfl trivial ?_
  obtain ⟨q3, hc3, hm⟩ := of_bind hm
  refine l_m_nextOf_3 C hq N0 σ x1 x2 x3 0 q3 hc3 ?_
  cases q3 with
  | inr r3 =>
    obtain rfl := Option.some.inj hm
    exact hp
  | inl e3 =>
    show MW X (118, [none, none, none, none, none, none, none, none, none], [], (hM e3), 0, 0)
    refine MW_run C okX12_nextOf 62 1 (gs := []) (cf' := (120, [none, none, none, none, none, none, none, none, none], [.int (-6)], (hM e3), 0, 0)) rfl trivial ?_
    obtain rfl := Option.some.inj hm
    exact MW_iret C okX12_nextOf hq 63 rfl hp
theorem c_m_nextOf (σ : MS) (x1 : Int32) (x2 : Int32) (x3 : Int32) (out : Int32 × MS) (hm : m_nextOf σ x1 x2 x3 = some out) : CT yX12_nextOf cX12_nextOf 9 (some .int) 4 103 0 0 [.ref 0, .int x1, .int x2, .int x3] (hM σ) (fun v h => v = (some (.int out.1)) ∧ h = (hM out.2)) :=
  CT_of (by decide +kernel) (vs0 := [some (.ref 0), some (.int x1), some (.int x2), some (.int x3), none, none, none, none, none]) rfl rfl (fun X C hq => t_m_nextOf C hq σ x1 x2 x3 out hm ⟨rfl, rfl⟩)
/-! X12_moved -/
def m_moved (σ : MS) (x1 : Int32) (x2 : Int32) : Option (Int32 × MS) :=
  (m_decode σ x1).bind fun q2 =>
    (m_doMove q2 (x2 / 1000) (irm (x2 / 100) 10) (irm (x2 / 10) 10) (irm x2 10)).bind fun q29 =>
      (m_encode q29).bind fun q33 =>
        some (q33, q29)
set_option maxRecDepth 100000 in
set_option maxHeartbeats 1000000 in
theorem t_m_moved {X : CTX} {K : Option Value → AH → Prop} (C : CX X cX12_moved yX12_moved.cls (decide (yX12_moved.name = "<init>")) 2 49) (hq : RQ X (some .int) K) (σ : MS) (x1 : Int32) (x2 : Int32) (out : Int32 × MS) (hm : m_moved σ x1 x2 = some out) (hp : K (some (.int out.1)) (hM out.2)) : MW X (0, [some (.ref 0), some (.int x1), some (.int x2)], [], (hM σ), 0, 0) := by
  unfold m_moved at hm
  refine MW_run C okX12_moved 0 2 (gs := []) (cf' := (2, [some (.ref 0), some (.int x1), some (.int x2)], [.int x1, .ref 0], (hM σ), 0, 0)) rfl trivial ?_
  obtain ⟨q2, hc2, hm⟩ := of_bind hm
  refine MW_callV0 C okX12_moved 2 rfl (v0 := none) (h0 := (hM q2)) (c_m_decode σ x1 q2 hc2) lkX12_194 1 dpX12_decode (by decide) (rest := []) rfl rfl rfl rfl rfl rfl rfl rfl ?_
  refine MW_run C okX12_moved 3 17 (gs := [¬ (1000 : Int32) = 0, ¬ (100 : Int32) = 0, ¬ (10 : Int32) = 0, ¬ (10 : Int32) = 0, ¬ (10 : Int32) = 0, ¬ (10 : Int32) = 0]) (cf' := (29, [some (.ref 0), some (.int x1), some (.int x2)], [.int (irm x2 10), .int (irm (x2 / 10) 10), .int (irm (x2 / 100) 10), .int (x2 / 1000), .ref 0], (hM q2), 0, 0)) rfl ⟨(show ¬ (1000 : Int32) = 0 by decide), (show ¬ (100 : Int32) = 0 by decide), (show ¬ (10 : Int32) = 0 by decide), (show ¬ (10 : Int32) = 0 by decide), (show ¬ (10 : Int32) = 0 by decide), (show ¬ (10 : Int32) = 0 by decide)⟩ ?_
  obtain ⟨q29, hc29, hm⟩ := of_bind hm
  refine MW_callV0 C okX12_moved 20 rfl (v0 := none) (h0 := (hM q29)) (c_m_doMove q2 (x2 / 1000) (irm (x2 / 100) 10) (irm (x2 / 10) 10) (irm x2 10) q29 hc29) lkX12_213 4 dpX12_doMove (by decide) (rest := []) rfl rfl rfl rfl rfl rfl rfl rfl ?_
  refine MW_run C okX12_moved 21 1 (gs := []) (cf' := (33, [some (.ref 0), some (.int x1), some (.int x2)], [.ref 0], (hM q29), 0, 0)) rfl trivial ?_
  obtain ⟨q33, hc33, hm⟩ := of_bind hm
  refine MW_callV0 C okX12_moved 22 rfl (v0 := some (.int q33)) (h0 := (hM q29)) (c_m_encode q29 q33 hc33) lkX12_217 0 dpX12_encode (by decide) (rest := []) rfl rfl rfl rfl rfl rfl rfl rfl ?_
  obtain rfl := Option.some.inj hm
  exact MW_iret C okX12_moved hq 23 rfl hp
theorem c_m_moved (σ : MS) (x1 : Int32) (x2 : Int32) (out : Int32 × MS) (hm : m_moved σ x1 x2 = some out) : CT yX12_moved cX12_moved 3 (some .int) 2 49 0 0 [.ref 0, .int x1, .int x2] (hM σ) (fun v h => v = (some (.int out.1)) ∧ h = (hM out.2)) :=
  CT_of (by decide +kernel) (vs0 := [some (.ref 0), some (.int x1), some (.int x2)]) rfl rfl (fun X C hq => t_m_moved C hq σ x1 x2 out hm ⟨rfl, rfl⟩)
/-! X12_want -/
def m_want_L15 : Nat → MS → Int32 → Int32 → Option (MS)
  | 0, _, _, _ => none
  | n + 1, σ, x3, x4 =>
    if x4 < x3 then
      if inb x4 5 ∧ inb x4 5 then
        m_want_L15 n (sA σ 17 x4 (gA σ 21 x4)) x3 (x4 + 1)
      else none
    else
      some σ
set_option maxRecDepth 100000 in
set_option maxHeartbeats 1000000 in
theorem l_m_want_15 {X : CTX} {K : Option Value → AH → Prop} (C : CX X cX12_want yX12_want.cls (decide (yX12_want.name = "<init>")) 2 47) (hq : RQ X none K) : ∀ (n : Nat) (σ : MS) (x3 : Int32) (x4 : Int32) (out : MS) (hm : m_want_L15 n σ x3 x4 = some out) (hp : MW X (41, [some (.ref 0), none, none, some (.int x3), none], [], (hM out), 0, 0)), MW X (15, [some (.ref 0), none, none, some (.int x3), some (.int x4)], [], (hM σ), 0, 0) := by
  intro n
  induction n with
  | zero => intro σ x3 x4 out hm hp; rw [m_want_L15] at hm; cases hm
  | succ n ih =>
    intro σ x3 x4 out hm hp
    rw [m_want_L15] at hm
    refine MW_run C okX12_want 10 2 (gs := []) (cf' := (18, [some (.ref 0), none, none, some (.int x3), some (.int x4)], [.int x3, .int x4], (hM σ), 0, 0)) rfl trivial ?_
    obtain ⟨hmt18, hmf18⟩ := of_if hm
    refine MW_brF C okX12_want 12 rfl rfl (fun hb18 => ?_) (fun hb18 => ?_)
    · have hm := hmt18 hb18
      obtain ⟨hg15, hm⟩ := of_guard hm
      refine MW_run C okX12_want 13 10 (gs := [inb x4 5, inb x4 5]) (cf' := (15, [some (.ref 0), none, none, some (.int x3), some (.int (x4 + 1))], [], (hM (sA σ 17 x4 (gA σ 21 x4))), 0, 0)) rfl ⟨hg15.1, hg15.2⟩ ?_
      exact ih (sA σ 17 x4 (gA σ 21 x4)) x3 (x4 + 1) _ hm hp
    · have hm := hmf18 hb18
      obtain rfl := Option.some.inj hm
      refine MW_pick [true, true, true, true, false] rfl (vs' := [some (.ref 0), none, none, some (.int x3), none]) rfl ?_
      exact hp
def m_want (σ : MS) (x1 : Int32) (x2 : Int32) (x3 : Int32) : Option (MS) :=
  (m_layTrain σ x1 x3).bind fun q3 =>
    (m_layOrder q3 x2 x3).bind fun q9 =>
      (m_want_L15 N0 q9 x3 0).bind fun q15 =>
        some (sI q15 25 x3)
set_option maxRecDepth 100000 in
set_option maxHeartbeats 1000000 in
theorem t_m_want {X : CTX} {K : Option Value → AH → Prop} (C : CX X cX12_want yX12_want.cls (decide (yX12_want.name = "<init>")) 2 47) (hq : RQ X none K) (σ : MS) (x1 : Int32) (x2 : Int32) (x3 : Int32) (out : MS) (hm : m_want σ x1 x2 x3 = some out) (hp : K none (hM out)) : MW X (0, [some (.ref 0), some (.int x1), some (.int x2), some (.int x3), none], [], (hM σ), 0, 0) := by
  unfold m_want at hm
  refine MW_run C okX12_want 0 3 (gs := []) (cf' := (3, [some (.ref 0), some (.int x1), some (.int x2), some (.int x3), none], [.int x3, .int x1, .ref 0], (hM σ), 0, 0)) rfl trivial ?_
  obtain ⟨q3, hc3, hm⟩ := of_bind hm
  refine MW_callV0 C okX12_want 3 rfl (v0 := none) (h0 := (hM q3)) (c_m_layTrain σ x1 x3 q3 hc3) lkX12_239 2 dpX12_layTrain (by decide) (rest := []) rfl rfl rfl rfl rfl rfl rfl rfl ?_
  refine MW_run C okX12_want 4 3 (gs := []) (cf' := (9, [some (.ref 0), some (.int x1), some (.int x2), some (.int x3), none], [.int x3, .int x2, .ref 0], (hM q3), 0, 0)) rfl trivial ?_
  obtain ⟨q9, hc9, hm⟩ := of_bind hm
  refine MW_callV0 C okX12_want 7 rfl (v0 := none) (h0 := (hM q9)) (c_m_layOrder q3 x2 x3 q9 hc9) lkX12_242 2 dpX12_layOrder (by decide) (rest := []) rfl rfl rfl rfl rfl rfl rfl rfl ?_
  refine MW_run C okX12_want 8 2 (gs := []) (cf' := (15, [some (.ref 0), some (.int x1), some (.int x2), some (.int x3), some (.int 0)], [], (hM q9), 0, 0)) rfl trivial ?_
  obtain ⟨q15, hc15, hm⟩ := of_bind hm
  refine MW_pick [true, false, false, true, true] rfl (vs' := [some (.ref 0), none, none, some (.int x3), some (.int 0)]) rfl ?_
  refine l_m_want_15 C hq N0 q9 x3 0 q15 hc15 ?_
  refine MW_run C okX12_want 23 3 (gs := []) (cf' := (46, [some (.ref 0), none, none, some (.int x3), none], [], (hM (sI q15 25 x3)), 0, 0)) rfl trivial ?_
  obtain rfl := Option.some.inj hm
  exact MW_vret C okX12_want hq 26 rfl hp
theorem c_m_want (σ : MS) (x1 : Int32) (x2 : Int32) (x3 : Int32) (out : MS) (hm : m_want σ x1 x2 x3 = some out) : CT yX12_want cX12_want 5 none 2 47 0 0 [.ref 0, .int x1, .int x2, .int x3] (hM σ) (fun v h => v = none ∧ h = (hM out)) :=
  CT_of (by decide +kernel) (vs0 := [some (.ref 0), some (.int x1), some (.int x2), some (.int x3), none]) rfl rfl (fun X C hq => t_m_want C hq σ x1 x2 x3 out hm ⟨rfl, rfl⟩)
/-! X12_first -/
def m_first_L67 : Nat → MS → Int32 → Int32 → Int32 → Int32 → Int32 → Int32 → Option (MS × Int32)
  | 0, _, _, _, _, _, _, _ => none
  | n + 1, σ, x3, x4, x5, x6, x7, x8 =>
    if x3 < x8 then
      some (σ, x7)
    else
      (m_nextOf σ x6 x4 (x5 - x8)).bind fun q83 =>
        (m_moved q83.2 x6 q83.1).bind fun q93 =>
          m_first_L67 n q93.2 x3 x4 x5 q93.1 q83.1 (x8 + 1)
set_option maxRecDepth 100000 in
set_option maxHeartbeats 1000000 in
theorem l_m_first_67 {X : CTX} {K : Option Value → AH → Prop} (C : CX X cX12_first yX12_first.cls (decide (yX12_first.name = "<init>")) 6 150) (hq : RQ X (some .int) K) : ∀ (n : Nat) (σ : MS) (x3 : Int32) (x4 : Int32) (x5 : Int32) (x6 : Int32) (x7 : Int32) (x8 : Int32) (out : MS × Int32) (hm : m_first_L67 n σ x3 x4 x5 x6 x7 x8 = some out) (hp : MW X (104, [none, none, none, none, none, none, none, some (.int out.2), none], [], (hM out.1), 0, 0)), MW X (67, [some (.ref 0), none, none, some (.int x3), some (.int x4), some (.int x5), some (.int x6), some (.int x7), some (.int x8)], [], (hM σ), 0, 0) := by
  intro n
  induction n with
  | zero => intro σ x3 x4 x5 x6 x7 x8 out hm hp; rw [m_first_L67] at hm; cases hm
  | succ n ih =>
    intro σ x3 x4 x5 x6 x7 x8 out hm hp
    rw [m_first_L67] at hm
    refine MW_run C okX12_first 40 2 (gs := []) (cf' := (70, [some (.ref 0), none, none, some (.int x3), some (.int x4), some (.int x5), some (.int x6), some (.int x7), some (.int x8)], [.int x3, .int x8], (hM σ), 0, 0)) rfl trivial ?_
    obtain ⟨hmt70, hmf70⟩ := of_if hm
    refine MW_brT C okX12_first 42 rfl rfl (fun hb70 => ?_) (fun hb70 => ?_)
    · have hm := hmt70 hb70
      obtain rfl := Option.some.inj hm
      refine MW_pick [false, true, true, false, false, false, false, true, false] rfl (vs' := [none, none, none, none, none, none, none, some (.int x7), none]) rfl ?_
      exact hp
    · have hm := hmf70 hb70
      refine MW_run C okX12_first 43 6 (gs := []) (cf' := (83, [some (.ref 0), none, none, some (.int x3), some (.int x4), some (.int x5), some (.int x6), some (.int x7), some (.int x8)], [.int (x5 - x8), .int x4, .int x6, .ref 0], (hM σ), 0, 0)) rfl trivial ?_
      obtain ⟨q83, hc83, hm⟩ := of_bind hm
      refine MW_callV0 C okX12_first 49 rfl (v0 := some (.int q83.1)) (h0 := (hM q83.2)) (c_m_nextOf σ x6 x4 (x5 - x8) q83 hc83) lkX12_264 3 dpX12_nextOf (by decide) (rest := []) rfl rfl rfl rfl rfl rfl rfl rfl ?_
      refine MW_run C okX12_first 50 4 (gs := []) (cf' := (93, [some (.ref 0), none, none, some (.int x3), some (.int x4), some (.int x5), some (.int x6), some (.int q83.1), some (.int x8)], [.int q83.1, .int x6, .ref 0], (hM q83.2), 0, 0)) rfl trivial ?_
      obtain ⟨q93, hc93, hm⟩ := of_bind hm
      refine MW_callV0 C okX12_first 54 rfl (v0 := some (.int q93.1)) (h0 := (hM q93.2)) (c_m_moved q83.2 x6 q83.1 q93 hc93) lkX12_267 2 dpX12_moved (by decide) (rest := []) rfl rfl rfl rfl rfl rfl rfl rfl ?_
      refine MW_run C okX12_first 55 3 (gs := []) (cf' := (67, [some (.ref 0), none, none, some (.int x3), some (.int x4), some (.int x5), some (.int q93.1), some (.int q83.1), some (.int (x8 + 1))], [], (hM q93.2), 0, 0)) rfl trivial ?_
      exact ih q93.2 x3 x4 x5 q93.1 q83.1 (x8 + 1) _ hm hp
def m_first (σ : MS) (x1 : Int32) (x2 : Int32) (x3 : Int32) : Option (Int32 × MS) :=
  (m_areTwo x1 x2).bind fun q2 =>
    if q2 = 0 then
      some ((-2), σ)
    else
      (m_wagonsOf x1).bind fun q12 =>
        (m_found σ x1 x2 q12).bind fun q26 =>
          if inb q26.1 720 then
            (m_in ((x3 : Int32).toInt64) 0 ((((gA q26.2 18 q26.1) - 1) : Int32).toInt64)).bind fun q40 =>
              if q40 = 0 then
                some ((-6), q26.2)
              else
                (m_want q26.2 x1 x2 q12).bind fun q54 =>
                  (m_first_L67 N0 q54 x3 q12 (gA q26.2 18 q26.1) 0 (-6) 0).bind fun q67 =>
                    some (q67.2, q67.1)
          else none
set_option maxRecDepth 100000 in
set_option maxHeartbeats 1000000 in
theorem t_m_first {X : CTX} {K : Option Value → AH → Prop} (C : CX X cX12_first yX12_first.cls (decide (yX12_first.name = "<init>")) 6 150) (hq : RQ X (some .int) K) (σ : MS) (x1 : Int32) (x2 : Int32) (x3 : Int32) (out : Int32 × MS) (hm : m_first σ x1 x2 x3 = some out) (hp : K (some (.int out.1)) (hM out.2)) : MW X (0, [some (.ref 0), some (.int x1), some (.int x2), some (.int x3), none, none, none, none, none], [], (hM σ), 0, 0) := by
  unfold m_first at hm
  refine MW_run C okX12_first 0 2 (gs := []) (cf' := (2, [some (.ref 0), some (.int x1), some (.int x2), some (.int x3), none, none, none, none, none], [.int x2, .int x1], (hM σ), 0, 0)) rfl trivial ?_
  obtain ⟨q2, hc2, hm⟩ := of_bind hm
  refine MW_callS0 C okX12_first 2 rfl (v0 := some (.int q2)) (c_m_areTwo x1 x2 q2 hc2) lkX12_248 2 dpX12_areTwo (by decide) (rest := []) rfl rfl rfl rfl rfl ?_
  obtain ⟨hmt5, hmf5⟩ := of_if hm
  refine MW_brF C okX12_first 3 rfl rfl (fun hb5 => ?_) (fun hb5 => ?_)
  · have hm := hmt5 hb5
    refine MW_run C okX12_first 4 1 (gs := []) (cf' := (10, [some (.ref 0), some (.int x1), some (.int x2), some (.int x3), none, none, none, none, none], [.int (-2)], (hM σ), 0, 0)) rfl trivial ?_
    obtain rfl := Option.some.inj hm
    exact MW_iret C okX12_first hq 5 rfl hp
  · have hm := hmf5 hb5
    refine MW_run C okX12_first 6 1 (gs := []) (cf' := (12, [some (.ref 0), some (.int x1), some (.int x2), some (.int x3), none, none, none, none, none], [.int x1], (hM σ), 0, 0)) rfl trivial ?_
    obtain ⟨q12, hc12, hm⟩ := of_bind hm
    refine MW_callS0 C okX12_first 7 rfl (v0 := some (.int q12)) (c_m_wagonsOf x1 q12 hc12) lkX12_245 1 dpX12_wagonsOf (by decide) (rest := []) rfl rfl rfl rfl rfl ?_
    refine MW_run C okX12_first 8 7 (gs := []) (cf' := (26, [some (.ref 0), some (.int x1), some (.int x2), some (.int x3), some (.int q12), none, none, none, none], [.int q12, .int x2, .int x1, .ref 0, .ref 18], (hM σ), 0, 0)) rfl trivial ?_
    obtain ⟨q26, hc26, hm⟩ := of_bind hm
    refine MW_callV0 C okX12_first 15 rfl (v0 := some (.int q26.1)) (h0 := (hM q26.2)) (c_m_found σ x1 x2 q12 q26 hc26) lkX12_251 3 dpX12_found (by decide) (rest := [.ref 18]) rfl rfl rfl rfl rfl rfl rfl rfl ?_
    obtain ⟨hg40, hm⟩ := of_guard hm
    refine MW_run C okX12_first 16 9 (gs := [inb q26.1 720]) (cf' := (40, [some (.ref 0), some (.int x1), some (.int x2), some (.int x3), some (.int q12), some (.int (gA q26.2 18 q26.1)), none, none, none], [.long ((((gA q26.2 18 q26.1) - 1) : Int32).toInt64), .long 0, .long ((x3 : Int32).toInt64)], (hM q26.2), 0, 0)) rfl hg40 ?_
    obtain ⟨q40, hc40, hm⟩ := of_bind hm
    refine MW_callS0 C okX12_first 25 rfl (v0 := some (.int q40)) (c_m_in ((x3 : Int32).toInt64) 0 ((((gA q26.2 18 q26.1) - 1) : Int32).toInt64) q40 hc40) lkX12_121 3 dpX12_in (by decide) (rest := []) rfl rfl rfl rfl rfl ?_
    obtain ⟨hmt43, hmf43⟩ := of_if hm
    refine MW_brF C okX12_first 26 rfl rfl (fun hb43 => ?_) (fun hb43 => ?_)
    · have hm := hmt43 hb43
      refine MW_run C okX12_first 27 1 (gs := []) (cf' := (48, [some (.ref 0), some (.int x1), some (.int x2), some (.int x3), some (.int q12), some (.int (gA q26.2 18 q26.1)), none, none, none], [.int (-6)], (hM q26.2), 0, 0)) rfl trivial ?_
      obtain rfl := Option.some.inj hm
      exact MW_iret C okX12_first hq 28 rfl hp
    · have hm := hmf43 hb43
      refine MW_run C okX12_first 29 4 (gs := []) (cf' := (54, [some (.ref 0), some (.int x1), some (.int x2), some (.int x3), some (.int q12), some (.int (gA q26.2 18 q26.1)), none, none, none], [.int q12, .int x2, .int x1, .ref 0], (hM q26.2), 0, 0)) rfl trivial ?_
      obtain ⟨q54, hc54, hm⟩ := of_bind hm
      refine MW_callV0 C okX12_first 33 rfl (v0 := none) (h0 := (hM q54)) (c_m_want q26.2 x1 x2 q12 q54 hc54) lkX12_260 3 dpX12_want (by decide) (rest := []) rfl rfl rfl rfl rfl rfl rfl rfl ?_
      refine MW_run C okX12_first 34 6 (gs := []) (cf' := (67, [some (.ref 0), some (.int x1), some (.int x2), some (.int x3), some (.int q12), some (.int (gA q26.2 18 q26.1)), some (.int 0), some (.int (-6)), some (.int 0)], [], (hM q54), 0, 0)) rfl trivial ?_
      obtain ⟨q67, hc67, hm⟩ := of_bind hm
      refine MW_pick [true, false, false, true, true, true, true, true, true] rfl (vs' := [some (.ref 0), none, none, some (.int x3), some (.int q12), some (.int (gA q26.2 18 q26.1)), some (.int 0), some (.int (-6)), some (.int 0)]) rfl ?_
      refine l_m_first_67 C hq N0 q54 x3 q12 (gA q26.2 18 q26.1) 0 (-6) 0 q67 hc67 ?_
      refine MW_run C okX12_first 58 1 (gs := []) (cf' := (106, [none, none, none, none, none, none, none, some (.int q67.2), none], [.int q67.2], (hM q67.1), 0, 0)) rfl trivial ?_
      obtain rfl := Option.some.inj hm
      exact MW_iret C okX12_first hq 59 rfl hp
theorem c_m_first (σ : MS) (x1 : Int32) (x2 : Int32) (x3 : Int32) (out : Int32 × MS) (hm : m_first σ x1 x2 x3 = some out) : CT yX12_first cX12_first 9 (some .int) 6 150 0 0 [.ref 0, .int x1, .int x2, .int x3] (hM σ) (fun v h => v = (some (.int out.1)) ∧ h = (hM out.2)) :=
  CT_of (by decide +kernel) (vs0 := [some (.ref 0), some (.int x1), some (.int x2), some (.int x3), none, none, none, none, none]) rfl rfl (fun X C hq => t_m_first C hq σ x1 x2 x3 out hm ⟨rfl, rfl⟩)
/-! X12_insert -/
def m_insert_L2 : Nat → MS → Int32 → Int32 → Option (MS × Int32)
  | 0, _, _, _ => none
  | n + 1, σ, x2, x3 =>
    if (0 : Int32) < x3 then
      if inb (x3 - 1) 120 then
        if x2 < (gA σ 23 (x3 - 1)) then
          if inb (x3 - 1) 120 ∧ inb x3 120 then
            m_insert_L2 n (sA σ 23 x3 (gA σ 23 (x3 - 1))) x2 (x3 + (-1))
          else none
        else
          some (σ, x3)
      else none
    else
      some (σ, x3)
set_option maxRecDepth 100000 in
set_option maxHeartbeats 1000000 in
theorem l_m_insert_2 {X : CTX} {K : Option Value → AH → Prop} (C : CX X cX12_insert yX12_insert.cls (decide (yX12_insert.name = "<init>")) 0 0) (hq : RQ X none K) : ∀ (n : Nat) (σ : MS) (x2 : Int32) (x3 : Int32) (out : MS × Int32) (hm : m_insert_L2 n σ x2 x3 = some out) (hp : MW X (38, [some (.ref 0), none, some (.int x2), some (.int out.2)], [], (hM out.1), 0, 0)), MW X (2, [some (.ref 0), none, some (.int x2), some (.int x3)], [], (hM σ), 0, 0) := by
  intro n
  induction n with
  | zero => intro σ x2 x3 out hm hp; rw [m_insert_L2] at hm; cases hm
  | succ n ih =>
    intro σ x2 x3 out hm hp
    rw [m_insert_L2] at hm
    refine MW_run C okX12_insert 2 1 (gs := []) (cf' := (3, [some (.ref 0), none, some (.int x2), some (.int x3)], [.int x3], (hM σ), 0, 0)) rfl trivial ?_
    obtain ⟨hmt3, hmf3⟩ := of_if hm
    refine MW_brF C okX12_insert 3 rfl rfl (fun hb3 => ?_) (fun hb3 => ?_)
    · have hm := hmt3 hb3
      obtain ⟨hg15, hm⟩ := of_guard hm
      refine MW_run C okX12_insert 4 7 (gs := [inb (x3 - 1) 120]) (cf' := (15, [some (.ref 0), none, some (.int x2), some (.int x3)], [.int x2, .int (gA σ 23 (x3 - 1))], (hM σ), 0, 0)) rfl hg15 ?_
      obtain ⟨hmt15, hmf15⟩ := of_if hm
      refine MW_brF C okX12_insert 11 rfl rfl (fun hb15 => ?_) (fun hb15 => ?_)
      · have hm := hmt15 hb15
        obtain ⟨hg2, hm⟩ := of_guard hm
        refine MW_run C okX12_insert 12 12 (gs := [inb (x3 - 1) 120, inb x3 120]) (cf' := (2, [some (.ref 0), none, some (.int x2), some (.int (x3 + (-1)))], [], (hM (sA σ 23 x3 (gA σ 23 (x3 - 1)))), 0, 0)) rfl ⟨hg2.1, hg2.2⟩ ?_
        exact ih (sA σ 23 x3 (gA σ 23 (x3 - 1))) x2 (x3 + (-1)) _ hm hp
      · have hm := hmf15 hb15
        obtain rfl := Option.some.inj hm
        exact hp
    · have hm := hmf3 hb3
      obtain rfl := Option.some.inj hm
      exact hp
def m_insert (σ : MS) (x1 : Int32) (x2 : Int32) : Option (MS) :=
  (m_insert_L2 N0 σ x2 x1).bind fun q2 =>
    if inb q2.2 120 then
      some (sA q2.1 23 q2.2 x2)
    else none
set_option maxRecDepth 100000 in
set_option maxHeartbeats 1000000 in
theorem t_m_insert {X : CTX} {K : Option Value → AH → Prop} (C : CX X cX12_insert yX12_insert.cls (decide (yX12_insert.name = "<init>")) 0 0) (hq : RQ X none K) (σ : MS) (x1 : Int32) (x2 : Int32) (out : MS) (hm : m_insert σ x1 x2 = some out) (hp : K none (hM out)) : MW X (0, [some (.ref 0), some (.int x1), some (.int x2), none], [], (hM σ), 0, 0) := by
  unfold m_insert at hm
  refine MW_run C okX12_insert 0 2 (gs := []) (cf' := (2, [some (.ref 0), some (.int x1), some (.int x2), some (.int x1)], [], (hM σ), 0, 0)) rfl trivial ?_
  obtain ⟨q2, hc2, hm⟩ := of_bind hm
  refine MW_pick [true, false, true, true] rfl (vs' := [some (.ref 0), none, some (.int x2), some (.int x1)]) rfl ?_
  refine l_m_insert_2 C hq N0 σ x2 x1 q2 hc2 ?_
  obtain ⟨hg45, hm⟩ := of_guard hm
  refine MW_run C okX12_insert 24 5 (gs := [inb q2.2 120]) (cf' := (45, [some (.ref 0), none, some (.int x2), some (.int q2.2)], [], (hM (sA q2.1 23 q2.2 x2)), 0, 0)) rfl hg45 ?_
  obtain rfl := Option.some.inj hm
  exact MW_vret C okX12_insert hq 29 rfl hp
theorem c_m_insert (σ : MS) (x1 : Int32) (x2 : Int32) (out : MS) (hm : m_insert σ x1 x2 = some out) : CT yX12_insert cX12_insert 4 none 0 0 0 0 [.ref 0, .int x1, .int x2] (hM σ) (fun v h => v = none ∧ h = (hM out)) :=
  CT_of (by decide +kernel) (vs0 := [some (.ref 0), some (.int x1), some (.int x2), none]) rfl rfl (fun X C hq => t_m_insert C hq σ x1 x2 out hm ⟨rfl, rfl⟩)
/-! X12_orders -/
def m_orders_L66 : Nat → MS → Int32 → Int32 → Int32 → Int32 → Int32 → Int32 → Option (Int32)
  | 0, _, _, _, _, _, _, _ => none
  | n + 1, σ, x2, x3, x4, x5, x6, x7 =>
    if x7 < x3 then
      if inb x7 5 ∧ inb ((gA σ 21 x7) - 1) 5 then
        m_orders_L66 n σ x2 x3 x4 x5 (((10 : Int32) * x6) + (gA σ 22 ((gA σ 21 x7) - 1))) (x7 + 1)
      else none
    else
      some x6
set_option maxRecDepth 100000 in
set_option maxHeartbeats 1000000 in
theorem l_m_orders_66 {X : CTX} {K : Option Value → AH → Prop} (C : CX X cX12_orders yX12_orders.cls (decide (yX12_orders.name = "<init>")) 5 127) (hq : RQ X (some .int) K) : ∀ (n : Nat) (σ : MS) (x2 : Int32) (x3 : Int32) (x4 : Int32) (x5 : Int32) (x6 : Int32) (x7 : Int32) (out : Int32) (hm : m_orders_L66 n σ x2 x3 x4 x5 x6 x7 = some out) (hp : MW X (100, [some (.ref 0), none, some (.int x2), some (.int x3), some (.int x4), some (.int x5), some (.int out), none], [], (hM σ), 0, 0)), MW X (66, [some (.ref 0), none, some (.int x2), some (.int x3), some (.int x4), some (.int x5), some (.int x6), some (.int x7)], [], (hM σ), 0, 0) := by
  intro n
  induction n with
  | zero => intro σ x2 x3 x4 x5 x6 x7 out hm hp; rw [m_orders_L66] at hm; cases hm
  | succ n ih =>
    intro σ x2 x3 x4 x5 x6 x7 out hm hp
    rw [m_orders_L66] at hm
    refine MW_run C okX12_orders 39 2 (gs := []) (cf' := (69, [some (.ref 0), none, some (.int x2), some (.int x3), some (.int x4), some (.int x5), some (.int x6), some (.int x7)], [.int x3, .int x7], (hM σ), 0, 0)) rfl trivial ?_
    obtain ⟨hmt69, hmf69⟩ := of_if hm
    refine MW_brF C okX12_orders 41 rfl rfl (fun hb69 => ?_) (fun hb69 => ?_)
    · have hm := hmt69 hb69
      obtain ⟨hg66, hm⟩ := of_guard hm
      refine MW_run C okX12_orders 42 16 (gs := [inb x7 5, inb ((gA σ 21 x7) - 1) 5]) (cf' := (66, [some (.ref 0), none, some (.int x2), some (.int x3), some (.int x4), some (.int x5), some (.int (((10 : Int32) * x6) + (gA σ 22 ((gA σ 21 x7) - 1)))), some (.int (x7 + 1))], [], (hM σ), 0, 0)) rfl ⟨hg66.1, hg66.2⟩ ?_
      exact ih σ x2 x3 x4 x5 (((10 : Int32) * x6) + (gA σ 22 ((gA σ 21 x7) - 1))) (x7 + 1) _ hm hp
    · have hm := hmf69 hb69
      obtain rfl := Option.some.inj hm
      refine MW_pick [true, true, true, true, true, true, true, false] rfl (vs' := [some (.ref 0), none, some (.int x2), some (.int x3), some (.int x4), some (.int x5), some (.int x6), none]) rfl ?_
      exact hp
def m_orders_L29 : Nat → MS → Int32 → Int32 → Int32 → Int32 → Option (MS × Int32)
  | 0, _, _, _, _, _ => none
  | n + 1, σ, x2, x3, x4, x5 =>
    (m_power x3).bind fun q32 =>
      if x5 < q32 then
        if inb (((120 : Int32) * x3) + x5) 720 then
          if (gA σ 18 (((120 : Int32) * x3) + x5)) < 0 then
            m_orders_L29 n σ x2 x3 x4 (x5 + 1)
          else
            (m_layRow σ x5 x3).bind fun q57 =>
              (m_orders_L66 N0 q57 x2 x3 x4 x5 0 0).bind fun q66 =>
                (m_insert q57 x4 q66).bind fun q105 =>
                  m_orders_L29 n q105 x2 x3 (x4 + 1) (x5 + 1)
        else none
      else
        some (σ, x4)
set_option maxRecDepth 100000 in
set_option maxHeartbeats 1000000 in
theorem l_m_orders_29 {X : CTX} {K : Option Value → AH → Prop} (C : CX X cX12_orders yX12_orders.cls (decide (yX12_orders.name = "<init>")) 5 127) (hq : RQ X (some .int) K) : ∀ (n : Nat) (σ : MS) (x2 : Int32) (x3 : Int32) (x4 : Int32) (x5 : Int32) (out : MS × Int32) (hm : m_orders_L29 n σ x2 x3 x4 x5 = some out) (hp : MW X (117, [some (.ref 0), none, some (.int x2), none, some (.int out.2), none, none, none], [], (hM out.1), 0, 0)), MW X (29, [some (.ref 0), none, some (.int x2), some (.int x3), some (.int x4), some (.int x5), none, none], [], (hM σ), 0, 0) := by
  intro n
  induction n with
  | zero => intro σ x2 x3 x4 x5 out hm hp; rw [m_orders_L29] at hm; cases hm
  | succ n ih =>
    intro σ x2 x3 x4 x5 out hm hp
    rw [m_orders_L29] at hm
    refine MW_run C okX12_orders 18 2 (gs := []) (cf' := (32, [some (.ref 0), none, some (.int x2), some (.int x3), some (.int x4), some (.int x5), none, none], [.int x3, .int x5], (hM σ), 0, 0)) rfl trivial ?_
    obtain ⟨q32, hc32, hm⟩ := of_bind hm
    refine MW_callS0 C okX12_orders 20 rfl (v0 := some (.int q32)) (c_m_power x3 q32 hc32) lkX12_270 1 dpX12_power (by decide) (rest := [.int x5]) rfl rfl rfl rfl rfl ?_
    obtain ⟨hmt35, hmf35⟩ := of_if hm
    refine MW_brF C okX12_orders 21 rfl rfl (fun hb35 => ?_) (fun hb35 => ?_)
    · have hm := hmt35 hb35
      obtain ⟨hg50, hm⟩ := of_guard hm
      refine MW_run C okX12_orders 22 8 (gs := [inb (((120 : Int32) * x3) + x5) 720]) (cf' := (50, [some (.ref 0), none, some (.int x2), some (.int x3), some (.int x4), some (.int x5), none, none], [.int (gA σ 18 (((120 : Int32) * x3) + x5))], (hM σ), 0, 0)) rfl hg50 ?_
      obtain ⟨hmt50, hmf50⟩ := of_if hm
      refine MW_brT C okX12_orders 30 rfl rfl (fun hb50 => ?_) (fun hb50 => ?_)
      · have hm := hmt50 hb50
        refine MW_run C okX12_orders 63 2 (gs := []) (cf' := (29, [some (.ref 0), none, some (.int x2), some (.int x3), some (.int x4), some (.int (x5 + 1)), none, none], [], (hM σ), 0, 0)) rfl trivial ?_
        exact ih σ x2 x3 x4 (x5 + 1) _ hm hp
      · have hm := hmf50 hb50
        refine MW_run C okX12_orders 31 3 (gs := []) (cf' := (57, [some (.ref 0), none, some (.int x2), some (.int x3), some (.int x4), some (.int x5), none, none], [.int x3, .int x5, .ref 0], (hM σ), 0, 0)) rfl trivial ?_
        obtain ⟨q57, hc57, hm⟩ := of_bind hm
        refine MW_callV0 C okX12_orders 34 rfl (v0 := none) (h0 := (hM q57)) (c_m_layRow σ x5 x3 q57 hc57) lkX12_273 2 dpX12_layRow (by decide) (rest := []) rfl rfl rfl rfl rfl rfl rfl rfl ?_
        refine MW_run C okX12_orders 35 4 (gs := []) (cf' := (66, [some (.ref 0), none, some (.int x2), some (.int x3), some (.int x4), some (.int x5), some (.int 0), some (.int 0)], [], (hM q57), 0, 0)) rfl trivial ?_
        obtain ⟨q66, hc66, hm⟩ := of_bind hm
        refine l_m_orders_66 C hq N0 q57 x2 x3 x4 x5 0 0 q66 hc66 ?_
        refine MW_run C okX12_orders 58 3 (gs := []) (cf' := (105, [some (.ref 0), none, some (.int x2), some (.int x3), some (.int x4), some (.int x5), some (.int q66), none], [.int q66, .int x4, .ref 0], (hM q57), 0, 0)) rfl trivial ?_
        obtain ⟨q105, hc105, hm⟩ := of_bind hm
        refine MW_callV0 C okX12_orders 61 rfl (v0 := none) (h0 := (hM q105)) (c_m_insert q57 x4 q66 q105 hc105) lkX12_276 2 dpX12_insert (by decide) (rest := []) rfl rfl rfl rfl rfl rfl rfl rfl ?_
        refine MW_run C okX12_orders 62 1 (gs := []) (cf' := (111, [some (.ref 0), none, some (.int x2), some (.int x3), some (.int (x4 + 1)), some (.int x5), some (.int q66), none], [], (hM q105), 0, 0)) rfl trivial ?_
        refine MW_run C okX12_orders 63 2 (gs := []) (cf' := (29, [some (.ref 0), none, some (.int x2), some (.int x3), some (.int (x4 + 1)), some (.int (x5 + 1)), some (.int q66), none], [], (hM q105), 0, 0)) rfl trivial ?_
        refine MW_pick [true, true, true, true, true, true, false, true] rfl (vs' := [some (.ref 0), none, some (.int x2), some (.int x3), some (.int (x4 + 1)), some (.int (x5 + 1)), none, none]) rfl ?_
        exact ih q105 x2 x3 (x4 + 1) (x5 + 1) _ hm hp
    · have hm := hmf35 hb35
      obtain rfl := Option.some.inj hm
      refine MW_pick [true, true, true, false, true, false, true, true] rfl (vs' := [some (.ref 0), none, some (.int x2), none, some (.int x4), none, none, none]) rfl ?_
      exact hp
def m_orders (σ : MS) (x1 : Int32) (x2 : Int32) : Option (Int32 × MS) :=
  (m_wagonsOf x1).bind fun q1 =>
    if q1 = 0 then
      some ((-2), σ)
    else
      (m_findAll σ q1).bind fun q14 =>
        (m_layTrain q14 x1 q1).bind fun q20 =>
          (m_orders_L29 N0 q20 x2 q1 0 0).bind fun q29 =>
            if x2 = (-1) then
              some (q29.2, q29.1)
            else
              (m_in ((x2 : Int32).toInt64) 0 (((q29.2 - 1) : Int32).toInt64)).bind fun q135 =>
                if q135 = 0 then
                  some ((-6), q29.1)
                else
                  if inb x2 120 then
                    some ((gA q29.1 23 x2), q29.1)
                  else none
set_option maxRecDepth 100000 in
set_option maxHeartbeats 1000000 in
theorem t_m_orders {X : CTX} {K : Option Value → AH → Prop} (C : CX X cX12_orders yX12_orders.cls (decide (yX12_orders.name = "<init>")) 5 127) (hq : RQ X (some .int) K) (σ : MS) (x1 : Int32) (x2 : Int32) (out : Int32 × MS) (hm : m_orders σ x1 x2 = some out) (hp : K (some (.int out.1)) (hM out.2)) : MW X (0, [some (.ref 0), some (.int x1), some (.int x2), none, none, none, none, none], [], (hM σ), 0, 0) := by
  unfold m_orders at hm
  refine MW_run C okX12_orders 0 1 (gs := []) (cf' := (1, [some (.ref 0), some (.int x1), some (.int x2), none, none, none, none, none], [.int x1], (hM σ), 0, 0)) rfl trivial ?_
  obtain ⟨q1, hc1, hm⟩ := of_bind hm
  refine MW_callS0 C okX12_orders 1 rfl (v0 := some (.int q1)) (c_m_wagonsOf x1 q1 hc1) lkX12_245 1 dpX12_wagonsOf (by decide) (rest := []) rfl rfl rfl rfl rfl ?_
  refine MW_run C okX12_orders 2 2 (gs := []) (cf' := (6, [some (.ref 0), some (.int x1), some (.int x2), some (.int q1), none, none, none, none], [.int q1], (hM σ), 0, 0)) rfl trivial ?_
  obtain ⟨hmt6, hmf6⟩ := of_if hm
  refine MW_brF C okX12_orders 4 rfl rfl (fun hb6 => ?_) (fun hb6 => ?_)
  · have hm := hmt6 hb6
    refine MW_run C okX12_orders 5 1 (gs := []) (cf' := (11, [some (.ref 0), some (.int x1), some (.int x2), some (.int q1), none, none, none, none], [.int (-2)], (hM σ), 0, 0)) rfl trivial ?_
    obtain rfl := Option.some.inj hm
    exact MW_iret C okX12_orders hq 6 rfl hp
  · have hm := hmf6 hb6
    refine MW_run C okX12_orders 7 2 (gs := []) (cf' := (14, [some (.ref 0), some (.int x1), some (.int x2), some (.int q1), none, none, none, none], [.int q1, .ref 0], (hM σ), 0, 0)) rfl trivial ?_
    obtain ⟨q14, hc14, hm⟩ := of_bind hm
    refine MW_callV0 C okX12_orders 9 rfl (v0 := none) (h0 := (hM q14)) (c_m_findAll σ q1 q14 hc14) lkX12_236 1 dpX12_findAll (by decide) (rest := []) rfl rfl rfl rfl rfl rfl rfl rfl ?_
    refine MW_run C okX12_orders 10 3 (gs := []) (cf' := (20, [some (.ref 0), some (.int x1), some (.int x2), some (.int q1), none, none, none, none], [.int q1, .int x1, .ref 0], (hM q14), 0, 0)) rfl trivial ?_
    obtain ⟨q20, hc20, hm⟩ := of_bind hm
    refine MW_callV0 C okX12_orders 13 rfl (v0 := none) (h0 := (hM q20)) (c_m_layTrain q14 x1 q1 q20 hc20) lkX12_239 2 dpX12_layTrain (by decide) (rest := []) rfl rfl rfl rfl rfl rfl rfl rfl ?_
    refine MW_run C okX12_orders 14 4 (gs := []) (cf' := (29, [some (.ref 0), some (.int x1), some (.int x2), some (.int q1), some (.int 0), some (.int 0), none, none], [], (hM q20), 0, 0)) rfl trivial ?_
    obtain ⟨q29, hc29, hm⟩ := of_bind hm
    refine MW_pick [true, false, true, true, true, true, true, true] rfl (vs' := [some (.ref 0), none, some (.int x2), some (.int q1), some (.int 0), some (.int 0), none, none]) rfl ?_
    refine l_m_orders_29 C hq N0 q20 x2 q1 0 0 q29 hc29 ?_
    refine MW_run C okX12_orders 65 2 (gs := []) (cf' := (119, [some (.ref 0), none, some (.int x2), none, some (.int q29.2), none, none, none], [.int (-1), .int x2], (hM q29.1), 0, 0)) rfl trivial ?_
    obtain ⟨hmt119, hmf119⟩ := of_if hm
    refine MW_brF C okX12_orders 67 rfl rfl (fun hb119 => ?_) (fun hb119 => ?_)
    · have hm := hmt119 hb119
      refine MW_run C okX12_orders 68 2 (gs := []) (cf' := (152, [some (.ref 0), none, some (.int x2), none, some (.int q29.2), none, none, none], [.int q29.2], (hM q29.1), 0, 0)) rfl trivial ?_
      obtain rfl := Option.some.inj hm
      exact MW_iret C okX12_orders hq 85 rfl hp
    · have hm := hmf119 hb119
      refine MW_run C okX12_orders 70 7 (gs := []) (cf' := (135, [some (.ref 0), none, some (.int x2), none, some (.int q29.2), none, none, none], [.long (((q29.2 - 1) : Int32).toInt64), .long 0, .long ((x2 : Int32).toInt64)], (hM q29.1), 0, 0)) rfl trivial ?_
      obtain ⟨q135, hc135, hm⟩ := of_bind hm
      refine MW_callS0 C okX12_orders 77 rfl (v0 := some (.int q135)) (c_m_in ((x2 : Int32).toInt64) 0 (((q29.2 - 1) : Int32).toInt64) q135 hc135) lkX12_121 3 dpX12_in (by decide) (rest := []) rfl rfl rfl rfl rfl ?_
      obtain ⟨hmt138, hmf138⟩ := of_if hm
      refine MW_brT C okX12_orders 78 rfl rfl (fun hb138 => ?_) (fun hb138 => ?_)
      · have hm := hmt138 hb138
        refine MW_run C okX12_orders 84 1 (gs := []) (cf' := (152, [some (.ref 0), none, some (.int x2), none, some (.int q29.2), none, none, none], [.int (-6)], (hM q29.1), 0, 0)) rfl trivial ?_
        obtain rfl := Option.some.inj hm
        exact MW_iret C okX12_orders hq 85 rfl hp
      · have hm := hmf138 hb138
        obtain ⟨hg152, hm⟩ := of_guard hm
        refine MW_run C okX12_orders 79 5 (gs := [inb x2 120]) (cf' := (152, [some (.ref 0), none, some (.int x2), none, some (.int q29.2), none, none, none], [.int (gA q29.1 23 x2)], (hM q29.1), 0, 0)) rfl hg152 ?_
        obtain rfl := Option.some.inj hm
        exact MW_iret C okX12_orders hq 85 rfl hp
theorem c_m_orders (σ : MS) (x1 : Int32) (x2 : Int32) (out : Int32 × MS) (hm : m_orders σ x1 x2 = some out) : CT yX12_orders cX12_orders 8 (some .int) 5 127 0 0 [.ref 0, .int x1, .int x2] (hM σ) (fun v h => v = (some (.int out.1)) ∧ h = (hM out.2)) :=
  CT_of (by decide +kernel) (vs0 := [some (.ref 0), some (.int x1), some (.int x2), none, none, none, none, none]) rfl rfl (fun X C hq => t_m_orders C hq σ x1 x2 out hm ⟨rfl, rfl⟩)
