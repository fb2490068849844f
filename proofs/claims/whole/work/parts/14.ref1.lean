/-! X12_takeFar -/
def m_takeFar (σ : MS) (x1 : Int32) : Option (Int32 × MS) :=
  if inb x1 5 ∧ inb x1 5 ∧ inb x1 5 ∧ inb (((5 : Int32) * x1) + (gA (sA σ 11 x1 ((gA σ 11 x1) - 1)) 11 x1)) 25 then
    some ((gA σ 10 (((5 : Int32) * x1) + (gA (sA σ 11 x1 ((gA σ 11 x1) - 1)) 11 x1))), (sA σ 11 x1 ((gA σ 11 x1) - 1)))
  else none
set_option maxRecDepth 100000 in
set_option maxHeartbeats 1000000 in
theorem t_m_takeFar {X : CTX} {K : Option Value → AH → Prop} (C : CX X cX12_takeFar yX12_takeFar.cls (decide (yX12_takeFar.name = "<init>")) 0 0) (hq : RQ X (some .int) K) (σ : MS) (x1 : Int32) (out : Int32 × MS) (hm : m_takeFar σ x1 = some out) (hp : K (some (.int out.1)) (hM out.2)) : MW X (0, [some (.ref 0), some (.int x1)], [], (hM σ), 0, 0) := by
  unfold m_takeFar at hm
  obtain ⟨hg25, hm⟩ := of_guard hm
  refine MW_run C okX12_takeFar 0 19 (gs := [inb x1 5, inb x1 5, inb x1 5, inb (((5 : Int32) * x1) + (gA (sA σ 11 x1 ((gA σ 11 x1) - 1)) 11 x1)) 25]) (cf' := (25, [some (.ref 0), some (.int x1)], [.int (gA σ 10 (((5 : Int32) * x1) + (gA (sA σ 11 x1 ((gA σ 11 x1) - 1)) 11 x1)))], (hM (sA σ 11 x1 ((gA σ 11 x1) - 1))), 0, 0)) rfl ⟨hg25.1, hg25.2.1, hg25.2.2.1, hg25.2.2.2⟩ ?_
  obtain rfl := Option.some.inj hm
  exact MW_iret C okX12_takeFar hq 19 rfl hp
theorem c_m_takeFar (σ : MS) (x1 : Int32) (out : Int32 × MS) (hm : m_takeFar σ x1 = some out) : CT yX12_takeFar cX12_takeFar 2 (some .int) 0 0 0 0 [.ref 0, .int x1] (hM σ) (fun v h => v = (some (.int out.1)) ∧ h = (hM out.2)) :=
  CT_of (by decide +kernel) (vs0 := [some (.ref 0), some (.int x1)]) rfl rfl (fun X C hq => t_m_takeFar C hq σ x1 out hm ⟨rfl, rfl⟩)
/-! X12_isOut -/
def m_isOut (σ : MS) (x1 : Int32) (x2 : Int32) : Option (Int32) :=
  if inb x1 4 then
    if (gA σ 1 x1) = 100 then
      some 1
    else
      if inb x1 4 then
        if (gA σ 1 x1) = 115 then
          if x2 = 0 then
            some 1
          else
            some 0
        else
          if x2 = 1 then
            some 1
          else
            some 0
      else none
  else none
set_option maxRecDepth 100000 in
set_option maxHeartbeats 1000000 in
theorem t_m_isOut {X : CTX} {K : Option Value → AH → Prop} (C : CX X cX12_isOut yX12_isOut.cls (decide (yX12_isOut.name = "<init>")) 0 0) (hq : RQ X (some .boolean) K) (σ : MS) (x1 : Int32) (x2 : Int32) (out : Int32) (hm : m_isOut σ x1 x2 = some out) (hp : K (some (.int out)) (hM σ)) : MW X (0, [some (.ref 0), some (.int x1), some (.int x2)], [], (hM σ), 0, 0) := by
  unfold m_isOut at hm
  obtain ⟨hg8, hm⟩ := of_guard hm
  refine MW_run C okX12_isOut 0 5 (gs := [inb x1 4]) (cf' := (8, [some (.ref 0), some (.int x1), some (.int x2)], [.int 100, .int (gA σ 1 x1)], (hM σ), 0, 0)) rfl hg8 ?_
  obtain ⟨hmt8, hmf8⟩ := of_if hm
  refine MW_brT C okX12_isOut 5 rfl rfl (fun hb8 => ?_) (fun hb8 => ?_)
  · have hm := hmt8 hb8
    refine MW_run C okX12_isOut 18 2 (gs := []) (cf' := (39, [some (.ref 0), some (.int x1), some (.int x2)], [.int 1], (hM σ), 0, 0)) rfl trivial ?_
    obtain rfl := Option.some.inj hm
    exact MW_zret C okX12_isOut hq 21 rfl (by decide) hp
  · have hm := hmf8 hb8
    obtain ⟨hg19, hm⟩ := of_guard hm
    refine MW_run C okX12_isOut 6 5 (gs := [inb x1 4]) (cf' := (19, [some (.ref 0), some (.int x1), some (.int x2)], [.int 115, .int (gA σ 1 x1)], (hM σ), 0, 0)) rfl hg19 ?_
    obtain ⟨hmt19, hmf19⟩ := of_if hm
    refine MW_brF C okX12_isOut 11 rfl rfl (fun hb19 => ?_) (fun hb19 => ?_)
    · have hm := hmt19 hb19
      refine MW_run C okX12_isOut 12 1 (gs := []) (cf' := (23, [some (.ref 0), some (.int x1), some (.int x2)], [.int x2], (hM σ), 0, 0)) rfl trivial ?_
      obtain ⟨hmt23, hmf23⟩ := of_if hm
      refine MW_brF C okX12_isOut 13 rfl rfl (fun hb23 => ?_) (fun hb23 => ?_)
      · have hm := hmt23 hb23
        refine MW_run C okX12_isOut 14 1 (gs := []) (cf' := (34, [some (.ref 0), some (.int x1), some (.int x2)], [], (hM σ), 0, 0)) rfl trivial ?_
        refine MW_run C okX12_isOut 18 2 (gs := []) (cf' := (39, [some (.ref 0), some (.int x1), some (.int x2)], [.int 1], (hM σ), 0, 0)) rfl trivial ?_
        obtain rfl := Option.some.inj hm
        exact MW_zret C okX12_isOut hq 21 rfl (by decide) hp
      · have hm := hmf23 hb23
        refine MW_run C okX12_isOut 20 1 (gs := []) (cf' := (39, [some (.ref 0), some (.int x1), some (.int x2)], [.int 0], (hM σ), 0, 0)) rfl trivial ?_
        obtain rfl := Option.some.inj hm
        exact MW_zret C okX12_isOut hq 21 rfl (by decide) hp
    · have hm := hmf19 hb19
      refine MW_run C okX12_isOut 15 2 (gs := []) (cf' := (31, [some (.ref 0), some (.int x1), some (.int x2)], [.int 1, .int x2], (hM σ), 0, 0)) rfl trivial ?_
      obtain ⟨hmt31, hmf31⟩ := of_if hm
      refine MW_brF C okX12_isOut 17 rfl rfl (fun hb31 => ?_) (fun hb31 => ?_)
      · have hm := hmt31 hb31
        refine MW_run C okX12_isOut 18 2 (gs := []) (cf' := (39, [some (.ref 0), some (.int x1), some (.int x2)], [.int 1], (hM σ), 0, 0)) rfl trivial ?_
        obtain rfl := Option.some.inj hm
        exact MW_zret C okX12_isOut hq 21 rfl (by decide) hp
      · have hm := hmf31 hb31
        refine MW_run C okX12_isOut 20 1 (gs := []) (cf' := (39, [some (.ref 0), some (.int x1), some (.int x2)], [.int 0], (hM σ), 0, 0)) rfl trivial ?_
        obtain rfl := Option.some.inj hm
        exact MW_zret C okX12_isOut hq 21 rfl (by decide) hp
theorem c_m_isOut (σ : MS) (x1 : Int32) (x2 : Int32) (out : Int32) (hm : m_isOut σ x1 x2 = some out) : CT yX12_isOut cX12_isOut 3 (some .boolean) 0 0 0 0 [.ref 0, .int x1, .int x2] (hM σ) (fun v h => v = (some (.int out)) ∧ h = (hM σ)) :=
  CT_of (by decide +kernel) (vs0 := [some (.ref 0), some (.int x1), some (.int x2)]) rfl rfl (fun X C hq => t_m_isOut C hq σ x1 x2 out hm ⟨rfl, rfl⟩)
/-! X12_isIn -/
def m_isIn (σ : MS) (x1 : Int32) (x2 : Int32) : Option (Int32) :=
  if inb x1 4 then
    if (gA σ 1 x1) = 100 then
      some 1
    else
      if x2 = 0 then
        some 1
      else
        some 0
  else none
set_option maxRecDepth 100000 in
set_option maxHeartbeats 1000000 in
theorem t_m_isIn {X : CTX} {K : Option Value → AH → Prop} (C : CX X cX12_isIn yX12_isIn.cls (decide (yX12_isIn.name = "<init>")) 0 0) (hq : RQ X (some .boolean) K) (σ : MS) (x1 : Int32) (x2 : Int32) (out : Int32) (hm : m_isIn σ x1 x2 = some out) (hp : K (some (.int out)) (hM σ)) : MW X (0, [some (.ref 0), some (.int x1), some (.int x2)], [], (hM σ), 0, 0) := by
  unfold m_isIn at hm
  obtain ⟨hg8, hm⟩ := of_guard hm
  refine MW_run C okX12_isIn 0 5 (gs := [inb x1 4]) (cf' := (8, [some (.ref 0), some (.int x1), some (.int x2)], [.int 100, .int (gA σ 1 x1)], (hM σ), 0, 0)) rfl hg8 ?_
  obtain ⟨hmt8, hmf8⟩ := of_if hm
  refine MW_brT C okX12_isIn 5 rfl rfl (fun hb8 => ?_) (fun hb8 => ?_)
  · have hm := hmt8 hb8
    refine MW_run C okX12_isIn 8 2 (gs := []) (cf' := (20, [some (.ref 0), some (.int x1), some (.int x2)], [.int 1], (hM σ), 0, 0)) rfl trivial ?_
    obtain rfl := Option.some.inj hm
    exact MW_zret C okX12_isIn hq 11 rfl (by decide) hp
  · have hm := hmf8 hb8
    refine MW_run C okX12_isIn 6 1 (gs := []) (cf' := (12, [some (.ref 0), some (.int x1), some (.int x2)], [.int x2], (hM σ), 0, 0)) rfl trivial ?_
    obtain ⟨hmt12, hmf12⟩ := of_if hm
    refine MW_brF C okX12_isIn 7 rfl rfl (fun hb12 => ?_) (fun hb12 => ?_)
    · have hm := hmt12 hb12
      refine MW_run C okX12_isIn 8 2 (gs := []) (cf' := (20, [some (.ref 0), some (.int x1), some (.int x2)], [.int 1], (hM σ), 0, 0)) rfl trivial ?_
      obtain rfl := Option.some.inj hm
      exact MW_zret C okX12_isIn hq 11 rfl (by decide) hp
    · have hm := hmf12 hb12
      refine MW_run C okX12_isIn 10 1 (gs := []) (cf' := (20, [some (.ref 0), some (.int x1), some (.int x2)], [.int 0], (hM σ), 0, 0)) rfl trivial ?_
      obtain rfl := Option.some.inj hm
      exact MW_zret C okX12_isIn hq 11 rfl (by decide) hp
theorem c_m_isIn (σ : MS) (x1 : Int32) (x2 : Int32) (out : Int32) (hm : m_isIn σ x1 x2 = some out) : CT yX12_isIn cX12_isIn 3 (some .boolean) 0 0 0 0 [.ref 0, .int x1, .int x2] (hM σ) (fun v h => v = (some (.int out)) ∧ h = (hM σ)) :=
  CT_of (by decide +kernel) (vs0 := [some (.ref 0), some (.int x1), some (.int x2)]) rfl rfl (fun X C hq => t_m_isIn C hq σ x1 x2 out hm ⟨rfl, rfl⟩)
/-! X12_canMove -/
def m_canMove_J108 (σ : MS) (x1 : Int32) (x3 : Int32) (x6 : Int32) (w0 : Int32) : Option (Int32) :=
  if x6 = 0 then
    some 0
  else
    if w0 = 0 then
      some 0
    else
      (m_goes σ x1 x3).bind fun q123 =>
        if q123 = 0 then
          some 0
        else
          some 1
set_option maxRecDepth 100000 in
set_option maxHeartbeats 1000000 in
theorem j_m_canMove_108 {X : CTX} {K : Option Value → AH → Prop} (C : CX X cX12_canMove yX12_canMove.cls (decide (yX12_canMove.name = "<init>")) 1 26) (hq : RQ X (some .boolean) K) (σ : MS) (x1 : Int32) (x3 : Int32) (x6 : Int32) (w0 : Int32) (out : Int32) (hm : m_canMove_J108 σ x1 x3 x6 w0 = some out) (hp : K (some (.int out)) (hM σ)) : MW X (108, [some (.ref 0), some (.int x1), none, some (.int x3), none, none, some (.int x6), none], [.int w0], (hM σ), 0, 0) := by
  unfold m_canMove_J108 at hm
  refine MW_run C okX12_canMove 62 2 (gs := []) (cf' := (112, [some (.ref 0), some (.int x1), none, some (.int x3), none, none, some (.int x6), some (.int w0)], [.int x6], (hM σ), 0, 0)) rfl trivial ?_
  obtain ⟨hmt112, hmf112⟩ := of_if hm
  refine MW_brT C okX12_canMove 64 rfl rfl (fun hb112 => ?_) (fun hb112 => ?_)
  · have hm := hmt112 hb112
    refine MW_run C okX12_canMove 74 1 (gs := []) (cf' := (134, [some (.ref 0), some (.int x1), none, some (.int x3), none, none, some (.int x6), some (.int w0)], [.int 0], (hM σ), 0, 0)) rfl trivial ?_
    obtain rfl := Option.some.inj hm
    exact MW_zret C okX12_canMove hq 75 rfl (by decide) hp
  · have hm := hmf112 hb112
    refine MW_run C okX12_canMove 65 1 (gs := []) (cf' := (117, [some (.ref 0), some (.int x1), none, some (.int x3), none, none, some (.int x6), some (.int w0)], [.int w0], (hM σ), 0, 0)) rfl trivial ?_
    obtain ⟨hmt117, hmf117⟩ := of_if hm
    refine MW_brT C okX12_canMove 66 rfl rfl (fun hb117 => ?_) (fun hb117 => ?_)
    · have hm := hmt117 hb117
      refine MW_run C okX12_canMove 74 1 (gs := []) (cf' := (134, [some (.ref 0), some (.int x1), none, some (.int x3), none, none, some (.int x6), some (.int w0)], [.int 0], (hM σ), 0, 0)) rfl trivial ?_
      obtain rfl := Option.some.inj hm
      exact MW_zret C okX12_canMove hq 75 rfl (by decide) hp
    · have hm := hmf117 hb117
      refine MW_run C okX12_canMove 67 3 (gs := []) (cf' := (123, [some (.ref 0), some (.int x1), none, some (.int x3), none, none, some (.int x6), some (.int w0)], [.int x3, .int x1, .ref 0], (hM σ), 0, 0)) rfl trivial ?_
      obtain ⟨q123, hc123, hm⟩ := of_bind hm
      refine MW_callV0 C okX12_canMove 70 rfl (v0 := some (.int q123)) (h0 := (hM σ)) (c_m_goes σ x1 x3 q123 hc123) lkX12_150 2 dpX12_goes (by decide) (rest := []) rfl rfl rfl rfl rfl rfl rfl rfl ?_
      obtain ⟨hmt126, hmf126⟩ := of_if hm
      refine MW_brT C okX12_canMove 71 rfl rfl (fun hb126 => ?_) (fun hb126 => ?_)
      · have hm := hmt126 hb126
        refine MW_run C okX12_canMove 74 1 (gs := []) (cf' := (134, [some (.ref 0), some (.int x1), none, some (.int x3), none, none, some (.int x6), some (.int w0)], [.int 0], (hM σ), 0, 0)) rfl trivial ?_
        obtain rfl := Option.some.inj hm
        exact MW_zret C okX12_canMove hq 75 rfl (by decide) hp
      · have hm := hmf126 hb126
        refine MW_run C okX12_canMove 72 2 (gs := []) (cf' := (134, [some (.ref 0), some (.int x1), none, some (.int x3), none, none, some (.int x6), some (.int w0)], [.int 1], (hM σ), 0, 0)) rfl trivial ?_
        obtain rfl := Option.some.inj hm
        exact MW_zret C okX12_canMove hq 75 rfl (by decide) hp
def m_canMove_J52 (σ : MS) (x1 : Int32) (x3 : Int32) (x4 : Int32) (w0 : Int32) : Option (Int32) :=
  if x3 = 5 then
    if x4 = 0 then
      m_canMove_J108 σ x1 x3 w0 1
    else
      m_canMove_J108 σ x1 x3 w0 0
  else
    if inb (x3 - 1) 5 ∧ inb (x3 - 1) 4 then
      if (gA σ 11 (x3 - 1)) < (gA σ 2 (x3 - 1)) then
        (m_isIn σ (x3 - 1) x4).bind fun q97 =>
          if q97 = 0 then
            m_canMove_J108 σ x1 x3 w0 0
          else
            m_canMove_J108 σ x1 x3 w0 1
      else
        m_canMove_J108 σ x1 x3 w0 0
    else none
set_option maxRecDepth 100000 in
set_option maxHeartbeats 1000000 in
theorem j_m_canMove_52 {X : CTX} {K : Option Value → AH → Prop} (C : CX X cX12_canMove yX12_canMove.cls (decide (yX12_canMove.name = "<init>")) 1 26) (hq : RQ X (some .boolean) K) (σ : MS) (x1 : Int32) (x3 : Int32) (x4 : Int32) (w0 : Int32) (out : Int32) (hm : m_canMove_J52 σ x1 x3 x4 w0 = some out) (hp : K (some (.int out)) (hM σ)) : MW X (52, [some (.ref 0), some (.int x1), none, some (.int x3), some (.int x4), none, none, none], [.int w0], (hM σ), 0, 0) := by
  unfold m_canMove_J52 at hm
  refine MW_run C okX12_canMove 29 3 (gs := []) (cf' := (56, [some (.ref 0), some (.int x1), none, some (.int x3), some (.int x4), none, some (.int w0), none], [.int 5, .int x3], (hM σ), 0, 0)) rfl trivial ?_
  obtain ⟨hmt56, hmf56⟩ := of_if hm
  refine MW_brF C okX12_canMove 32 rfl rfl (fun hb56 => ?_) (fun hb56 => ?_)
  · have hm := hmt56 hb56
    refine MW_run C okX12_canMove 33 1 (gs := []) (cf' := (61, [some (.ref 0), some (.int x1), none, some (.int x3), some (.int x4), none, some (.int w0), none], [.int x4], (hM σ), 0, 0)) rfl trivial ?_
    obtain ⟨hmt61, hmf61⟩ := of_if hm
    refine MW_brF C okX12_canMove 34 rfl rfl (fun hb61 => ?_) (fun hb61 => ?_)
    · have hm := hmt61 hb61
      refine MW_run C okX12_canMove 35 2 (gs := []) (cf' := (108, [some (.ref 0), some (.int x1), none, some (.int x3), some (.int x4), none, some (.int w0), none], [.int 1], (hM σ), 0, 0)) rfl trivial ?_
      refine MW_pick [true, true, true, true, false, true, true, true] rfl (vs' := [some (.ref 0), some (.int x1), none, some (.int x3), none, none, some (.int w0), none]) rfl ?_
      exact j_m_canMove_108 C hq σ x1 x3 w0 1 _ hm hp
    · have hm := hmf61 hb61
      refine MW_run C okX12_canMove 37 2 (gs := []) (cf' := (108, [some (.ref 0), some (.int x1), none, some (.int x3), some (.int x4), none, some (.int w0), none], [.int 0], (hM σ), 0, 0)) rfl trivial ?_
      refine MW_pick [true, true, true, true, false, true, true, true] rfl (vs' := [some (.ref 0), some (.int x1), none, some (.int x3), none, none, some (.int w0), none]) rfl ?_
      exact j_m_canMove_108 C hq σ x1 x3 w0 0 _ hm hp
  · have hm := hmf56 hb56
    obtain ⟨hg88, hm⟩ := of_guard hm
    refine MW_run C okX12_canMove 39 12 (gs := [inb (x3 - 1) 5, inb (x3 - 1) 4]) (cf' := (88, [some (.ref 0), some (.int x1), none, some (.int x3), some (.int x4), none, some (.int w0), none], [.int (gA σ 2 (x3 - 1)), .int (gA σ 11 (x3 - 1))], (hM σ), 0, 0)) rfl ⟨hg88.1, hg88.2⟩ ?_
    obtain ⟨hmt88, hmf88⟩ := of_if hm
    refine MW_brF C okX12_canMove 51 rfl rfl (fun hb88 => ?_) (fun hb88 => ?_)
    · have hm := hmt88 hb88
      refine MW_run C okX12_canMove 52 5 (gs := []) (cf' := (97, [some (.ref 0), some (.int x1), none, some (.int x3), some (.int x4), none, some (.int w0), none], [.int x4, .int (x3 - 1), .ref 0], (hM σ), 0, 0)) rfl trivial ?_
      obtain ⟨q97, hc97, hm⟩ := of_bind hm
      refine MW_callV0 C okX12_canMove 57 rfl (v0 := some (.int q97)) (h0 := (hM σ)) (c_m_isIn σ (x3 - 1) x4 q97 hc97) lkX12_164 2 dpX12_isIn (by decide) (rest := []) rfl rfl rfl rfl rfl rfl rfl rfl ?_
      obtain ⟨hmt100, hmf100⟩ := of_if hm
      refine MW_brT C okX12_canMove 58 rfl rfl (fun hb100 => ?_) (fun hb100 => ?_)
      · have hm := hmt100 hb100
        refine MW_run C okX12_canMove 61 1 (gs := []) (cf' := (108, [some (.ref 0), some (.int x1), none, some (.int x3), some (.int x4), none, some (.int w0), none], [.int 0], (hM σ), 0, 0)) rfl trivial ?_
        refine MW_pick [true, true, true, true, false, true, true, true] rfl (vs' := [some (.ref 0), some (.int x1), none, some (.int x3), none, none, some (.int w0), none]) rfl ?_
        exact j_m_canMove_108 C hq σ x1 x3 w0 0 _ hm hp
      · have hm := hmf100 hb100
        refine MW_run C okX12_canMove 59 2 (gs := []) (cf' := (108, [some (.ref 0), some (.int x1), none, some (.int x3), some (.int x4), none, some (.int w0), none], [.int 1], (hM σ), 0, 0)) rfl trivial ?_
        refine MW_pick [true, true, true, true, false, true, true, true] rfl (vs' := [some (.ref 0), some (.int x1), none, some (.int x3), none, none, some (.int w0), none]) rfl ?_
        exact j_m_canMove_108 C hq σ x1 x3 w0 1 _ hm hp
    · have hm := hmf88 hb88
      refine MW_run C okX12_canMove 61 1 (gs := []) (cf' := (108, [some (.ref 0), some (.int x1), none, some (.int x3), some (.int x4), none, some (.int w0), none], [.int 0], (hM σ), 0, 0)) rfl trivial ?_
      refine MW_pick [true, true, true, true, false, true, true, true] rfl (vs' := [some (.ref 0), some (.int x1), none, some (.int x3), none, none, some (.int w0), none]) rfl ?_
      exact j_m_canMove_108 C hq σ x1 x3 w0 0 _ hm hp
def m_canMove (σ : MS) (x1 : Int32) (x2 : Int32) (x3 : Int32) (x4 : Int32) (x5 : Int32) : Option (Int32) :=
  if x1 = 0 then
    if x2 = 0 then
      if (gI σ 16) < x5 then
        m_canMove_J52 σ x1 x3 x4 1
      else
        m_canMove_J52 σ x1 x3 x4 0
    else
      m_canMove_J52 σ x1 x3 x4 0
  else
    if inb (x1 - 1) 5 then
      if (0 : Int32) < (gA σ 11 (x1 - 1)) then
        (m_isOut σ (x1 - 1) x2).bind fun q41 =>
          if q41 = 0 then
            m_canMove_J52 σ x1 x3 x4 0
          else
            m_canMove_J52 σ x1 x3 x4 1
      else
        m_canMove_J52 σ x1 x3 x4 0
    else none
set_option maxRecDepth 100000 in
set_option maxHeartbeats 1000000 in
theorem t_m_canMove {X : CTX} {K : Option Value → AH → Prop} (C : CX X cX12_canMove yX12_canMove.cls (decide (yX12_canMove.name = "<init>")) 1 26) (hq : RQ X (some .boolean) K) (σ : MS) (x1 : Int32) (x2 : Int32) (x3 : Int32) (x4 : Int32) (x5 : Int32) (out : Int32) (hm : m_canMove σ x1 x2 x3 x4 x5 = some out) (hp : K (some (.int out)) (hM σ)) : MW X (0, [some (.ref 0), some (.int x1), some (.int x2), some (.int x3), some (.int x4), some (.int x5), none, none], [], (hM σ), 0, 0) := by
  unfold m_canMove at hm
  refine MW_run C okX12_canMove 0 1 (gs := []) (cf' := (1, [some (.ref 0), some (.int x1), some (.int x2), some (.int x3), some (.int x4), some (.int x5), none, none], [.int x1], (hM σ), 0, 0)) rfl trivial ?_
  obtain ⟨hmt1, hmf1⟩ := of_if hm
  refine MW_brF C okX12_canMove 1 rfl rfl (fun hb1 => ?_) (fun hb1 => ?_)
  · have hm := hmt1 hb1
    refine MW_run C okX12_canMove 2 1 (gs := []) (cf' := (5, [some (.ref 0), some (.int x1), some (.int x2), some (.int x3), some (.int x4), some (.int x5), none, none], [.int x2], (hM σ), 0, 0)) rfl trivial ?_
    obtain ⟨hmt5, hmf5⟩ := of_if hm
    refine MW_brF C okX12_canMove 3 rfl rfl (fun hb5 => ?_) (fun hb5 => ?_)
    · have hm := hmt5 hb5
      refine MW_run C okX12_canMove 4 3 (gs := []) (cf' := (14, [some (.ref 0), some (.int x1), some (.int x2), some (.int x3), some (.int x4), some (.int x5), none, none], [.int x5, .int (gI σ 16)], (hM σ), 0, 0)) rfl trivial ?_
      obtain ⟨hmt14, hmf14⟩ := of_if hm
      refine MW_brF C okX12_canMove 7 rfl rfl (fun hb14 => ?_) (fun hb14 => ?_)
      · have hm := hmt14 hb14
        refine MW_run C okX12_canMove 8 2 (gs := []) (cf' := (52, [some (.ref 0), some (.int x1), some (.int x2), some (.int x3), some (.int x4), some (.int x5), none, none], [.int 1], (hM σ), 0, 0)) rfl trivial ?_
        refine MW_pick [true, true, false, true, true, false, true, true] rfl (vs' := [some (.ref 0), some (.int x1), none, some (.int x3), some (.int x4), none, none, none]) rfl ?_
        exact j_m_canMove_52 C hq σ x1 x3 x4 1 _ hm hp
      · have hm := hmf14 hb14
        refine MW_run C okX12_canMove 10 2 (gs := []) (cf' := (52, [some (.ref 0), some (.int x1), some (.int x2), some (.int x3), some (.int x4), some (.int x5), none, none], [.int 0], (hM σ), 0, 0)) rfl trivial ?_
        refine MW_pick [true, true, false, true, true, false, true, true] rfl (vs' := [some (.ref 0), some (.int x1), none, some (.int x3), some (.int x4), none, none, none]) rfl ?_
        exact j_m_canMove_52 C hq σ x1 x3 x4 0 _ hm hp
    · have hm := hmf5 hb5
      refine MW_run C okX12_canMove 10 2 (gs := []) (cf' := (52, [some (.ref 0), some (.int x1), some (.int x2), some (.int x3), some (.int x4), some (.int x5), none, none], [.int 0], (hM σ), 0, 0)) rfl trivial ?_
      refine MW_pick [true, true, false, true, true, false, true, true] rfl (vs' := [some (.ref 0), some (.int x1), none, some (.int x3), some (.int x4), none, none, none]) rfl ?_
      exact j_m_canMove_52 C hq σ x1 x3 x4 0 _ hm hp
  · have hm := hmf1 hb1
    obtain ⟨hg33, hm⟩ := of_guard hm
    refine MW_run C okX12_canMove 12 6 (gs := [inb (x1 - 1) 5]) (cf' := (33, [some (.ref 0), some (.int x1), some (.int x2), some (.int x3), some (.int x4), some (.int x5), none, none], [.int (gA σ 11 (x1 - 1))], (hM σ), 0, 0)) rfl hg33 ?_
    obtain ⟨hmt33, hmf33⟩ := of_if hm
    refine MW_brF C okX12_canMove 18 rfl rfl (fun hb33 => ?_) (fun hb33 => ?_)
    · have hm := hmt33 hb33
      refine MW_run C okX12_canMove 19 5 (gs := []) (cf' := (41, [some (.ref 0), some (.int x1), some (.int x2), some (.int x3), some (.int x4), some (.int x5), none, none], [.int x2, .int (x1 - 1), .ref 0], (hM σ), 0, 0)) rfl trivial ?_
      obtain ⟨q41, hc41, hm⟩ := of_bind hm
      refine MW_callV0 C okX12_canMove 24 rfl (v0 := some (.int q41)) (h0 := (hM σ)) (c_m_isOut σ (x1 - 1) x2 q41 hc41) lkX12_161 2 dpX12_isOut (by decide) (rest := []) rfl rfl rfl rfl rfl rfl rfl rfl ?_
      obtain ⟨hmt44, hmf44⟩ := of_if hm
      refine MW_brT C okX12_canMove 25 rfl rfl (fun hb44 => ?_) (fun hb44 => ?_)
      · have hm := hmt44 hb44
        refine MW_run C okX12_canMove 28 1 (gs := []) (cf' := (52, [some (.ref 0), some (.int x1), some (.int x2), some (.int x3), some (.int x4), some (.int x5), none, none], [.int 0], (hM σ), 0, 0)) rfl trivial ?_
        refine MW_pick [true, true, false, true, true, false, true, true] rfl (vs' := [some (.ref 0), some (.int x1), none, some (.int x3), some (.int x4), none, none, none]) rfl ?_
        exact j_m_canMove_52 C hq σ x1 x3 x4 0 _ hm hp
      · have hm := hmf44 hb44
        refine MW_run C okX12_canMove 26 2 (gs := []) (cf' := (52, [some (.ref 0), some (.int x1), some (.int x2), some (.int x3), some (.int x4), some (.int x5), none, none], [.int 1], (hM σ), 0, 0)) rfl trivial ?_
        refine MW_pick [true, true, false, true, true, false, true, true] rfl (vs' := [some (.ref 0), some (.int x1), none, some (.int x3), some (.int x4), none, none, none]) rfl ?_
        exact j_m_canMove_52 C hq σ x1 x3 x4 1 _ hm hp
    · have hm := hmf33 hb33
      refine MW_run C okX12_canMove 28 1 (gs := []) (cf' := (52, [some (.ref 0), some (.int x1), some (.int x2), some (.int x3), some (.int x4), some (.int x5), none, none], [.int 0], (hM σ), 0, 0)) rfl trivial ?_
      refine MW_pick [true, true, false, true, true, false, true, true] rfl (vs' := [some (.ref 0), some (.int x1), none, some (.int x3), some (.int x4), none, none, none]) rfl ?_
      exact j_m_canMove_52 C hq σ x1 x3 x4 0 _ hm hp
theorem c_m_canMove (σ : MS) (x1 : Int32) (x2 : Int32) (x3 : Int32) (x4 : Int32) (x5 : Int32) (out : Int32) (hm : m_canMove σ x1 x2 x3 x4 x5 = some out) : CT yX12_canMove cX12_canMove 8 (some .boolean) 1 26 0 0 [.ref 0, .int x1, .int x2, .int x3, .int x4, .int x5] (hM σ) (fun v h => v = (some (.int out)) ∧ h = (hM σ)) :=
  CT_of (by decide +kernel) (vs0 := [some (.ref 0), some (.int x1), some (.int x2), some (.int x3), some (.int x4), some (.int x5), none, none]) rfl rfl (fun X C hq => t_m_canMove C hq σ x1 x2 x3 x4 x5 out hm ⟨rfl, rfl⟩)
/-! X12_doMove -/
def m_doMove_J64 (σ : MS) (x3 : Int32) (x4 : Int32) (x5 : Int32) (w0 : Int32) : Option (MS) :=
  if x3 = 5 then
    (m_putFar σ w0 x5).bind fun q92 =>
      some q92
  else
    if x4 = 0 then
      (m_putNear σ w0 x5).bind fun q81 =>
        some q81
    else
      (m_putFar σ w0 x5).bind fun q92 =>
        some q92
set_option maxRecDepth 100000 in
set_option maxHeartbeats 1000000 in
theorem j_m_doMove_64 {X : CTX} {K : Option Value → AH → Prop} (C : CX X cX12_doMove yX12_doMove.cls (decide (yX12_doMove.name = "<init>")) 1 23) (hq : RQ X none K) (σ : MS) (x3 : Int32) (x4 : Int32) (x5 : Int32) (w0 : Int32) (out : MS) (hm : m_doMove_J64 σ x3 x4 x5 w0 = some out) (hp : K none (hM out)) : MW X (64, [some (.ref 0), none, none, some (.int x3), some (.int x4), some (.int x5), none], [.int w0], (hM σ), 0, 0) := by
  unfold m_doMove_J64 at hm
  refine MW_run C okX12_doMove 37 3 (gs := []) (cf' := (68, [some (.ref 0), none, none, some (.int x3), some (.int x4), some (.int x5), some (.int w0)], [.int 5, .int x3], (hM σ), 0, 0)) rfl trivial ?_
  obtain ⟨hmt68, hmf68⟩ := of_if hm
  refine MW_brT C okX12_doMove 40 rfl rfl (fun hb68 => ?_) (fun hb68 => ?_)
  · have hm := hmt68 hb68
    refine MW_run C okX12_doMove 48 3 (gs := []) (cf' := (92, [some (.ref 0), none, none, some (.int x3), some (.int x4), some (.int x5), some (.int w0)], [.int x5, .int w0, .ref 0], (hM σ), 0, 0)) rfl trivial ?_
    obtain ⟨q92, hc92, hm⟩ := of_bind hm
    refine MW_callV0 C okX12_doMove 51 rfl (v0 := none) (h0 := (hM q92)) (c_m_putFar σ w0 x5 q92 hc92) lkX12_174 2 dpX12_putFar (by decide) (rest := []) rfl rfl rfl rfl rfl rfl rfl rfl ?_
    obtain rfl := Option.some.inj hm
    exact MW_vret C okX12_doMove hq 52 rfl hp
  · have hm := hmf68 hb68
    refine MW_run C okX12_doMove 41 1 (gs := []) (cf' := (73, [some (.ref 0), none, none, some (.int x3), some (.int x4), some (.int x5), some (.int w0)], [.int x4], (hM σ), 0, 0)) rfl trivial ?_
    obtain ⟨hmt73, hmf73⟩ := of_if hm
    refine MW_brF C okX12_doMove 42 rfl rfl (fun hb73 => ?_) (fun hb73 => ?_)
    · have hm := hmt73 hb73
      refine MW_run C okX12_doMove 43 3 (gs := []) (cf' := (81, [some (.ref 0), none, none, some (.int x3), some (.int x4), some (.int x5), some (.int w0)], [.int x5, .int w0, .ref 0], (hM σ), 0, 0)) rfl trivial ?_
      obtain ⟨q81, hc81, hm⟩ := of_bind hm
      refine MW_callV0 C okX12_doMove 46 rfl (v0 := none) (h0 := (hM q81)) (c_m_putNear σ w0 x5 q81 hc81) lkX12_157 2 dpX12_putNear (by decide) (rest := []) rfl rfl rfl rfl rfl rfl rfl rfl ?_
      refine MW_run C okX12_doMove 47 1 (gs := []) (cf' := (95, [some (.ref 0), none, none, some (.int x3), some (.int x4), some (.int x5), some (.int w0)], [], (hM q81), 0, 0)) rfl trivial ?_
      obtain rfl := Option.some.inj hm
      exact MW_vret C okX12_doMove hq 52 rfl hp
    · have hm := hmf73 hb73
      refine MW_run C okX12_doMove 48 3 (gs := []) (cf' := (92, [some (.ref 0), none, none, some (.int x3), some (.int x4), some (.int x5), some (.int w0)], [.int x5, .int w0, .ref 0], (hM σ), 0, 0)) rfl trivial ?_
      obtain ⟨q92, hc92, hm⟩ := of_bind hm
      refine MW_callV0 C okX12_doMove 51 rfl (v0 := none) (h0 := (hM q92)) (c_m_putFar σ w0 x5 q92 hc92) lkX12_174 2 dpX12_putFar (by decide) (rest := []) rfl rfl rfl rfl rfl rfl rfl rfl ?_
      obtain rfl := Option.some.inj hm
      exact MW_vret C okX12_doMove hq 52 rfl hp
def m_doMove_J49 (σ : MS) (x3 : Int32) (x4 : Int32) (x5 : Int32) : Option (MS) :=
  if x3 = 5 then
    m_doMove_J64 σ x3 x4 x5 (gI σ 4)
  else
    m_doMove_J64 σ x3 x4 x5 (x3 - 1)
set_option maxRecDepth 100000 in
set_option maxHeartbeats 1000000 in
theorem j_m_doMove_49 {X : CTX} {K : Option Value → AH → Prop} (C : CX X cX12_doMove yX12_doMove.cls (decide (yX12_doMove.name = "<init>")) 1 23) (hq : RQ X none K) (σ : MS) (x3 : Int32) (x4 : Int32) (x5 : Int32) (out : MS) (hm : m_doMove_J49 σ x3 x4 x5 = some out) (hp : K none (hM out)) : MW X (49, [some (.ref 0), none, none, some (.int x3), some (.int x4), some (.int x5), none], [], (hM σ), 0, 0) := by
  unfold m_doMove_J49 at hm
  refine MW_run C okX12_doMove 28 2 (gs := []) (cf' := (51, [some (.ref 0), none, none, some (.int x3), some (.int x4), some (.int x5), none], [.int 5, .int x3], (hM σ), 0, 0)) rfl trivial ?_
  obtain ⟨hmt51, hmf51⟩ := of_if hm
  refine MW_brF C okX12_doMove 30 rfl rfl (fun hb51 => ?_) (fun hb51 => ?_)
  · have hm := hmt51 hb51
    refine MW_run C okX12_doMove 31 3 (gs := []) (cf' := (64, [some (.ref 0), none, none, some (.int x3), some (.int x4), some (.int x5), none], [.int (gI σ 4)], (hM σ), 0, 0)) rfl trivial ?_
    exact j_m_doMove_64 C hq σ x3 x4 x5 (gI σ 4) _ hm hp
  · have hm := hmf51 hb51
    refine MW_run C okX12_doMove 34 3 (gs := []) (cf' := (64, [some (.ref 0), none, none, some (.int x3), some (.int x4), some (.int x5), none], [.int (x3 - 1)], (hM σ), 0, 0)) rfl trivial ?_
    exact j_m_doMove_64 C hq σ x3 x4 x5 (x3 - 1) _ hm hp
def m_doMove (σ : MS) (x1 : Int32) (x2 : Int32) (x3 : Int32) (x4 : Int32) : Option (MS) :=
  if x1 = 0 then
    m_doMove_J49 (sI σ 16 ((gI σ 16) + 1)) x3 x4 ((gI σ 16) + 1)
  else
    if x2 = 0 then
      (m_takeNear σ (x1 - 1)).bind fun q34 =>
        m_doMove_J49 q34.2 x3 x4 q34.1
    else
      (m_takeFar σ (x1 - 1)).bind fun q44 =>
        m_doMove_J49 q44.2 x3 x4 q44.1
set_option maxRecDepth 100000 in
set_option maxHeartbeats 1000000 in
theorem t_m_doMove {X : CTX} {K : Option Value → AH → Prop} (C : CX X cX12_doMove yX12_doMove.cls (decide (yX12_doMove.name = "<init>")) 1 23) (hq : RQ X none K) (σ : MS) (x1 : Int32) (x2 : Int32) (x3 : Int32) (x4 : Int32) (out : MS) (hm : m_doMove σ x1 x2 x3 x4 = some out) (hp : K none (hM out)) : MW X (0, [some (.ref 0), some (.int x1), some (.int x2), some (.int x3), some (.int x4), none, none], [], (hM σ), 0, 0) := by
  unfold m_doMove at hm
  refine MW_run C okX12_doMove 0 3 (gs := []) (cf' := (4, [some (.ref 0), some (.int x1), some (.int x2), some (.int x3), some (.int x4), some (.int 0), none], [.int x1], (hM σ), 0, 0)) rfl trivial ?_
  obtain ⟨hmt4, hmf4⟩ := of_if hm
  refine MW_brF C okX12_doMove 3 rfl rfl (fun hb4 => ?_) (fun hb4 => ?_)
  · have hm := hmt4 hb4
    refine MW_run C okX12_doMove 4 10 (gs := []) (cf' := (49, [some (.ref 0), some (.int x1), some (.int x2), some (.int x3), some (.int x4), some (.int ((gI σ 16) + 1)), none], [], (hM (sI σ 16 ((gI σ 16) + 1))), 0, 0)) rfl trivial ?_
    refine MW_pick [true, false, false, true, true, true, true] rfl (vs' := [some (.ref 0), none, none, some (.int x3), some (.int x4), some (.int ((gI σ 16) + 1)), none]) rfl ?_
    exact j_m_doMove_49 C hq (sI σ 16 ((gI σ 16) + 1)) x3 x4 ((gI σ 16) + 1) _ hm hp
  · have hm := hmf4 hb4
    refine MW_run C okX12_doMove 14 1 (gs := []) (cf' := (27, [some (.ref 0), some (.int x1), some (.int x2), some (.int x3), some (.int x4), some (.int 0), none], [.int x2], (hM σ), 0, 0)) rfl trivial ?_
    obtain ⟨hmt27, hmf27⟩ := of_if hm
    refine MW_brF C okX12_doMove 15 rfl rfl (fun hb27 => ?_) (fun hb27 => ?_)
    · have hm := hmt27 hb27
      refine MW_run C okX12_doMove 16 4 (gs := []) (cf' := (34, [some (.ref 0), some (.int x1), some (.int x2), some (.int x3), some (.int x4), some (.int 0), none], [.int (x1 - 1), .ref 0], (hM σ), 0, 0)) rfl trivial ?_
      obtain ⟨q34, hc34, hm⟩ := of_bind hm
      refine MW_callV0 C okX12_doMove 20 rfl (v0 := some (.int q34.1)) (h0 := (hM q34.2)) (c_m_takeNear σ (x1 - 1) q34 hc34) lkX12_167 1 dpX12_takeNear (by decide) (rest := []) rfl rfl rfl rfl rfl rfl rfl rfl ?_
      refine MW_run C okX12_doMove 21 1 (gs := []) (cf' := (47, [some (.ref 0), some (.int x1), some (.int x2), some (.int x3), some (.int x4), some (.int 0), none], [.int q34.1], (hM q34.2), 0, 0)) rfl trivial ?_
      refine MW_run C okX12_doMove 27 1 (gs := []) (cf' := (49, [some (.ref 0), some (.int x1), some (.int x2), some (.int x3), some (.int x4), some (.int q34.1), none], [], (hM q34.2), 0, 0)) rfl trivial ?_
      refine MW_pick [true, false, false, true, true, true, true] rfl (vs' := [some (.ref 0), none, none, some (.int x3), some (.int x4), some (.int q34.1), none]) rfl ?_
      exact j_m_doMove_49 C hq q34.2 x3 x4 q34.1 _ hm hp
    · have hm := hmf27 hb27
      refine MW_run C okX12_doMove 22 4 (gs := []) (cf' := (44, [some (.ref 0), some (.int x1), some (.int x2), some (.int x3), some (.int x4), some (.int 0), none], [.int (x1 - 1), .ref 0], (hM σ), 0, 0)) rfl trivial ?_
      obtain ⟨q44, hc44, hm⟩ := of_bind hm
      refine MW_callV0 C okX12_doMove 26 rfl (v0 := some (.int q44.1)) (h0 := (hM q44.2)) (c_m_takeFar σ (x1 - 1) q44 hc44) lkX12_171 1 dpX12_takeFar (by decide) (rest := []) rfl rfl rfl rfl rfl rfl rfl rfl ?_
      refine MW_run C okX12_doMove 27 1 (gs := []) (cf' := (49, [some (.ref 0), some (.int x1), some (.int x2), some (.int x3), some (.int x4), some (.int q44.1), none], [], (hM q44.2), 0, 0)) rfl trivial ?_
      refine MW_pick [true, false, false, true, true, true, true] rfl (vs' := [some (.ref 0), none, none, some (.int x3), some (.int x4), some (.int q44.1), none]) rfl ?_
      exact j_m_doMove_49 C hq q44.2 x3 x4 q44.1 _ hm hp
theorem c_m_doMove (σ : MS) (x1 : Int32) (x2 : Int32) (x3 : Int32) (x4 : Int32) (out : MS) (hm : m_doMove σ x1 x2 x3 x4 = some out) : CT yX12_doMove cX12_doMove 7 none 1 23 0 0 [.ref 0, .int x1, .int x2, .int x3, .int x4] (hM σ) (fun v h => v = none ∧ h = (hM out)) :=
  CT_of (by decide +kernel) (vs0 := [some (.ref 0), some (.int x1), some (.int x2), some (.int x3), some (.int x4), none, none]) rfl rfl (fun X C hq => t_m_doMove C hq σ x1 x2 x3 x4 out hm ⟨rfl, rfl⟩)
/-! X12_slotOf -/
def m_slotOf_L15 : Nat → MS → Int32 → Int32 → Option (Int32)
  | 0, _, _, _ => none
  | n + 1, σ, x1, x2 =>
    if inb x2 65536 then
      if (gA σ 13 x2) = (gI σ 23) then
        if inb x2 65536 then
          if (gA σ 12 x2) = x1 then
            some x2
          else
            m_slotOf_L15 n σ x1 ((x2 + 1) &&& 65535)
        else none
      else
        some x2
    else none
set_option maxRecDepth 100000 in
set_option maxHeartbeats 1000000 in
theorem l_m_slotOf_15 {X : CTX} {K : Option Value → AH → Prop} (C : CX X cX12_slotOf yX12_slotOf.cls (decide (yX12_slotOf.name = "<init>")) 0 0) (hq : RQ X (some .int) K) : ∀ (n : Nat) (σ : MS) (x1 : Int32) (x2 : Int32) (out : Int32) (hm : m_slotOf_L15 n σ x1 x2 = some out) (hp : MW X (48, [none, none, some (.int out)], [], (hM σ), 0, 0)), MW X (15, [some (.ref 0), some (.int x1), some (.int x2)], [], (hM σ), 0, 0) := by
  intro n
  induction n with
  | zero => intro σ x1 x2 out hm hp; rw [m_slotOf_L15] at hm; cases hm
  | succ n ih =>
    intro σ x1 x2 out hm hp
    rw [m_slotOf_L15] at hm
    obtain ⟨hg25, hm⟩ := of_guard hm
    refine MW_run C okX12_slotOf 10 6 (gs := [inb x2 65536]) (cf' := (25, [some (.ref 0), some (.int x1), some (.int x2)], [.int (gI σ 23), .int (gA σ 13 x2)], (hM σ), 0, 0)) rfl hg25 ?_
    obtain ⟨hmt25, hmf25⟩ := of_if hm
    refine MW_brF C okX12_slotOf 16 rfl rfl (fun hb25 => ?_) (fun hb25 => ?_)
    · have hm := hmt25 hb25
      obtain ⟨hg35, hm⟩ := of_guard hm
      refine MW_run C okX12_slotOf 17 5 (gs := [inb x2 65536]) (cf' := (35, [some (.ref 0), some (.int x1), some (.int x2)], [.int x1, .int (gA σ 12 x2)], (hM σ), 0, 0)) rfl hg35 ?_
      obtain ⟨hmt35, hmf35⟩ := of_if hm
      refine MW_brT C okX12_slotOf 22 rfl rfl (fun hb35 => ?_) (fun hb35 => ?_)
      · have hm := hmt35 hb35
        obtain rfl := Option.some.inj hm
        refine MW_pick [false, false, true] rfl (vs' := [none, none, some (.int x2)]) rfl ?_
        exact hp
      · have hm := hmf35 hb35
        refine MW_run C okX12_slotOf 23 7 (gs := []) (cf' := (15, [some (.ref 0), some (.int x1), some (.int ((x2 + 1) &&& 65535))], [], (hM σ), 0, 0)) rfl trivial ?_
        exact ih σ x1 ((x2 + 1) &&& 65535) _ hm hp
    · have hm := hmf25 hb25
      obtain rfl := Option.some.inj hm
      refine MW_pick [false, false, true] rfl (vs' := [none, none, some (.int x2)]) rfl ?_
      exact hp
def m_slotOf (σ : MS) (x1 : Int32) : Option (Int32) :=
  (m_slotOf_L15 N0 σ x1 (Int64.toInt32 (((((x1 : Int32).toInt64) * 2654435761) >>> ((8 : Int32).toInt64 &&& 63)) &&& 65535))).bind fun q15 =>
    some q15
set_option maxRecDepth 100000 in
set_option maxHeartbeats 1000000 in
theorem t_m_slotOf {X : CTX} {K : Option Value → AH → Prop} (C : CX X cX12_slotOf yX12_slotOf.cls (decide (yX12_slotOf.name = "<init>")) 0 0) (hq : RQ X (some .int) K) (σ : MS) (x1 : Int32) (out : Int32) (hm : m_slotOf σ x1 = some out) (hp : K (some (.int out)) (hM σ)) : MW X (0, [some (.ref 0), some (.int x1), none], [], (hM σ), 0, 0) := by
  unfold m_slotOf at hm
  refine MW_run C okX12_slotOf 0 10 (gs := []) (cf' := (15, [some (.ref 0), some (.int x1), some (.int (Int64.toInt32 (((((x1 : Int32).toInt64) * 2654435761) >>> ((8 : Int32).toInt64 &&& 63)) &&& 65535)))], [], (hM σ), 0, 0)) rfl trivial ?_
  obtain ⟨q15, hc15, hm⟩ := of_bind hm
  refine l_m_slotOf_15 C hq N0 σ x1 (Int64.toInt32 (((((x1 : Int32).toInt64) * 2654435761) >>> ((8 : Int32).toInt64 &&& 63)) &&& 65535)) q15 hc15 ?_
  refine MW_run C okX12_slotOf 30 1 (gs := []) (cf' := (49, [none, none, some (.int q15)], [.int q15], (hM σ), 0, 0)) rfl trivial ?_
  obtain rfl := Option.some.inj hm
  exact MW_iret C okX12_slotOf hq 31 rfl hp
theorem c_m_slotOf (σ : MS) (x1 : Int32) (out : Int32) (hm : m_slotOf σ x1 = some out) : CT yX12_slotOf cX12_slotOf 3 (some .int) 0 0 0 0 [.ref 0, .int x1] (hM σ) (fun v h => v = (some (.int out)) ∧ h = (hM σ)) :=
  CT_of (by decide +kernel) (vs0 := [some (.ref 0), some (.int x1), none]) rfl rfl (fun X C hq => t_m_slotOf C hq σ x1 out hm ⟨rfl, rfl⟩)
/-! X12_come -/
def m_come_J77 (σ : MS) (x2 : Int32) (x3 : Int64) (x5 : Int32) : Option (MS) :=
  if inb x5 65536 ∧ inb x5 65536 then
    if (gA σ 14 x5) = x2 then
      if inb x5 65536 then
        some (sL σ 15 x5 ((gL σ 15 x5) + x3))
      else none
    else
      if inb x5 65536 then
        some (sL σ 15 x5 ((gL σ 15 x5) + 0))
      else none
  else none
set_option maxRecDepth 100000 in
set_option maxHeartbeats 1000000 in
theorem j_m_come_77 {X : CTX} {K : Option Value → AH → Prop} (C : CX X cX12_come yX12_come.cls (decide (yX12_come.name = "<init>")) 1 22) (hq : RQ X none K) (σ : MS) (x2 : Int32) (x3 : Int64) (x5 : Int32) (out : MS) (hm : m_come_J77 σ x2 x3 x5 = some out) (hp : K none (hM out)) : MW X (77, [some (.ref 0), none, some (.int x2), some (.long x3), none, some (.int x5)], [], (hM σ), 0, 0) := by
  unfold m_come_J77 at hm
  obtain ⟨hg93, hm⟩ := of_guard hm
  refine MW_run C okX12_come 44 10 (gs := [inb x5 65536, inb x5 65536]) (cf' := (93, [some (.ref 0), none, some (.int x2), some (.long x3), none, some (.int x5)], [.int x2, .int (gA σ 14 x5), .long (gL σ 15 x5), .int x5, .ref 15], (hM σ), 0, 0)) rfl ⟨hg93.1, hg93.2⟩ ?_
  obtain ⟨hmt93, hmf93⟩ := of_if hm
  refine MW_brF C okX12_come 54 rfl rfl (fun hb93 => ?_) (fun hb93 => ?_)
  · have hm := hmt93 hb93
    refine MW_run C okX12_come 55 2 (gs := []) (cf' := (101, [some (.ref 0), none, some (.int x2), some (.long x3), none, some (.int x5)], [.long x3, .long (gL σ 15 x5), .int x5, .ref 15], (hM σ), 0, 0)) rfl trivial ?_
    obtain ⟨hg103, hm⟩ := of_guard hm
    refine MW_run C okX12_come 58 2 (gs := [inb x5 65536]) (cf' := (103, [some (.ref 0), none, some (.int x2), some (.long x3), none, some (.int x5)], [], (hM (sL σ 15 x5 ((gL σ 15 x5) + x3))), 0, 0)) rfl hg103 ?_
    obtain rfl := Option.some.inj hm
    exact MW_vret C okX12_come hq 60 rfl hp
  · have hm := hmf93 hb93
    refine MW_run C okX12_come 57 1 (gs := []) (cf' := (101, [some (.ref 0), none, some (.int x2), some (.long x3), none, some (.int x5)], [.long 0, .long (gL σ 15 x5), .int x5, .ref 15], (hM σ), 0, 0)) rfl trivial ?_
    obtain ⟨hg103, hm⟩ := of_guard hm
    refine MW_run C okX12_come 58 2 (gs := [inb x5 65536]) (cf' := (103, [some (.ref 0), none, some (.int x2), some (.long x3), none, some (.int x5)], [], (hM (sL σ 15 x5 ((gL σ 15 x5) + 0))), 0, 0)) rfl hg103 ?_
    obtain rfl := Option.some.inj hm
    exact MW_vret C okX12_come hq 60 rfl hp
def m_come (σ : MS) (x1 : Int32) (x2 : Int32) (x3 : Int64) : Option (MS) :=
  (m_slotOf σ x1).bind fun q2 =>
    if inb q2 65536 then
      if (gA σ 13 q2) = (gI σ 23) then
        m_come_J77 σ x2 x3 q2
      else
        if inb q2 65536 ∧ inb q2 65536 ∧ inb q2 65536 ∧ inb q2 65536 ∧ inb (gI σ 22) 32768 then
          m_come_J77 (sI (sA (sL (sA (sA (sA σ 13 q2 (gI σ 23)) 12 q2 x1) 14 q2 x2) 15 q2 0) 16 (gI σ 22) q2) 22 ((gI σ 22) + 1)) x2 x3 q2
        else none
    else none
set_option maxRecDepth 100000 in
set_option maxHeartbeats 1000000 in
theorem t_m_come {X : CTX} {K : Option Value → AH → Prop} (C : CX X cX12_come yX12_come.cls (decide (yX12_come.name = "<init>")) 1 22) (hq : RQ X none K) (σ : MS) (x1 : Int32) (x2 : Int32) (x3 : Int64) (out : MS) (hm : m_come σ x1 x2 x3 = some out) (hp : K none (hM out)) : MW X (0, [some (.ref 0), some (.int x1), some (.int x2), some (.long x3), none, none], [], (hM σ), 0, 0) := by
  unfold m_come at hm
  refine MW_run C okX12_come 0 2 (gs := []) (cf' := (2, [some (.ref 0), some (.int x1), some (.int x2), some (.long x3), none, none], [.int x1, .ref 0], (hM σ), 0, 0)) rfl trivial ?_
  obtain ⟨q2, hc2, hm⟩ := of_bind hm
  refine MW_callV0 C okX12_come 2 rfl (v0 := some (.int q2)) (h0 := (hM σ)) (c_m_slotOf σ x1 q2 hc2) lkX12_185 1 dpX12_slotOf (by decide) (rest := []) rfl rfl rfl rfl rfl rfl rfl rfl ?_
  obtain ⟨hg18, hm⟩ := of_guard hm
  refine MW_run C okX12_come 3 7 (gs := [inb q2 65536]) (cf' := (18, [some (.ref 0), some (.int x1), some (.int x2), some (.long x3), none, some (.int q2)], [.int (gI σ 23), .int (gA σ 13 q2)], (hM σ), 0, 0)) rfl hg18 ?_
  obtain ⟨hmt18, hmf18⟩ := of_if hm
  refine MW_brT C okX12_come 10 rfl rfl (fun hb18 => ?_) (fun hb18 => ?_)
  · have hm := hmt18 hb18
    refine MW_pick [true, false, true, true, true, true] rfl (vs' := [some (.ref 0), none, some (.int x2), some (.long x3), none, some (.int q2)]) rfl ?_
    exact j_m_come_77 C hq σ x2 x3 q2 _ hm hp
  · have hm := hmf18 hb18
    obtain ⟨hg77, hm⟩ := of_guard hm
    refine MW_run C okX12_come 11 33 (gs := [inb q2 65536, inb q2 65536, inb q2 65536, inb q2 65536, inb (gI σ 22) 32768]) (cf' := (77, [some (.ref 0), some (.int x1), some (.int x2), some (.long x3), none, some (.int q2)], [], (hM (sI (sA (sL (sA (sA (sA σ 13 q2 (gI σ 23)) 12 q2 x1) 14 q2 x2) 15 q2 0) 16 (gI σ 22) q2) 22 ((gI σ 22) + 1))), 0, 0)) rfl ⟨hg77.1, hg77.2.1, hg77.2.2.1, hg77.2.2.2.1, hg77.2.2.2.2⟩ ?_
    refine MW_pick [true, false, true, true, true, true] rfl (vs' := [some (.ref 0), none, some (.int x2), some (.long x3), none, some (.int q2)]) rfl ?_
    exact j_m_come_77 C hq (sI (sA (sL (sA (sA (sA σ 13 q2 (gI σ 23)) 12 q2 x1) 14 q2 x2) 15 q2 0) 16 (gI σ 22) q2) 22 ((gI σ 22) + 1)) x2 x3 q2 _ hm hp
theorem c_m_come (σ : MS) (x1 : Int32) (x2 : Int32) (x3 : Int64) (out : MS) (hm : m_come σ x1 x2 x3 = some out) : CT yX12_come cX12_come 6 none 1 22 0 0 [.ref 0, .int x1, .int x2, .long x3] (hM σ) (fun v h => v = none ∧ h = (hM out)) :=
  CT_of (by decide +kernel) (vs0 := [some (.ref 0), some (.int x1), some (.int x2), some (.long x3), none, none]) rfl rfl (fun X C hq => t_m_come C hq σ x1 x2 x3 out hm ⟨rfl, rfl⟩)
/-! X12_isWanted -/
def m_isWanted_L4 : Nat → MS → Int32 → Int32 → Option (Int32)
  | 0, _, _, _ => none
  | n + 1, σ, x1, x2 =>
    if inb (gI σ 4) 5 then
      if x2 < (gA σ 11 (gI σ 4)) then
        if x2 < (gI σ 25) then
          if x1 = 0 then
            m_isWanted_L4 n σ 0 (x2 + 1)
          else
            if inb (((5 : Int32) * (gI σ 4)) + x2) 25 ∧ inb x2 5 then
              if (gA σ 10 (((5 : Int32) * (gI σ 4)) + x2)) = (gA σ 17 x2) then
                m_isWanted_L4 n σ 1 (x2 + 1)
              else
                m_isWanted_L4 n σ 0 (x2 + 1)
            else none
        else
          some x1
      else
        some x1
    else none
set_option maxRecDepth 100000 in
set_option maxHeartbeats 1000000 in
theorem l_m_isWanted_4 {X : CTX} {K : Option Value → AH → Prop} (C : CX X cX12_isWanted yX12_isWanted.cls (decide (yX12_isWanted.name = "<init>")) 0 0) (hq : RQ X (some .boolean) K) : ∀ (n : Nat) (σ : MS) (x1 : Int32) (x2 : Int32) (out : Int32) (hm : m_isWanted_L4 n σ x1 x2 = some out) (hp : MW X (63, [none, some (.int out), none], [], (hM σ), 0, 0)), MW X (4, [some (.ref 0), some (.int x1), some (.int x2)], [], (hM σ), 0, 0) := by
  intro n
  induction n with
  | zero => intro σ x1 x2 out hm hp; rw [m_isWanted_L4] at hm; cases hm
  | succ n ih =>
    intro σ x1 x2 out hm hp
    rw [m_isWanted_L4] at hm
    obtain ⟨hg14, hm⟩ := of_guard hm
    refine MW_run C okX12_isWanted 4 6 (gs := [inb (gI σ 4) 5]) (cf' := (14, [some (.ref 0), some (.int x1), some (.int x2)], [.int (gA σ 11 (gI σ 4)), .int x2], (hM σ), 0, 0)) rfl hg14 ?_
    obtain ⟨hmt14, hmf14⟩ := of_if hm
    refine MW_brF C okX12_isWanted 10 rfl rfl (fun hb14 => ?_) (fun hb14 => ?_)
    · have hm := hmt14 hb14
      refine MW_run C okX12_isWanted 11 3 (gs := []) (cf' := (22, [some (.ref 0), some (.int x1), some (.int x2)], [.int (gI σ 25), .int x2], (hM σ), 0, 0)) rfl trivial ?_
      obtain ⟨hmt22, hmf22⟩ := of_if hm
      refine MW_brF C okX12_isWanted 14 rfl rfl (fun hb22 => ?_) (fun hb22 => ?_)
      · have hm := hmt22 hb22
        refine MW_run C okX12_isWanted 15 1 (gs := []) (cf' := (26, [some (.ref 0), some (.int x1), some (.int x2)], [.int x1], (hM σ), 0, 0)) rfl trivial ?_
        obtain ⟨hmt26, hmf26⟩ := of_if hm
        refine MW_brT C okX12_isWanted 16 rfl rfl (fun hb26 => ?_) (fun hb26 => ?_)
        · have hm := hmt26 hb26
          refine MW_run C okX12_isWanted 33 1 (gs := []) (cf' := (56, [some (.ref 0), some (.int x1), some (.int x2)], [.int 0], (hM σ), 0, 0)) rfl trivial ?_
          refine MW_run C okX12_isWanted 34 3 (gs := []) (cf' := (4, [some (.ref 0), some (.int 0), some (.int (x2 + 1))], [], (hM σ), 0, 0)) rfl trivial ?_
          exact ih σ 0 (x2 + 1) _ hm hp
        · have hm := hmf26 hb26
          obtain ⟨hg48, hm⟩ := of_guard hm
          refine MW_run C okX12_isWanted 17 13 (gs := [inb (((5 : Int32) * (gI σ 4)) + x2) 25, inb x2 5]) (cf' := (48, [some (.ref 0), some (.int x1), some (.int x2)], [.int (gA σ 17 x2), .int (gA σ 10 (((5 : Int32) * (gI σ 4)) + x2))], (hM σ), 0, 0)) rfl ⟨hg48.1, hg48.2⟩ ?_
          obtain ⟨hmt48, hmf48⟩ := of_if hm
          refine MW_brF C okX12_isWanted 30 rfl rfl (fun hb48 => ?_) (fun hb48 => ?_)
          · have hm := hmt48 hb48
            refine MW_run C okX12_isWanted 31 2 (gs := []) (cf' := (56, [some (.ref 0), some (.int x1), some (.int x2)], [.int 1], (hM σ), 0, 0)) rfl trivial ?_
            refine MW_run C okX12_isWanted 34 3 (gs := []) (cf' := (4, [some (.ref 0), some (.int 1), some (.int (x2 + 1))], [], (hM σ), 0, 0)) rfl trivial ?_
            exact ih σ 1 (x2 + 1) _ hm hp
          · have hm := hmf48 hb48
            refine MW_run C okX12_isWanted 33 1 (gs := []) (cf' := (56, [some (.ref 0), some (.int x1), some (.int x2)], [.int 0], (hM σ), 0, 0)) rfl trivial ?_
            refine MW_run C okX12_isWanted 34 3 (gs := []) (cf' := (4, [some (.ref 0), some (.int 0), some (.int (x2 + 1))], [], (hM σ), 0, 0)) rfl trivial ?_
            exact ih σ 0 (x2 + 1) _ hm hp
      · have hm := hmf22 hb22
        obtain rfl := Option.some.inj hm
        refine MW_pick [false, true, false] rfl (vs' := [none, some (.int x1), none]) rfl ?_
        exact hp
    · have hm := hmf14 hb14
      obtain rfl := Option.some.inj hm
      refine MW_pick [false, true, false] rfl (vs' := [none, some (.int x1), none]) rfl ?_
      exact hp
def m_isWanted (σ : MS) : Option (Int32) :=
  (m_isWanted_L4 N0 σ 1 0).bind fun q4 =>
    if isZ q4 then some q4 else none
set_option maxRecDepth 100000 in
set_option maxHeartbeats 1000000 in
theorem t_m_isWanted {X : CTX} {K : Option Value → AH → Prop} (C : CX X cX12_isWanted yX12_isWanted.cls (decide (yX12_isWanted.name = "<init>")) 0 0) (hq : RQ X (some .boolean) K) (σ : MS) (out : Int32) (hm : m_isWanted σ = some out) (hp : K (some (.int out)) (hM σ)) : MW X (0, [some (.ref 0), none, none], [], (hM σ), 0, 0) := by
  unfold m_isWanted at hm
  refine MW_run C okX12_isWanted 0 4 (gs := []) (cf' := (4, [some (.ref 0), some (.int 1), some (.int 0)], [], (hM σ), 0, 0)) rfl trivial ?_
  obtain ⟨q4, hc4, hm⟩ := of_bind hm
  refine l_m_isWanted_4 C hq N0 σ 1 0 q4 hc4 ?_
  refine MW_run C okX12_isWanted 37 1 (gs := []) (cf' := (64, [none, some (.int q4), none], [.int q4], (hM σ), 0, 0)) rfl trivial ?_
  obtain ⟨hz, hm⟩ := of_guard hm
  obtain rfl := Option.some.inj hm
  exact MW_zret C okX12_isWanted hq 38 rfl hz hp
theorem c_m_isWanted (σ : MS) (out : Int32) (hm : m_isWanted σ = some out) : CT yX12_isWanted cX12_isWanted 3 (some .boolean) 0 0 0 0 [.ref 0] (hM σ) (fun v h => v = (some (.int out)) ∧ h = (hM σ)) :=
  CT_of (by decide +kernel) (vs0 := [some (.ref 0), none, none]) rfl rfl (fun X C hq => t_m_isWanted C hq σ out hm ⟨rfl, rfl⟩)
/-! X12_spread -/
def m_spread_J52 (k : MS → Int32 → Int32 → Int32 → Int32 → Int32 → Int32 → Option (MS)) (σ : MS) (x1 : Int32) (x2 : Int32) (x3 : Int32) (x4 : Int32) (x5 : Int32) (x6 : Int32) : Option (MS) :=
  if inb x1 65536 then
    (m_decode σ (gA σ 12 x1)).bind fun q59 =>
      (m_canMove q59 x3 x4 x5 x6 x2).bind fun q71 =>
        if q71 = 0 then
          k q59 x1 x2 x3 x4 x5 (x6 + 1)
        else
          (m_doMove q59 x3 x4 x5 x6).bind fun q85 =>
            (m_isWanted q85).bind fun q89 =>
              if q89 = 0 then
                k q85 x1 x2 x3 x4 x5 (x6 + 1)
              else
                (m_encode q85).bind fun q97 =>
                  if inb x1 65536 ∧ inb x1 65536 then
                    (m_come q85 q97 ((gA q85 14 x1) + 1) (gL q85 15 x1)).bind fun q114 =>
                      k q114 x1 x2 x3 x4 x5 (x6 + 1)
                  else none
  else none
set_option maxRecDepth 100000 in
set_option maxHeartbeats 1000000 in
theorem j_m_spread_52 {X : CTX} {K : Option Value → AH → Prop} (C : CX X cX12_spread yX12_spread.cls (decide (yX12_spread.name = "<init>")) 2 53) (hq : RQ X none K) (k : MS → Int32 → Int32 → Int32 → Int32 → Int32 → Int32 → Option (MS)) (hk : ∀ (σ : MS) (x1 : Int32) (x2 : Int32) (x3 : Int32) (x4 : Int32) (x5 : Int32) (x6 : Int32) (out : MS), k σ x1 x2 x3 x4 x5 x6 = some out → MW X (123, [some (.ref 0), some (.int x1), some (.int x2), some (.int x3), some (.int x4), some (.int x5), none], [], (hM out), 0, 0) → MW X (31, [some (.ref 0), some (.int x1), some (.int x2), some (.int x3), some (.int x4), some (.int x5), some (.int x6)], [], (hM σ), 0, 0)) (σ : MS) (x1 : Int32) (x2 : Int32) (x3 : Int32) (x4 : Int32) (x5 : Int32) (x6 : Int32) (out : MS) (hm : m_spread_J52 k σ x1 x2 x3 x4 x5 x6 = some out) (hp : MW X (123, [some (.ref 0), some (.int x1), some (.int x2), some (.int x3), some (.int x4), some (.int x5), none], [], (hM out), 0, 0)) : MW X (52, [some (.ref 0), some (.int x1), some (.int x2), some (.int x3), some (.int x4), some (.int x5), some (.int x6)], [], (hM σ), 0, 0) := by
  unfold m_spread_J52 at hm
  obtain ⟨hg59, hm⟩ := of_guard hm
  refine MW_run C okX12_spread 28 5 (gs := [inb x1 65536]) (cf' := (59, [some (.ref 0), some (.int x1), some (.int x2), some (.int x3), some (.int x4), some (.int x5), some (.int x6)], [.int (gA σ 12 x1), .ref 0], (hM σ), 0, 0)) rfl hg59 ?_
  obtain ⟨q59, hc59, hm⟩ := of_bind hm
  refine MW_callV0 C okX12_spread 33 rfl (v0 := none) (h0 := (hM q59)) (c_m_decode σ (gA σ 12 x1) q59 hc59) lkX12_194 1 dpX12_decode (by decide) (rest := []) rfl rfl rfl rfl rfl rfl rfl rfl ?_
  refine MW_run C okX12_spread 34 6 (gs := []) (cf' := (71, [some (.ref 0), some (.int x1), some (.int x2), some (.int x3), some (.int x4), some (.int x5), some (.int x6)], [.int x2, .int x6, .int x5, .int x4, .int x3, .ref 0], (hM q59), 0, 0)) rfl trivial ?_
  obtain ⟨q71, hc71, hm⟩ := of_bind hm
  refine MW_callV0 C okX12_spread 40 rfl (v0 := some (.int q71)) (h0 := (hM q59)) (c_m_canMove q59 x3 x4 x5 x6 x2 q71 hc71) lkX12_209 5 dpX12_canMove (by decide) (rest := []) rfl rfl rfl rfl rfl rfl rfl rfl ?_
  obtain ⟨hmt74, hmf74⟩ := of_if hm
  refine MW_brT C okX12_spread 41 rfl rfl (fun hb74 => ?_) (fun hb74 => ?_)
  · have hm := hmt74 hb74
    refine MW_run C okX12_spread 65 2 (gs := []) (cf' := (31, [some (.ref 0), some (.int x1), some (.int x2), some (.int x3), some (.int x4), some (.int x5), some (.int (x6 + 1))], [], (hM q59), 0, 0)) rfl trivial ?_
    exact hk q59 x1 x2 x3 x4 x5 (x6 + 1) _ hm hp
  · have hm := hmf74 hb74
    refine MW_run C okX12_spread 42 5 (gs := []) (cf' := (85, [some (.ref 0), some (.int x1), some (.int x2), some (.int x3), some (.int x4), some (.int x5), some (.int x6)], [.int x6, .int x5, .int x4, .int x3, .ref 0], (hM q59), 0, 0)) rfl trivial ?_
    obtain ⟨q85, hc85, hm⟩ := of_bind hm
    refine MW_callV0 C okX12_spread 47 rfl (v0 := none) (h0 := (hM q85)) (c_m_doMove q59 x3 x4 x5 x6 q85 hc85) lkX12_213 4 dpX12_doMove (by decide) (rest := []) rfl rfl rfl rfl rfl rfl rfl rfl ?_
    refine MW_run C okX12_spread 48 1 (gs := []) (cf' := (89, [some (.ref 0), some (.int x1), some (.int x2), some (.int x3), some (.int x4), some (.int x5), some (.int x6)], [.ref 0], (hM q85), 0, 0)) rfl trivial ?_
    obtain ⟨q89, hc89, hm⟩ := of_bind hm
    refine MW_callV0 C okX12_spread 49 rfl (v0 := some (.int q89)) (h0 := (hM q85)) (c_m_isWanted q85 q89 hc89) lkX12_198 0 dpX12_isWanted (by decide) (rest := []) rfl rfl rfl rfl rfl rfl rfl rfl ?_
    obtain ⟨hmt92, hmf92⟩ := of_if hm
    refine MW_brT C okX12_spread 50 rfl rfl (fun hb92 => ?_) (fun hb92 => ?_)
    · have hm := hmt92 hb92
      refine MW_run C okX12_spread 65 2 (gs := []) (cf' := (31, [some (.ref 0), some (.int x1), some (.int x2), some (.int x3), some (.int x4), some (.int x5), some (.int (x6 + 1))], [], (hM q85), 0, 0)) rfl trivial ?_
      exact hk q85 x1 x2 x3 x4 x5 (x6 + 1) _ hm hp
    · have hm := hmf92 hb92
      refine MW_run C okX12_spread 51 2 (gs := []) (cf' := (97, [some (.ref 0), some (.int x1), some (.int x2), some (.int x3), some (.int x4), some (.int x5), some (.int x6)], [.ref 0, .ref 0], (hM q85), 0, 0)) rfl trivial ?_
      obtain ⟨q97, hc97, hm⟩ := of_bind hm
      refine MW_callV0 C okX12_spread 53 rfl (v0 := some (.int q97)) (h0 := (hM q85)) (c_m_encode q85 q97 hc97) lkX12_217 0 dpX12_encode (by decide) (rest := [.ref 0]) rfl rfl rfl rfl rfl rfl rfl rfl ?_
      obtain ⟨hg114, hm⟩ := of_guard hm
      refine MW_run C okX12_spread 54 10 (gs := [inb x1 65536, inb x1 65536]) (cf' := (114, [some (.ref 0), some (.int x1), some (.int x2), some (.int x3), some (.int x4), some (.int x5), some (.int x6)], [.long (gL q85 15 x1), .int ((gA q85 14 x1) + 1), .int q97, .ref 0], (hM q85), 0, 0)) rfl ⟨hg114.1, hg114.2⟩ ?_
      obtain ⟨q114, hc114, hm⟩ := of_bind hm
      refine MW_callV0 C okX12_spread 64 rfl (v0 := none) (h0 := (hM q114)) (c_m_come q85 q97 ((gA q85 14 x1) + 1) (gL q85 15 x1) q114 hc114) lkX12_202 3 dpX12_come (by decide) (rest := []) rfl rfl rfl rfl rfl rfl rfl rfl ?_
      refine MW_run C okX12_spread 65 2 (gs := []) (cf' := (31, [some (.ref 0), some (.int x1), some (.int x2), some (.int x3), some (.int x4), some (.int x5), some (.int (x6 + 1))], [], (hM q114), 0, 0)) rfl trivial ?_
      exact hk q114 x1 x2 x3 x4 x5 (x6 + 1) _ hm hp
def m_spread_L31 : Nat → MS → Int32 → Int32 → Int32 → Int32 → Int32 → Int32 → Option (MS)
  | 0, _, _, _, _, _, _, _ => none
  | n + 1, σ, x1, x2, x3, x4, x5, x6 =>
    if x6 < 2 then
      if (gI σ 4) < x5 then
        if x5 = 5 then
          m_spread_J52 (m_spread_L31 n) σ x1 x2 x3 x4 x5 x6
        else
          some σ
      else
        m_spread_J52 (m_spread_L31 n) σ x1 x2 x3 x4 x5 x6
    else
      some σ
set_option maxRecDepth 100000 in
set_option maxHeartbeats 1000000 in
theorem l_m_spread_31 {X : CTX} {K : Option Value → AH → Prop} (C : CX X cX12_spread yX12_spread.cls (decide (yX12_spread.name = "<init>")) 2 53) (hq : RQ X none K) : ∀ (n : Nat) (σ : MS) (x1 : Int32) (x2 : Int32) (x3 : Int32) (x4 : Int32) (x5 : Int32) (x6 : Int32) (out : MS) (hm : m_spread_L31 n σ x1 x2 x3 x4 x5 x6 = some out) (hp : MW X (123, [some (.ref 0), some (.int x1), some (.int x2), some (.int x3), some (.int x4), some (.int x5), none], [], (hM out), 0, 0)), MW X (31, [some (.ref 0), some (.int x1), some (.int x2), some (.int x3), some (.int x4), some (.int x5), some (.int x6)], [], (hM σ), 0, 0) := by
  intro n
  induction n with
  | zero => intro σ x1 x2 x3 x4 x5 x6 out hm hp; rw [m_spread_L31] at hm; cases hm
  | succ n ih =>
    intro σ x1 x2 x3 x4 x5 x6 out hm hp
    rw [m_spread_L31] at hm
    refine MW_run C okX12_spread 18 2 (gs := []) (cf' := (34, [some (.ref 0), some (.int x1), some (.int x2), some (.int x3), some (.int x4), some (.int x5), some (.int x6)], [.int 2, .int x6], (hM σ), 0, 0)) rfl trivial ?_
    obtain ⟨hmt34, hmf34⟩ := of_if hm
    refine MW_brF C okX12_spread 20 rfl rfl (fun hb34 => ?_) (fun hb34 => ?_)
    · have hm := hmt34 hb34
      refine MW_run C okX12_spread 21 3 (gs := []) (cf' := (43, [some (.ref 0), some (.int x1), some (.int x2), some (.int x3), some (.int x4), some (.int x5), some (.int x6)], [.int (gI σ 4), .int x5], (hM σ), 0, 0)) rfl trivial ?_
      obtain ⟨hmt43, hmf43⟩ := of_if hm
      refine MW_brF C okX12_spread 24 rfl rfl (fun hb43 => ?_) (fun hb43 => ?_)
      · have hm := hmt43 hb43
        refine MW_run C okX12_spread 25 2 (gs := []) (cf' := (49, [some (.ref 0), some (.int x1), some (.int x2), some (.int x3), some (.int x4), some (.int x5), some (.int x6)], [.int 5, .int x5], (hM σ), 0, 0)) rfl trivial ?_
        obtain ⟨hmt49, hmf49⟩ := of_if hm
        refine MW_brF C okX12_spread 27 rfl rfl (fun hb49 => ?_) (fun hb49 => ?_)
        · have hm := hmt49 hb49
          exact j_m_spread_52 C hq (m_spread_L31 n) ih σ x1 x2 x3 x4 x5 x6 _ hm hp
        · have hm := hmf49 hb49
          obtain rfl := Option.some.inj hm
          refine MW_pick [true, true, true, true, true, true, false] rfl (vs' := [some (.ref 0), some (.int x1), some (.int x2), some (.int x3), some (.int x4), some (.int x5), none]) rfl ?_
          exact hp
      · have hm := hmf43 hb43
        exact j_m_spread_52 C hq (m_spread_L31 n) ih σ x1 x2 x3 x4 x5 x6 _ hm hp
    · have hm := hmf34 hb34
      obtain rfl := Option.some.inj hm
      refine MW_pick [true, true, true, true, true, true, false] rfl (vs' := [some (.ref 0), some (.int x1), some (.int x2), some (.int x3), some (.int x4), some (.int x5), none]) rfl ?_
      exact hp
def m_spread_L22 : Nat → MS → Int32 → Int32 → Int32 → Int32 → Int32 → Option (MS)
  | 0, _, _, _, _, _, _ => none
  | n + 1, σ, x1, x2, x3, x4, x5 =>
    if (5 : Int32) < x5 then
      some σ
    else
      (m_spread_L31 N0 σ x1 x2 x3 x4 x5 0).bind fun q31 =>
        m_spread_L22 n q31 x1 x2 x3 x4 (x5 + 1)
set_option maxRecDepth 100000 in
set_option maxHeartbeats 1000000 in
theorem l_m_spread_22 {X : CTX} {K : Option Value → AH → Prop} (C : CX X cX12_spread yX12_spread.cls (decide (yX12_spread.name = "<init>")) 2 53) (hq : RQ X none K) : ∀ (n : Nat) (σ : MS) (x1 : Int32) (x2 : Int32) (x3 : Int32) (x4 : Int32) (x5 : Int32) (out : MS) (hm : m_spread_L22 n σ x1 x2 x3 x4 x5 = some out) (hp : MW X (129, [some (.ref 0), some (.int x1), some (.int x2), some (.int x3), some (.int x4), none, none], [], (hM out), 0, 0)), MW X (22, [some (.ref 0), some (.int x1), some (.int x2), some (.int x3), some (.int x4), some (.int x5), none], [], (hM σ), 0, 0) := by
  intro n
  induction n with
  | zero => intro σ x1 x2 x3 x4 x5 out hm hp; rw [m_spread_L22] at hm; cases hm
  | succ n ih =>
    intro σ x1 x2 x3 x4 x5 out hm hp
    rw [m_spread_L22] at hm
    refine MW_run C okX12_spread 13 2 (gs := []) (cf' := (25, [some (.ref 0), some (.int x1), some (.int x2), some (.int x3), some (.int x4), some (.int x5), none], [.int 5, .int x5], (hM σ), 0, 0)) rfl trivial ?_
    obtain ⟨hmt25, hmf25⟩ := of_if hm
    refine MW_brT C okX12_spread 15 rfl rfl (fun hb25 => ?_) (fun hb25 => ?_)
    · have hm := hmt25 hb25
      obtain rfl := Option.some.inj hm
      refine MW_pick [true, true, true, true, true, false, true] rfl (vs' := [some (.ref 0), some (.int x1), some (.int x2), some (.int x3), some (.int x4), none, none]) rfl ?_
      exact hp
    · have hm := hmf25 hb25
      refine MW_run C okX12_spread 16 2 (gs := []) (cf' := (31, [some (.ref 0), some (.int x1), some (.int x2), some (.int x3), some (.int x4), some (.int x5), some (.int 0)], [], (hM σ), 0, 0)) rfl trivial ?_
      obtain ⟨q31, hc31, hm⟩ := of_bind hm
      refine l_m_spread_31 C hq N0 σ x1 x2 x3 x4 x5 0 q31 hc31 ?_
      refine MW_run C okX12_spread 67 2 (gs := []) (cf' := (22, [some (.ref 0), some (.int x1), some (.int x2), some (.int x3), some (.int x4), some (.int (x5 + 1)), none], [], (hM q31), 0, 0)) rfl trivial ?_
      exact ih q31 x1 x2 x3 x4 (x5 + 1) _ hm hp
def m_spread_L13 : Nat → MS → Int32 → Int32 → Int32 → Int32 → Option (MS)
  | 0, _, _, _, _, _ => none
  | n + 1, σ, x1, x2, x3, x4 =>
    if x4 < 2 then
      (m_spread_L22 N0 σ x1 x2 x3 x4 1).bind fun q22 =>
        m_spread_L13 n q22 x1 x2 x3 (x4 + 1)
    else
      some σ
set_option maxRecDepth 100000 in
set_option maxHeartbeats 1000000 in
theorem l_m_spread_13 {X : CTX} {K : Option Value → AH → Prop} (C : CX X cX12_spread yX12_spread.cls (decide (yX12_spread.name = "<init>")) 2 53) (hq : RQ X none K) : ∀ (n : Nat) (σ : MS) (x1 : Int32) (x2 : Int32) (x3 : Int32) (x4 : Int32) (out : MS) (hm : m_spread_L13 n σ x1 x2 x3 x4 = some out) (hp : MW X (135, [some (.ref 0), some (.int x1), some (.int x2), some (.int x3), none, none, none], [], (hM out), 0, 0)), MW X (13, [some (.ref 0), some (.int x1), some (.int x2), some (.int x3), some (.int x4), none, none], [], (hM σ), 0, 0) := by
  intro n
  induction n with
  | zero => intro σ x1 x2 x3 x4 out hm hp; rw [m_spread_L13] at hm; cases hm
  | succ n ih =>
    intro σ x1 x2 x3 x4 out hm hp
    rw [m_spread_L13] at hm
    refine MW_run C okX12_spread 8 2 (gs := []) (cf' := (16, [some (.ref 0), some (.int x1), some (.int x2), some (.int x3), some (.int x4), none, none], [.int 2, .int x4], (hM σ), 0, 0)) rfl trivial ?_
    obtain ⟨hmt16, hmf16⟩ := of_if hm
    refine MW_brF C okX12_spread 10 rfl rfl (fun hb16 => ?_) (fun hb16 => ?_)
    · have hm := hmt16 hb16
      refine MW_run C okX12_spread 11 2 (gs := []) (cf' := (22, [some (.ref 0), some (.int x1), some (.int x2), some (.int x3), some (.int x4), some (.int 1), none], [], (hM σ), 0, 0)) rfl trivial ?_
      obtain ⟨q22, hc22, hm⟩ := of_bind hm
      refine l_m_spread_22 C hq N0 σ x1 x2 x3 x4 1 q22 hc22 ?_
      refine MW_run C okX12_spread 69 2 (gs := []) (cf' := (13, [some (.ref 0), some (.int x1), some (.int x2), some (.int x3), some (.int (x4 + 1)), none, none], [], (hM q22), 0, 0)) rfl trivial ?_
      exact ih q22 x1 x2 x3 (x4 + 1) _ hm hp
    · have hm := hmf16 hb16
      obtain rfl := Option.some.inj hm
      refine MW_pick [true, true, true, true, false, true, true] rfl (vs' := [some (.ref 0), some (.int x1), some (.int x2), some (.int x3), none, none, none]) rfl ?_
      exact hp
def m_spread_L2 : Nat → MS → Int32 → Int32 → Int32 → Option (MS)
  | 0, _, _, _, _ => none
  | n + 1, σ, x1, x2, x3 =>
    if (gI σ 4) < x3 then
      some σ
    else
      (m_spread_L13 N0 σ x1 x2 x3 0).bind fun q13 =>
        m_spread_L2 n q13 x1 x2 (x3 + 1)
set_option maxRecDepth 100000 in
set_option maxHeartbeats 1000000 in
theorem l_m_spread_2 {X : CTX} {K : Option Value → AH → Prop} (C : CX X cX12_spread yX12_spread.cls (decide (yX12_spread.name = "<init>")) 2 53) (hq : RQ X none K) : ∀ (n : Nat) (σ : MS) (x1 : Int32) (x2 : Int32) (x3 : Int32) (out : MS) (hm : m_spread_L2 n σ x1 x2 x3 = some out) (hp : MW X (141, [none, none, none, none, none, none, none], [], (hM out), 0, 0)), MW X (2, [some (.ref 0), some (.int x1), some (.int x2), some (.int x3), none, none, none], [], (hM σ), 0, 0) := by
  intro n
  induction n with
  | zero => intro σ x1 x2 x3 out hm hp; rw [m_spread_L2] at hm; cases hm
  | succ n ih =>
    intro σ x1 x2 x3 out hm hp
    rw [m_spread_L2] at hm
    refine MW_run C okX12_spread 2 3 (gs := []) (cf' := (7, [some (.ref 0), some (.int x1), some (.int x2), some (.int x3), none, none, none], [.int (gI σ 4), .int x3], (hM σ), 0, 0)) rfl trivial ?_
    obtain ⟨hmt7, hmf7⟩ := of_if hm
    refine MW_brT C okX12_spread 5 rfl rfl (fun hb7 => ?_) (fun hb7 => ?_)
    · have hm := hmt7 hb7
      obtain rfl := Option.some.inj hm
      refine MW_pick [false, false, false, false, true, true, true] rfl (vs' := [none, none, none, none, none, none, none]) rfl ?_
      exact hp
    · have hm := hmf7 hb7
      refine MW_run C okX12_spread 6 2 (gs := []) (cf' := (13, [some (.ref 0), some (.int x1), some (.int x2), some (.int x3), some (.int 0), none, none], [], (hM σ), 0, 0)) rfl trivial ?_
      obtain ⟨q13, hc13, hm⟩ := of_bind hm
      refine l_m_spread_13 C hq N0 σ x1 x2 x3 0 q13 hc13 ?_
      refine MW_run C okX12_spread 71 2 (gs := []) (cf' := (2, [some (.ref 0), some (.int x1), some (.int x2), some (.int (x3 + 1)), none, none, none], [], (hM q13), 0, 0)) rfl trivial ?_
      exact ih q13 x1 x2 (x3 + 1) _ hm hp
def m_spread (σ : MS) (x1 : Int32) (x2 : Int32) : Option (MS) :=
  (m_spread_L2 N0 σ x1 x2 0).bind fun q2 =>
    some q2
set_option maxRecDepth 100000 in
set_option maxHeartbeats 1000000 in
theorem t_m_spread {X : CTX} {K : Option Value → AH → Prop} (C : CX X cX12_spread yX12_spread.cls (decide (yX12_spread.name = "<init>")) 2 53) (hq : RQ X none K) (σ : MS) (x1 : Int32) (x2 : Int32) (out : MS) (hm : m_spread σ x1 x2 = some out) (hp : K none (hM out)) : MW X (0, [some (.ref 0), some (.int x1), some (.int x2), none, none, none, none], [], (hM σ), 0, 0) := by
  unfold m_spread at hm
  refine MW_run C okX12_spread 0 2 (gs := []) (cf' := (2, [some (.ref 0), some (.int x1), some (.int x2), some (.int 0), none, none, none], [], (hM σ), 0, 0)) rfl trivial ?_
  obtain ⟨q2, hc2, hm⟩ := of_bind hm
  refine l_m_spread_2 C hq N0 σ x1 x2 0 q2 hc2 ?_
  obtain rfl := Option.some.inj hm
  exact MW_vret C okX12_spread hq 73 rfl hp
theorem c_m_spread (σ : MS) (x1 : Int32) (x2 : Int32) (out : MS) (hm : m_spread σ x1 x2 = some out) : CT yX12_spread cX12_spread 7 none 2 53 0 0 [.ref 0, .int x1, .int x2] (hM σ) (fun v h => v = none ∧ h = (hM out)) :=
  CT_of (by decide +kernel) (vs0 := [some (.ref 0), some (.int x1), some (.int x2), none, none, none, none]) rfl rfl (fun X C hq => t_m_spread C hq σ x1 x2 out hm ⟨rfl, rfl⟩)
/-! X12_search -/
def m_search_L39 : Nat → MS → Int32 → Int32 → Option ((MS) ⊕ (Int32 × MS))
  | 0, _, _, _ => none
  | n + 1, σ, x2, x3 =>
    if x3 < (gI σ 22) then
      if inb x3 32768 ∧ inb (gA σ 16 x3) 65536 then
        (m_decode σ (gA σ 12 (gA σ 16 x3))).bind fun q63 =>
          if inb (gI q63 4) 5 then
            if (gA q63 11 (gI q63 4)) = x2 then
              if (0 : Int32) < (gI q63 25) then
                if inb (gA σ 16 x3) 65536 then
                  some (.inr ((gA q63 14 (gA σ 16 x3)), q63))
                else none
              else
                (m_spread q63 (gA σ 16 x3) x2).bind fun q98 =>
                  m_search_L39 n q98 x2 (x3 + 1)
            else
              (m_spread q63 (gA σ 16 x3) x2).bind fun q98 =>
                m_search_L39 n q98 x2 (x3 + 1)
          else none
      else none
    else
      some (.inl σ)
set_option maxRecDepth 100000 in
set_option maxHeartbeats 1000000 in
theorem l_m_search_39 {X : CTX} {K : Option Value → AH → Prop} (C : CX X cX12_search yX12_search.cls (decide (yX12_search.name = "<init>")) 3 79) (hq : RQ X (some .int) K) : ∀ (n : Nat) (σ : MS) (x2 : Int32) (x3 : Int32) (out : (MS) ⊕ (Int32 × MS)) (hm : m_search_L39 n σ x2 x3 = some out) (hp : Sum.elim (fun e => MW X (107, [none, none, none, none, none], [], (hM e), 0, 0)) (fun r => K (some (.int r.1)) (hM r.2)) out), MW X (39, [some (.ref 0), none, some (.int x2), some (.int x3), none], [], (hM σ), 0, 0) := by
  intro n
  induction n with
  | zero => intro σ x2 x3 out hm hp; rw [m_search_L39] at hm; cases hm
  | succ n ih =>
    intro σ x2 x3 out hm hp
    rw [m_search_L39] at hm
    refine MW_run C okX12_search 24 3 (gs := []) (cf' := (44, [some (.ref 0), none, some (.int x2), some (.int x3), none], [.int (gI σ 22), .int x3], (hM σ), 0, 0)) rfl trivial ?_
    obtain ⟨hmt44, hmf44⟩ := of_if hm
    refine MW_brF C okX12_search 27 rfl rfl (fun hb44 => ?_) (fun hb44 => ?_)
    · have hm := hmt44 hb44
      obtain ⟨hg63, hm⟩ := of_guard hm
      refine MW_run C okX12_search 28 10 (gs := [inb x3 32768, inb (gA σ 16 x3) 65536]) (cf' := (63, [some (.ref 0), none, some (.int x2), some (.int x3), some (.int (gA σ 16 x3))], [.int (gA σ 12 (gA σ 16 x3)), .ref 0], (hM σ), 0, 0)) rfl ⟨hg63.1, hg63.2⟩ ?_
      obtain ⟨q63, hc63, hm⟩ := of_bind hm
      refine MW_callV0 C okX12_search 38 rfl (v0 := none) (h0 := (hM q63)) (c_m_decode σ (gA σ 12 (gA σ 16 x3)) q63 hc63) lkX12_194 1 dpX12_decode (by decide) (rest := []) rfl rfl rfl rfl rfl rfl rfl rfl ?_
      obtain ⟨hg76, hm⟩ := of_guard hm
      refine MW_run C okX12_search 39 6 (gs := [inb (gI q63 4) 5]) (cf' := (76, [some (.ref 0), none, some (.int x2), some (.int x3), some (.int (gA σ 16 x3))], [.int x2, .int (gA q63 11 (gI q63 4))], (hM q63), 0, 0)) rfl hg76 ?_
      obtain ⟨hmt76, hmf76⟩ := of_if hm
      refine MW_brF C okX12_search 45 rfl rfl (fun hb76 => ?_) (fun hb76 => ?_)
      · have hm := hmt76 hb76
        refine MW_run C okX12_search 46 2 (gs := []) (cf' := (83, [some (.ref 0), none, some (.int x2), some (.int x3), some (.int (gA σ 16 x3))], [.int (gI q63 25)], (hM q63), 0, 0)) rfl trivial ?_
        obtain ⟨hmt83, hmf83⟩ := of_if hm
        refine MW_brF C okX12_search 48 rfl rfl (fun hb83 => ?_) (fun hb83 => ?_)
        · have hm := hmt83 hb83
          obtain ⟨hg93, hm⟩ := of_guard hm
          refine MW_run C okX12_search 49 4 (gs := [inb (gA σ 16 x3) 65536]) (cf' := (93, [some (.ref 0), none, some (.int x2), some (.int x3), some (.int (gA σ 16 x3))], [.int (gA q63 14 (gA σ 16 x3))], (hM q63), 0, 0)) rfl hg93 ?_
          obtain rfl := Option.some.inj hm
          exact MW_iret C okX12_search hq 53 rfl hp
        · have hm := hmf83 hb83
          refine MW_run C okX12_search 54 3 (gs := []) (cf' := (98, [some (.ref 0), none, some (.int x2), some (.int x3), some (.int (gA σ 16 x3))], [.int x2, .int (gA σ 16 x3), .ref 0], (hM q63), 0, 0)) rfl trivial ?_
          obtain ⟨q98, hc98, hm⟩ := of_bind hm
          refine MW_callV0 C okX12_search 57 rfl (v0 := none) (h0 := (hM q98)) (c_m_spread q63 (gA σ 16 x3) x2 q98 hc98) lkX12_206 2 dpX12_spread (by decide) (rest := []) rfl rfl rfl rfl rfl rfl rfl rfl ?_
          refine MW_run C okX12_search 58 2 (gs := []) (cf' := (39, [some (.ref 0), none, some (.int x2), some (.int (x3 + 1)), some (.int (gA σ 16 x3))], [], (hM q98), 0, 0)) rfl trivial ?_
          refine MW_pick [true, true, true, true, false] rfl (vs' := [some (.ref 0), none, some (.int x2), some (.int (x3 + 1)), none]) rfl ?_
          exact ih q98 x2 (x3 + 1) _ hm hp
      · have hm := hmf76 hb76
        refine MW_run C okX12_search 54 3 (gs := []) (cf' := (98, [some (.ref 0), none, some (.int x2), some (.int x3), some (.int (gA σ 16 x3))], [.int x2, .int (gA σ 16 x3), .ref 0], (hM q63), 0, 0)) rfl trivial ?_
        obtain ⟨q98, hc98, hm⟩ := of_bind hm
        refine MW_callV0 C okX12_search 57 rfl (v0 := none) (h0 := (hM q98)) (c_m_spread q63 (gA σ 16 x3) x2 q98 hc98) lkX12_206 2 dpX12_spread (by decide) (rest := []) rfl rfl rfl rfl rfl rfl rfl rfl ?_
        refine MW_run C okX12_search 58 2 (gs := []) (cf' := (39, [some (.ref 0), none, some (.int x2), some (.int (x3 + 1)), some (.int (gA σ 16 x3))], [], (hM q98), 0, 0)) rfl trivial ?_
        refine MW_pick [true, true, true, true, false] rfl (vs' := [some (.ref 0), none, some (.int x2), some (.int (x3 + 1)), none]) rfl ?_
        exact ih q98 x2 (x3 + 1) _ hm hp
    · have hm := hmf44 hb44
      obtain rfl := Option.some.inj hm
      refine MW_pick [false, true, false, false, true] rfl (vs' := [none, none, none, none, none]) rfl ?_
      exact hp
def m_search (σ : MS) (x1 : Int32) (x2 : Int32) : Option (Int32 × MS) :=
  (m_decode (sI (sI σ 23 ((gI σ 23) + 1)) 22 0) x1).bind fun q17 =>
    (m_isWanted q17).bind fun q21 =>
      if q21 = 0 then
        some ((-6), q17)
      else
        (m_come q17 x1 0 1).bind fun q34 =>
          (m_search_L39 N0 q34 x2 0).bind fun q39 =>
            match q39 with
            | .inr r39 => some r39
            | .inl e39 =>
              some ((-6), e39)
set_option maxRecDepth 100000 in
set_option maxHeartbeats 1000000 in
theorem t_m_search {X : CTX} {K : Option Value → AH → Prop} (C : CX X cX12_search yX12_search.cls (decide (yX12_search.name = "<init>")) 3 79) (hq : RQ X (some .int) K) (σ : MS) (x1 : Int32) (x2 : Int32) (out : Int32 × MS) (hm : m_search σ x1 x2 = some out) (hp : K (some (.int out.1)) (hM out.2)) : MW X (0, [some (.ref 0), some (.int x1), some (.int x2), none, none], [], (hM σ), 0, 0) := by
  unfold m_search at hm
  refine MW_run C okX12_search 0 11 (gs := []) (cf' := (17, [some (.ref 0), some (.int x1), some (.int x2), none, none], [.int x1, .ref 0], (hM (sI (sI σ 23 ((gI σ 23) + 1)) 22 0)), 0, 0)) rfl trivial ?_
  obtain ⟨q17, hc17, hm⟩ := of_bind hm
  refine MW_callV0 C okX12_search 11 rfl (v0 := none) (h0 := (hM q17)) (c_m_decode (sI (sI σ 23 ((gI σ 23) + 1)) 22 0) x1 q17 hc17) lkX12_194 1 dpX12_decode (by decide) (rest := []) rfl rfl rfl rfl rfl rfl rfl rfl ?_
  refine MW_run C okX12_search 12 1 (gs := []) (cf' := (21, [some (.ref 0), some (.int x1), some (.int x2), none, none], [.ref 0], (hM q17), 0, 0)) rfl trivial ?_
  obtain ⟨q21, hc21, hm⟩ := of_bind hm
  refine MW_callV0 C okX12_search 13 rfl (v0 := some (.int q21)) (h0 := (hM q17)) (c_m_isWanted q17 q21 hc21) lkX12_198 0 dpX12_isWanted (by decide) (rest := []) rfl rfl rfl rfl rfl rfl rfl rfl ?_
  obtain ⟨hmt24, hmf24⟩ := of_if hm
  refine MW_brF C okX12_search 14 rfl rfl (fun hb24 => ?_) (fun hb24 => ?_)
  · have hm := hmt24 hb24
    refine MW_run C okX12_search 15 1 (gs := []) (cf' := (29, [some (.ref 0), some (.int x1), some (.int x2), none, none], [.int (-6)], (hM q17), 0, 0)) rfl trivial ?_
    obtain rfl := Option.some.inj hm
    exact MW_iret C okX12_search hq 16 rfl hp
  · have hm := hmf24 hb24
    refine MW_run C okX12_search 17 4 (gs := []) (cf' := (34, [some (.ref 0), some (.int x1), some (.int x2), none, none], [.long 1, .int 0, .int x1, .ref 0], (hM q17), 0, 0)) rfl trivial ?_
    obtain ⟨q34, hc34, hm⟩ := of_bind hm
    refine MW_callV0 C okX12_search 21 rfl (v0 := none) (h0 := (hM q34)) (c_m_come q17 x1 0 1 q34 hc34) lkX12_202 3 dpX12_come (by decide) (rest := []) rfl rfl rfl rfl rfl rfl rfl rfl ?_
    refine MW_run C okX12_search 22 2 (gs := []) (cf' := (39, [some (.ref 0), some (.int x1), some (.int x2), some (.int 0), none], [], (hM q34), 0, 0)) rfl trivial ?_
    obtain ⟨q39, hc39, hm⟩ := of_bind hm
    refine MW_pick [true, false, true, true, true] rfl (vs' := [some (.ref 0), none, some (.int x2), some (.int 0), none]) rfl ?_
    refine l_m_search_39 C hq N0 q34 x2 0 q39 hc39 ?_
    cases q39 with
    | inr r39 =>
      obtain rfl := Option.some.inj hm
      exact hp
    | inl e39 =>
      show MW X (107, [none, none, none, none, none], [], (hM e39), 0, 0)
      refine MW_run C okX12_search 60 1 (gs := []) (cf' := (109, [none, none, none, none, none], [.int (-6)], (hM e39), 0, 0)) rfl trivial ?_
      obtain rfl := Option.some.inj hm
      exact MW_iret C okX12_search hq 61 rfl hp
theorem c_m_search (σ : MS) (x1 : Int32) (x2 : Int32) (out : Int32 × MS) (hm : m_search σ x1 x2 = some out) : CT yX12_search cX12_search 5 (some .int) 3 79 0 0 [.ref 0, .int x1, .int x2] (hM σ) (fun v h => v = (some (.int out.1)) ∧ h = (hM out.2)) :=
  CT_of (by decide +kernel) (vs0 := [some (.ref 0), some (.int x1), some (.int x2), none, none]) rfl rfl (fun X C hq => t_m_search C hq σ x1 x2 out hm ⟨rfl, rfl⟩)
/-! X12_power -/
def m_power_L4 : Nat → Int32 → Int32 → Int32 → Option (Int32)
  | 0, _, _, _ => none
  | n + 1, x0, x1, x2 =>
    if x0 < x2 then
      some x1
    else
      m_power_L4 n x0 (x1 * x2) (x2 + 1)
set_option maxRecDepth 100000 in
set_option maxHeartbeats 1000000 in
theorem l_m_power_4 {X : CTX} {K : Option Value → AH → Prop} (C : CX X cX12_power yX12_power.cls (decide (yX12_power.name = "<init>")) 0 0) (hq : RQ X (some .int) K) : ∀ (n : Nat) (x0 : Int32) (x1 : Int32) (x2 : Int32) (out : Int32) (hm : m_power_L4 n x0 x1 x2 = some out) (hp : MW X (19, [none, some (.int out), none], [], [], 0, 0)), MW X (4, [some (.int x0), some (.int x1), some (.int x2)], [], [], 0, 0) := by
  intro n
  induction n with
  | zero => intro x0 x1 x2 out hm hp; rw [m_power_L4] at hm; cases hm
  | succ n ih =>
    intro x0 x1 x2 out hm hp
    rw [m_power_L4] at hm
    refine MW_run C okX12_power 4 2 (gs := []) (cf' := (6, [some (.int x0), some (.int x1), some (.int x2)], [.int x0, .int x2], [], 0, 0)) rfl trivial ?_
    obtain ⟨hmt6, hmf6⟩ := of_if hm
    refine MW_brT C okX12_power 6 rfl rfl (fun hb6 => ?_) (fun hb6 => ?_)
    · have hm := hmt6 hb6
      obtain rfl := Option.some.inj hm
      refine MW_pick [false, true, false] rfl (vs' := [none, some (.int x1), none]) rfl ?_
      exact hp
    · have hm := hmf6 hb6
      refine MW_run C okX12_power 7 6 (gs := []) (cf' := (4, [some (.int x0), some (.int (x1 * x2)), some (.int (x2 + 1))], [], [], 0, 0)) rfl trivial ?_
      exact ih x0 (x1 * x2) (x2 + 1) _ hm hp
def m_power (x0 : Int32) : Option (Int32) :=
  (m_power_L4 N0 x0 1 2).bind fun q4 =>
    some q4
set_option maxRecDepth 100000 in
set_option maxHeartbeats 1000000 in
theorem t_m_power {X : CTX} {K : Option Value → AH → Prop} (C : CX X cX12_power yX12_power.cls (decide (yX12_power.name = "<init>")) 0 0) (hq : RQ X (some .int) K) (x0 : Int32) (out : Int32) (hm : m_power x0 = some out) (hp : K (some (.int out)) []) : MW X (0, [some (.int x0), none, none], [], [], 0, 0) := by
  unfold m_power at hm
  refine MW_run C okX12_power 0 4 (gs := []) (cf' := (4, [some (.int x0), some (.int 1), some (.int 2)], [], [], 0, 0)) rfl trivial ?_
  obtain ⟨q4, hc4, hm⟩ := of_bind hm
  refine l_m_power_4 C hq N0 x0 1 2 q4 hc4 ?_
  refine MW_run C okX12_power 13 1 (gs := []) (cf' := (20, [none, some (.int q4), none], [.int q4], [], 0, 0)) rfl trivial ?_
  obtain rfl := Option.some.inj hm
  exact MW_iret C okX12_power hq 14 rfl hp
theorem c_m_power (x0 : Int32) (out : Int32) (hm : m_power x0 = some out) : CT yX12_power cX12_power 3 (some .int) 0 0 0 0 [.int x0] [] (fun v h => v = (some (.int out)) ∧ h = []) :=
  CT_of (by decide +kernel) (vs0 := [some (.int x0), none, none]) rfl rfl (fun X C hq => t_m_power C hq x0 out hm ⟨rfl, rfl⟩)
/-! X12_rankOf -/
def m_rankOf_L17 : Nat → MS → Int32 → Int32 → Int32 → Int32 → Int32 → Option (Int32)
  | 0, _, _, _, _, _, _ => none
  | n + 1, σ, x1, x2, x3, x4, x5 =>
    if x5 < x1 then
      if inb x5 5 ∧ inb x3 5 then
        if (gA σ 21 x5) < (gA σ 21 x3) then
          m_rankOf_L17 n σ x1 x2 x3 (x4 + 1) (x5 + 1)
        else
          m_rankOf_L17 n σ x1 x2 x3 (x4 + 0) (x5 + 1)
      else none
    else
      some x4
set_option maxRecDepth 100000 in
set_option maxHeartbeats 1000000 in
theorem l_m_rankOf_17 {X : CTX} {K : Option Value → AH → Prop} (C : CX X cX12_rankOf yX12_rankOf.cls (decide (yX12_rankOf.name = "<init>")) 0 0) (hq : RQ X (some .int) K) : ∀ (n : Nat) (σ : MS) (x1 : Int32) (x2 : Int32) (x3 : Int32) (x4 : Int32) (x5 : Int32) (out : Int32) (hm : m_rankOf_L17 n σ x1 x2 x3 x4 x5 = some out) (hp : MW X (55, [some (.ref 0), some (.int x1), some (.int x2), some (.int x3), some (.int out), none], [], (hM σ), 0, 0)), MW X (17, [some (.ref 0), some (.int x1), some (.int x2), some (.int x3), some (.int x4), some (.int x5)], [], (hM σ), 0, 0) := by
  intro n
  induction n with
  | zero => intro σ x1 x2 x3 x4 x5 out hm hp; rw [m_rankOf_L17] at hm; cases hm
  | succ n ih =>
    intro σ x1 x2 x3 x4 x5 out hm hp
    rw [m_rankOf_L17] at hm
    refine MW_run C okX12_rankOf 13 2 (gs := []) (cf' := (20, [some (.ref 0), some (.int x1), some (.int x2), some (.int x3), some (.int x4), some (.int x5)], [.int x1, .int x5], (hM σ), 0, 0)) rfl trivial ?_
    obtain ⟨hmt20, hmf20⟩ := of_if hm
    refine MW_brF C okX12_rankOf 15 rfl rfl (fun hb20 => ?_) (fun hb20 => ?_)
    · have hm := hmt20 hb20
      obtain ⟨hg38, hm⟩ := of_guard hm
      refine MW_run C okX12_rankOf 16 9 (gs := [inb x5 5, inb x3 5]) (cf' := (38, [some (.ref 0), some (.int x1), some (.int x2), some (.int x3), some (.int x4), some (.int x5)], [.int (gA σ 21 x3), .int (gA σ 21 x5), .int x4], (hM σ), 0, 0)) rfl ⟨hg38.1, hg38.2⟩ ?_
      obtain ⟨hmt38, hmf38⟩ := of_if hm
      refine MW_brF C okX12_rankOf 25 rfl rfl (fun hb38 => ?_) (fun hb38 => ?_)
      · have hm := hmt38 hb38
        refine MW_run C okX12_rankOf 26 2 (gs := []) (cf' := (46, [some (.ref 0), some (.int x1), some (.int x2), some (.int x3), some (.int x4), some (.int x5)], [.int 1, .int x4], (hM σ), 0, 0)) rfl trivial ?_
        refine MW_run C okX12_rankOf 29 4 (gs := []) (cf' := (17, [some (.ref 0), some (.int x1), some (.int x2), some (.int x3), some (.int (x4 + 1)), some (.int (x5 + 1))], [], (hM σ), 0, 0)) rfl trivial ?_
        exact ih σ x1 x2 x3 (x4 + 1) (x5 + 1) _ hm hp
      · have hm := hmf38 hb38
        refine MW_run C okX12_rankOf 28 1 (gs := []) (cf' := (46, [some (.ref 0), some (.int x1), some (.int x2), some (.int x3), some (.int x4), some (.int x5)], [.int 0, .int x4], (hM σ), 0, 0)) rfl trivial ?_
        refine MW_run C okX12_rankOf 29 4 (gs := []) (cf' := (17, [some (.ref 0), some (.int x1), some (.int x2), some (.int x3), some (.int (x4 + 0)), some (.int (x5 + 1))], [], (hM σ), 0, 0)) rfl trivial ?_
        exact ih σ x1 x2 x3 (x4 + 0) (x5 + 1) _ hm hp
    · have hm := hmf20 hb20
      obtain rfl := Option.some.inj hm
      refine MW_pick [true, true, true, true, true, false] rfl (vs' := [some (.ref 0), some (.int x1), some (.int x2), some (.int x3), some (.int x4), none]) rfl ?_
      exact hp
def m_rankOf_L4 : Nat → MS → Int32 → Int32 → Int32 → Option (Int32)
  | 0, _, _, _, _ => none
  | n + 1, σ, x1, x2, x3 =>
    if x3 < x1 then
      (m_rankOf_L17 N0 σ x1 x2 x3 0 (x3 + 1)).bind fun q17 =>
        m_rankOf_L4 n σ x1 ((x2 * (x1 - x3)) + q17) (x3 + 1)
    else
      some x2
set_option maxRecDepth 100000 in
set_option maxHeartbeats 1000000 in
theorem l_m_rankOf_4 {X : CTX} {K : Option Value → AH → Prop} (C : CX X cX12_rankOf yX12_rankOf.cls (decide (yX12_rankOf.name = "<init>")) 0 0) (hq : RQ X (some .int) K) : ∀ (n : Nat) (σ : MS) (x1 : Int32) (x2 : Int32) (x3 : Int32) (out : Int32) (hm : m_rankOf_L4 n σ x1 x2 x3 = some out) (hp : MW X (70, [none, none, some (.int out), none, none, none], [], (hM σ), 0, 0)), MW X (4, [some (.ref 0), some (.int x1), some (.int x2), some (.int x3), none, none], [], (hM σ), 0, 0) := by
  intro n
  induction n with
  | zero => intro σ x1 x2 x3 out hm hp; rw [m_rankOf_L4] at hm; cases hm
  | succ n ih =>
    intro σ x1 x2 x3 out hm hp
    rw [m_rankOf_L4] at hm
    refine MW_run C okX12_rankOf 4 2 (gs := []) (cf' := (6, [some (.ref 0), some (.int x1), some (.int x2), some (.int x3), none, none], [.int x1, .int x3], (hM σ), 0, 0)) rfl trivial ?_
    obtain ⟨hmt6, hmf6⟩ := of_if hm
    refine MW_brF C okX12_rankOf 6 rfl rfl (fun hb6 => ?_) (fun hb6 => ?_)
    · have hm := hmt6 hb6
      refine MW_run C okX12_rankOf 7 6 (gs := []) (cf' := (17, [some (.ref 0), some (.int x1), some (.int x2), some (.int x3), some (.int 0), some (.int (x3 + 1))], [], (hM σ), 0, 0)) rfl trivial ?_
      obtain ⟨q17, hc17, hm⟩ := of_bind hm
      refine l_m_rankOf_17 C hq N0 σ x1 x2 x3 0 (x3 + 1) q17 hc17 ?_
      refine MW_run C okX12_rankOf 33 10 (gs := []) (cf' := (4, [some (.ref 0), some (.int x1), some (.int ((x2 * (x1 - x3)) + q17)), some (.int (x3 + 1)), some (.int q17), none], [], (hM σ), 0, 0)) rfl trivial ?_
      refine MW_pick [true, true, true, true, false, true] rfl (vs' := [some (.ref 0), some (.int x1), some (.int ((x2 * (x1 - x3)) + q17)), some (.int (x3 + 1)), none, none]) rfl ?_
      exact ih σ x1 ((x2 * (x1 - x3)) + q17) (x3 + 1) _ hm hp
    · have hm := hmf6 hb6
      obtain rfl := Option.some.inj hm
      refine MW_pick [false, false, true, false, true, true] rfl (vs' := [none, none, some (.int x2), none, none, none]) rfl ?_
      exact hp
def m_rankOf (σ : MS) (x1 : Int32) : Option (Int32) :=
  (m_rankOf_L4 N0 σ x1 0 0).bind fun q4 =>
    some q4
set_option maxRecDepth 100000 in
set_option maxHeartbeats 1000000 in
theorem t_m_rankOf {X : CTX} {K : Option Value → AH → Prop} (C : CX X cX12_rankOf yX12_rankOf.cls (decide (yX12_rankOf.name = "<init>")) 0 0) (hq : RQ X (some .int) K) (σ : MS) (x1 : Int32) (out : Int32) (hm : m_rankOf σ x1 = some out) (hp : K (some (.int out)) (hM σ)) : MW X (0, [some (.ref 0), some (.int x1), none, none, none, none], [], (hM σ), 0, 0) := by
  unfold m_rankOf at hm
  refine MW_run C okX12_rankOf 0 4 (gs := []) (cf' := (4, [some (.ref 0), some (.int x1), some (.int 0), some (.int 0), none, none], [], (hM σ), 0, 0)) rfl trivial ?_
  obtain ⟨q4, hc4, hm⟩ := of_bind hm
  refine l_m_rankOf_4 C hq N0 σ x1 0 0 q4 hc4 ?_
  refine MW_run C okX12_rankOf 43 1 (gs := []) (cf' := (71, [none, none, some (.int q4), none, none, none], [.int q4], (hM σ), 0, 0)) rfl trivial ?_
  obtain rfl := Option.some.inj hm
  exact MW_iret C okX12_rankOf hq 44 rfl hp
theorem c_m_rankOf (σ : MS) (x1 : Int32) (out : Int32) (hm : m_rankOf σ x1 = some out) : CT yX12_rankOf cX12_rankOf 6 (some .int) 0 0 0 0 [.ref 0, .int x1] (hM σ) (fun v h => v = (some (.int out)) ∧ h = (hM σ)) :=
  CT_of (by decide +kernel) (vs0 := [some (.ref 0), some (.int x1), none, none, none, none]) rfl rfl (fun X C hq => t_m_rankOf C hq σ x1 out hm ⟨rfl, rfl⟩)
/-! X12_layRow -/
def m_layRow_L7 : Nat → MS → Int32 → Int32 → Int32 → Option (MS)
  | 0, _, _, _, _ => none
  | n + 1, σ, x2, x3, x4 =>
    if x4 < 0 then
      some σ
    else
      if ¬ (x2 - x4) = 0 ∧ inb x4 5 ∧ ¬ (x2 - x4) = 0 then
        m_layRow_L7 n (sA σ 21 x4 (irm x3 (x2 - x4))) x2 (x3 / (x2 - x4)) (x4 + (-1))
      else none
set_option maxRecDepth 100000 in
set_option maxHeartbeats 1000000 in
theorem l_m_layRow_7 {X : CTX} {K : Option Value → AH → Prop} (C : CX X cX12_layRow yX12_layRow.cls (decide (yX12_layRow.name = "<init>")) 0 0) (hq : RQ X none K) : ∀ (n : Nat) (σ : MS) (x2 : Int32) (x3 : Int32) (x4 : Int32) (out : MS) (hm : m_layRow_L7 n σ x2 x3 x4 = some out) (hp : MW X (38, [some (.ref 0), none, some (.int x2), none, none, none], [], (hM out), 0, 0)), MW X (7, [some (.ref 0), none, some (.int x2), some (.int x3), some (.int x4), none], [], (hM σ), 0, 0) := by
  intro n
  induction n with
  | zero => intro σ x2 x3 x4 out hm hp; rw [m_layRow_L7] at hm; cases hm
  | succ n ih =>
    intro σ x2 x3 x4 out hm hp
    rw [m_layRow_L7] at hm
    refine MW_run C okX12_layRow 6 1 (gs := []) (cf' := (9, [some (.ref 0), none, some (.int x2), some (.int x3), some (.int x4), none], [.int x4], (hM σ), 0, 0)) rfl trivial ?_
    obtain ⟨hmt9, hmf9⟩ := of_if hm
    refine MW_brT C okX12_layRow 7 rfl rfl (fun hb9 => ?_) (fun hb9 => ?_)
    · have hm := hmt9 hb9
      obtain rfl := Option.some.inj hm
      refine MW_pick [true, true, true, false, false, true] rfl (vs' := [some (.ref 0), none, some (.int x2), none, none, none]) rfl ?_
      exact hp
    · have hm := hmf9 hb9
      obtain ⟨hg7, hm⟩ := of_guard hm
      refine MW_run C okX12_layRow 8 17 (gs := [¬ (x2 - x4) = 0, inb x4 5, ¬ (x2 - x4) = 0]) (cf' := (7, [some (.ref 0), none, some (.int x2), some (.int (x3 / (x2 - x4))), some (.int (x4 + (-1))), none], [], (hM (sA σ 21 x4 (irm x3 (x2 - x4)))), 0, 0)) rfl ⟨hg7.1, hg7.2.1, hg7.2.2⟩ ?_
      exact ih (sA σ 21 x4 (irm x3 (x2 - x4))) x2 (x3 / (x2 - x4)) (x4 + (-1)) _ hm hp
def m_layRow_L65 : Nat → MS → Int32 → Int32 → Int32 → Option (MS)
  | 0, _, _, _, _ => none
  | n + 1, σ, x2, x4, x5 =>
    if x5 < x2 then
      if inb x5 5 ∧ inb x5 5 ∧ inb x4 5 then
        if (gA σ 21 x5) < (gA σ 21 x4) then
          if inb x5 5 then
            m_layRow_L65 n (sA σ 21 x5 ((gA σ 21 x5) + 0)) x2 x4 (x5 + 1)
          else none
        else
          if inb x5 5 then
            m_layRow_L65 n (sA σ 21 x5 ((gA σ 21 x5) + 1)) x2 x4 (x5 + 1)
          else none
      else none
    else
      some σ
set_option maxRecDepth 100000 in
set_option maxHeartbeats 1000000 in
theorem l_m_layRow_65 {X : CTX} {K : Option Value → AH → Prop} (C : CX X cX12_layRow yX12_layRow.cls (decide (yX12_layRow.name = "<init>")) 0 0) (hq : RQ X none K) : ∀ (n : Nat) (σ : MS) (x2 : Int32) (x4 : Int32) (x5 : Int32) (out : MS) (hm : m_layRow_L65 n σ x2 x4 x5 = some out) (hp : MW X (109, [some (.ref 0), none, some (.int x2), none, some (.int x4), none], [], (hM out), 0, 0)), MW X (65, [some (.ref 0), none, some (.int x2), none, some (.int x4), some (.int x5)], [], (hM σ), 0, 0) := by
  intro n
  induction n with
  | zero => intro σ x2 x4 x5 out hm hp; rw [m_layRow_L65] at hm; cases hm
  | succ n ih =>
    intro σ x2 x4 x5 out hm hp
    rw [m_layRow_L65] at hm
    refine MW_run C okX12_layRow 43 2 (gs := []) (cf' := (68, [some (.ref 0), none, some (.int x2), none, some (.int x4), some (.int x5)], [.int x2, .int x5], (hM σ), 0, 0)) rfl trivial ?_
    obtain ⟨hmt68, hmf68⟩ := of_if hm
    refine MW_brF C okX12_layRow 45 rfl rfl (fun hb68 => ?_) (fun hb68 => ?_)
    · have hm := hmt68 hb68
      obtain ⟨hg93, hm⟩ := of_guard hm
      refine MW_run C okX12_layRow 46 13 (gs := [inb x5 5, inb x5 5, inb x4 5]) (cf' := (93, [some (.ref 0), none, some (.int x2), none, some (.int x4), some (.int x5)], [.int (gA σ 21 x4), .int (gA σ 21 x5), .int (gA σ 21 x5), .int x5, .ref 21], (hM σ), 0, 0)) rfl ⟨hg93.1, hg93.2.1, hg93.2.2⟩ ?_
      obtain ⟨hmt93, hmf93⟩ := of_if hm
      refine MW_brT C okX12_layRow 59 rfl rfl (fun hb93 => ?_) (fun hb93 => ?_)
      · have hm := hmt93 hb93
        refine MW_run C okX12_layRow 62 1 (gs := []) (cf' := (101, [some (.ref 0), none, some (.int x2), none, some (.int x4), some (.int x5)], [.int 0, .int (gA σ 21 x5), .int x5, .ref 21], (hM σ), 0, 0)) rfl trivial ?_
        obtain ⟨hg65, hm⟩ := of_guard hm
        refine MW_run C okX12_layRow 63 4 (gs := [inb x5 5]) (cf' := (65, [some (.ref 0), none, some (.int x2), none, some (.int x4), some (.int (x5 + 1))], [], (hM (sA σ 21 x5 ((gA σ 21 x5) + 0))), 0, 0)) rfl hg65 ?_
        exact ih (sA σ 21 x5 ((gA σ 21 x5) + 0)) x2 x4 (x5 + 1) _ hm hp
      · have hm := hmf93 hb93
        refine MW_run C okX12_layRow 60 2 (gs := []) (cf' := (101, [some (.ref 0), none, some (.int x2), none, some (.int x4), some (.int x5)], [.int 1, .int (gA σ 21 x5), .int x5, .ref 21], (hM σ), 0, 0)) rfl trivial ?_
        obtain ⟨hg65, hm⟩ := of_guard hm
        refine MW_run C okX12_layRow 63 4 (gs := [inb x5 5]) (cf' := (65, [some (.ref 0), none, some (.int x2), none, some (.int x4), some (.int (x5 + 1))], [], (hM (sA σ 21 x5 ((gA σ 21 x5) + 1))), 0, 0)) rfl hg65 ?_
        exact ih (sA σ 21 x5 ((gA σ 21 x5) + 1)) x2 x4 (x5 + 1) _ hm hp
    · have hm := hmf68 hb68
      obtain rfl := Option.some.inj hm
      refine MW_pick [true, true, true, true, true, false] rfl (vs' := [some (.ref 0), none, some (.int x2), none, some (.int x4), none]) rfl ?_
      exact hp
def m_layRow_L43 : Nat → MS → Int32 → Int32 → Option (MS)
  | 0, _, _, _ => none
  | n + 1, σ, x2, x4 =>
    if x4 < 0 then
      some σ
    else
      if inb x4 5 ∧ inb x4 5 then
        (m_layRow_L65 N0 (sA σ 21 x4 ((gA σ 21 x4) + 1)) x2 x4 (x4 + 1)).bind fun q65 =>
          m_layRow_L43 n q65 x2 (x4 + (-1))
      else none
set_option maxRecDepth 100000 in
set_option maxHeartbeats 1000000 in
theorem l_m_layRow_43 {X : CTX} {K : Option Value → AH → Prop} (C : CX X cX12_layRow yX12_layRow.cls (decide (yX12_layRow.name = "<init>")) 0 0) (hq : RQ X none K) : ∀ (n : Nat) (σ : MS) (x2 : Int32) (x4 : Int32) (out : MS) (hm : m_layRow_L43 n σ x2 x4 = some out) (hp : MW X (115, [none, none, none, none, none, none], [], (hM out), 0, 0)), MW X (43, [some (.ref 0), none, some (.int x2), none, some (.int x4), none], [], (hM σ), 0, 0) := by
  intro n
  induction n with
  | zero => intro σ x2 x4 out hm hp; rw [m_layRow_L43] at hm; cases hm
  | succ n ih =>
    intro σ x2 x4 out hm hp
    rw [m_layRow_L43] at hm
    refine MW_run C okX12_layRow 29 1 (gs := []) (cf' := (45, [some (.ref 0), none, some (.int x2), none, some (.int x4), none], [.int x4], (hM σ), 0, 0)) rfl trivial ?_
    obtain ⟨hmt45, hmf45⟩ := of_if hm
    refine MW_brT C okX12_layRow 30 rfl rfl (fun hb45 => ?_) (fun hb45 => ?_)
    · have hm := hmt45 hb45
      obtain rfl := Option.some.inj hm
      refine MW_pick [false, true, false, true, false, true] rfl (vs' := [none, none, none, none, none, none]) rfl ?_
      exact hp
    · have hm := hmf45 hb45
      obtain ⟨hg65, hm⟩ := of_guard hm
      refine MW_run C okX12_layRow 31 12 (gs := [inb x4 5, inb x4 5]) (cf' := (65, [some (.ref 0), none, some (.int x2), none, some (.int x4), some (.int (x4 + 1))], [], (hM (sA σ 21 x4 ((gA σ 21 x4) + 1))), 0, 0)) rfl ⟨hg65.1, hg65.2⟩ ?_
      obtain ⟨q65, hc65, hm⟩ := of_bind hm
      refine l_m_layRow_65 C hq N0 (sA σ 21 x4 ((gA σ 21 x4) + 1)) x2 x4 (x4 + 1) q65 hc65 ?_
      refine MW_run C okX12_layRow 67 2 (gs := []) (cf' := (43, [some (.ref 0), none, some (.int x2), none, some (.int (x4 + (-1))), none], [], (hM q65), 0, 0)) rfl trivial ?_
      exact ih q65 x2 (x4 + (-1)) _ hm hp
def m_layRow (σ : MS) (x1 : Int32) (x2 : Int32) : Option (MS) :=
  (m_layRow_L7 N0 σ x2 x1 (x2 - 1)).bind fun q7 =>
    (m_layRow_L43 N0 q7 x2 (x2 - 1)).bind fun q43 =>
      some q43
set_option maxRecDepth 100000 in
set_option maxHeartbeats 1000000 in
theorem t_m_layRow {X : CTX} {K : Option Value → AH → Prop} (C : CX X cX12_layRow yX12_layRow.cls (decide (yX12_layRow.name = "<init>")) 0 0) (hq : RQ X none K) (σ : MS) (x1 : Int32) (x2 : Int32) (out : MS) (hm : m_layRow σ x1 x2 = some out) (hp : K none (hM out)) : MW X (0, [some (.ref 0), some (.int x1), some (.int x2), none, none, none], [], (hM σ), 0, 0) := by
  unfold m_layRow at hm
  refine MW_run C okX12_layRow 0 6 (gs := []) (cf' := (7, [some (.ref 0), some (.int x1), some (.int x2), some (.int x1), some (.int (x2 - 1)), none], [], (hM σ), 0, 0)) rfl trivial ?_
  obtain ⟨q7, hc7, hm⟩ := of_bind hm
  refine MW_pick [true, false, true, true, true, true] rfl (vs' := [some (.ref 0), none, some (.int x2), some (.int x1), some (.int (x2 - 1)), none]) rfl ?_
  refine l_m_layRow_7 C hq N0 σ x2 x1 (x2 - 1) q7 hc7 ?_
  refine MW_run C okX12_layRow 25 4 (gs := []) (cf' := (43, [some (.ref 0), none, some (.int x2), none, some (.int (x2 - 1)), none], [], (hM q7), 0, 0)) rfl trivial ?_
  obtain ⟨q43, hc43, hm⟩ := of_bind hm
  refine l_m_layRow_43 C hq N0 q7 x2 (x2 - 1) q43 hc43 ?_
  obtain rfl := Option.some.inj hm
  exact MW_vret C okX12_layRow hq 69 rfl hp
theorem c_m_layRow (σ : MS) (x1 : Int32) (x2 : Int32) (out : MS) (hm : m_layRow σ x1 x2 = some out) : CT yX12_layRow cX12_layRow 6 none 0 0 0 0 [.ref 0, .int x1, .int x2] (hM σ) (fun v h => v = none ∧ h = (hM out)) :=
  CT_of (by decide +kernel) (vs0 := [some (.ref 0), some (.int x1), some (.int x2), none, none, none]) rfl rfl (fun X C hq => t_m_layRow C hq σ x1 x2 out hm ⟨rfl, rfl⟩)
