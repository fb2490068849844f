/-! X12_in -/
def m_in (x0 : Int64) (x2 : Int64) (x4 : Int64) : Option (Int32) :=
  if (lg_cmp x0 x2) < 0 then
    some 0
  else
    if (0 : Int32) < (lg_cmp x0 x4) then
      some 0
    else
      some 1
set_option maxRecDepth 100000 in
set_option maxHeartbeats 1000000 in
theorem t_m_in {X : CTX} {K : Option Value → AH → Prop} (C : CX X cX12_in yX12_in.cls (decide (yX12_in.name = "<init>")) 0 0) (hq : RQ X (some .boolean) K) (x0 : Int64) (x2 : Int64) (x4 : Int64) (out : Int32) (hm : m_in x0 x2 x4 = some out) (hp : K (some (.int out)) []) : MW X (0, [some (.long x0), none, some (.long x2), none, some (.long x4), none], [], [], 0, 0) := by
  unfold m_in at hm
  refine MW_run C okX12_in 0 3 (gs := []) (cf' := (3, [some (.long x0), none, some (.long x2), none, some (.long x4), none], [.int (lg_cmp x0 x2)], [], 0, 0)) rfl trivial ?_
  obtain ⟨hmt3, hmf3⟩ := of_if hm
  refine MW_brT C okX12_in 3 rfl rfl (fun hb3 => ?_) (fun hb3 => ?_)
  · have hm := hmt3 hb3
    refine MW_run C okX12_in 10 1 (gs := []) (cf' := (18, [some (.long x0), none, some (.long x2), none, some (.long x4), none], [.int 0], [], 0, 0)) rfl trivial ?_
    obtain rfl := Option.some.inj hm
    exact MW_zret C okX12_in hq 11 rfl (by decide) hp
  · have hm := hmf3 hb3
    refine MW_run C okX12_in 4 3 (gs := []) (cf' := (10, [some (.long x0), none, some (.long x2), none, some (.long x4), none], [.int (lg_cmp x0 x4)], [], 0, 0)) rfl trivial ?_
    obtain ⟨hmt10, hmf10⟩ := of_if hm
    refine MW_brT C okX12_in 7 rfl rfl (fun hb10 => ?_) (fun hb10 => ?_)
    · have hm := hmt10 hb10
      refine MW_run C okX12_in 10 1 (gs := []) (cf' := (18, [some (.long x0), none, some (.long x2), none, some (.long x4), none], [.int 0], [], 0, 0)) rfl trivial ?_
      obtain rfl := Option.some.inj hm
      exact MW_zret C okX12_in hq 11 rfl (by decide) hp
    · have hm := hmf10 hb10
      refine MW_run C okX12_in 8 2 (gs := []) (cf' := (18, [some (.long x0), none, some (.long x2), none, some (.long x4), none], [.int 1], [], 0, 0)) rfl trivial ?_
      obtain rfl := Option.some.inj hm
      exact MW_zret C okX12_in hq 11 rfl (by decide) hp
theorem c_m_in (x0 : Int64) (x2 : Int64) (x4 : Int64) (out : Int32) (hm : m_in x0 x2 x4 = some out) : CT yX12_in cX12_in 6 (some .boolean) 0 0 0 0 [.long x0, .long x2, .long x4] [] (fun v h => v = (some (.int out)) ∧ h = []) :=
  CT_of (by decide +kernel) (vs0 := [some (.long x0), none, some (.long x2), none, some (.long x4), none]) rfl rfl (fun X C hq => t_m_in C hq x0 x2 x4 out hm ⟨rfl, rfl⟩)
/-! X12_lowest -/
def m_lowest_L16 : Nat → Int64 → Int64 → Int32 → Int64 → Int64 → Option (Int64)
  | 0, _, _, _, _, _ => none
  | n + 1, x0, x2, x4, x5, x7 =>
    if (lg_cmp x7 0) = 0 then
      some x5
    else
      if ¬ x7 = 0 then
        m_lowest_L16 n x0 x2 x4 x7 (lrm x5 x7)
      else none
set_option maxRecDepth 100000 in
set_option maxHeartbeats 1000000 in
theorem l_m_lowest_16 {X : CTX} {K : Option Value → AH → Prop} (C : CX X cX12_lowest yX12_lowest.cls (decide (yX12_lowest.name = "<init>")) 0 0) (hq : RQ X (some .long) K) : ∀ (n : Nat) (x0 : Int64) (x2 : Int64) (x4 : Int32) (x5 : Int64) (x7 : Int64) (out : Int64) (hm : m_lowest_L16 n x0 x2 x4 x5 x7 = some out) (hp : MW X (41, [some (.long x0), none, some (.long x2), none, some (.int x4), some (.long out), none, none, none, none, none], [], [], 0, 0)), MW X (16, [some (.long x0), none, some (.long x2), none, some (.int x4), some (.long x5), none, some (.long x7), none, none, none], [], [], 0, 0) := by
  intro n
  induction n with
  | zero => intro x0 x2 x4 x5 x7 out hm hp; rw [m_lowest_L16] at hm; cases hm
  | succ n ih =>
    intro x0 x2 x4 x5 x7 out hm hp
    rw [m_lowest_L16] at hm
    refine MW_run C okX12_lowest 11 3 (gs := []) (cf' := (20, [some (.long x0), none, some (.long x2), none, some (.int x4), some (.long x5), none, some (.long x7), none, none, none], [.int (lg_cmp x7 0)], [], 0, 0)) rfl trivial ?_
    obtain ⟨hmt20, hmf20⟩ := of_if hm
    refine MW_brT C okX12_lowest 14 rfl rfl (fun hb20 => ?_) (fun hb20 => ?_)
    · have hm := hmt20 hb20
      obtain rfl := Option.some.inj hm
      refine MW_pick [true, true, true, true, true, true, true, false, true, true, true] rfl (vs' := [some (.long x0), none, some (.long x2), none, some (.int x4), some (.long x5), none, none, none, none, none]) rfl ?_
      exact hp
    · have hm := hmf20 hb20
      obtain ⟨hg16, hm⟩ := of_guard hm
      refine MW_run C okX12_lowest 15 9 (gs := [¬ x7 = 0]) (cf' := (16, [some (.long x0), none, some (.long x2), none, some (.int x4), some (.long x7), none, some (.long (lrm x5 x7)), none, some (.long (lrm x5 x7)), none], [], [], 0, 0)) rfl hg16 ?_
      refine MW_pick [true, true, true, true, true, true, true, true, true, false, true] rfl (vs' := [some (.long x0), none, some (.long x2), none, some (.int x4), some (.long x7), none, some (.long (lrm x5 x7)), none, none, none]) rfl ?_
      exact ih x0 x2 x4 x7 (lrm x5 x7) _ hm hp
def m_lowest (x0 : Int64) (x2 : Int64) (x4 : Int32) : Option (Int64) :=
  if (lg_cmp x2 0) = 0 then
    some ((x4 : Int32).toInt64)
  else
    (m_lowest_L16 N0 x0 x2 x4 x0 x2).bind fun q16 =>
      if x4 = 0 then
        if ¬ q16 = 0 then
          some (x0 / q16)
        else none
      else
        if ¬ q16 = 0 then
          some (x2 / q16)
        else none
set_option maxRecDepth 100000 in
set_option maxHeartbeats 1000000 in
theorem t_m_lowest {X : CTX} {K : Option Value → AH → Prop} (C : CX X cX12_lowest yX12_lowest.cls (decide (yX12_lowest.name = "<init>")) 0 0) (hq : RQ X (some .long) K) (x0 : Int64) (x2 : Int64) (x4 : Int32) (out : Int64) (hm : m_lowest x0 x2 x4 = some out) (hp : K (some (.long out)) []) : MW X (0, [some (.long x0), none, some (.long x2), none, some (.int x4), none, none, none, none, none, none], [], [], 0, 0) := by
  unfold m_lowest at hm
  refine MW_run C okX12_lowest 0 3 (gs := []) (cf' := (3, [some (.long x0), none, some (.long x2), none, some (.int x4), none, none, none, none, none, none], [.int (lg_cmp x2 0)], [], 0, 0)) rfl trivial ?_
  obtain ⟨hmt3, hmf3⟩ := of_if hm
  refine MW_brF C okX12_lowest 3 rfl rfl (fun hb3 => ?_) (fun hb3 => ?_)
  · have hm := hmt3 hb3
    refine MW_run C okX12_lowest 4 2 (gs := []) (cf' := (9, [some (.long x0), none, some (.long x2), none, some (.int x4), none, none, none, none, none, none], [.long ((x4 : Int32).toInt64)], [], 0, 0)) rfl trivial ?_
    obtain rfl := Option.some.inj hm
    exact MW_lret C okX12_lowest hq 6 rfl hp
  · have hm := hmf3 hb3
    refine MW_run C okX12_lowest 7 4 (gs := []) (cf' := (16, [some (.long x0), none, some (.long x2), none, some (.int x4), some (.long x0), none, some (.long x2), none, none, none], [], [], 0, 0)) rfl trivial ?_
    obtain ⟨q16, hc16, hm⟩ := of_bind hm
    refine l_m_lowest_16 C hq N0 x0 x2 x4 x0 x2 q16 hc16 ?_
    refine MW_run C okX12_lowest 24 1 (gs := []) (cf' := (43, [some (.long x0), none, some (.long x2), none, some (.int x4), some (.long q16), none, none, none, none, none], [.int x4], [], 0, 0)) rfl trivial ?_
    obtain ⟨hmt43, hmf43⟩ := of_if hm
    refine MW_brF C okX12_lowest 25 rfl rfl (fun hb43 => ?_) (fun hb43 => ?_)
    · have hm := hmt43 hb43
      obtain ⟨hg57, hm⟩ := of_guard hm
      refine MW_run C okX12_lowest 26 4 (gs := [¬ q16 = 0]) (cf' := (57, [some (.long x0), none, some (.long x2), none, some (.int x4), some (.long q16), none, none, none, none, none], [.long (x0 / q16)], [], 0, 0)) rfl hg57 ?_
      obtain rfl := Option.some.inj hm
      exact MW_lret C okX12_lowest hq 33 rfl hp
    · have hm := hmf43 hb43
      obtain ⟨hg57, hm⟩ := of_guard hm
      refine MW_run C okX12_lowest 30 3 (gs := [¬ q16 = 0]) (cf' := (57, [some (.long x0), none, some (.long x2), none, some (.int x4), some (.long q16), none, none, none, none, none], [.long (x2 / q16)], [], 0, 0)) rfl hg57 ?_
      obtain rfl := Option.some.inj hm
      exact MW_lret C okX12_lowest hq 33 rfl hp
theorem c_m_lowest (x0 : Int64) (x2 : Int64) (x4 : Int32) (out : Int64) (hm : m_lowest x0 x2 x4 = some out) : CT yX12_lowest cX12_lowest 11 (some .long) 0 0 0 0 [.long x0, .long x2, .int x4] [] (fun v h => v = (some (.long out)) ∧ h = []) :=
  CT_of (by decide +kernel) (vs0 := [some (.long x0), none, some (.long x2), none, some (.int x4), none, none, none, none, none, none]) rfl rfl (fun X C hq => t_m_lowest C hq x0 x2 x4 out hm ⟨rfl, rfl⟩)
/-! X12_say -/
def m_say (σ : MS) (x1 : Int32) : Option (Int32 × MS) :=
  (m_in ((x1 : Int32).toInt64) 33 126).bind fun q8 =>
    if q8 = 0 then
      some ((-2), σ)
    else
      if (gI σ 13) = 16 then
        some ((-4), σ)
      else
        if inb (gI σ 13) 16 then
          some (((gI σ 13) + 1), (sI (sA σ 9 (gI σ 13) x1) 13 ((gI σ 13) + 1)))
        else none
set_option maxRecDepth 100000 in
set_option maxHeartbeats 1000000 in
theorem t_m_say {X : CTX} {K : Option Value → AH → Prop} (C : CX X cX12_say yX12_say.cls (decide (yX12_say.name = "<init>")) 1 25) (hq : RQ X (some .int) K) (σ : MS) (x1 : Int32) (out : Int32 × MS) (hm : m_say σ x1 = some out) (hp : K (some (.int out.1)) (hM out.2)) : MW X (0, [some (.ref 0), some (.int x1)], [], (hM σ), 0, 0) := by
  unfold m_say at hm
  refine MW_run C okX12_say 0 4 (gs := []) (cf' := (8, [some (.ref 0), some (.int x1)], [.long 126, .long 33, .long ((x1 : Int32).toInt64)], (hM σ), 0, 0)) rfl trivial ?_
  obtain ⟨q8, hc8, hm⟩ := of_bind hm
  refine MW_callS0 C okX12_say 4 rfl (v0 := some (.int q8)) (c_m_in ((x1 : Int32).toInt64) 33 126 q8 hc8) lkX12_121 3 dpX12_in (by decide) (rest := []) rfl rfl rfl rfl rfl ?_
  obtain ⟨hmt11, hmf11⟩ := of_if hm
  refine MW_brF C okX12_say 5 rfl rfl (fun hb11 => ?_) (fun hb11 => ?_)
  · have hm := hmt11 hb11
    refine MW_run C okX12_say 6 1 (gs := []) (cf' := (16, [some (.ref 0), some (.int x1)], [.int (-2)], (hM σ), 0, 0)) rfl trivial ?_
    obtain rfl := Option.some.inj hm
    exact MW_iret C okX12_say hq 7 rfl hp
  · have hm := hmf11 hb11
    refine MW_run C okX12_say 8 3 (gs := []) (cf' := (23, [some (.ref 0), some (.int x1)], [.int 16, .int (gI σ 13)], (hM σ), 0, 0)) rfl trivial ?_
    obtain ⟨hmt23, hmf23⟩ := of_if hm
    refine MW_brF C okX12_say 11 rfl rfl (fun hb23 => ?_) (fun hb23 => ?_)
    · have hm := hmt23 hb23
      refine MW_run C okX12_say 12 1 (gs := []) (cf' := (28, [some (.ref 0), some (.int x1)], [.int (-4)], (hM σ), 0, 0)) rfl trivial ?_
      obtain rfl := Option.some.inj hm
      exact MW_iret C okX12_say hq 13 rfl hp
    · have hm := hmf23 hb23
      obtain ⟨hg53, hm⟩ := of_guard hm
      refine MW_run C okX12_say 14 14 (gs := [inb (gI σ 13) 16]) (cf' := (53, [some (.ref 0), some (.int x1)], [.int ((gI σ 13) + 1)], (hM (sI (sA σ 9 (gI σ 13) x1) 13 ((gI σ 13) + 1))), 0, 0)) rfl hg53 ?_
      obtain rfl := Option.some.inj hm
      exact MW_iret C okX12_say hq 28 rfl hp
theorem c_m_say (σ : MS) (x1 : Int32) (out : Int32 × MS) (hm : m_say σ x1 = some out) : CT yX12_say cX12_say 2 (some .int) 1 25 0 0 [.ref 0, .int x1] (hM σ) (fun v h => v = (some (.int out.1)) ∧ h = (hM out.2)) :=
  CT_of (by decide +kernel) (vs0 := [some (.ref 0), some (.int x1)]) rfl rfl (fun X C hq => t_m_say C hq σ x1 out hm ⟨rfl, rfl⟩)
/-! X12_wipe -/
def m_wipe (σ : MS) : Option (Int32 × MS) :=
  some ((gI σ 13), (sI σ 13 0))
set_option maxRecDepth 100000 in
set_option maxHeartbeats 1000000 in
theorem t_m_wipe {X : CTX} {K : Option Value → AH → Prop} (C : CX X cX12_wipe yX12_wipe.cls (decide (yX12_wipe.name = "<init>")) 0 0) (hq : RQ X (some .int) K) (σ : MS) (out : Int32 × MS) (hm : m_wipe σ = some out) (hp : K (some (.int out.1)) (hM out.2)) : MW X (0, [some (.ref 0), none], [], (hM σ), 0, 0) := by
  unfold m_wipe at hm
  refine MW_run C okX12_wipe 0 7 (gs := []) (cf' := (11, [some (.ref 0), some (.int (gI σ 13))], [.int (gI σ 13)], (hM (sI σ 13 0)), 0, 0)) rfl trivial ?_
  obtain rfl := Option.some.inj hm
  exact MW_iret C okX12_wipe hq 7 rfl hp
theorem c_m_wipe (σ : MS) (out : Int32 × MS) (hm : m_wipe σ = some out) : CT yX12_wipe cX12_wipe 2 (some .int) 0 0 0 0 [.ref 0] (hM σ) (fun v h => v = (some (.int out.1)) ∧ h = (hM out.2)) :=
  CT_of (by decide +kernel) (vs0 := [some (.ref 0), none]) rfl rfl (fun X C hq => t_m_wipe C hq σ out hm ⟨rfl, rfl⟩)
/-! X12_isLetter -/
def m_isLetter (x0 : Int32) : Option (Int32) :=
  if x0 = 115 then
    some 1
  else
    if x0 = 113 then
      some 1
    else
      if x0 = 100 then
        some 1
      else
        some 0
set_option maxRecDepth 100000 in
set_option maxHeartbeats 1000000 in
theorem t_m_isLetter {X : CTX} {K : Option Value → AH → Prop} (C : CX X cX12_isLetter yX12_isLetter.cls (decide (yX12_isLetter.name = "<init>")) 0 0) (hq : RQ X (some .boolean) K) (x0 : Int32) (out : Int32) (hm : m_isLetter x0 = some out) (hp : K (some (.int out)) []) : MW X (0, [some (.int x0)], [], [], 0, 0) := by
  unfold m_isLetter at hm
  refine MW_run C okX12_isLetter 0 2 (gs := []) (cf' := (3, [some (.int x0)], [.int 115, .int x0], [], 0, 0)) rfl trivial ?_
  obtain ⟨hmt3, hmf3⟩ := of_if hm
  refine MW_brT C okX12_isLetter 2 rfl rfl (fun hb3 => ?_) (fun hb3 => ?_)
  · have hm := hmt3 hb3
    refine MW_run C okX12_isLetter 9 2 (gs := []) (cf' := (23, [some (.int x0)], [.int 1], [], 0, 0)) rfl trivial ?_
    obtain rfl := Option.some.inj hm
    exact MW_zret C okX12_isLetter hq 12 rfl (by decide) hp
  · have hm := hmf3 hb3
    refine MW_run C okX12_isLetter 3 2 (gs := []) (cf' := (9, [some (.int x0)], [.int 113, .int x0], [], 0, 0)) rfl trivial ?_
    obtain ⟨hmt9, hmf9⟩ := of_if hm
    refine MW_brT C okX12_isLetter 5 rfl rfl (fun hb9 => ?_) (fun hb9 => ?_)
    · have hm := hmt9 hb9
      refine MW_run C okX12_isLetter 9 2 (gs := []) (cf' := (23, [some (.int x0)], [.int 1], [], 0, 0)) rfl trivial ?_
      obtain rfl := Option.some.inj hm
      exact MW_zret C okX12_isLetter hq 12 rfl (by decide) hp
    · have hm := hmf9 hb9
      refine MW_run C okX12_isLetter 6 2 (gs := []) (cf' := (15, [some (.int x0)], [.int 100, .int x0], [], 0, 0)) rfl trivial ?_
      obtain ⟨hmt15, hmf15⟩ := of_if hm
      refine MW_brF C okX12_isLetter 8 rfl rfl (fun hb15 => ?_) (fun hb15 => ?_)
      · have hm := hmt15 hb15
        refine MW_run C okX12_isLetter 9 2 (gs := []) (cf' := (23, [some (.int x0)], [.int 1], [], 0, 0)) rfl trivial ?_
        obtain rfl := Option.some.inj hm
        exact MW_zret C okX12_isLetter hq 12 rfl (by decide) hp
      · have hm := hmf15 hb15
        refine MW_run C okX12_isLetter 11 1 (gs := []) (cf' := (23, [some (.int x0)], [.int 0], [], 0, 0)) rfl trivial ?_
        obtain rfl := Option.some.inj hm
        exact MW_zret C okX12_isLetter hq 12 rfl (by decide) hp
theorem c_m_isLetter (x0 : Int32) (out : Int32) (hm : m_isLetter x0 = some out) : CT yX12_isLetter cX12_isLetter 1 (some .boolean) 0 0 0 0 [.int x0] [] (fun v h => v = (some (.int out)) ∧ h = []) :=
  CT_of (by decide +kernel) (vs0 := [some (.int x0)]) rfl rfl (fun X C hq => t_m_isLetter C hq x0 out hm ⟨rfl, rfl⟩)
/-! X12_fault -/
def m_fault_J99 (k : MS → Int32 → Int32 → Int32 → Int32 → Int32 → Option ((Int32 × Int32) ⊕ (Int32))) (σ : MS) (x1 : Int32) (x2 : Int32) (x3 : Int32) (x5 : Int32) (x6 : Int32) : Option ((Int32 × Int32) ⊕ (Int32)) :=
  if x6 = 59 then
    if x1 = 1 then
      if x3 < 2 then
        k σ 0 x2 (x3 + 1) 0 (x5 + 1)
      else
        some (.inr x5)
    else
      some (.inr x5)
  else
    some (.inr x5)
set_option maxRecDepth 100000 in
set_option maxHeartbeats 1000000 in
theorem j_m_fault_99 {X : CTX} {K : Option Value → AH → Prop} (C : CX X cX12_fault yX12_fault.cls (decide (yX12_fault.name = "<init>")) 1 25) (hq : RQ X (some .int) K) (k : MS → Int32 → Int32 → Int32 → Int32 → Int32 → Option ((Int32 × Int32) ⊕ (Int32))) (hk : ∀ (σ : MS) (x1 : Int32) (x2 : Int32) (x3 : Int32) (x4 : Int32) (x5 : Int32) (out : (Int32 × Int32) ⊕ (Int32)), k σ x1 x2 x3 x4 x5 = some out → Sum.elim (fun e => MW X (136, [some (.ref 0), some (.int e.1), some (.int e.2), none, none, none, none], [], (hM σ), 0, 0)) (fun r => K (some (.int r)) (hM σ)) out → MW X (12, [some (.ref 0), some (.int x1), some (.int x2), some (.int x3), some (.int x4), some (.int x5), none], [], (hM σ), 0, 0)) (σ : MS) (x1 : Int32) (x2 : Int32) (x3 : Int32) (x5 : Int32) (x6 : Int32) (out : (Int32 × Int32) ⊕ (Int32)) (hm : m_fault_J99 k σ x1 x2 x3 x5 x6 = some out) (hp : Sum.elim (fun e => MW X (136, [some (.ref 0), some (.int e.1), some (.int e.2), none, none, none, none], [], (hM σ), 0, 0)) (fun r => K (some (.int r)) (hM σ)) out) : MW X (99, [some (.ref 0), some (.int x1), some (.int x2), some (.int x3), none, some (.int x5), some (.int x6)], [], (hM σ), 0, 0) := by
  unfold m_fault_J99 at hm
  refine MW_run C okX12_fault 53 2 (gs := []) (cf' := (103, [some (.ref 0), some (.int x1), some (.int x2), some (.int x3), none, some (.int x5), some (.int x6)], [.int 59, .int x6], (hM σ), 0, 0)) rfl trivial ?_
  obtain ⟨hmt103, hmf103⟩ := of_if hm
  refine MW_brF C okX12_fault 55 rfl rfl (fun hb103 => ?_) (fun hb103 => ?_)
  · have hm := hmt103 hb103
    refine MW_run C okX12_fault 56 2 (gs := []) (cf' := (108, [some (.ref 0), some (.int x1), some (.int x2), some (.int x3), none, some (.int x5), some (.int x6)], [.int 1, .int x1], (hM σ), 0, 0)) rfl trivial ?_
    obtain ⟨hmt108, hmf108⟩ := of_if hm
    refine MW_brF C okX12_fault 58 rfl rfl (fun hb108 => ?_) (fun hb108 => ?_)
    · have hm := hmt108 hb108
      refine MW_run C okX12_fault 59 2 (gs := []) (cf' := (113, [some (.ref 0), some (.int x1), some (.int x2), some (.int x3), none, some (.int x5), some (.int x6)], [.int 2, .int x3], (hM σ), 0, 0)) rfl trivial ?_
      obtain ⟨hmt113, hmf113⟩ := of_if hm
      refine MW_brF C okX12_fault 61 rfl rfl (fun hb113 => ?_) (fun hb113 => ?_)
      · have hm := hmt113 hb113
        refine MW_run C okX12_fault 62 6 (gs := []) (cf' := (130, [some (.ref 0), some (.int 0), some (.int x2), some (.int (x3 + 1)), some (.int 0), some (.int x5), some (.int x6)], [], (hM σ), 0, 0)) rfl trivial ?_
        refine MW_run C okX12_fault 70 2 (gs := []) (cf' := (12, [some (.ref 0), some (.int 0), some (.int x2), some (.int (x3 + 1)), some (.int 0), some (.int (x5 + 1)), some (.int x6)], [], (hM σ), 0, 0)) rfl trivial ?_
        refine MW_pick [true, true, true, true, true, true, false] rfl (vs' := [some (.ref 0), some (.int 0), some (.int x2), some (.int (x3 + 1)), some (.int 0), some (.int (x5 + 1)), none]) rfl ?_
        exact hk σ 0 x2 (x3 + 1) 0 (x5 + 1) _ hm hp
      · have hm := hmf113 hb113
        refine MW_run C okX12_fault 68 1 (gs := []) (cf' := (129, [some (.ref 0), some (.int x1), some (.int x2), some (.int x3), none, some (.int x5), some (.int x6)], [.int x5], (hM σ), 0, 0)) rfl trivial ?_
        obtain rfl := Option.some.inj hm
        exact MW_iret C okX12_fault hq 69 rfl hp
    · have hm := hmf108 hb108
      refine MW_run C okX12_fault 68 1 (gs := []) (cf' := (129, [some (.ref 0), some (.int x1), some (.int x2), some (.int x3), none, some (.int x5), some (.int x6)], [.int x5], (hM σ), 0, 0)) rfl trivial ?_
      obtain rfl := Option.some.inj hm
      exact MW_iret C okX12_fault hq 69 rfl hp
  · have hm := hmf103 hb103
    refine MW_run C okX12_fault 68 1 (gs := []) (cf' := (129, [some (.ref 0), some (.int x1), some (.int x2), some (.int x3), none, some (.int x5), some (.int x6)], [.int x5], (hM σ), 0, 0)) rfl trivial ?_
    obtain rfl := Option.some.inj hm
    exact MW_iret C okX12_fault hq 69 rfl hp
def m_fault_J79 (k : MS → Int32 → Int32 → Int32 → Int32 → Int32 → Option ((Int32 × Int32) ⊕ (Int32))) (σ : MS) (x1 : Int32) (x2 : Int32) (x3 : Int32) (x4 : Int32) (x5 : Int32) (x6 : Int32) : Option ((Int32 × Int32) ⊕ (Int32)) :=
  if x6 = 45 then
    if x4 = 0 then
      k σ 1 x2 x3 1 (x5 + 1)
    else
      m_fault_J99 (k) σ x1 x2 x3 x5 x6
  else
    m_fault_J99 (k) σ x1 x2 x3 x5 x6
set_option maxRecDepth 100000 in
set_option maxHeartbeats 1000000 in
theorem j_m_fault_79 {X : CTX} {K : Option Value → AH → Prop} (C : CX X cX12_fault yX12_fault.cls (decide (yX12_fault.name = "<init>")) 1 25) (hq : RQ X (some .int) K) (k : MS → Int32 → Int32 → Int32 → Int32 → Int32 → Option ((Int32 × Int32) ⊕ (Int32))) (hk : ∀ (σ : MS) (x1 : Int32) (x2 : Int32) (x3 : Int32) (x4 : Int32) (x5 : Int32) (out : (Int32 × Int32) ⊕ (Int32)), k σ x1 x2 x3 x4 x5 = some out → Sum.elim (fun e => MW X (136, [some (.ref 0), some (.int e.1), some (.int e.2), none, none, none, none], [], (hM σ), 0, 0)) (fun r => K (some (.int r)) (hM σ)) out → MW X (12, [some (.ref 0), some (.int x1), some (.int x2), some (.int x3), some (.int x4), some (.int x5), none], [], (hM σ), 0, 0)) (σ : MS) (x1 : Int32) (x2 : Int32) (x3 : Int32) (x4 : Int32) (x5 : Int32) (x6 : Int32) (out : (Int32 × Int32) ⊕ (Int32)) (hm : m_fault_J79 k σ x1 x2 x3 x4 x5 x6 = some out) (hp : Sum.elim (fun e => MW X (136, [some (.ref 0), some (.int e.1), some (.int e.2), none, none, none, none], [], (hM σ), 0, 0)) (fun r => K (some (.int r)) (hM σ)) out) : MW X (79, [some (.ref 0), some (.int x1), some (.int x2), some (.int x3), some (.int x4), some (.int x5), some (.int x6)], [], (hM σ), 0, 0) := by
  unfold m_fault_J79 at hm
  refine MW_run C okX12_fault 43 2 (gs := []) (cf' := (83, [some (.ref 0), some (.int x1), some (.int x2), some (.int x3), some (.int x4), some (.int x5), some (.int x6)], [.int 45, .int x6], (hM σ), 0, 0)) rfl trivial ?_
  obtain ⟨hmt83, hmf83⟩ := of_if hm
  refine MW_brF C okX12_fault 45 rfl rfl (fun hb83 => ?_) (fun hb83 => ?_)
  · have hm := hmt83 hb83
    refine MW_run C okX12_fault 46 1 (gs := []) (cf' := (88, [some (.ref 0), some (.int x1), some (.int x2), some (.int x3), some (.int x4), some (.int x5), some (.int x6)], [.int x4], (hM σ), 0, 0)) rfl trivial ?_
    obtain ⟨hmt88, hmf88⟩ := of_if hm
    refine MW_brF C okX12_fault 47 rfl rfl (fun hb88 => ?_) (fun hb88 => ?_)
    · have hm := hmt88 hb88
      refine MW_run C okX12_fault 48 5 (gs := []) (cf' := (130, [some (.ref 0), some (.int 1), some (.int x2), some (.int x3), some (.int 1), some (.int x5), some (.int x6)], [], (hM σ), 0, 0)) rfl trivial ?_
      refine MW_run C okX12_fault 70 2 (gs := []) (cf' := (12, [some (.ref 0), some (.int 1), some (.int x2), some (.int x3), some (.int 1), some (.int (x5 + 1)), some (.int x6)], [], (hM σ), 0, 0)) rfl trivial ?_
      refine MW_pick [true, true, true, true, true, true, false] rfl (vs' := [some (.ref 0), some (.int 1), some (.int x2), some (.int x3), some (.int 1), some (.int (x5 + 1)), none]) rfl ?_
      exact hk σ 1 x2 x3 1 (x5 + 1) _ hm hp
    · have hm := hmf88 hb88
      refine MW_pick [true, true, true, true, false, true, true] rfl (vs' := [some (.ref 0), some (.int x1), some (.int x2), some (.int x3), none, some (.int x5), some (.int x6)]) rfl ?_
      exact j_m_fault_99 C hq (k) hk σ x1 x2 x3 x5 x6 _ hm hp
  · have hm := hmf83 hb83
    refine MW_pick [true, true, true, true, false, true, true] rfl (vs' := [some (.ref 0), some (.int x1), some (.int x2), some (.int x3), none, some (.int x5), some (.int x6)]) rfl ?_
    exact j_m_fault_99 C hq (k) hk σ x1 x2 x3 x5 x6 _ hm hp
def m_fault_L12 : Nat → MS → Int32 → Int32 → Int32 → Int32 → Int32 → Option ((Int32 × Int32) ⊕ (Int32))
  | 0, _, _, _, _, _, _ => none
  | n + 1, σ, x1, x2, x3, x4, x5 =>
    if x5 < (gI σ 13) then
      if inb x5 16 then
        if x1 = 2 then
          (m_in (((gA σ 9 x5) : Int32).toInt64) 49 53).bind fun q44 =>
            if q44 = 0 then
              some (.inr x5)
            else
              m_fault_L12 n σ 1 x2 x3 x4 (x5 + 1)
        else
          (m_isLetter (gA σ 9 x5)).bind fun q60 =>
            if q60 = 0 then
              m_fault_J79 (m_fault_L12 n) σ x1 x2 x3 x4 x5 (gA σ 9 x5)
            else
              if x2 < 4 then
                m_fault_L12 n σ 2 (x2 + 1) x3 x4 (x5 + 1)
              else
                m_fault_J79 (m_fault_L12 n) σ x1 x2 x3 x4 x5 (gA σ 9 x5)
      else none
    else
      some (.inl (x1, x2))
set_option maxRecDepth 100000 in
set_option maxHeartbeats 1000000 in
theorem l_m_fault_12 {X : CTX} {K : Option Value → AH → Prop} (C : CX X cX12_fault yX12_fault.cls (decide (yX12_fault.name = "<init>")) 1 25) (hq : RQ X (some .int) K) : ∀ (n : Nat) (σ : MS) (x1 : Int32) (x2 : Int32) (x3 : Int32) (x4 : Int32) (x5 : Int32) (out : (Int32 × Int32) ⊕ (Int32)) (hm : m_fault_L12 n σ x1 x2 x3 x4 x5 = some out) (hp : Sum.elim (fun e => MW X (136, [some (.ref 0), some (.int e.1), some (.int e.2), none, none, none, none], [], (hM σ), 0, 0)) (fun r => K (some (.int r)) (hM σ)) out), MW X (12, [some (.ref 0), some (.int x1), some (.int x2), some (.int x3), some (.int x4), some (.int x5), none], [], (hM σ), 0, 0) := by
  intro n
  induction n with
  | zero => intro σ x1 x2 x3 x4 x5 out hm hp; rw [m_fault_L12] at hm; cases hm
  | succ n ih =>
    intro σ x1 x2 x3 x4 x5 out hm hp
    rw [m_fault_L12] at hm
    refine MW_run C okX12_fault 10 3 (gs := []) (cf' := (18, [some (.ref 0), some (.int x1), some (.int x2), some (.int x3), some (.int x4), some (.int x5), none], [.int (gI σ 13), .int x5], (hM σ), 0, 0)) rfl trivial ?_
    obtain ⟨hmt18, hmf18⟩ := of_if hm
    refine MW_brF C okX12_fault 13 rfl rfl (fun hb18 => ?_) (fun hb18 => ?_)
    · have hm := hmt18 hb18
      obtain ⟨hg32, hm⟩ := of_guard hm
      refine MW_run C okX12_fault 14 7 (gs := [inb x5 16]) (cf' := (32, [some (.ref 0), some (.int x1), some (.int x2), some (.int x3), some (.int x4), some (.int x5), some (.int (gA σ 9 x5))], [.int 2, .int x1], (hM σ), 0, 0)) rfl hg32 ?_
      obtain ⟨hmt32, hmf32⟩ := of_if hm
      refine MW_brF C okX12_fault 21 rfl rfl (fun hb32 => ?_) (fun hb32 => ?_)
      · have hm := hmt32 hb32
        refine MW_run C okX12_fault 22 4 (gs := []) (cf' := (44, [some (.ref 0), some (.int x1), some (.int x2), some (.int x3), some (.int x4), some (.int x5), some (.int (gA σ 9 x5))], [.long 53, .long 49, .long (((gA σ 9 x5) : Int32).toInt64)], (hM σ), 0, 0)) rfl trivial ?_
        obtain ⟨q44, hc44, hm⟩ := of_bind hm
        refine MW_callS0 C okX12_fault 26 rfl (v0 := some (.int q44)) (c_m_in (((gA σ 9 x5) : Int32).toInt64) 49 53 q44 hc44) lkX12_121 3 dpX12_in (by decide) (rest := []) rfl rfl rfl rfl rfl ?_
        obtain ⟨hmt47, hmf47⟩ := of_if hm
        refine MW_brF C okX12_fault 27 rfl rfl (fun hb47 => ?_) (fun hb47 => ?_)
        · have hm := hmt47 hb47
          refine MW_run C okX12_fault 28 1 (gs := []) (cf' := (52, [some (.ref 0), some (.int x1), some (.int x2), some (.int x3), some (.int x4), some (.int x5), some (.int (gA σ 9 x5))], [.int x5], (hM σ), 0, 0)) rfl trivial ?_
          obtain rfl := Option.some.inj hm
          exact MW_iret C okX12_fault hq 29 rfl hp
        · have hm := hmf47 hb47
          refine MW_run C okX12_fault 30 3 (gs := []) (cf' := (130, [some (.ref 0), some (.int 1), some (.int x2), some (.int x3), some (.int x4), some (.int x5), some (.int (gA σ 9 x5))], [], (hM σ), 0, 0)) rfl trivial ?_
          refine MW_run C okX12_fault 70 2 (gs := []) (cf' := (12, [some (.ref 0), some (.int 1), some (.int x2), some (.int x3), some (.int x4), some (.int (x5 + 1)), some (.int (gA σ 9 x5))], [], (hM σ), 0, 0)) rfl trivial ?_
          refine MW_pick [true, true, true, true, true, true, false] rfl (vs' := [some (.ref 0), some (.int 1), some (.int x2), some (.int x3), some (.int x4), some (.int (x5 + 1)), none]) rfl ?_
          exact ih σ 1 x2 x3 x4 (x5 + 1) _ hm hp
      · have hm := hmf32 hb32
        refine MW_run C okX12_fault 33 1 (gs := []) (cf' := (60, [some (.ref 0), some (.int x1), some (.int x2), some (.int x3), some (.int x4), some (.int x5), some (.int (gA σ 9 x5))], [.int (gA σ 9 x5)], (hM σ), 0, 0)) rfl trivial ?_
        obtain ⟨q60, hc60, hm⟩ := of_bind hm
        refine MW_callS0 C okX12_fault 34 rfl (v0 := some (.int q60)) (c_m_isLetter (gA σ 9 x5) q60 hc60) lkX12_132 1 dpX12_isLetter (by decide) (rest := []) rfl rfl rfl rfl rfl ?_
        obtain ⟨hmt63, hmf63⟩ := of_if hm
        refine MW_brT C okX12_fault 35 rfl rfl (fun hb63 => ?_) (fun hb63 => ?_)
        · have hm := hmt63 hb63
          exact j_m_fault_79 C hq (m_fault_L12 n) ih σ x1 x2 x3 x4 x5 (gA σ 9 x5) _ hm hp
        · have hm := hmf63 hb63
          refine MW_run C okX12_fault 36 2 (gs := []) (cf' := (68, [some (.ref 0), some (.int x1), some (.int x2), some (.int x3), some (.int x4), some (.int x5), some (.int (gA σ 9 x5))], [.int 4, .int x2], (hM σ), 0, 0)) rfl trivial ?_
          obtain ⟨hmt68, hmf68⟩ := of_if hm
          refine MW_brF C okX12_fault 38 rfl rfl (fun hb68 => ?_) (fun hb68 => ?_)
          · have hm := hmt68 hb68
            refine MW_run C okX12_fault 39 4 (gs := []) (cf' := (130, [some (.ref 0), some (.int 2), some (.int (x2 + 1)), some (.int x3), some (.int x4), some (.int x5), some (.int (gA σ 9 x5))], [], (hM σ), 0, 0)) rfl trivial ?_
            refine MW_run C okX12_fault 70 2 (gs := []) (cf' := (12, [some (.ref 0), some (.int 2), some (.int (x2 + 1)), some (.int x3), some (.int x4), some (.int (x5 + 1)), some (.int (gA σ 9 x5))], [], (hM σ), 0, 0)) rfl trivial ?_
            refine MW_pick [true, true, true, true, true, true, false] rfl (vs' := [some (.ref 0), some (.int 2), some (.int (x2 + 1)), some (.int x3), some (.int x4), some (.int (x5 + 1)), none]) rfl ?_
            exact ih σ 2 (x2 + 1) x3 x4 (x5 + 1) _ hm hp
          · have hm := hmf68 hb68
            exact j_m_fault_79 C hq (m_fault_L12 n) ih σ x1 x2 x3 x4 x5 (gA σ 9 x5) _ hm hp
    · have hm := hmf18 hb18
      obtain rfl := Option.some.inj hm
      refine MW_pick [true, true, true, false, false, false, true] rfl (vs' := [some (.ref 0), some (.int x1), some (.int x2), none, none, none, none]) rfl ?_
      exact hp
def m_fault (σ : MS) : Option (Int32) :=
  (m_fault_L12 N0 σ 0 0 0 0 0).bind fun q12 =>
    match q12 with
    | .inr r12 => some r12
    | .inl e12 =>
      if e12.1 = 1 then
        if (0 : Int32) < e12.2 then
          some (-6)
        else
          some (gI σ 13)
      else
        some (gI σ 13)
set_option maxRecDepth 100000 in
set_option maxHeartbeats 1000000 in
theorem t_m_fault {X : CTX} {K : Option Value → AH → Prop} (C : CX X cX12_fault yX12_fault.cls (decide (yX12_fault.name = "<init>")) 1 25) (hq : RQ X (some .int) K) (σ : MS) (out : Int32) (hm : m_fault σ = some out) (hp : K (some (.int out)) (hM σ)) : MW X (0, [some (.ref 0), none, none, none, none, none, none], [], (hM σ), 0, 0) := by
  unfold m_fault at hm
  refine MW_run C okX12_fault 0 10 (gs := []) (cf' := (12, [some (.ref 0), some (.int 0), some (.int 0), some (.int 0), some (.int 0), some (.int 0), none], [], (hM σ), 0, 0)) rfl trivial ?_
  obtain ⟨q12, hc12, hm⟩ := of_bind hm
  refine l_m_fault_12 C hq N0 σ 0 0 0 0 0 q12 hc12 ?_
  cases q12 with
  | inr r12 =>
    obtain rfl := Option.some.inj hm
    exact hp
  | inl e12 =>
    show MW X (136, [some (.ref 0), some (.int e12.1), some (.int e12.2), none, none, none, none], [], (hM σ), 0, 0)
    refine MW_run C okX12_fault 72 2 (gs := []) (cf' := (138, [some (.ref 0), some (.int e12.1), some (.int e12.2), none, none, none, none], [.int 1, .int e12.1], (hM σ), 0, 0)) rfl trivial ?_
    obtain ⟨hmt138, hmf138⟩ := of_if hm
    refine MW_brF C okX12_fault 74 rfl rfl (fun hb138 => ?_) (fun hb138 => ?_)
    · have hm := hmt138 hb138
      refine MW_run C okX12_fault 75 1 (gs := []) (cf' := (142, [some (.ref 0), some (.int e12.1), some (.int e12.2), none, none, none, none], [.int e12.2], (hM σ), 0, 0)) rfl trivial ?_
      obtain ⟨hmt142, hmf142⟩ := of_if hm
      refine MW_brF C okX12_fault 76 rfl rfl (fun hb142 => ?_) (fun hb142 => ?_)
      · have hm := hmt142 hb142
        refine MW_run C okX12_fault 77 2 (gs := []) (cf' := (154, [some (.ref 0), some (.int e12.1), some (.int e12.2), none, none, none, none], [.int (-6)], (hM σ), 0, 0)) rfl trivial ?_
        obtain rfl := Option.some.inj hm
        exact MW_iret C okX12_fault hq 81 rfl hp
      · have hm := hmf142 hb142
        refine MW_run C okX12_fault 79 2 (gs := []) (cf' := (154, [some (.ref 0), some (.int e12.1), some (.int e12.2), none, none, none, none], [.int (gI σ 13)], (hM σ), 0, 0)) rfl trivial ?_
        obtain rfl := Option.some.inj hm
        exact MW_iret C okX12_fault hq 81 rfl hp
    · have hm := hmf138 hb138
      refine MW_run C okX12_fault 79 2 (gs := []) (cf' := (154, [some (.ref 0), some (.int e12.1), some (.int e12.2), none, none, none, none], [.int (gI σ 13)], (hM σ), 0, 0)) rfl trivial ?_
      obtain rfl := Option.some.inj hm
      exact MW_iret C okX12_fault hq 81 rfl hp
theorem c_m_fault (σ : MS) (out : Int32) (hm : m_fault σ = some out) : CT yX12_fault cX12_fault 7 (some .int) 1 25 0 0 [.ref 0] (hM σ) (fun v h => v = (some (.int out)) ∧ h = (hM σ)) :=
  CT_of (by decide +kernel) (vs0 := [some (.ref 0), none, none, none, none, none, none]) rfl rfl (fun X C hq => t_m_fault C hq σ out hm ⟨rfl, rfl⟩)
/-! X12_forget -/
def m_forget_L2 : Nat → MS → Int32 → Option (MS)
  | 0, _, _ => none
  | n + 1, σ, x1 =>
    if (5 : Int32) < x1 then
      some σ
    else
      if inb x1 6 then
        m_forget_L2 n (sA σ 20 x1 (narZ 0)) (x1 + 1)
      else none
set_option maxRecDepth 100000 in
set_option maxHeartbeats 1000000 in
theorem l_m_forget_2 {X : CTX} {K : Option Value → AH → Prop} (C : CX X cX12_forget yX12_forget.cls (decide (yX12_forget.name = "<init>")) 0 0) (hq : RQ X none K) : ∀ (n : Nat) (σ : MS) (x1 : Int32) (out : MS) (hm : m_forget_L2 n σ x1 = some out) (hp : MW X (20, [none, none], [], (hM out), 0, 0)), MW X (2, [some (.ref 0), some (.int x1)], [], (hM σ), 0, 0) := by
  intro n
  induction n with
  | zero => intro σ x1 out hm hp; rw [m_forget_L2] at hm; cases hm
  | succ n ih =>
    intro σ x1 out hm hp
    rw [m_forget_L2] at hm
    refine MW_run C okX12_forget 2 2 (gs := []) (cf' := (4, [some (.ref 0), some (.int x1)], [.int 5, .int x1], (hM σ), 0, 0)) rfl trivial ?_
    obtain ⟨hmt4, hmf4⟩ := of_if hm
    refine MW_brT C okX12_forget 4 rfl rfl (fun hb4 => ?_) (fun hb4 => ?_)
    · have hm := hmt4 hb4
      obtain rfl := Option.some.inj hm
      refine MW_pick [false, false] rfl (vs' := [none, none]) rfl ?_
      exact hp
    · have hm := hmf4 hb4
      obtain ⟨hg2, hm⟩ := of_guard hm
      refine MW_run C okX12_forget 5 7 (gs := [inb x1 6]) (cf' := (2, [some (.ref 0), some (.int (x1 + 1))], [], (hM (sA σ 20 x1 (narZ 0))), 0, 0)) rfl hg2 ?_
      exact ih (sA σ 20 x1 (narZ 0)) (x1 + 1) _ hm hp
def m_forget (σ : MS) : Option (MS) :=
  (m_forget_L2 N0 σ 0).bind fun q2 =>
    some q2
set_option maxRecDepth 100000 in
set_option maxHeartbeats 1000000 in
theorem t_m_forget {X : CTX} {K : Option Value → AH → Prop} (C : CX X cX12_forget yX12_forget.cls (decide (yX12_forget.name = "<init>")) 0 0) (hq : RQ X none K) (σ : MS) (out : MS) (hm : m_forget σ = some out) (hp : K none (hM out)) : MW X (0, [some (.ref 0), none], [], (hM σ), 0, 0) := by
  unfold m_forget at hm
  refine MW_run C okX12_forget 0 2 (gs := []) (cf' := (2, [some (.ref 0), some (.int 0)], [], (hM σ), 0, 0)) rfl trivial ?_
  obtain ⟨q2, hc2, hm⟩ := of_bind hm
  refine l_m_forget_2 C hq N0 σ 0 q2 hc2 ?_
  obtain rfl := Option.some.inj hm
  exact MW_vret C okX12_forget hq 12 rfl hp
theorem c_m_forget (σ : MS) (out : MS) (hm : m_forget σ = some out) : CT yX12_forget cX12_forget 2 none 0 0 0 0 [.ref 0] (hM σ) (fun v h => v = none ∧ h = (hM out)) :=
  CT_of (by decide +kernel) (vs0 := [some (.ref 0), none]) rfl rfl (fun X C hq => t_m_forget C hq σ out hm ⟨rfl, rfl⟩)
/-! X12_yard -/
def m_yard_L29 : Nat → MS → Int32 → Option (MS)
  | 0, _, _ => none
  | n + 1, σ, x1 =>
    if x1 < (gI σ 13) then
      if inb x1 16 then
        (m_isLetter (gA σ 9 x1)).bind fun q45 =>
          if q45 = 0 then
            if (gA σ 9 x1) = 45 then
              if inb ((gI σ 5) - 1) 3 then
                m_yard_L29 n (sA σ 4 ((gI σ 5) - 1) 1) (x1 + 1)
              else none
            else
              if (gA σ 9 x1) = 59 then
                if inb (gI σ 5) 3 then
                  m_yard_L29 n (sI (sA σ 4 (gI σ 5) 0) 5 ((gI σ 5) + 1)) (x1 + 1)
                else none
              else
                if inb ((gI σ 4) - 1) 4 then
                  m_yard_L29 n (sA σ 2 ((gI σ 4) - 1) ((gA σ 9 x1) - 48)) (x1 + 1)
                else none
          else
            if inb (gI σ 4) 4 ∧ inb (gI σ 4) 4 then
              m_yard_L29 n (sI (sA (sA σ 1 (gI σ 4) (gA σ 9 x1)) 3 (gI σ 4) ((gI σ 5) - 1)) 4 ((gI σ 4) + 1)) (x1 + 1)
            else none
      else none
    else
      some σ
set_option maxRecDepth 100000 in
set_option maxHeartbeats 1000000 in
theorem l_m_yard_29 {X : CTX} {K : Option Value → AH → Prop} (C : CX X cX12_yard yX12_yard.cls (decide (yX12_yard.name = "<init>")) 2 51) (hq : RQ X (some .int) K) : ∀ (n : Nat) (σ : MS) (x1 : Int32) (out : MS) (hm : m_yard_L29 n σ x1 = some out) (hp : MW X (160, [some (.ref 0), none, none], [], (hM out), 0, 0)), MW X (29, [some (.ref 0), some (.int x1), none], [], (hM σ), 0, 0) := by
  intro n
  induction n with
  | zero => intro σ x1 out hm hp; rw [m_yard_L29] at hm; cases hm
  | succ n ih =>
    intro σ x1 out hm hp
    rw [m_yard_L29] at hm
    refine MW_run C okX12_yard 18 3 (gs := []) (cf' := (34, [some (.ref 0), some (.int x1), none], [.int (gI σ 13), .int x1], (hM σ), 0, 0)) rfl trivial ?_
    obtain ⟨hmt34, hmf34⟩ := of_if hm
    refine MW_brF C okX12_yard 21 rfl rfl (fun hb34 => ?_) (fun hb34 => ?_)
    · have hm := hmt34 hb34
      obtain ⟨hg45, hm⟩ := of_guard hm
      refine MW_run C okX12_yard 22 6 (gs := [inb x1 16]) (cf' := (45, [some (.ref 0), some (.int x1), some (.int (gA σ 9 x1))], [.int (gA σ 9 x1)], (hM σ), 0, 0)) rfl hg45 ?_
      obtain ⟨q45, hc45, hm⟩ := of_bind hm
      refine MW_callS0 C okX12_yard 28 rfl (v0 := some (.int q45)) (c_m_isLetter (gA σ 9 x1) q45 hc45) lkX12_132 1 dpX12_isLetter (by decide) (rest := []) rfl rfl rfl rfl rfl ?_
      obtain ⟨hmt48, hmf48⟩ := of_if hm
      refine MW_brT C okX12_yard 29 rfl rfl (fun hb48 => ?_) (fun hb48 => ?_)
      · have hm := hmt48 hb48
        refine MW_run C okX12_yard 52 2 (gs := []) (cf' := (92, [some (.ref 0), some (.int x1), some (.int (gA σ 9 x1))], [.int 45, .int (gA σ 9 x1)], (hM σ), 0, 0)) rfl trivial ?_
        obtain ⟨hmt92, hmf92⟩ := of_if hm
        refine MW_brF C okX12_yard 54 rfl rfl (fun hb92 => ?_) (fun hb92 => ?_)
        · have hm := hmt92 hb92
          obtain ⟨hg154, hm⟩ := of_guard hm
          refine MW_run C okX12_yard 55 9 (gs := [inb ((gI σ 5) - 1) 3]) (cf' := (154, [some (.ref 0), some (.int x1), some (.int (gA σ 9 x1))], [], (hM (sA σ 4 ((gI σ 5) - 1) 1)), 0, 0)) rfl hg154 ?_
          refine MW_run C okX12_yard 90 2 (gs := []) (cf' := (29, [some (.ref 0), some (.int (x1 + 1)), some (.int (gA σ 9 x1))], [], (hM (sA σ 4 ((gI σ 5) - 1) 1)), 0, 0)) rfl trivial ?_
          refine MW_pick [true, true, false] rfl (vs' := [some (.ref 0), some (.int (x1 + 1)), none]) rfl ?_
          exact ih (sA σ 4 ((gI σ 5) - 1) 1) (x1 + 1) _ hm hp
        · have hm := hmf92 hb92
          refine MW_run C okX12_yard 64 2 (gs := []) (cf' := (113, [some (.ref 0), some (.int x1), some (.int (gA σ 9 x1))], [.int 59, .int (gA σ 9 x1)], (hM σ), 0, 0)) rfl trivial ?_
          obtain ⟨hmt113, hmf113⟩ := of_if hm
          refine MW_brF C okX12_yard 66 rfl rfl (fun hb113 => ?_) (fun hb113 => ?_)
          · have hm := hmt113 hb113
            obtain ⟨hg154, hm⟩ := of_guard hm
            refine MW_run C okX12_yard 67 13 (gs := [inb (gI σ 5) 3]) (cf' := (154, [some (.ref 0), some (.int x1), some (.int (gA σ 9 x1))], [], (hM (sI (sA σ 4 (gI σ 5) 0) 5 ((gI σ 5) + 1))), 0, 0)) rfl hg154 ?_
            refine MW_run C okX12_yard 90 2 (gs := []) (cf' := (29, [some (.ref 0), some (.int (x1 + 1)), some (.int (gA σ 9 x1))], [], (hM (sI (sA σ 4 (gI σ 5) 0) 5 ((gI σ 5) + 1))), 0, 0)) rfl trivial ?_
            refine MW_pick [true, true, false] rfl (vs' := [some (.ref 0), some (.int (x1 + 1)), none]) rfl ?_
            exact ih (sI (sA σ 4 (gI σ 5) 0) 5 ((gI σ 5) + 1)) (x1 + 1) _ hm hp
          · have hm := hmf113 hb113
            obtain ⟨hg154, hm⟩ := of_guard hm
            refine MW_run C okX12_yard 80 10 (gs := [inb ((gI σ 4) - 1) 4]) (cf' := (154, [some (.ref 0), some (.int x1), some (.int (gA σ 9 x1))], [], (hM (sA σ 2 ((gI σ 4) - 1) ((gA σ 9 x1) - 48))), 0, 0)) rfl hg154 ?_
            refine MW_run C okX12_yard 90 2 (gs := []) (cf' := (29, [some (.ref 0), some (.int (x1 + 1)), some (.int (gA σ 9 x1))], [], (hM (sA σ 2 ((gI σ 4) - 1) ((gA σ 9 x1) - 48))), 0, 0)) rfl trivial ?_
            refine MW_pick [true, true, false] rfl (vs' := [some (.ref 0), some (.int (x1 + 1)), none]) rfl ?_
            exact ih (sA σ 2 ((gI σ 4) - 1) ((gA σ 9 x1) - 48)) (x1 + 1) _ hm hp
      · have hm := hmf48 hb48
        obtain ⟨hg154, hm⟩ := of_guard hm
        refine MW_run C okX12_yard 30 22 (gs := [inb (gI σ 4) 4, inb (gI σ 4) 4]) (cf' := (154, [some (.ref 0), some (.int x1), some (.int (gA σ 9 x1))], [], (hM (sI (sA (sA σ 1 (gI σ 4) (gA σ 9 x1)) 3 (gI σ 4) ((gI σ 5) - 1)) 4 ((gI σ 4) + 1))), 0, 0)) rfl ⟨hg154.1, hg154.2⟩ ?_
        refine MW_run C okX12_yard 90 2 (gs := []) (cf' := (29, [some (.ref 0), some (.int (x1 + 1)), some (.int (gA σ 9 x1))], [], (hM (sI (sA (sA σ 1 (gI σ 4) (gA σ 9 x1)) 3 (gI σ 4) ((gI σ 5) - 1)) 4 ((gI σ 4) + 1))), 0, 0)) rfl trivial ?_
        refine MW_pick [true, true, false] rfl (vs' := [some (.ref 0), some (.int (x1 + 1)), none]) rfl ?_
        exact ih (sI (sA (sA σ 1 (gI σ 4) (gA σ 9 x1)) 3 (gI σ 4) ((gI σ 5) - 1)) 4 ((gI σ 4) + 1)) (x1 + 1) _ hm hp
    · have hm := hmf34 hb34
      obtain rfl := Option.some.inj hm
      refine MW_pick [true, false, true] rfl (vs' := [some (.ref 0), none, none]) rfl ?_
      exact hp
def m_yard (σ : MS) : Option (Int32 × MS) :=
  (m_fault σ).bind fun q1 =>
    if q1 < 0 then
      (m_yard_L29 N0 (sA (sI (sI σ 4 0) 5 1) 4 0 0) 0).bind fun q29 =>
        (m_forget (sI (sI q29 13 0) 37 0)).bind fun q171 =>
          some ((gI q171 4), q171)
    else
      some ((-5), σ)
set_option maxRecDepth 100000 in
set_option maxHeartbeats 1000000 in
theorem t_m_yard {X : CTX} {K : Option Value → AH → Prop} (C : CX X cX12_yard yX12_yard.cls (decide (yX12_yard.name = "<init>")) 2 51) (hq : RQ X (some .int) K) (σ : MS) (out : Int32 × MS) (hm : m_yard σ = some out) (hp : K (some (.int out.1)) (hM out.2)) : MW X (0, [some (.ref 0), none, none], [], (hM σ), 0, 0) := by
  unfold m_yard at hm
  refine MW_run C okX12_yard 0 1 (gs := []) (cf' := (1, [some (.ref 0), none, none], [.ref 0], (hM σ), 0, 0)) rfl trivial ?_
  obtain ⟨q1, hc1, hm⟩ := of_bind hm
  refine MW_callV0 C okX12_yard 1 rfl (v0 := some (.int q1)) (h0 := (hM σ)) (c_m_fault σ q1 hc1) lkX12_136 0 dpX12_fault (by decide) (rest := []) rfl rfl rfl rfl rfl rfl rfl rfl ?_
  obtain ⟨hmt4, hmf4⟩ := of_if hm
  refine MW_brT C okX12_yard 2 rfl rfl (fun hb4 => ?_) (fun hb4 => ?_)
  · have hm := hmt4 hb4
    refine MW_run C okX12_yard 5 13 (gs := [inb 0 3]) (cf' := (29, [some (.ref 0), some (.int 0), none], [], (hM (sA (sI (sI σ 4 0) 5 1) 4 0 0)), 0, 0)) rfl (show inb 0 3 by decide) ?_
    obtain ⟨q29, hc29, hm⟩ := of_bind hm
    refine l_m_yard_29 C hq N0 (sA (sI (sI σ 4 0) 5 1) 4 0 0) 0 q29 hc29 ?_
    refine MW_run C okX12_yard 92 7 (gs := []) (cf' := (171, [some (.ref 0), none, none], [.ref 0], (hM (sI (sI q29 13 0) 37 0)), 0, 0)) rfl trivial ?_
    obtain ⟨q171, hc171, hm⟩ := of_bind hm
    refine MW_callV0 C okX12_yard 99 rfl (v0 := none) (h0 := (hM q171)) (c_m_forget (sI (sI q29 13 0) 37 0) q171 hc171) lkX12_140 0 dpX12_forget (by decide) (rest := []) rfl rfl rfl rfl rfl rfl rfl rfl ?_
    refine MW_run C okX12_yard 100 2 (gs := []) (cf' := (178, [some (.ref 0), none, none], [.int (gI q171 4)], (hM q171), 0, 0)) rfl trivial ?_
    obtain rfl := Option.some.inj hm
    exact MW_iret C okX12_yard hq 102 rfl hp
  · have hm := hmf4 hb4
    refine MW_run C okX12_yard 3 1 (gs := []) (cf' := (9, [some (.ref 0), none, none], [.int (-5)], (hM σ), 0, 0)) rfl trivial ?_
    obtain rfl := Option.some.inj hm
    exact MW_iret C okX12_yard hq 4 rfl hp
theorem c_m_yard (σ : MS) (out : Int32 × MS) (hm : m_yard σ = some out) : CT yX12_yard cX12_yard 3 (some .int) 2 51 0 0 [.ref 0] (hM σ) (fun v h => v = (some (.int out.1)) ∧ h = (hM out.2)) :=
  CT_of (by decide +kernel) (vs0 := [some (.ref 0), none, none]) rfl rfl (fun X C hq => t_m_yard C hq σ out hm ⟨rfl, rfl⟩)
/-! X12_isSiding -/
def m_isSiding (σ : MS) (x1 : Int32) : Option (Int32) :=
  (m_in ((x1 : Int32).toInt64) 0 ((((gI σ 4) - 1) : Int32).toInt64)).bind fun q10 =>
    if isZ q10 then some q10 else none
set_option maxRecDepth 100000 in
set_option maxHeartbeats 1000000 in
theorem t_m_isSiding {X : CTX} {K : Option Value → AH → Prop} (C : CX X cX12_isSiding yX12_isSiding.cls (decide (yX12_isSiding.name = "<init>")) 1 25) (hq : RQ X (some .boolean) K) (σ : MS) (x1 : Int32) (out : Int32) (hm : m_isSiding σ x1 = some out) (hp : K (some (.int out)) (hM σ)) : MW X (0, [some (.ref 0), some (.int x1)], [], (hM σ), 0, 0) := by
  unfold m_isSiding at hm
  refine MW_run C okX12_isSiding 0 8 (gs := []) (cf' := (10, [some (.ref 0), some (.int x1)], [.long ((((gI σ 4) - 1) : Int32).toInt64), .long 0, .long ((x1 : Int32).toInt64)], (hM σ), 0, 0)) rfl trivial ?_
  obtain ⟨q10, hc10, hm⟩ := of_bind hm
  refine MW_callS0 C okX12_isSiding 8 rfl (v0 := some (.int q10)) (c_m_in ((x1 : Int32).toInt64) 0 ((((gI σ 4) - 1) : Int32).toInt64) q10 hc10) lkX12_121 3 dpX12_in (by decide) (rest := []) rfl rfl rfl rfl rfl ?_
  obtain ⟨hz, hm⟩ := of_guard hm
  obtain rfl := Option.some.inj hm
  exact MW_zret C okX12_isSiding hq 9 rfl hz hp
theorem c_m_isSiding (σ : MS) (x1 : Int32) (out : Int32) (hm : m_isSiding σ x1 = some out) : CT yX12_isSiding cX12_isSiding 2 (some .boolean) 1 25 0 0 [.ref 0, .int x1] (hM σ) (fun v h => v = (some (.int out)) ∧ h = (hM σ)) :=
  CT_of (by decide +kernel) (vs0 := [some (.ref 0), some (.int x1)]) rfl rfl (fun X C hq => t_m_isSiding C hq σ x1 out hm ⟨rfl, rfl⟩)
/-! X12_siding -/
def m_siding (σ : MS) (x1 : Int32) (x2 : Int32) : Option (Int32) :=
  (m_isSiding σ x1).bind fun q2 =>
    if q2 = 0 then
      some (-1)
    else
      if x2 = 0 then
        if inb x1 4 then
          some (gA σ 1 x1)
        else none
      else if x2 = 1 then
        if inb x1 4 then
          some (gA σ 2 x1)
        else none
      else if x2 = 2 then
        if inb x1 4 then
          some (gA σ 3 x1)
        else none
      else
        some (-2)
set_option maxRecDepth 100000 in
set_option maxHeartbeats 1000000 in
theorem t_m_siding {X : CTX} {K : Option Value → AH → Prop} (C : CX X cX12_siding yX12_siding.cls (decide (yX12_siding.name = "<init>")) 2 46) (hq : RQ X (some .int) K) (σ : MS) (x1 : Int32) (x2 : Int32) (out : Int32) (hm : m_siding σ x1 x2 = some out) (hp : K (some (.int out)) (hM σ)) : MW X (0, [some (.ref 0), some (.int x1), some (.int x2)], [], (hM σ), 0, 0) := by
  unfold m_siding at hm
  refine MW_run C okX12_siding 0 2 (gs := []) (cf' := (2, [some (.ref 0), some (.int x1), some (.int x2)], [.int x1, .ref 0], (hM σ), 0, 0)) rfl trivial ?_
  obtain ⟨q2, hc2, hm⟩ := of_bind hm
  refine MW_callV0 C okX12_siding 2 rfl (v0 := some (.int q2)) (h0 := (hM σ)) (c_m_isSiding σ x1 q2 hc2) lkX12_143 1 dpX12_isSiding (by decide) (rest := []) rfl rfl rfl rfl rfl rfl rfl rfl ?_
  obtain ⟨hmt5, hmf5⟩ := of_if hm
  refine MW_brF C okX12_siding 3 rfl rfl (fun hb5 => ?_) (fun hb5 => ?_)
  · have hm := hmt5 hb5
    refine MW_run C okX12_siding 4 1 (gs := []) (cf' := (9, [some (.ref 0), some (.int x1), some (.int x2)], [.int (-1)], (hM σ), 0, 0)) rfl trivial ?_
    obtain rfl := Option.some.inj hm
    exact MW_iret C okX12_siding hq 5 rfl hp
  · have hm := hmf5 hb5
    refine MW_run C okX12_siding 6 1 (gs := []) (cf' := (11, [some (.ref 0), some (.int x1), some (.int x2)], [.int x2], (hM σ), 0, 0)) rfl trivial ?_
    refine MW_tsw C okX12_siding 7 rfl (tgts := [36, 43, 50]) (dt := 57) (by decide) (fun j t hj hx => ?_) (fun hx => ?_)
    · match j, hj with
      | 0, hj =>
        cases hj
        have hm := (of_if hm).1 (by rw [hx]; rfl)
        obtain ⟨hg42, hm⟩ := of_guard hm
        refine MW_run C okX12_siding 8 4 (gs := [inb x1 4]) (cf' := (42, [some (.ref 0), some (.int x1), some (.int x2)], [.int (gA σ 1 x1)], (hM σ), 0, 0)) rfl hg42 ?_
        obtain rfl := Option.some.inj hm
        exact MW_iret C okX12_siding hq 12 rfl hp
      | 1, hj =>
        cases hj
        have hm := (of_if hm).2 (by rw [hx]; decide)
        have hm := (of_if hm).1 (by rw [hx]; rfl)
        obtain ⟨hg49, hm⟩ := of_guard hm
        refine MW_run C okX12_siding 13 4 (gs := [inb x1 4]) (cf' := (49, [some (.ref 0), some (.int x1), some (.int x2)], [.int (gA σ 2 x1)], (hM σ), 0, 0)) rfl hg49 ?_
        obtain rfl := Option.some.inj hm
        exact MW_iret C okX12_siding hq 17 rfl hp
      | 2, hj =>
        cases hj
        have hm := (of_if hm).2 (by rw [hx]; decide)
        have hm := (of_if hm).2 (by rw [hx]; decide)
        have hm := (of_if hm).1 (by rw [hx]; rfl)
        obtain ⟨hg56, hm⟩ := of_guard hm
        refine MW_run C okX12_siding 18 4 (gs := [inb x1 4]) (cf' := (56, [some (.ref 0), some (.int x1), some (.int x2)], [.int (gA σ 3 x1)], (hM σ), 0, 0)) rfl hg56 ?_
        obtain rfl := Option.some.inj hm
        exact MW_iret C okX12_siding hq 22 rfl hp
      | j + 3, hj => simp at hj
    · skip
      have hm := (of_if hm).2 (hx 0 (by decide))
      have hm := (of_if hm).2 (hx 1 (by decide))
      have hm := (of_if hm).2 (hx 2 (by decide))
      refine MW_run C okX12_siding 23 1 (gs := []) (cf' := (59, [some (.ref 0), some (.int x1), some (.int x2)], [.int (-2)], (hM σ), 0, 0)) rfl trivial ?_
      obtain rfl := Option.some.inj hm
      exact MW_iret C okX12_siding hq 24 rfl hp
theorem c_m_siding (σ : MS) (x1 : Int32) (x2 : Int32) (out : Int32) (hm : m_siding σ x1 x2 = some out) : CT yX12_siding cX12_siding 3 (some .int) 2 46 0 0 [.ref 0, .int x1, .int x2] (hM σ) (fun v h => v = (some (.int out)) ∧ h = (hM σ)) :=
  CT_of (by decide +kernel) (vs0 := [some (.ref 0), some (.int x1), some (.int x2)]) rfl rfl (fun X C hq => t_m_siding C hq σ x1 x2 out hm ⟨rfl, rfl⟩)
/-! X12_goes -/
def m_goes_L57 : Nat → MS → Int32 → Int32 → Int32 → Option (Int32)
  | 0, _, _, _, _ => none
  | n + 1, σ, x4, x5, x6 =>
    if x6 < x4 then
      if x5 = 0 then
        some x5
      else
        if inb x6 3 then
          if (gA σ 4 x6) = 1 then
            m_goes_L57 n σ x4 1 (x6 + 1)
          else
            m_goes_L57 n σ x4 0 (x6 + 1)
        else none
    else
      some x5
set_option maxRecDepth 100000 in
set_option maxHeartbeats 1000000 in
theorem l_m_goes_57 {X : CTX} {K : Option Value → AH → Prop} (C : CX X cX12_goes yX12_goes.cls (decide (yX12_goes.name = "<init>")) 0 0) (hq : RQ X (some .boolean) K) : ∀ (n : Nat) (σ : MS) (x4 : Int32) (x5 : Int32) (x6 : Int32) (out : Int32) (hm : m_goes_L57 n σ x4 x5 x6 = some out) (hp : MW X (93, [none, none, none, none, none, some (.int out), none], [], (hM σ), 0, 0)), MW X (57, [some (.ref 0), none, none, none, some (.int x4), some (.int x5), some (.int x6)], [], (hM σ), 0, 0) := by
  intro n
  induction n with
  | zero => intro σ x4 x5 x6 out hm hp; rw [m_goes_L57] at hm; cases hm
  | succ n ih =>
    intro σ x4 x5 x6 out hm hp
    rw [m_goes_L57] at hm
    refine MW_run C okX12_goes 35 2 (gs := []) (cf' := (61, [some (.ref 0), none, none, none, some (.int x4), some (.int x5), some (.int x6)], [.int x4, .int x6], (hM σ), 0, 0)) rfl trivial ?_
    obtain ⟨hmt61, hmf61⟩ := of_if hm
    refine MW_brF C okX12_goes 37 rfl rfl (fun hb61 => ?_) (fun hb61 => ?_)
    · have hm := hmt61 hb61
      refine MW_run C okX12_goes 38 1 (gs := []) (cf' := (66, [some (.ref 0), none, none, none, some (.int x4), some (.int x5), some (.int x6)], [.int x5], (hM σ), 0, 0)) rfl trivial ?_
      obtain ⟨hmt66, hmf66⟩ := of_if hm
      refine MW_brT C okX12_goes 39 rfl rfl (fun hb66 => ?_) (fun hb66 => ?_)
      · have hm := hmt66 hb66
        obtain rfl := Option.some.inj hm
        refine MW_pick [false, true, true, true, false, true, false] rfl (vs' := [none, none, none, none, none, some (.int x5), none]) rfl ?_
        exact hp
      · have hm := hmf66 hb66
        obtain ⟨hg77, hm⟩ := of_guard hm
        refine MW_run C okX12_goes 40 5 (gs := [inb x6 3]) (cf' := (77, [some (.ref 0), none, none, none, some (.int x4), some (.int x5), some (.int x6)], [.int 1, .int (gA σ 4 x6)], (hM σ), 0, 0)) rfl hg77 ?_
        obtain ⟨hmt77, hmf77⟩ := of_if hm
        refine MW_brF C okX12_goes 45 rfl rfl (fun hb77 => ?_) (fun hb77 => ?_)
        · have hm := hmt77 hb77
          refine MW_run C okX12_goes 46 2 (gs := []) (cf' := (85, [some (.ref 0), none, none, none, some (.int x4), some (.int x5), some (.int x6)], [.int 1], (hM σ), 0, 0)) rfl trivial ?_
          refine MW_run C okX12_goes 49 3 (gs := []) (cf' := (57, [some (.ref 0), none, none, none, some (.int x4), some (.int 1), some (.int (x6 + 1))], [], (hM σ), 0, 0)) rfl trivial ?_
          exact ih σ x4 1 (x6 + 1) _ hm hp
        · have hm := hmf77 hb77
          refine MW_run C okX12_goes 48 1 (gs := []) (cf' := (85, [some (.ref 0), none, none, none, some (.int x4), some (.int x5), some (.int x6)], [.int 0], (hM σ), 0, 0)) rfl trivial ?_
          refine MW_run C okX12_goes 49 3 (gs := []) (cf' := (57, [some (.ref 0), none, none, none, some (.int x4), some (.int 0), some (.int (x6 + 1))], [], (hM σ), 0, 0)) rfl trivial ?_
          exact ih σ x4 0 (x6 + 1) _ hm hp
    · have hm := hmf61 hb61
      obtain rfl := Option.some.inj hm
      refine MW_pick [false, true, true, true, false, true, false] rfl (vs' := [none, none, none, none, none, some (.int x5), none]) rfl ?_
      exact hp
def m_goes_J39 (σ : MS) (x3 : Int32) (w0 : Int32) : Option (Int32) :=
  if w0 < x3 then
    (m_goes_L57 N0 σ w0 0 x3).bind fun q57 =>
      if isZ q57 then some q57 else none
  else
    (m_goes_L57 N0 σ w0 1 x3).bind fun q57 =>
      if isZ q57 then some q57 else none
set_option maxRecDepth 100000 in
set_option maxHeartbeats 1000000 in
theorem j_m_goes_39 {X : CTX} {K : Option Value → AH → Prop} (C : CX X cX12_goes yX12_goes.cls (decide (yX12_goes.name = "<init>")) 0 0) (hq : RQ X (some .boolean) K) (σ : MS) (x3 : Int32) (w0 : Int32) (out : Int32) (hm : m_goes_J39 σ x3 w0 = some out) (hp : K (some (.int out)) (hM σ)) : MW X (39, [some (.ref 0), none, none, some (.int x3), none, none, none], [.int w0], (hM σ), 0, 0) := by
  unfold m_goes_J39 at hm
  refine MW_run C okX12_goes 25 3 (gs := []) (cf' := (44, [some (.ref 0), none, none, some (.int x3), some (.int w0), none, none], [.int w0, .int x3], (hM σ), 0, 0)) rfl trivial ?_
  obtain ⟨hmt44, hmf44⟩ := of_if hm
  refine MW_brT C okX12_goes 28 rfl rfl (fun hb44 => ?_) (fun hb44 => ?_)
  · have hm := hmt44 hb44
    refine MW_run C okX12_goes 31 1 (gs := []) (cf' := (52, [some (.ref 0), none, none, some (.int x3), some (.int w0), none, none], [.int 0], (hM σ), 0, 0)) rfl trivial ?_
    refine MW_run C okX12_goes 32 3 (gs := []) (cf' := (57, [some (.ref 0), none, none, some (.int x3), some (.int w0), some (.int 0), some (.int x3)], [], (hM σ), 0, 0)) rfl trivial ?_
    obtain ⟨q57, hc57, hm⟩ := of_bind hm
    refine MW_pick [true, true, true, false, true, true, true] rfl (vs' := [some (.ref 0), none, none, none, some (.int w0), some (.int 0), some (.int x3)]) rfl ?_
    refine l_m_goes_57 C hq N0 σ w0 0 x3 q57 hc57 ?_
    refine MW_run C okX12_goes 52 1 (gs := []) (cf' := (95, [none, none, none, none, none, some (.int q57), none], [.int q57], (hM σ), 0, 0)) rfl trivial ?_
    obtain ⟨hz, hm⟩ := of_guard hm
    obtain rfl := Option.some.inj hm
    exact MW_zret C okX12_goes hq 53 rfl hz hp
  · have hm := hmf44 hb44
    refine MW_run C okX12_goes 29 2 (gs := []) (cf' := (52, [some (.ref 0), none, none, some (.int x3), some (.int w0), none, none], [.int 1], (hM σ), 0, 0)) rfl trivial ?_
    refine MW_run C okX12_goes 32 3 (gs := []) (cf' := (57, [some (.ref 0), none, none, some (.int x3), some (.int w0), some (.int 1), some (.int x3)], [], (hM σ), 0, 0)) rfl trivial ?_
    obtain ⟨q57, hc57, hm⟩ := of_bind hm
    refine MW_pick [true, true, true, false, true, true, true] rfl (vs' := [some (.ref 0), none, none, none, some (.int w0), some (.int 1), some (.int x3)]) rfl ?_
    refine l_m_goes_57 C hq N0 σ w0 1 x3 q57 hc57 ?_
    refine MW_run C okX12_goes 52 1 (gs := []) (cf' := (95, [none, none, none, none, none, some (.int q57), none], [.int q57], (hM σ), 0, 0)) rfl trivial ?_
    obtain ⟨hz, hm⟩ := of_guard hm
    obtain rfl := Option.some.inj hm
    exact MW_zret C okX12_goes hq 53 rfl hz hp
def m_goes_J18 (σ : MS) (x2 : Int32) (w0 : Int32) : Option (Int32) :=
  if x2 = 5 then
    m_goes_J39 σ w0 (gI σ 5)
  else
    if inb (x2 - 1) 4 then
      m_goes_J39 σ w0 (gA σ 3 (x2 - 1))
    else none
set_option maxRecDepth 100000 in
set_option maxHeartbeats 1000000 in
theorem j_m_goes_18 {X : CTX} {K : Option Value → AH → Prop} (C : CX X cX12_goes yX12_goes.cls (decide (yX12_goes.name = "<init>")) 0 0) (hq : RQ X (some .boolean) K) (σ : MS) (x2 : Int32) (w0 : Int32) (out : Int32) (hm : m_goes_J18 σ x2 w0 = some out) (hp : K (some (.int out)) (hM σ)) : MW X (18, [some (.ref 0), none, some (.int x2), none, none, none, none], [.int w0], (hM σ), 0, 0) := by
  unfold m_goes_J18 at hm
  refine MW_run C okX12_goes 12 3 (gs := []) (cf' := (21, [some (.ref 0), none, some (.int x2), some (.int w0), none, none, none], [.int 5, .int x2], (hM σ), 0, 0)) rfl trivial ?_
  obtain ⟨hmt21, hmf21⟩ := of_if hm
  refine MW_brF C okX12_goes 15 rfl rfl (fun hb21 => ?_) (fun hb21 => ?_)
  · have hm := hmt21 hb21
    refine MW_run C okX12_goes 16 3 (gs := []) (cf' := (39, [some (.ref 0), none, some (.int x2), some (.int w0), none, none, none], [.int (gI σ 5)], (hM σ), 0, 0)) rfl trivial ?_
    refine MW_pick [true, true, false, true, true, true, true] rfl (vs' := [some (.ref 0), none, none, some (.int w0), none, none, none]) rfl ?_
    exact j_m_goes_39 C hq σ w0 (gI σ 5) _ hm hp
  · have hm := hmf21 hb21
    obtain ⟨hg39, hm⟩ := of_guard hm
    refine MW_run C okX12_goes 19 6 (gs := [inb (x2 - 1) 4]) (cf' := (39, [some (.ref 0), none, some (.int x2), some (.int w0), none, none, none], [.int (gA σ 3 (x2 - 1))], (hM σ), 0, 0)) rfl hg39 ?_
    refine MW_pick [true, true, false, true, true, true, true] rfl (vs' := [some (.ref 0), none, none, some (.int w0), none, none, none]) rfl ?_
    exact j_m_goes_39 C hq σ w0 (gA σ 3 (x2 - 1)) _ hm hp
def m_goes (σ : MS) (x1 : Int32) (x2 : Int32) : Option (Int32) :=
  if x1 = 0 then
    m_goes_J18 σ x2 0
  else
    if inb (x1 - 1) 4 then
      m_goes_J18 σ x2 ((gA σ 3 (x1 - 1)) + 1)
    else none
set_option maxRecDepth 100000 in
set_option maxHeartbeats 1000000 in
theorem t_m_goes {X : CTX} {K : Option Value → AH → Prop} (C : CX X cX12_goes yX12_goes.cls (decide (yX12_goes.name = "<init>")) 0 0) (hq : RQ X (some .boolean) K) (σ : MS) (x1 : Int32) (x2 : Int32) (out : Int32) (hm : m_goes σ x1 x2 = some out) (hp : K (some (.int out)) (hM σ)) : MW X (0, [some (.ref 0), some (.int x1), some (.int x2), none, none, none, none], [], (hM σ), 0, 0) := by
  unfold m_goes at hm
  refine MW_run C okX12_goes 0 1 (gs := []) (cf' := (1, [some (.ref 0), some (.int x1), some (.int x2), none, none, none, none], [.int x1], (hM σ), 0, 0)) rfl trivial ?_
  obtain ⟨hmt1, hmf1⟩ := of_if hm
  refine MW_brF C okX12_goes 1 rfl rfl (fun hb1 => ?_) (fun hb1 => ?_)
  · have hm := hmt1 hb1
    refine MW_run C okX12_goes 2 2 (gs := []) (cf' := (18, [some (.ref 0), some (.int x1), some (.int x2), none, none, none, none], [.int 0], (hM σ), 0, 0)) rfl trivial ?_
    refine MW_pick [true, false, true, true, true, true, true] rfl (vs' := [some (.ref 0), none, some (.int x2), none, none, none, none]) rfl ?_
    exact j_m_goes_18 C hq σ x2 0 _ hm hp
  · have hm := hmf1 hb1
    obtain ⟨hg18, hm⟩ := of_guard hm
    refine MW_run C okX12_goes 4 8 (gs := [inb (x1 - 1) 4]) (cf' := (18, [some (.ref 0), some (.int x1), some (.int x2), none, none, none, none], [.int ((gA σ 3 (x1 - 1)) + 1)], (hM σ), 0, 0)) rfl hg18 ?_
    refine MW_pick [true, false, true, true, true, true, true] rfl (vs' := [some (.ref 0), none, some (.int x2), none, none, none, none]) rfl ?_
    exact j_m_goes_18 C hq σ x2 ((gA σ 3 (x1 - 1)) + 1) _ hm hp
theorem c_m_goes (σ : MS) (x1 : Int32) (x2 : Int32) (out : Int32) (hm : m_goes σ x1 x2 = some out) : CT yX12_goes cX12_goes 7 (some .boolean) 0 0 0 0 [.ref 0, .int x1, .int x2] (hM σ) (fun v h => v = (some (.int out)) ∧ h = (hM σ)) :=
  CT_of (by decide +kernel) (vs0 := [some (.ref 0), some (.int x1), some (.int x2), none, none, none, none]) rfl rfl (fun X C hq => t_m_goes C hq σ x1 x2 out hm ⟨rfl, rfl⟩)
/-! X12_leads -/
def m_leads_J46 (σ : MS) (x1 : Int32) (x2 : Int32) : Option (Int32) :=
  (m_in ((x1 : Int32).toInt64) 0 4).bind fun q52 =>
    if q52 = 0 then
      some (-2)
    else
      (m_in ((x2 : Int32).toInt64) 1 5).bind fun q64 =>
        if q64 = 0 then
          some (-2)
        else
          (m_goes σ x1 x2).bind fun q76 =>
            if q76 = 0 then
              some 0
            else
              some 1
set_option maxRecDepth 100000 in
set_option maxHeartbeats 1000000 in
theorem j_m_leads_46 {X : CTX} {K : Option Value → AH → Prop} (C : CX X cX12_leads yX12_leads.cls (decide (yX12_leads.name = "<init>")) 2 46) (hq : RQ X (some .int) K) (σ : MS) (x1 : Int32) (x2 : Int32) (out : Int32) (hm : m_leads_J46 σ x1 x2 = some out) (hp : K (some (.int out)) (hM σ)) : MW X (46, [some (.ref 0), some (.int x1), some (.int x2)], [], (hM σ), 0, 0) := by
  unfold m_leads_J46 at hm
  refine MW_run C okX12_leads 26 4 (gs := []) (cf' := (52, [some (.ref 0), some (.int x1), some (.int x2)], [.long 4, .long 0, .long ((x1 : Int32).toInt64)], (hM σ), 0, 0)) rfl trivial ?_
  obtain ⟨q52, hc52, hm⟩ := of_bind hm
  refine MW_callS0 C okX12_leads 30 rfl (v0 := some (.int q52)) (c_m_in ((x1 : Int32).toInt64) 0 4 q52 hc52) lkX12_121 3 dpX12_in (by decide) (rest := []) rfl rfl rfl rfl rfl ?_
  obtain ⟨hmt55, hmf55⟩ := of_if hm
  refine MW_brT C okX12_leads 31 rfl rfl (fun hb55 => ?_) (fun hb55 => ?_)
  · have hm := hmt55 hb55
    refine MW_run C okX12_leads 38 1 (gs := []) (cf' := (72, [some (.ref 0), some (.int x1), some (.int x2)], [.int (-2)], (hM σ), 0, 0)) rfl trivial ?_
    obtain rfl := Option.some.inj hm
    exact MW_iret C okX12_leads hq 39 rfl hp
  · have hm := hmf55 hb55
    refine MW_run C okX12_leads 32 4 (gs := []) (cf' := (64, [some (.ref 0), some (.int x1), some (.int x2)], [.long 5, .long 1, .long ((x2 : Int32).toInt64)], (hM σ), 0, 0)) rfl trivial ?_
    obtain ⟨q64, hc64, hm⟩ := of_bind hm
    refine MW_callS0 C okX12_leads 36 rfl (v0 := some (.int q64)) (c_m_in ((x2 : Int32).toInt64) 1 5 q64 hc64) lkX12_121 3 dpX12_in (by decide) (rest := []) rfl rfl rfl rfl rfl ?_
    obtain ⟨hmt67, hmf67⟩ := of_if hm
    refine MW_brF C okX12_leads 37 rfl rfl (fun hb67 => ?_) (fun hb67 => ?_)
    · have hm := hmt67 hb67
      refine MW_run C okX12_leads 38 1 (gs := []) (cf' := (72, [some (.ref 0), some (.int x1), some (.int x2)], [.int (-2)], (hM σ), 0, 0)) rfl trivial ?_
      obtain rfl := Option.some.inj hm
      exact MW_iret C okX12_leads hq 39 rfl hp
    · have hm := hmf67 hb67
      refine MW_run C okX12_leads 40 3 (gs := []) (cf' := (76, [some (.ref 0), some (.int x1), some (.int x2)], [.int x2, .int x1, .ref 0], (hM σ), 0, 0)) rfl trivial ?_
      obtain ⟨q76, hc76, hm⟩ := of_bind hm
      refine MW_callV0 C okX12_leads 43 rfl (v0 := some (.int q76)) (h0 := (hM σ)) (c_m_goes σ x1 x2 q76 hc76) lkX12_150 2 dpX12_goes (by decide) (rest := []) rfl rfl rfl rfl rfl rfl rfl rfl ?_
      obtain ⟨hmt79, hmf79⟩ := of_if hm
      refine MW_brT C okX12_leads 44 rfl rfl (fun hb79 => ?_) (fun hb79 => ?_)
      · have hm := hmt79 hb79
        refine MW_run C okX12_leads 47 1 (gs := []) (cf' := (87, [some (.ref 0), some (.int x1), some (.int x2)], [.int 0], (hM σ), 0, 0)) rfl trivial ?_
        obtain rfl := Option.some.inj hm
        exact MW_iret C okX12_leads hq 48 rfl hp
      · have hm := hmf79 hb79
        refine MW_run C okX12_leads 45 2 (gs := []) (cf' := (87, [some (.ref 0), some (.int x1), some (.int x2)], [.int 1], (hM σ), 0, 0)) rfl trivial ?_
        obtain rfl := Option.some.inj hm
        exact MW_iret C okX12_leads hq 48 rfl hp
def m_leads_J22 (σ : MS) (x1 : Int32) (x2 : Int32) : Option (Int32) :=
  (m_in ((x2 : Int32).toInt64) 1 4).bind fun q28 =>
    if q28 = 0 then
      m_leads_J46 σ x1 x2
    else
      (m_isSiding σ (x2 - 1)).bind fun q38 =>
        if q38 = 0 then
          some (-1)
        else
          m_leads_J46 σ x1 x2
set_option maxRecDepth 100000 in
set_option maxHeartbeats 1000000 in
theorem j_m_leads_22 {X : CTX} {K : Option Value → AH → Prop} (C : CX X cX12_leads yX12_leads.cls (decide (yX12_leads.name = "<init>")) 2 46) (hq : RQ X (some .int) K) (σ : MS) (x1 : Int32) (x2 : Int32) (out : Int32) (hm : m_leads_J22 σ x1 x2 = some out) (hp : K (some (.int out)) (hM σ)) : MW X (22, [some (.ref 0), some (.int x1), some (.int x2)], [], (hM σ), 0, 0) := by
  unfold m_leads_J22 at hm
  refine MW_run C okX12_leads 12 4 (gs := []) (cf' := (28, [some (.ref 0), some (.int x1), some (.int x2)], [.long 4, .long 1, .long ((x2 : Int32).toInt64)], (hM σ), 0, 0)) rfl trivial ?_
  obtain ⟨q28, hc28, hm⟩ := of_bind hm
  refine MW_callS0 C okX12_leads 16 rfl (v0 := some (.int q28)) (c_m_in ((x2 : Int32).toInt64) 1 4 q28 hc28) lkX12_121 3 dpX12_in (by decide) (rest := []) rfl rfl rfl rfl rfl ?_
  obtain ⟨hmt31, hmf31⟩ := of_if hm
  refine MW_brT C okX12_leads 17 rfl rfl (fun hb31 => ?_) (fun hb31 => ?_)
  · have hm := hmt31 hb31
    exact j_m_leads_46 C hq σ x1 x2 _ hm hp
  · have hm := hmf31 hb31
    refine MW_run C okX12_leads 18 4 (gs := []) (cf' := (38, [some (.ref 0), some (.int x1), some (.int x2)], [.int (x2 - 1), .ref 0], (hM σ), 0, 0)) rfl trivial ?_
    obtain ⟨q38, hc38, hm⟩ := of_bind hm
    refine MW_callV0 C okX12_leads 22 rfl (v0 := some (.int q38)) (h0 := (hM σ)) (c_m_isSiding σ (x2 - 1) q38 hc38) lkX12_143 1 dpX12_isSiding (by decide) (rest := []) rfl rfl rfl rfl rfl rfl rfl rfl ?_
    obtain ⟨hmt41, hmf41⟩ := of_if hm
    refine MW_brF C okX12_leads 23 rfl rfl (fun hb41 => ?_) (fun hb41 => ?_)
    · have hm := hmt41 hb41
      refine MW_run C okX12_leads 24 1 (gs := []) (cf' := (45, [some (.ref 0), some (.int x1), some (.int x2)], [.int (-1)], (hM σ), 0, 0)) rfl trivial ?_
      obtain rfl := Option.some.inj hm
      exact MW_iret C okX12_leads hq 25 rfl hp
    · have hm := hmf41 hb41
      exact j_m_leads_46 C hq σ x1 x2 _ hm hp
def m_leads (σ : MS) (x1 : Int32) (x2 : Int32) : Option (Int32) :=
  (m_in ((x1 : Int32).toInt64) 1 4).bind fun q6 =>
    if q6 = 0 then
      m_leads_J22 σ x1 x2
    else
      (m_isSiding σ (x1 - 1)).bind fun q16 =>
        if q16 = 0 then
          some (-1)
        else
          m_leads_J22 σ x1 x2
set_option maxRecDepth 100000 in
set_option maxHeartbeats 1000000 in
theorem t_m_leads {X : CTX} {K : Option Value → AH → Prop} (C : CX X cX12_leads yX12_leads.cls (decide (yX12_leads.name = "<init>")) 2 46) (hq : RQ X (some .int) K) (σ : MS) (x1 : Int32) (x2 : Int32) (out : Int32) (hm : m_leads σ x1 x2 = some out) (hp : K (some (.int out)) (hM σ)) : MW X (0, [some (.ref 0), some (.int x1), some (.int x2)], [], (hM σ), 0, 0) := by
  unfold m_leads at hm
  refine MW_run C okX12_leads 0 4 (gs := []) (cf' := (6, [some (.ref 0), some (.int x1), some (.int x2)], [.long 4, .long 1, .long ((x1 : Int32).toInt64)], (hM σ), 0, 0)) rfl trivial ?_
  obtain ⟨q6, hc6, hm⟩ := of_bind hm
  refine MW_callS0 C okX12_leads 4 rfl (v0 := some (.int q6)) (c_m_in ((x1 : Int32).toInt64) 1 4 q6 hc6) lkX12_121 3 dpX12_in (by decide) (rest := []) rfl rfl rfl rfl rfl ?_
  obtain ⟨hmt9, hmf9⟩ := of_if hm
  refine MW_brT C okX12_leads 5 rfl rfl (fun hb9 => ?_) (fun hb9 => ?_)
  · have hm := hmt9 hb9
    exact j_m_leads_22 C hq σ x1 x2 _ hm hp
  · have hm := hmf9 hb9
    refine MW_run C okX12_leads 6 4 (gs := []) (cf' := (16, [some (.ref 0), some (.int x1), some (.int x2)], [.int (x1 - 1), .ref 0], (hM σ), 0, 0)) rfl trivial ?_
    obtain ⟨q16, hc16, hm⟩ := of_bind hm
    refine MW_callV0 C okX12_leads 10 rfl (v0 := some (.int q16)) (h0 := (hM σ)) (c_m_isSiding σ (x1 - 1) q16 hc16) lkX12_143 1 dpX12_isSiding (by decide) (rest := []) rfl rfl rfl rfl rfl rfl rfl rfl ?_
    obtain ⟨hmt19, hmf19⟩ := of_if hm
    refine MW_brT C okX12_leads 11 rfl rfl (fun hb19 => ?_) (fun hb19 => ?_)
    · have hm := hmt19 hb19
      refine MW_run C okX12_leads 24 1 (gs := []) (cf' := (45, [some (.ref 0), some (.int x1), some (.int x2)], [.int (-1)], (hM σ), 0, 0)) rfl trivial ?_
      obtain rfl := Option.some.inj hm
      exact MW_iret C okX12_leads hq 25 rfl hp
    · have hm := hmf19 hb19
      exact j_m_leads_22 C hq σ x1 x2 _ hm hp
theorem c_m_leads (σ : MS) (x1 : Int32) (x2 : Int32) (out : Int32) (hm : m_leads σ x1 x2 = some out) : CT yX12_leads cX12_leads 3 (some .int) 2 46 0 0 [.ref 0, .int x1, .int x2] (hM σ) (fun v h => v = (some (.int out)) ∧ h = (hM σ)) :=
  CT_of (by decide +kernel) (vs0 := [some (.ref 0), some (.int x1), some (.int x2)]) rfl rfl (fun X C hq => t_m_leads C hq σ x1 x2 out hm ⟨rfl, rfl⟩)
/-! X12_putNear -/
def m_putNear_L7 : Nat → MS → Int32 → Int32 → Int32 → Option (MS)
  | 0, _, _, _, _ => none
  | n + 1, σ, x1, x2, x3 =>
    if (0 : Int32) < x3 then
      if inb ((((5 : Int32) * x1) + x3) - 1) 25 ∧ inb (((5 : Int32) * x1) + x3) 25 then
        m_putNear_L7 n (sA σ 10 (((5 : Int32) * x1) + x3) (gA σ 10 ((((5 : Int32) * x1) + x3) - 1))) x1 x2 (x3 + (-1))
      else none
    else
      some σ
set_option maxRecDepth 100000 in
set_option maxHeartbeats 1000000 in
theorem l_m_putNear_7 {X : CTX} {K : Option Value → AH → Prop} (C : CX X cX12_putNear yX12_putNear.cls (decide (yX12_putNear.name = "<init>")) 0 0) (hq : RQ X none K) : ∀ (n : Nat) (σ : MS) (x1 : Int32) (x2 : Int32) (x3 : Int32) (out : MS) (hm : m_putNear_L7 n σ x1 x2 x3 = some out) (hp : MW X (39, [some (.ref 0), some (.int x1), some (.int x2), none], [], (hM out), 0, 0)), MW X (7, [some (.ref 0), some (.int x1), some (.int x2), some (.int x3)], [], (hM σ), 0, 0) := by
  intro n
  induction n with
  | zero => intro σ x1 x2 x3 out hm hp; rw [m_putNear_L7] at hm; cases hm
  | succ n ih =>
    intro σ x1 x2 x3 out hm hp
    rw [m_putNear_L7] at hm
    refine MW_run C okX12_putNear 5 1 (gs := []) (cf' := (8, [some (.ref 0), some (.int x1), some (.int x2), some (.int x3)], [.int x3], (hM σ), 0, 0)) rfl trivial ?_
    obtain ⟨hmt8, hmf8⟩ := of_if hm
    refine MW_brF C okX12_putNear 6 rfl rfl (fun hb8 => ?_) (fun hb8 => ?_)
    · have hm := hmt8 hb8
      obtain ⟨hg7, hm⟩ := of_guard hm
      refine MW_run C okX12_putNear 7 20 (gs := [inb ((((5 : Int32) * x1) + x3) - 1) 25, inb (((5 : Int32) * x1) + x3) 25]) (cf' := (7, [some (.ref 0), some (.int x1), some (.int x2), some (.int (x3 + (-1)))], [], (hM (sA σ 10 (((5 : Int32) * x1) + x3) (gA σ 10 ((((5 : Int32) * x1) + x3) - 1)))), 0, 0)) rfl ⟨hg7.1, hg7.2⟩ ?_
      exact ih (sA σ 10 (((5 : Int32) * x1) + x3) (gA σ 10 ((((5 : Int32) * x1) + x3) - 1))) x1 x2 (x3 + (-1)) _ hm hp
    · have hm := hmf8 hb8
      obtain rfl := Option.some.inj hm
      refine MW_pick [true, true, true, false] rfl (vs' := [some (.ref 0), some (.int x1), some (.int x2), none]) rfl ?_
      exact hp
def m_putNear (σ : MS) (x1 : Int32) (x2 : Int32) : Option (MS) :=
  if inb x1 5 then
    (m_putNear_L7 N0 σ x1 x2 (gA σ 11 x1)).bind fun q7 =>
      if inb ((5 : Int32) * x1) 25 ∧ inb x1 5 ∧ inb x1 5 then
        some (sA (sA q7 10 ((5 : Int32) * x1) x2) 11 x1 ((gA q7 11 x1) + 1))
      else none
  else none
set_option maxRecDepth 100000 in
set_option maxHeartbeats 1000000 in
theorem t_m_putNear {X : CTX} {K : Option Value → AH → Prop} (C : CX X cX12_putNear yX12_putNear.cls (decide (yX12_putNear.name = "<init>")) 0 0) (hq : RQ X none K) (σ : MS) (x1 : Int32) (x2 : Int32) (out : MS) (hm : m_putNear σ x1 x2 = some out) (hp : K none (hM out)) : MW X (0, [some (.ref 0), some (.int x1), some (.int x2), none], [], (hM σ), 0, 0) := by
  unfold m_putNear at hm
  obtain ⟨hg7, hm⟩ := of_guard hm
  refine MW_run C okX12_putNear 0 5 (gs := [inb x1 5]) (cf' := (7, [some (.ref 0), some (.int x1), some (.int x2), some (.int (gA σ 11 x1))], [], (hM σ), 0, 0)) rfl hg7 ?_
  obtain ⟨q7, hc7, hm⟩ := of_bind hm
  refine l_m_putNear_7 C hq N0 σ x1 x2 (gA σ 11 x1) q7 hc7 ?_
  obtain ⟨hg58, hm⟩ := of_guard hm
  refine MW_run C okX12_putNear 27 15 (gs := [inb ((5 : Int32) * x1) 25, inb x1 5, inb x1 5]) (cf' := (58, [some (.ref 0), some (.int x1), some (.int x2), none], [], (hM (sA (sA q7 10 ((5 : Int32) * x1) x2) 11 x1 ((gA q7 11 x1) + 1))), 0, 0)) rfl ⟨hg58.1, hg58.2.1, hg58.2.2⟩ ?_
  obtain rfl := Option.some.inj hm
  exact MW_vret C okX12_putNear hq 42 rfl hp
theorem c_m_putNear (σ : MS) (x1 : Int32) (x2 : Int32) (out : MS) (hm : m_putNear σ x1 x2 = some out) : CT yX12_putNear cX12_putNear 4 none 0 0 0 0 [.ref 0, .int x1, .int x2] (hM σ) (fun v h => v = none ∧ h = (hM out)) :=
  CT_of (by decide +kernel) (vs0 := [some (.ref 0), some (.int x1), some (.int x2), none]) rfl rfl (fun X C hq => t_m_putNear C hq σ x1 x2 out hm ⟨rfl, rfl⟩)
/-! X12_decode -/
def m_decode_L2 : Nat → MS → Int32 → Int32 → Option (MS)
  | 0, _, _, _ => none
  | n + 1, σ, x1, x2 =>
    if x2 < 5 then
      if inb x2 5 then
        m_decode_L2 n (sA σ 11 x2 0) x1 (x2 + 1)
      else none
    else
      some σ
set_option maxRecDepth 100000 in
set_option maxHeartbeats 1000000 in
theorem l_m_decode_2 {X : CTX} {K : Option Value → AH → Prop} (C : CX X cX12_decode yX12_decode.cls (decide (yX12_decode.name = "<init>")) 1 23) (hq : RQ X none K) : ∀ (n : Nat) (σ : MS) (x1 : Int32) (x2 : Int32) (out : MS) (hm : m_decode_L2 n σ x1 x2 = some out) (hp : MW X (20, [some (.ref 0), some (.int x1), none, none, none], [], (hM out), 0, 0)), MW X (2, [some (.ref 0), some (.int x1), some (.int x2), none, none], [], (hM σ), 0, 0) := by
  intro n
  induction n with
  | zero => intro σ x1 x2 out hm hp; rw [m_decode_L2] at hm; cases hm
  | succ n ih =>
    intro σ x1 x2 out hm hp
    rw [m_decode_L2] at hm
    refine MW_run C okX12_decode 2 2 (gs := []) (cf' := (4, [some (.ref 0), some (.int x1), some (.int x2), none, none], [.int 5, .int x2], (hM σ), 0, 0)) rfl trivial ?_
    obtain ⟨hmt4, hmf4⟩ := of_if hm
    refine MW_brF C okX12_decode 4 rfl rfl (fun hb4 => ?_) (fun hb4 => ?_)
    · have hm := hmt4 hb4
      obtain ⟨hg2, hm⟩ := of_guard hm
      refine MW_run C okX12_decode 5 7 (gs := [inb x2 5]) (cf' := (2, [some (.ref 0), some (.int x1), some (.int (x2 + 1)), none, none], [], (hM (sA σ 11 x2 0)), 0, 0)) rfl hg2 ?_
      exact ih (sA σ 11 x2 0) x1 (x2 + 1) _ hm hp
    · have hm := hmf4 hb4
      obtain rfl := Option.some.inj hm
      refine MW_pick [true, true, false, true, true] rfl (vs' := [some (.ref 0), some (.int x1), none, none, none]) rfl ?_
      exact hp
def m_decode_L32 : Nat → MS → Int32 → Int32 → Option (MS)
  | 0, _, _, _ => none
  | n + 1, σ, x2, x3 =>
    if (0 : Int32) < x3 then
      if (irm x3 6) = 0 then
        m_decode_L32 n σ (x2 + (-1)) (x3 / 6)
      else
        (m_putNear σ x2 (irm x3 6)).bind fun q62 =>
          m_decode_L32 n (sI q62 16 ((gI q62 16) + 1)) x2 (x3 / 6)
    else
      some σ
set_option maxRecDepth 100000 in
set_option maxHeartbeats 1000000 in
theorem l_m_decode_32 {X : CTX} {K : Option Value → AH → Prop} (C : CX X cX12_decode yX12_decode.cls (decide (yX12_decode.name = "<init>")) 1 23) (hq : RQ X none K) : ∀ (n : Nat) (σ : MS) (x2 : Int32) (x3 : Int32) (out : MS) (hm : m_decode_L32 n σ x2 x3 = some out) (hp : MW X (78, [none, none, none, none, none], [], (hM out), 0, 0)), MW X (32, [some (.ref 0), none, some (.int x2), some (.int x3), none], [], (hM σ), 0, 0) := by
  intro n
  induction n with
  | zero => intro σ x2 x3 out hm hp; rw [m_decode_L32] at hm; cases hm
  | succ n ih =>
    intro σ x2 x3 out hm hp
    rw [m_decode_L32] at hm
    refine MW_run C okX12_decode 20 1 (gs := []) (cf' := (33, [some (.ref 0), none, some (.int x2), some (.int x3), none], [.int x3], (hM σ), 0, 0)) rfl trivial ?_
    obtain ⟨hmt33, hmf33⟩ := of_if hm
    refine MW_brF C okX12_decode 21 rfl rfl (fun hb33 => ?_) (fun hb33 => ?_)
    · have hm := hmt33 hb33
      refine MW_run C okX12_decode 22 9 (gs := [¬ (6 : Int32) = 0, ¬ (6 : Int32) = 0]) (cf' := (49, [some (.ref 0), none, some (.int x2), some (.int (x3 / 6)), some (.int (irm x3 6))], [.int (irm x3 6)], (hM σ), 0, 0)) rfl ⟨(show ¬ (6 : Int32) = 0 by decide), (show ¬ (6 : Int32) = 0 by decide)⟩ ?_
      obtain ⟨hmt49, hmf49⟩ := of_if hm
      refine MW_brF C okX12_decode 31 rfl rfl (fun hb49 => ?_) (fun hb49 => ?_)
      · have hm := hmt49 hb49
        refine MW_run C okX12_decode 32 2 (gs := []) (cf' := (75, [some (.ref 0), none, some (.int (x2 + (-1))), some (.int (x3 / 6)), some (.int (irm x3 6))], [], (hM σ), 0, 0)) rfl trivial ?_
        refine MW_run C okX12_decode 44 1 (gs := []) (cf' := (32, [some (.ref 0), none, some (.int (x2 + (-1))), some (.int (x3 / 6)), some (.int (irm x3 6))], [], (hM σ), 0, 0)) rfl trivial ?_
        refine MW_pick [true, true, true, true, false] rfl (vs' := [some (.ref 0), none, some (.int (x2 + (-1))), some (.int (x3 / 6)), none]) rfl ?_
        exact ih σ (x2 + (-1)) (x3 / 6) _ hm hp
      · have hm := hmf49 hb49
        refine MW_run C okX12_decode 34 3 (gs := []) (cf' := (62, [some (.ref 0), none, some (.int x2), some (.int (x3 / 6)), some (.int (irm x3 6))], [.int (irm x3 6), .int x2, .ref 0], (hM σ), 0, 0)) rfl trivial ?_
        obtain ⟨q62, hc62, hm⟩ := of_bind hm
        refine MW_callV0 C okX12_decode 37 rfl (v0 := none) (h0 := (hM q62)) (c_m_putNear σ x2 (irm x3 6) q62 hc62) lkX12_157 2 dpX12_putNear (by decide) (rest := []) rfl rfl rfl rfl rfl rfl rfl rfl ?_
        refine MW_run C okX12_decode 38 6 (gs := []) (cf' := (75, [some (.ref 0), none, some (.int x2), some (.int (x3 / 6)), some (.int (irm x3 6))], [], (hM (sI q62 16 ((gI q62 16) + 1))), 0, 0)) rfl trivial ?_
        refine MW_run C okX12_decode 44 1 (gs := []) (cf' := (32, [some (.ref 0), none, some (.int x2), some (.int (x3 / 6)), some (.int (irm x3 6))], [], (hM (sI q62 16 ((gI q62 16) + 1))), 0, 0)) rfl trivial ?_
        refine MW_pick [true, true, true, true, false] rfl (vs' := [some (.ref 0), none, some (.int x2), some (.int (x3 / 6)), none]) rfl ?_
        exact ih (sI q62 16 ((gI q62 16) + 1)) x2 (x3 / 6) _ hm hp
    · have hm := hmf33 hb33
      obtain rfl := Option.some.inj hm
      refine MW_pick [false, true, false, false, true] rfl (vs' := [none, none, none, none, none]) rfl ?_
      exact hp
def m_decode (σ : MS) (x1 : Int32) : Option (MS) :=
  (m_decode_L2 N0 σ x1 0).bind fun q2 =>
    (m_decode_L32 N0 (sI q2 16 0) (gI q2 4) x1).bind fun q32 =>
      some q32
set_option maxRecDepth 100000 in
set_option maxHeartbeats 1000000 in
theorem t_m_decode {X : CTX} {K : Option Value → AH → Prop} (C : CX X cX12_decode yX12_decode.cls (decide (yX12_decode.name = "<init>")) 1 23) (hq : RQ X none K) (σ : MS) (x1 : Int32) (out : MS) (hm : m_decode σ x1 = some out) (hp : K none (hM out)) : MW X (0, [some (.ref 0), some (.int x1), none, none, none], [], (hM σ), 0, 0) := by
  unfold m_decode at hm
  refine MW_run C okX12_decode 0 2 (gs := []) (cf' := (2, [some (.ref 0), some (.int x1), some (.int 0), none, none], [], (hM σ), 0, 0)) rfl trivial ?_
  obtain ⟨q2, hc2, hm⟩ := of_bind hm
  refine l_m_decode_2 C hq N0 σ x1 0 q2 hc2 ?_
  refine MW_run C okX12_decode 12 8 (gs := []) (cf' := (32, [some (.ref 0), some (.int x1), some (.int (gI q2 4)), some (.int x1), none], [], (hM (sI q2 16 0)), 0, 0)) rfl trivial ?_
  obtain ⟨q32, hc32, hm⟩ := of_bind hm
  refine MW_pick [true, false, true, true, true] rfl (vs' := [some (.ref 0), none, some (.int (gI q2 4)), some (.int x1), none]) rfl ?_
  refine l_m_decode_32 C hq N0 (sI q2 16 0) (gI q2 4) x1 q32 hc32 ?_
  obtain rfl := Option.some.inj hm
  exact MW_vret C okX12_decode hq 45 rfl hp
theorem c_m_decode (σ : MS) (x1 : Int32) (out : MS) (hm : m_decode σ x1 = some out) : CT yX12_decode cX12_decode 5 none 1 23 0 0 [.ref 0, .int x1] (hM σ) (fun v h => v = none ∧ h = (hM out)) :=
  CT_of (by decide +kernel) (vs0 := [some (.ref 0), some (.int x1), none, none, none]) rfl rfl (fun X C hq => t_m_decode C hq σ x1 out hm ⟨rfl, rfl⟩)
/-! X12_putFar -/
def m_putFar (σ : MS) (x1 : Int32) (x2 : Int32) : Option (MS) :=
  if inb x1 5 ∧ inb (((5 : Int32) * x1) + (gA σ 11 x1)) 25 ∧ inb x1 5 ∧ inb x1 5 then
    some (sA (sA σ 10 (((5 : Int32) * x1) + (gA σ 11 x1)) x2) 11 x1 ((gA σ 11 x1) + 1))
  else none
set_option maxRecDepth 100000 in
set_option maxHeartbeats 1000000 in
theorem t_m_putFar {X : CTX} {K : Option Value → AH → Prop} (C : CX X cX12_putFar yX12_putFar.cls (decide (yX12_putFar.name = "<init>")) 0 0) (hq : RQ X none K) (σ : MS) (x1 : Int32) (x2 : Int32) (out : MS) (hm : m_putFar σ x1 x2 = some out) (hp : K none (hM out)) : MW X (0, [some (.ref 0), some (.int x1), some (.int x2)], [], (hM σ), 0, 0) := by
  unfold m_putFar at hm
  obtain ⟨hg26, hm⟩ := of_guard hm
  refine MW_run C okX12_putFar 0 20 (gs := [inb x1 5, inb (((5 : Int32) * x1) + (gA σ 11 x1)) 25, inb x1 5, inb x1 5]) (cf' := (26, [some (.ref 0), some (.int x1), some (.int x2)], [], (hM (sA (sA σ 10 (((5 : Int32) * x1) + (gA σ 11 x1)) x2) 11 x1 ((gA σ 11 x1) + 1))), 0, 0)) rfl ⟨hg26.1, hg26.2.1, hg26.2.2.1, hg26.2.2.2⟩ ?_
  obtain rfl := Option.some.inj hm
  exact MW_vret C okX12_putFar hq 20 rfl hp
theorem c_m_putFar (σ : MS) (x1 : Int32) (x2 : Int32) (out : MS) (hm : m_putFar σ x1 x2 = some out) : CT yX12_putFar cX12_putFar 3 none 0 0 0 0 [.ref 0, .int x1, .int x2] (hM σ) (fun v h => v = none ∧ h = (hM out)) :=
  CT_of (by decide +kernel) (vs0 := [some (.ref 0), some (.int x1), some (.int x2)]) rfl rfl (fun X C hq => t_m_putFar C hq σ x1 x2 out hm ⟨rfl, rfl⟩)
/-! X12_encode -/
def m_encode_L27 : Nat → MS → Int32 → Int32 → Int32 → Option (Int32)
  | 0, _, _, _, _ => none
  | n + 1, σ, x1, x2, x3 =>
    if inb x2 5 then
      if x3 < (gA σ 11 x2) then
        if inb (((5 : Int32) * x2) + x3) 25 then
          m_encode_L27 n σ (((6 : Int32) * x1) + (gA σ 10 (((5 : Int32) * x2) + x3))) x2 (x3 + 1)
        else none
      else
        some x1
    else none
set_option maxRecDepth 100000 in
set_option maxHeartbeats 1000000 in
theorem l_m_encode_27 {X : CTX} {K : Option Value → AH → Prop} (C : CX X cX12_encode yX12_encode.cls (decide (yX12_encode.name = "<init>")) 0 0) (hq : RQ X (some .int) K) : ∀ (n : Nat) (σ : MS) (x1 : Int32) (x2 : Int32) (x3 : Int32) (out : Int32) (hm : m_encode_L27 n σ x1 x2 x3 = some out) (hp : MW X (59, [some (.ref 0), some (.int out), some (.int x2), none], [], (hM σ), 0, 0)), MW X (27, [some (.ref 0), some (.int x1), some (.int x2), some (.int x3)], [], (hM σ), 0, 0) := by
  intro n
  induction n with
  | zero => intro σ x1 x2 x3 out hm hp; rw [m_encode_L27] at hm; cases hm
  | succ n ih =>
    intro σ x1 x2 x3 out hm hp
    rw [m_encode_L27] at hm
    obtain ⟨hg34, hm⟩ := of_guard hm
    refine MW_run C okX12_encode 18 5 (gs := [inb x2 5]) (cf' := (34, [some (.ref 0), some (.int x1), some (.int x2), some (.int x3)], [.int (gA σ 11 x2), .int x3], (hM σ), 0, 0)) rfl hg34 ?_
    obtain ⟨hmt34, hmf34⟩ := of_if hm
    refine MW_brF C okX12_encode 23 rfl rfl (fun hb34 => ?_) (fun hb34 => ?_)
    · have hm := hmt34 hb34
      obtain ⟨hg27, hm⟩ := of_guard hm
      refine MW_run C okX12_encode 24 15 (gs := [inb (((5 : Int32) * x2) + x3) 25]) (cf' := (27, [some (.ref 0), some (.int (((6 : Int32) * x1) + (gA σ 10 (((5 : Int32) * x2) + x3)))), some (.int x2), some (.int (x3 + 1))], [], (hM σ), 0, 0)) rfl hg27 ?_
      exact ih σ (((6 : Int32) * x1) + (gA σ 10 (((5 : Int32) * x2) + x3))) x2 (x3 + 1) _ hm hp
    · have hm := hmf34 hb34
      obtain rfl := Option.some.inj hm
      refine MW_pick [true, true, true, false] rfl (vs' := [some (.ref 0), some (.int x1), some (.int x2), none]) rfl ?_
      exact hp
def m_encode_L4 : Nat → MS → Int32 → Int32 → Option (Int32)
  | 0, _, _, _ => none
  | n + 1, σ, x1, x2 =>
    if (gI σ 4) < x2 then
      some x1
    else
      if (0 : Int32) < x2 then
        (m_encode_L27 N0 σ ((6 : Int32) * x1) x2 0).bind fun q27 =>
          m_encode_L4 n σ q27 (x2 + 1)
      else
        (m_encode_L27 N0 σ 0 x2 0).bind fun q27 =>
          m_encode_L4 n σ q27 (x2 + 1)
set_option maxRecDepth 100000 in
set_option maxHeartbeats 1000000 in
theorem l_m_encode_4 {X : CTX} {K : Option Value → AH → Prop} (C : CX X cX12_encode yX12_encode.cls (decide (yX12_encode.name = "<init>")) 0 0) (hq : RQ X (some .int) K) : ∀ (n : Nat) (σ : MS) (x1 : Int32) (x2 : Int32) (out : Int32) (hm : m_encode_L4 n σ x1 x2 = some out) (hp : MW X (65, [none, some (.int out), none, none], [], (hM σ), 0, 0)), MW X (4, [some (.ref 0), some (.int x1), some (.int x2), none], [], (hM σ), 0, 0) := by
  intro n
  induction n with
  | zero => intro σ x1 x2 out hm hp; rw [m_encode_L4] at hm; cases hm
  | succ n ih =>
    intro σ x1 x2 out hm hp
    rw [m_encode_L4] at hm
    refine MW_run C okX12_encode 4 3 (gs := []) (cf' := (9, [some (.ref 0), some (.int x1), some (.int x2), none], [.int (gI σ 4), .int x2], (hM σ), 0, 0)) rfl trivial ?_
    obtain ⟨hmt9, hmf9⟩ := of_if hm
    refine MW_brT C okX12_encode 7 rfl rfl (fun hb9 => ?_) (fun hb9 => ?_)
    · have hm := hmt9 hb9
      obtain rfl := Option.some.inj hm
      refine MW_pick [false, true, false, true] rfl (vs' := [none, some (.int x1), none, none]) rfl ?_
      exact hp
    · have hm := hmf9 hb9
      refine MW_run C okX12_encode 8 1 (gs := []) (cf' := (13, [some (.ref 0), some (.int x1), some (.int x2), none], [.int x2], (hM σ), 0, 0)) rfl trivial ?_
      obtain ⟨hmt13, hmf13⟩ := of_if hm
      refine MW_brF C okX12_encode 9 rfl rfl (fun hb13 => ?_) (fun hb13 => ?_)
      · have hm := hmt13 hb13
        refine MW_run C okX12_encode 10 4 (gs := []) (cf' := (24, [some (.ref 0), some (.int x1), some (.int x2), none], [.int ((6 : Int32) * x1)], (hM σ), 0, 0)) rfl trivial ?_
        refine MW_run C okX12_encode 15 3 (gs := []) (cf' := (27, [some (.ref 0), some (.int ((6 : Int32) * x1)), some (.int x2), some (.int 0)], [], (hM σ), 0, 0)) rfl trivial ?_
        obtain ⟨q27, hc27, hm⟩ := of_bind hm
        refine l_m_encode_27 C hq N0 σ ((6 : Int32) * x1) x2 0 q27 hc27 ?_
        refine MW_run C okX12_encode 39 2 (gs := []) (cf' := (4, [some (.ref 0), some (.int q27), some (.int (x2 + 1)), none], [], (hM σ), 0, 0)) rfl trivial ?_
        exact ih σ q27 (x2 + 1) _ hm hp
      · have hm := hmf13 hb13
        refine MW_run C okX12_encode 14 1 (gs := []) (cf' := (24, [some (.ref 0), some (.int x1), some (.int x2), none], [.int 0], (hM σ), 0, 0)) rfl trivial ?_
        refine MW_run C okX12_encode 15 3 (gs := []) (cf' := (27, [some (.ref 0), some (.int 0), some (.int x2), some (.int 0)], [], (hM σ), 0, 0)) rfl trivial ?_
        obtain ⟨q27, hc27, hm⟩ := of_bind hm
        refine l_m_encode_27 C hq N0 σ 0 x2 0 q27 hc27 ?_
        refine MW_run C okX12_encode 39 2 (gs := []) (cf' := (4, [some (.ref 0), some (.int q27), some (.int (x2 + 1)), none], [], (hM σ), 0, 0)) rfl trivial ?_
        exact ih σ q27 (x2 + 1) _ hm hp
def m_encode (σ : MS) : Option (Int32) :=
  (m_encode_L4 N0 σ 0 0).bind fun q4 =>
    some q4
set_option maxRecDepth 100000 in
set_option maxHeartbeats 1000000 in
theorem t_m_encode {X : CTX} {K : Option Value → AH → Prop} (C : CX X cX12_encode yX12_encode.cls (decide (yX12_encode.name = "<init>")) 0 0) (hq : RQ X (some .int) K) (σ : MS) (out : Int32) (hm : m_encode σ = some out) (hp : K (some (.int out)) (hM σ)) : MW X (0, [some (.ref 0), none, none, none], [], (hM σ), 0, 0) := by
  unfold m_encode at hm
  refine MW_run C okX12_encode 0 4 (gs := []) (cf' := (4, [some (.ref 0), some (.int 0), some (.int 0), none], [], (hM σ), 0, 0)) rfl trivial ?_
  obtain ⟨q4, hc4, hm⟩ := of_bind hm
  refine l_m_encode_4 C hq N0 σ 0 0 q4 hc4 ?_
  refine MW_run C okX12_encode 41 1 (gs := []) (cf' := (66, [none, some (.int q4), none, none], [.int q4], (hM σ), 0, 0)) rfl trivial ?_
  obtain rfl := Option.some.inj hm
  exact MW_iret C okX12_encode hq 42 rfl hp
theorem c_m_encode (σ : MS) (out : Int32) (hm : m_encode σ = some out) : CT yX12_encode cX12_encode 4 (some .int) 0 0 0 0 [.ref 0] (hM σ) (fun v h => v = (some (.int out)) ∧ h = (hM σ)) :=
  CT_of (by decide +kernel) (vs0 := [some (.ref 0), none, none, none]) rfl rfl (fun X C hq => t_m_encode C hq σ out hm ⟨rfl, rfl⟩)
/-! X12_takeNear -/
def m_takeNear_L21 : Nat → MS → Int32 → Int32 → Int32 → Option (MS)
  | 0, _, _, _, _ => none
  | n + 1, σ, x1, x2, x3 =>
    if inb x1 5 then
      if x3 < (gA σ 11 x1) then
        if inb ((((5 : Int32) * x1) + x3) + 1) 25 ∧ inb (((5 : Int32) * x1) + x3) 25 then
          m_takeNear_L21 n (sA σ 10 (((5 : Int32) * x1) + x3) (gA σ 10 ((((5 : Int32) * x1) + x3) + 1))) x1 x2 (x3 + 1)
        else none
      else
        some σ
    else none
set_option maxRecDepth 100000 in
set_option maxHeartbeats 1000000 in
theorem l_m_takeNear_21 {X : CTX} {K : Option Value → AH → Prop} (C : CX X cX12_takeNear yX12_takeNear.cls (decide (yX12_takeNear.name = "<init>")) 0 0) (hq : RQ X (some .int) K) : ∀ (n : Nat) (σ : MS) (x1 : Int32) (x2 : Int32) (x3 : Int32) (out : MS) (hm : m_takeNear_L21 n σ x1 x2 x3 = some out) (hp : MW X (59, [none, none, some (.int x2), none], [], (hM out), 0, 0)), MW X (21, [some (.ref 0), some (.int x1), some (.int x2), some (.int x3)], [], (hM σ), 0, 0) := by
  intro n
  induction n with
  | zero => intro σ x1 x2 x3 out hm hp; rw [m_takeNear_L21] at hm; cases hm
  | succ n ih =>
    intro σ x1 x2 x3 out hm hp
    rw [m_takeNear_L21] at hm
    obtain ⟨hg28, hm⟩ := of_guard hm
    refine MW_run C okX12_takeNear 17 5 (gs := [inb x1 5]) (cf' := (28, [some (.ref 0), some (.int x1), some (.int x2), some (.int x3)], [.int (gA σ 11 x1), .int x3], (hM σ), 0, 0)) rfl hg28 ?_
    obtain ⟨hmt28, hmf28⟩ := of_if hm
    refine MW_brF C okX12_takeNear 22 rfl rfl (fun hb28 => ?_) (fun hb28 => ?_)
    · have hm := hmt28 hb28
      obtain ⟨hg21, hm⟩ := of_guard hm
      refine MW_run C okX12_takeNear 23 20 (gs := [inb ((((5 : Int32) * x1) + x3) + 1) 25, inb (((5 : Int32) * x1) + x3) 25]) (cf' := (21, [some (.ref 0), some (.int x1), some (.int x2), some (.int (x3 + 1))], [], (hM (sA σ 10 (((5 : Int32) * x1) + x3) (gA σ 10 ((((5 : Int32) * x1) + x3) + 1)))), 0, 0)) rfl ⟨hg21.1, hg21.2⟩ ?_
      exact ih (sA σ 10 (((5 : Int32) * x1) + x3) (gA σ 10 ((((5 : Int32) * x1) + x3) + 1))) x1 x2 (x3 + 1) _ hm hp
    · have hm := hmf28 hb28
      obtain rfl := Option.some.inj hm
      refine MW_pick [false, false, true, false] rfl (vs' := [none, none, some (.int x2), none]) rfl ?_
      exact hp
def m_takeNear (σ : MS) (x1 : Int32) : Option (Int32 × MS) :=
  if inb ((5 : Int32) * x1) 25 ∧ inb x1 5 ∧ inb x1 5 then
    (m_takeNear_L21 N0 (sA σ 11 x1 ((gA σ 11 x1) - 1)) x1 (gA σ 10 ((5 : Int32) * x1)) 0).bind fun q21 =>
      some ((gA σ 10 ((5 : Int32) * x1)), q21)
  else none
set_option maxRecDepth 100000 in
set_option maxHeartbeats 1000000 in
theorem t_m_takeNear {X : CTX} {K : Option Value → AH → Prop} (C : CX X cX12_takeNear yX12_takeNear.cls (decide (yX12_takeNear.name = "<init>")) 0 0) (hq : RQ X (some .int) K) (σ : MS) (x1 : Int32) (out : Int32 × MS) (hm : m_takeNear σ x1 = some out) (hp : K (some (.int out.1)) (hM out.2)) : MW X (0, [some (.ref 0), some (.int x1), none, none], [], (hM σ), 0, 0) := by
  unfold m_takeNear at hm
  obtain ⟨hg21, hm⟩ := of_guard hm
  refine MW_run C okX12_takeNear 0 17 (gs := [inb ((5 : Int32) * x1) 25, inb x1 5, inb x1 5]) (cf' := (21, [some (.ref 0), some (.int x1), some (.int (gA σ 10 ((5 : Int32) * x1))), some (.int 0)], [], (hM (sA σ 11 x1 ((gA σ 11 x1) - 1))), 0, 0)) rfl ⟨hg21.1, hg21.2.1, hg21.2.2⟩ ?_
  obtain ⟨q21, hc21, hm⟩ := of_bind hm
  refine l_m_takeNear_21 C hq N0 (sA σ 11 x1 ((gA σ 11 x1) - 1)) x1 (gA σ 10 ((5 : Int32) * x1)) 0 q21 hc21 ?_
  refine MW_run C okX12_takeNear 43 1 (gs := []) (cf' := (60, [none, none, some (.int (gA σ 10 ((5 : Int32) * x1))), none], [.int (gA σ 10 ((5 : Int32) * x1))], (hM q21), 0, 0)) rfl trivial ?_
  obtain rfl := Option.some.inj hm
  exact MW_iret C okX12_takeNear hq 44 rfl hp
theorem c_m_takeNear (σ : MS) (x1 : Int32) (out : Int32 × MS) (hm : m_takeNear σ x1 = some out) : CT yX12_takeNear cX12_takeNear 4 (some .int) 0 0 0 0 [.ref 0, .int x1] (hM σ) (fun v h => v = (some (.int out.1)) ∧ h = (hM out.2)) :=
  CT_of (by decide +kernel) (vs0 := [some (.ref 0), some (.int x1), none, none]) rfl rfl (fun X C hq => t_m_takeNear C hq σ x1 out hm ⟨rfl, rfl⟩)
