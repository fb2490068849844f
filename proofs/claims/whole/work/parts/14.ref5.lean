/-! X12_goOn -/
def m_goOn_L32 : Nat → MS → Int32 → Int32 → Int32 → Int32 → Int32 → Option ((MS) ⊕ (Int32 × MS))
  | 0, _, _, _, _, _, _ => none
  | n + 1, σ, x1, x2, x3, x4, x5 =>
    if x5 < 2 then
      (m_canMove σ x2 x3 x4 x5 x1).bind fun q46 =>
        if q46 = 0 then
          m_goOn_L32 n σ x1 x2 x3 x4 (x5 + 1)
        else
          (m_doMove σ x2 x3 x4 x5).bind fun q59 =>
            some (.inr (1, q59))
    else
      some (.inl σ)
set_option maxRecDepth 100000 in
set_option maxHeartbeats 1000000 in
theorem l_m_goOn_32 {X : CTX} {K : Option Value → AH → Prop} (C : CX X cX12_goOn yX12_goOn.cls (decide (yX12_goOn.name = "<init>")) 2 53) (hq : RQ X (some .boolean) K) : ∀ (n : Nat) (σ : MS) (x1 : Int32) (x2 : Int32) (x3 : Int32) (x4 : Int32) (x5 : Int32) (out : (MS) ⊕ (Int32 × MS)) (hm : m_goOn_L32 n σ x1 x2 x3 x4 x5 = some out) (hp : Sum.elim (fun e => MW X (70, [some (.ref 0), some (.int x1), some (.int x2), some (.int x3), some (.int x4), none], [], (hM e), 0, 0)) (fun r => K (some (.int r.1)) (hM r.2)) out), MW X (32, [some (.ref 0), some (.int x1), some (.int x2), some (.int x3), some (.int x4), some (.int x5)], [], (hM σ), 0, 0) := by
  intro n
  induction n with
  | zero => intro σ x1 x2 x3 x4 x5 out hm hp; rw [m_goOn_L32] at hm; cases hm
  | succ n ih =>
    intro σ x1 x2 x3 x4 x5 out hm hp
    rw [m_goOn_L32] at hm
    refine MW_run C okX12_goOn 19 2 (gs := []) (cf' := (35, [some (.ref 0), some (.int x1), some (.int x2), some (.int x3), some (.int x4), some (.int x5)], [.int 2, .int x5], (hM σ), 0, 0)) rfl trivial ?_
    obtain ⟨hmt35, hmf35⟩ := of_if hm
    refine MW_brF C okX12_goOn 21 rfl rfl (fun hb35 => ?_) (fun hb35 => ?_)
    · have hm := hmt35 hb35
      refine MW_run C okX12_goOn 22 6 (gs := []) (cf' := (46, [some (.ref 0), some (.int x1), some (.int x2), some (.int x3), some (.int x4), some (.int x5)], [.int x1, .int x5, .int x4, .int x3, .int x2, .ref 0], (hM σ), 0, 0)) rfl trivial ?_
      obtain ⟨q46, hc46, hm⟩ := of_bind hm
      refine MW_callV0 C okX12_goOn 28 rfl (v0 := some (.int q46)) (h0 := (hM σ)) (c_m_canMove σ x2 x3 x4 x5 x1 q46 hc46) lkX12_209 5 dpX12_canMove (by decide) (rest := []) rfl rfl rfl rfl rfl rfl rfl rfl ?_
      obtain ⟨hmt49, hmf49⟩ := of_if hm
      refine MW_brT C okX12_goOn 29 rfl rfl (fun hb49 => ?_) (fun hb49 => ?_)
      · have hm := hmt49 hb49
        refine MW_run C okX12_goOn 38 2 (gs := []) (cf' := (32, [some (.ref 0), some (.int x1), some (.int x2), some (.int x3), some (.int x4), some (.int (x5 + 1))], [], (hM σ), 0, 0)) rfl trivial ?_
        exact ih σ x1 x2 x3 x4 (x5 + 1) _ hm hp
      · have hm := hmf49 hb49
        refine MW_run C okX12_goOn 30 5 (gs := []) (cf' := (59, [some (.ref 0), some (.int x1), some (.int x2), some (.int x3), some (.int x4), some (.int x5)], [.int x5, .int x4, .int x3, .int x2, .ref 0], (hM σ), 0, 0)) rfl trivial ?_
        obtain ⟨q59, hc59, hm⟩ := of_bind hm
        refine MW_callV0 C okX12_goOn 35 rfl (v0 := none) (h0 := (hM q59)) (c_m_doMove σ x2 x3 x4 x5 q59 hc59) lkX12_213 4 dpX12_doMove (by decide) (rest := []) rfl rfl rfl rfl rfl rfl rfl rfl ?_
        refine MW_run C okX12_goOn 36 1 (gs := []) (cf' := (63, [some (.ref 0), some (.int x1), some (.int x2), some (.int x3), some (.int x4), some (.int x5)], [.int 1], (hM q59), 0, 0)) rfl trivial ?_
        obtain rfl := Option.some.inj hm
        exact MW_zret C okX12_goOn hq 37 rfl (by decide) hp
    · have hm := hmf35 hb35
      obtain rfl := Option.some.inj hm
      refine MW_pick [true, true, true, true, true, false] rfl (vs' := [some (.ref 0), some (.int x1), some (.int x2), some (.int x3), some (.int x4), none]) rfl ?_
      exact hp
def m_goOn_L20 : Nat → MS → Int32 → Int32 → Int32 → Int32 → Option ((MS) ⊕ (Int32 × MS))
  | 0, _, _, _, _, _ => none
  | n + 1, σ, x1, x2, x3, x4 =>
    if (gI σ 4) < x4 then
      some (.inl σ)
    else
      (m_goOn_L32 N0 σ x1 x2 x3 x4 0).bind fun q32 =>
        match q32 with
        | .inr r32 => some (.inr r32)
        | .inl e32 =>
          m_goOn_L20 n e32 x1 x2 x3 (x4 + 1)
set_option maxRecDepth 100000 in
set_option maxHeartbeats 1000000 in
theorem l_m_goOn_20 {X : CTX} {K : Option Value → AH → Prop} (C : CX X cX12_goOn yX12_goOn.cls (decide (yX12_goOn.name = "<init>")) 2 53) (hq : RQ X (some .boolean) K) : ∀ (n : Nat) (σ : MS) (x1 : Int32) (x2 : Int32) (x3 : Int32) (x4 : Int32) (out : (MS) ⊕ (Int32 × MS)) (hm : m_goOn_L20 n σ x1 x2 x3 x4 = some out) (hp : Sum.elim (fun e => MW X (76, [some (.ref 0), some (.int x1), some (.int x2), some (.int x3), none, none], [], (hM e), 0, 0)) (fun r => K (some (.int r.1)) (hM r.2)) out), MW X (20, [some (.ref 0), some (.int x1), some (.int x2), some (.int x3), some (.int x4), none], [], (hM σ), 0, 0) := by
  intro n
  induction n with
  | zero => intro σ x1 x2 x3 x4 out hm hp; rw [m_goOn_L20] at hm; cases hm
  | succ n ih =>
    intro σ x1 x2 x3 x4 out hm hp
    rw [m_goOn_L20] at hm
    refine MW_run C okX12_goOn 13 3 (gs := []) (cf' := (26, [some (.ref 0), some (.int x1), some (.int x2), some (.int x3), some (.int x4), none], [.int (gI σ 4), .int x4], (hM σ), 0, 0)) rfl trivial ?_
    obtain ⟨hmt26, hmf26⟩ := of_if hm
    refine MW_brT C okX12_goOn 16 rfl rfl (fun hb26 => ?_) (fun hb26 => ?_)
    · have hm := hmt26 hb26
      obtain rfl := Option.some.inj hm
      refine MW_pick [true, true, true, true, false, true] rfl (vs' := [some (.ref 0), some (.int x1), some (.int x2), some (.int x3), none, none]) rfl ?_
      exact hp
    · have hm := hmf26 hb26
      refine MW_run C okX12_goOn 17 2 (gs := []) (cf' := (32, [some (.ref 0), some (.int x1), some (.int x2), some (.int x3), some (.int x4), some (.int 0)], [], (hM σ), 0, 0)) rfl trivial ?_
      obtain ⟨q32, hc32, hm⟩ := of_bind hm
      refine l_m_goOn_32 C hq N0 σ x1 x2 x3 x4 0 q32 hc32 ?_
      cases q32 with
      | inr r32 =>
        obtain rfl := Option.some.inj hm
        exact hp
      | inl e32 =>
        show MW X (70, [some (.ref 0), some (.int x1), some (.int x2), some (.int x3), some (.int x4), none], [], (hM e32), 0, 0)
        refine MW_run C okX12_goOn 40 2 (gs := []) (cf' := (20, [some (.ref 0), some (.int x1), some (.int x2), some (.int x3), some (.int (x4 + 1)), none], [], (hM e32), 0, 0)) rfl trivial ?_
        exact ih e32 x1 x2 x3 (x4 + 1) _ hm hp
def m_goOn_L12 : Nat → MS → Int32 → Int32 → Int32 → Option ((MS) ⊕ (Int32 × MS))
  | 0, _, _, _, _ => none
  | n + 1, σ, x1, x2, x3 =>
    if x3 < 2 then
      (m_goOn_L20 N0 σ x1 x2 x3 1).bind fun q20 =>
        match q20 with
        | .inr r20 => some (.inr r20)
        | .inl e20 =>
          m_goOn_L12 n e20 x1 x2 (x3 + 1)
    else
      some (.inl σ)
set_option maxRecDepth 100000 in
set_option maxHeartbeats 1000000 in
theorem l_m_goOn_12 {X : CTX} {K : Option Value → AH → Prop} (C : CX X cX12_goOn yX12_goOn.cls (decide (yX12_goOn.name = "<init>")) 2 53) (hq : RQ X (some .boolean) K) : ∀ (n : Nat) (σ : MS) (x1 : Int32) (x2 : Int32) (x3 : Int32) (out : (MS) ⊕ (Int32 × MS)) (hm : m_goOn_L12 n σ x1 x2 x3 = some out) (hp : Sum.elim (fun e => MW X (82, [some (.ref 0), some (.int x1), some (.int x2), none, none, none], [], (hM e), 0, 0)) (fun r => K (some (.int r.1)) (hM r.2)) out), MW X (12, [some (.ref 0), some (.int x1), some (.int x2), some (.int x3), none, none], [], (hM σ), 0, 0) := by
  intro n
  induction n with
  | zero => intro σ x1 x2 x3 out hm hp; rw [m_goOn_L12] at hm; cases hm
  | succ n ih =>
    intro σ x1 x2 x3 out hm hp
    rw [m_goOn_L12] at hm
    refine MW_run C okX12_goOn 8 2 (gs := []) (cf' := (14, [some (.ref 0), some (.int x1), some (.int x2), some (.int x3), none, none], [.int 2, .int x3], (hM σ), 0, 0)) rfl trivial ?_
    obtain ⟨hmt14, hmf14⟩ := of_if hm
    refine MW_brF C okX12_goOn 10 rfl rfl (fun hb14 => ?_) (fun hb14 => ?_)
    · have hm := hmt14 hb14
      refine MW_run C okX12_goOn 11 2 (gs := []) (cf' := (20, [some (.ref 0), some (.int x1), some (.int x2), some (.int x3), some (.int 1), none], [], (hM σ), 0, 0)) rfl trivial ?_
      obtain ⟨q20, hc20, hm⟩ := of_bind hm
      refine l_m_goOn_20 C hq N0 σ x1 x2 x3 1 q20 hc20 ?_
      cases q20 with
      | inr r20 =>
        obtain rfl := Option.some.inj hm
        exact hp
      | inl e20 =>
        show MW X (76, [some (.ref 0), some (.int x1), some (.int x2), some (.int x3), none, none], [], (hM e20), 0, 0)
        refine MW_run C okX12_goOn 42 2 (gs := []) (cf' := (12, [some (.ref 0), some (.int x1), some (.int x2), some (.int (x3 + 1)), none, none], [], (hM e20), 0, 0)) rfl trivial ?_
        exact ih e20 x1 x2 (x3 + 1) _ hm hp
    · have hm := hmf14 hb14
      obtain rfl := Option.some.inj hm
      refine MW_pick [true, true, true, false, true, true] rfl (vs' := [some (.ref 0), some (.int x1), some (.int x2), none, none, none]) rfl ?_
      exact hp
def m_goOn_L2 : Nat → MS → Int32 → Int32 → Option ((MS) ⊕ (Int32 × MS))
  | 0, _, _, _ => none
  | n + 1, σ, x1, x2 =>
    if (gI σ 4) < x2 then
      some (.inl σ)
    else
      (m_goOn_L12 N0 σ x1 x2 0).bind fun q12 =>
        match q12 with
        | .inr r12 => some (.inr r12)
        | .inl e12 =>
          m_goOn_L2 n e12 x1 (x2 + 1)
set_option maxRecDepth 100000 in
set_option maxHeartbeats 1000000 in
theorem l_m_goOn_2 {X : CTX} {K : Option Value → AH → Prop} (C : CX X cX12_goOn yX12_goOn.cls (decide (yX12_goOn.name = "<init>")) 2 53) (hq : RQ X (some .boolean) K) : ∀ (n : Nat) (σ : MS) (x1 : Int32) (x2 : Int32) (out : (MS) ⊕ (Int32 × MS)) (hm : m_goOn_L2 n σ x1 x2 = some out) (hp : Sum.elim (fun e => MW X (88, [none, none, none, none, none, none], [], (hM e), 0, 0)) (fun r => K (some (.int r.1)) (hM r.2)) out), MW X (2, [some (.ref 0), some (.int x1), some (.int x2), none, none, none], [], (hM σ), 0, 0) := by
  intro n
  induction n with
  | zero => intro σ x1 x2 out hm hp; rw [m_goOn_L2] at hm; cases hm
  | succ n ih =>
    intro σ x1 x2 out hm hp
    rw [m_goOn_L2] at hm
    refine MW_run C okX12_goOn 2 3 (gs := []) (cf' := (7, [some (.ref 0), some (.int x1), some (.int x2), none, none, none], [.int (gI σ 4), .int x2], (hM σ), 0, 0)) rfl trivial ?_
    obtain ⟨hmt7, hmf7⟩ := of_if hm
    refine MW_brT C okX12_goOn 5 rfl rfl (fun hb7 => ?_) (fun hb7 => ?_)
    · have hm := hmt7 hb7
      obtain rfl := Option.some.inj hm
      refine MW_pick [false, false, false, true, true, true] rfl (vs' := [none, none, none, none, none, none]) rfl ?_
      exact hp
    · have hm := hmf7 hb7
      refine MW_run C okX12_goOn 6 2 (gs := []) (cf' := (12, [some (.ref 0), some (.int x1), some (.int x2), some (.int 0), none, none], [], (hM σ), 0, 0)) rfl trivial ?_
      obtain ⟨q12, hc12, hm⟩ := of_bind hm
      refine l_m_goOn_12 C hq N0 σ x1 x2 0 q12 hc12 ?_
      cases q12 with
      | inr r12 =>
        obtain rfl := Option.some.inj hm
        exact hp
      | inl e12 =>
        show MW X (82, [some (.ref 0), some (.int x1), some (.int x2), none, none, none], [], (hM e12), 0, 0)
        refine MW_run C okX12_goOn 44 2 (gs := []) (cf' := (2, [some (.ref 0), some (.int x1), some (.int (x2 + 1)), none, none, none], [], (hM e12), 0, 0)) rfl trivial ?_
        exact ih e12 x1 (x2 + 1) _ hm hp
def m_goOn (σ : MS) (x1 : Int32) : Option (Int32 × MS) :=
  (m_goOn_L2 N0 σ x1 1).bind fun q2 =>
    match q2 with
    | .inr r2 => some r2
    | .inl e2 =>
      some (0, e2)
set_option maxRecDepth 100000 in
set_option maxHeartbeats 1000000 in
theorem t_m_goOn {X : CTX} {K : Option Value → AH → Prop} (C : CX X cX12_goOn yX12_goOn.cls (decide (yX12_goOn.name = "<init>")) 2 53) (hq : RQ X (some .boolean) K) (σ : MS) (x1 : Int32) (out : Int32 × MS) (hm : m_goOn σ x1 = some out) (hp : K (some (.int out.1)) (hM out.2)) : MW X (0, [some (.ref 0), some (.int x1), none, none, none, none], [], (hM σ), 0, 0) := by
  unfold m_goOn at hm
  refine MW_run C okX12_goOn 0 2 (gs := []) (cf' := (2, [some (.ref 0), some (.int x1), some (.int 1), none, none, none], [], (hM σ), 0, 0)) rfl trivial ?_
  obtain ⟨q2, hc2, hm⟩ := of_bind hm
  refine l_m_goOn_2 C hq N0 σ x1 1 q2 hc2 ?_
  cases q2 with
  | inr r2 =>
    obtain rfl := Option.some.inj hm
    exact hp
  | inl e2 =>
    show MW X (88, [none, none, none, none, none, none], [], (hM e2), 0, 0)
    refine MW_run C okX12_goOn 46 1 (gs := []) (cf' := (89, [none, none, none, none, none, none], [.int 0], (hM e2), 0, 0)) rfl trivial ?_
    obtain rfl := Option.some.inj hm
    exact MW_zret C okX12_goOn hq 47 rfl (by decide) hp
theorem c_m_goOn (σ : MS) (x1 : Int32) (out : Int32 × MS) (hm : m_goOn σ x1 = some out) : CT yX12_goOn cX12_goOn 6 (some .boolean) 2 53 0 0 [.ref 0, .int x1] (hM σ) (fun v h => v = (some (.int out.1)) ∧ h = (hM out.2)) :=
  CT_of (by decide +kernel) (vs0 := [some (.ref 0), some (.int x1), none, none, none, none]) rfl rfl (fun X C hq => t_m_goOn C hq σ x1 out hm ⟨rfl, rfl⟩)
/-! X12_thumbed -/
def m_thumbed_J45 (k : MS → Int32 → Int32 → Int32 → Option (MS)) (σ : MS) (x2 : Int32) (x3 : Int32) (w0 : Int32) : Option (MS) :=
  if w0 = 0 then
    (m_goOn σ x2).bind fun q54 =>
      if q54.1 = 0 then
        k q54.2 x2 x3 0
      else
        k q54.2 x2 x3 1
  else
    k σ x2 x3 1
set_option maxRecDepth 100000 in
set_option maxHeartbeats 1000000 in
theorem j_m_thumbed_45 {X : CTX} {K : Option Value → AH → Prop} (C : CX X cX12_thumbed yX12_thumbed.cls (decide (yX12_thumbed.name = "<init>")) 4 96) (hq : RQ X (some .int) K) (k : MS → Int32 → Int32 → Int32 → Option (MS)) (hk : ∀ (σ : MS) (x2 : Int32) (x3 : Int32) (x4 : Int32) (out : MS), k σ x2 x3 x4 = some out → MW X (70, [some (.ref 0), none, none, none, none], [], (hM out), 0, 0) → MW X (14, [some (.ref 0), none, some (.int x2), some (.int x3), some (.int x4)], [], (hM σ), 0, 0)) (σ : MS) (x2 : Int32) (x3 : Int32) (w0 : Int32) (out : MS) (hm : m_thumbed_J45 k σ x2 x3 w0 = some out) (hp : MW X (70, [some (.ref 0), none, none, none, none], [], (hM out), 0, 0)) : MW X (45, [some (.ref 0), none, some (.int x2), some (.int x3), none], [.int w0], (hM σ), 0, 0) := by
  unfold m_thumbed_J45 at hm
  refine MW_run C okX12_thumbed 25 2 (gs := []) (cf' := (49, [some (.ref 0), none, some (.int x2), some (.int x3), some (.int w0)], [.int w0], (hM σ), 0, 0)) rfl trivial ?_
  obtain ⟨hmt49, hmf49⟩ := of_if hm
  refine MW_brF C okX12_thumbed 27 rfl rfl (fun hb49 => ?_) (fun hb49 => ?_)
  · have hm := hmt49 hb49
    refine MW_run C okX12_thumbed 28 2 (gs := []) (cf' := (54, [some (.ref 0), none, some (.int x2), some (.int x3), some (.int w0)], [.int x2, .ref 0], (hM σ), 0, 0)) rfl trivial ?_
    obtain ⟨q54, hc54, hm⟩ := of_bind hm
    refine MW_callV0 C okX12_thumbed 30 rfl (v0 := some (.int q54.1)) (h0 := (hM q54.2)) (c_m_goOn σ x2 q54 hc54) lkX12_333 1 dpX12_goOn (by decide) (rest := []) rfl rfl rfl rfl rfl rfl rfl rfl ?_
    obtain ⟨hmt57, hmf57⟩ := of_if hm
    refine MW_brT C okX12_thumbed 31 rfl rfl (fun hb57 => ?_) (fun hb57 => ?_)
    · have hm := hmt57 hb57
      refine MW_run C okX12_thumbed 34 1 (gs := []) (cf' := (65, [some (.ref 0), none, some (.int x2), some (.int x3), some (.int w0)], [.int 0], (hM q54.2), 0, 0)) rfl trivial ?_
      refine MW_run C okX12_thumbed 35 2 (gs := []) (cf' := (14, [some (.ref 0), none, some (.int x2), some (.int x3), some (.int 0)], [], (hM q54.2), 0, 0)) rfl trivial ?_
      exact hk q54.2 x2 x3 0 _ hm hp
    · have hm := hmf57 hb57
      refine MW_run C okX12_thumbed 32 2 (gs := []) (cf' := (65, [some (.ref 0), none, some (.int x2), some (.int x3), some (.int w0)], [.int 1], (hM q54.2), 0, 0)) rfl trivial ?_
      refine MW_run C okX12_thumbed 35 2 (gs := []) (cf' := (14, [some (.ref 0), none, some (.int x2), some (.int x3), some (.int 1)], [], (hM q54.2), 0, 0)) rfl trivial ?_
      exact hk q54.2 x2 x3 1 _ hm hp
  · have hm := hmf49 hb49
    refine MW_run C okX12_thumbed 32 2 (gs := []) (cf' := (65, [some (.ref 0), none, some (.int x2), some (.int x3), some (.int w0)], [.int 1], (hM σ), 0, 0)) rfl trivial ?_
    refine MW_run C okX12_thumbed 35 2 (gs := []) (cf' := (14, [some (.ref 0), none, some (.int x2), some (.int x3), some (.int 1)], [], (hM σ), 0, 0)) rfl trivial ?_
    exact hk σ x2 x3 1 _ hm hp
def m_thumbed_L14 : Nat → MS → Int32 → Int32 → Int32 → Option (MS)
  | 0, _, _, _, _ => none
  | n + 1, σ, x2, x3, x4 =>
    if x4 = 0 then
      some σ
    else
      (m_letOut σ x2).bind fun q21 =>
        if q21.1 = 0 then
          (m_goIn q21.2 x2 x3).bind fun q34 =>
            if q34.1 = 0 then
              m_thumbed_J45 (m_thumbed_L14 n) q34.2 x2 x3 0
            else
              m_thumbed_J45 (m_thumbed_L14 n) q34.2 x2 x3 1
        else
          m_thumbed_J45 (m_thumbed_L14 n) q21.2 x2 x3 1
set_option maxRecDepth 100000 in
set_option maxHeartbeats 1000000 in
theorem l_m_thumbed_14 {X : CTX} {K : Option Value → AH → Prop} (C : CX X cX12_thumbed yX12_thumbed.cls (decide (yX12_thumbed.name = "<init>")) 4 96) (hq : RQ X (some .int) K) : ∀ (n : Nat) (σ : MS) (x2 : Int32) (x3 : Int32) (x4 : Int32) (out : MS) (hm : m_thumbed_L14 n σ x2 x3 x4 = some out) (hp : MW X (70, [some (.ref 0), none, none, none, none], [], (hM out), 0, 0)), MW X (14, [some (.ref 0), none, some (.int x2), some (.int x3), some (.int x4)], [], (hM σ), 0, 0) := by
  intro n
  induction n with
  | zero => intro σ x2 x3 x4 out hm hp; rw [m_thumbed_L14] at hm; cases hm
  | succ n ih =>
    intro σ x2 x3 x4 out hm hp
    rw [m_thumbed_L14] at hm
    refine MW_run C okX12_thumbed 9 1 (gs := []) (cf' := (16, [some (.ref 0), none, some (.int x2), some (.int x3), some (.int x4)], [.int x4], (hM σ), 0, 0)) rfl trivial ?_
    obtain ⟨hmt16, hmf16⟩ := of_if hm
    refine MW_brT C okX12_thumbed 10 rfl rfl (fun hb16 => ?_) (fun hb16 => ?_)
    · have hm := hmt16 hb16
      obtain rfl := Option.some.inj hm
      refine MW_pick [true, true, false, false, false] rfl (vs' := [some (.ref 0), none, none, none, none]) rfl ?_
      exact hp
    · have hm := hmf16 hb16
      refine MW_run C okX12_thumbed 11 2 (gs := []) (cf' := (21, [some (.ref 0), none, some (.int x2), some (.int x3), some (.int x4)], [.int x2, .ref 0], (hM σ), 0, 0)) rfl trivial ?_
      obtain ⟨q21, hc21, hm⟩ := of_bind hm
      refine MW_callV0 C okX12_thumbed 13 rfl (v0 := some (.int q21.1)) (h0 := (hM q21.2)) (c_m_letOut σ x2 q21 hc21) lkX12_327 1 dpX12_letOut (by decide) (rest := []) rfl rfl rfl rfl rfl rfl rfl rfl ?_
      refine MW_run C okX12_thumbed 14 2 (gs := []) (cf' := (28, [some (.ref 0), none, some (.int x2), some (.int x3), some (.int q21.1)], [.int q21.1], (hM q21.2), 0, 0)) rfl trivial ?_
      obtain ⟨hmt28, hmf28⟩ := of_if hm
      refine MW_brF C okX12_thumbed 16 rfl rfl (fun hb28 => ?_) (fun hb28 => ?_)
      · have hm := hmt28 hb28
        refine MW_run C okX12_thumbed 17 3 (gs := []) (cf' := (34, [some (.ref 0), none, some (.int x2), some (.int x3), some (.int q21.1)], [.int x3, .int x2, .ref 0], (hM q21.2), 0, 0)) rfl trivial ?_
        obtain ⟨q34, hc34, hm⟩ := of_bind hm
        refine MW_callV0 C okX12_thumbed 20 rfl (v0 := some (.int q34.1)) (h0 := (hM q34.2)) (c_m_goIn q21.2 x2 x3 q34 hc34) lkX12_330 2 dpX12_goIn (by decide) (rest := []) rfl rfl rfl rfl rfl rfl rfl rfl ?_
        obtain ⟨hmt37, hmf37⟩ := of_if hm
        refine MW_brT C okX12_thumbed 21 rfl rfl (fun hb37 => ?_) (fun hb37 => ?_)
        · have hm := hmt37 hb37
          refine MW_run C okX12_thumbed 24 1 (gs := []) (cf' := (45, [some (.ref 0), none, some (.int x2), some (.int x3), some (.int q21.1)], [.int 0], (hM q34.2), 0, 0)) rfl trivial ?_
          refine MW_pick [true, true, true, true, false] rfl (vs' := [some (.ref 0), none, some (.int x2), some (.int x3), none]) rfl ?_
          exact j_m_thumbed_45 C hq (m_thumbed_L14 n) ih q34.2 x2 x3 0 _ hm hp
        · have hm := hmf37 hb37
          refine MW_run C okX12_thumbed 22 2 (gs := []) (cf' := (45, [some (.ref 0), none, some (.int x2), some (.int x3), some (.int q21.1)], [.int 1], (hM q34.2), 0, 0)) rfl trivial ?_
          refine MW_pick [true, true, true, true, false] rfl (vs' := [some (.ref 0), none, some (.int x2), some (.int x3), none]) rfl ?_
          exact j_m_thumbed_45 C hq (m_thumbed_L14 n) ih q34.2 x2 x3 1 _ hm hp
      · have hm := hmf28 hb28
        refine MW_run C okX12_thumbed 22 2 (gs := []) (cf' := (45, [some (.ref 0), none, some (.int x2), some (.int x3), some (.int q21.1)], [.int 1], (hM q21.2), 0, 0)) rfl trivial ?_
        refine MW_pick [true, true, true, true, false] rfl (vs' := [some (.ref 0), none, some (.int x2), some (.int x3), none]) rfl ?_
        exact j_m_thumbed_45 C hq (m_thumbed_L14 n) ih q21.2 x2 x3 1 _ hm hp
def m_thumbed (σ : MS) (x1 : Int32) (x2 : Int32) (x3 : Int32) : Option (Int32 × MS) :=
  (m_layTrain σ x1 x2).bind fun q3 =>
    (m_decode q3 0).bind fun q8 =>
      (m_thumbed_L14 N0 q8 x2 x3 1).bind fun q14 =>
        if inb (gI q14 4) 5 then
          some ((gA q14 11 (gI q14 4)), q14)
        else none
set_option maxRecDepth 100000 in
set_option maxHeartbeats 1000000 in
theorem t_m_thumbed {X : CTX} {K : Option Value → AH → Prop} (C : CX X cX12_thumbed yX12_thumbed.cls (decide (yX12_thumbed.name = "<init>")) 4 96) (hq : RQ X (some .int) K) (σ : MS) (x1 : Int32) (x2 : Int32) (x3 : Int32) (out : Int32 × MS) (hm : m_thumbed σ x1 x2 x3 = some out) (hp : K (some (.int out.1)) (hM out.2)) : MW X (0, [some (.ref 0), some (.int x1), some (.int x2), some (.int x3), none], [], (hM σ), 0, 0) := by
  unfold m_thumbed at hm
  refine MW_run C okX12_thumbed 0 3 (gs := []) (cf' := (3, [some (.ref 0), some (.int x1), some (.int x2), some (.int x3), none], [.int x2, .int x1, .ref 0], (hM σ), 0, 0)) rfl trivial ?_
  obtain ⟨q3, hc3, hm⟩ := of_bind hm
  refine MW_callV0 C okX12_thumbed 3 rfl (v0 := none) (h0 := (hM q3)) (c_m_layTrain σ x1 x2 q3 hc3) lkX12_239 2 dpX12_layTrain (by decide) (rest := []) rfl rfl rfl rfl rfl rfl rfl rfl ?_
  refine MW_run C okX12_thumbed 4 2 (gs := []) (cf' := (8, [some (.ref 0), some (.int x1), some (.int x2), some (.int x3), none], [.int 0, .ref 0], (hM q3), 0, 0)) rfl trivial ?_
  obtain ⟨q8, hc8, hm⟩ := of_bind hm
  refine MW_callV0 C okX12_thumbed 6 rfl (v0 := none) (h0 := (hM q8)) (c_m_decode q3 0 q8 hc8) lkX12_194 1 dpX12_decode (by decide) (rest := []) rfl rfl rfl rfl rfl rfl rfl rfl ?_
  refine MW_run C okX12_thumbed 7 2 (gs := []) (cf' := (14, [some (.ref 0), some (.int x1), some (.int x2), some (.int x3), some (.int 1)], [], (hM q8), 0, 0)) rfl trivial ?_
  obtain ⟨q14, hc14, hm⟩ := of_bind hm
  refine MW_pick [true, false, true, true, true] rfl (vs' := [some (.ref 0), none, some (.int x2), some (.int x3), some (.int 1)]) rfl ?_
  refine l_m_thumbed_14 C hq N0 q8 x2 x3 1 q14 hc14 ?_
  obtain ⟨hg79, hm⟩ := of_guard hm
  refine MW_run C okX12_thumbed 37 5 (gs := [inb (gI q14 4) 5]) (cf' := (79, [some (.ref 0), none, none, none, none], [.int (gA q14 11 (gI q14 4))], (hM q14), 0, 0)) rfl hg79 ?_
  obtain rfl := Option.some.inj hm
  exact MW_iret C okX12_thumbed hq 42 rfl hp
theorem c_m_thumbed (σ : MS) (x1 : Int32) (x2 : Int32) (x3 : Int32) (out : Int32 × MS) (hm : m_thumbed σ x1 x2 x3 = some out) : CT yX12_thumbed cX12_thumbed 5 (some .int) 4 96 0 0 [.ref 0, .int x1, .int x2, .int x3] (hM σ) (fun v h => v = (some (.int out.1)) ∧ h = (hM out.2)) :=
  CT_of (by decide +kernel) (vs0 := [some (.ref 0), some (.int x1), some (.int x2), some (.int x3), none]) rfl rfl (fun X C hq => t_m_thumbed C hq σ x1 x2 x3 out hm ⟨rfl, rfl⟩)
/-! X12_thumb -/
def m_thumb (σ : MS) (x1 : Int32) (x2 : Int32) : Option (Int32 × MS) :=
  (m_wagonsOf x1).bind fun q1 =>
    if (0 : Int32) < q1 then
      (m_in ((x2 : Int32).toInt64) 0 2).bind fun q15 =>
        if q15 = 0 then
          some ((-2), σ)
        else
          (m_thumbed σ x1 q1 x2).bind fun q25 =>
            some (q25.1, q25.2)
    else
      some ((-2), σ)
set_option maxRecDepth 100000 in
set_option maxHeartbeats 1000000 in
theorem t_m_thumb {X : CTX} {K : Option Value → AH → Prop} (C : CX X cX12_thumb yX12_thumb.cls (decide (yX12_thumb.name = "<init>")) 5 120) (hq : RQ X (some .int) K) (σ : MS) (x1 : Int32) (x2 : Int32) (out : Int32 × MS) (hm : m_thumb σ x1 x2 = some out) (hp : K (some (.int out.1)) (hM out.2)) : MW X (0, [some (.ref 0), some (.int x1), some (.int x2), none], [], (hM σ), 0, 0) := by
  unfold m_thumb at hm
  refine MW_run C okX12_thumb 0 1 (gs := []) (cf' := (1, [some (.ref 0), some (.int x1), some (.int x2), none], [.int x1], (hM σ), 0, 0)) rfl trivial ?_
  obtain ⟨q1, hc1, hm⟩ := of_bind hm
  refine MW_callS0 C okX12_thumb 1 rfl (v0 := some (.int q1)) (c_m_wagonsOf x1 q1 hc1) lkX12_245 1 dpX12_wagonsOf (by decide) (rest := []) rfl rfl rfl rfl rfl ?_
  refine MW_run C okX12_thumb 2 2 (gs := []) (cf' := (6, [some (.ref 0), some (.int x1), some (.int x2), some (.int q1)], [.int q1], (hM σ), 0, 0)) rfl trivial ?_
  obtain ⟨hmt6, hmf6⟩ := of_if hm
  refine MW_brF C okX12_thumb 4 rfl rfl (fun hb6 => ?_) (fun hb6 => ?_)
  · have hm := hmt6 hb6
    refine MW_run C okX12_thumb 5 4 (gs := []) (cf' := (15, [some (.ref 0), some (.int x1), some (.int x2), some (.int q1)], [.long 2, .long 0, .long ((x2 : Int32).toInt64)], (hM σ), 0, 0)) rfl trivial ?_
    obtain ⟨q15, hc15, hm⟩ := of_bind hm
    refine MW_callS0 C okX12_thumb 9 rfl (v0 := some (.int q15)) (c_m_in ((x2 : Int32).toInt64) 0 2 q15 hc15) lkX12_121 3 dpX12_in (by decide) (rest := []) rfl rfl rfl rfl rfl ?_
    obtain ⟨hmt18, hmf18⟩ := of_if hm
    refine MW_brT C okX12_thumb 10 rfl rfl (fun hb18 => ?_) (fun hb18 => ?_)
    · have hm := hmt18 hb18
      refine MW_run C okX12_thumb 17 1 (gs := []) (cf' := (33, [some (.ref 0), some (.int x1), some (.int x2), some (.int q1)], [.int (-2)], (hM σ), 0, 0)) rfl trivial ?_
      obtain rfl := Option.some.inj hm
      exact MW_iret C okX12_thumb hq 18 rfl hp
    · have hm := hmf18 hb18
      refine MW_run C okX12_thumb 11 4 (gs := []) (cf' := (25, [some (.ref 0), some (.int x1), some (.int x2), some (.int q1)], [.int x2, .int q1, .int x1, .ref 0], (hM σ), 0, 0)) rfl trivial ?_
      obtain ⟨q25, hc25, hm⟩ := of_bind hm
      refine MW_callV0 C okX12_thumb 15 rfl (v0 := some (.int q25.1)) (h0 := (hM q25.2)) (c_m_thumbed σ x1 q1 x2 q25 hc25) lkX12_338 3 dpX12_thumbed (by decide) (rest := []) rfl rfl rfl rfl rfl rfl rfl rfl ?_
      refine MW_run C okX12_thumb 16 1 (gs := []) (cf' := (33, [some (.ref 0), some (.int x1), some (.int x2), some (.int q1)], [.int q25.1], (hM q25.2), 0, 0)) rfl trivial ?_
      obtain rfl := Option.some.inj hm
      exact MW_iret C okX12_thumb hq 18 rfl hp
  · have hm := hmf6 hb6
    refine MW_run C okX12_thumb 17 1 (gs := []) (cf' := (33, [some (.ref 0), some (.int x1), some (.int x2), some (.int q1)], [.int (-2)], (hM σ), 0, 0)) rfl trivial ?_
    obtain rfl := Option.some.inj hm
    exact MW_iret C okX12_thumb hq 18 rfl hp
theorem c_m_thumb (σ : MS) (x1 : Int32) (x2 : Int32) (out : Int32 × MS) (hm : m_thumb σ x1 x2 = some out) : CT yX12_thumb cX12_thumb 4 (some .int) 5 120 0 0 [.ref 0, .int x1, .int x2] (hM σ) (fun v h => v = (some (.int out.1)) ∧ h = (hM out.2)) :=
  CT_of (by decide +kernel) (vs0 := [some (.ref 0), some (.int x1), some (.int x2), none]) rfl rfl (fun X C hq => t_m_thumb C hq σ x1 x2 out hm ⟨rfl, rfl⟩)
/-! X12_sorts -/
def m_sorts_L27 : Nat → MS → Int32 → Int32 → Int32 → Int32 → Option (MS × Int32)
  | 0, _, _, _, _, _ => none
  | n + 1, σ, x1, x2, x3, x4 =>
    (m_power x1).bind fun q30 =>
      if x4 < q30 then
        (m_trainOf σ x4 x1).bind fun q42 =>
          (m_thumbed q42.2 q42.1 x1 x2).bind fun q47 =>
            if q47.1 = x1 then
              m_sorts_L27 n q47.2 x1 x2 (x3 + 1) (x4 + 1)
            else
              m_sorts_L27 n q47.2 x1 x2 (x3 + 0) (x4 + 1)
      else
        some (σ, x3)
set_option maxRecDepth 100000 in
set_option maxHeartbeats 1000000 in
theorem l_m_sorts_27 {X : CTX} {K : Option Value → AH → Prop} (C : CX X cX12_sorts yX12_sorts.cls (decide (yX12_sorts.name = "<init>")) 5 120) (hq : RQ X (some .int) K) : ∀ (n : Nat) (σ : MS) (x1 : Int32) (x2 : Int32) (x3 : Int32) (x4 : Int32) (out : MS × Int32) (hm : m_sorts_L27 n σ x1 x2 x3 x4 = some out) (hp : MW X (67, [none, none, none, some (.int out.2), none], [], (hM out.1), 0, 0)), MW X (27, [some (.ref 0), some (.int x1), some (.int x2), some (.int x3), some (.int x4)], [], (hM σ), 0, 0) := by
  intro n
  induction n with
  | zero => intro σ x1 x2 x3 x4 out hm hp; rw [m_sorts_L27] at hm; cases hm
  | succ n ih =>
    intro σ x1 x2 x3 x4 out hm hp
    rw [m_sorts_L27] at hm
    refine MW_run C okX12_sorts 15 2 (gs := []) (cf' := (30, [some (.ref 0), some (.int x1), some (.int x2), some (.int x3), some (.int x4)], [.int x1, .int x4], (hM σ), 0, 0)) rfl trivial ?_
    obtain ⟨q30, hc30, hm⟩ := of_bind hm
    refine MW_callS0 C okX12_sorts 17 rfl (v0 := some (.int q30)) (c_m_power x1 q30 hc30) lkX12_270 1 dpX12_power (by decide) (rest := [.int x4]) rfl rfl rfl rfl rfl ?_
    obtain ⟨hmt33, hmf33⟩ := of_if hm
    refine MW_brF C okX12_sorts 18 rfl rfl (fun hb33 => ?_) (fun hb33 => ?_)
    · have hm := hmt33 hb33
      refine MW_run C okX12_sorts 19 5 (gs := []) (cf' := (42, [some (.ref 0), some (.int x1), some (.int x2), some (.int x3), some (.int x4)], [.int x1, .int x4, .ref 0, .ref 0, .int x3], (hM σ), 0, 0)) rfl trivial ?_
      obtain ⟨q42, hc42, hm⟩ := of_bind hm
      refine MW_callV0 C okX12_sorts 24 rfl (v0 := some (.int q42.1)) (h0 := (hM q42.2)) (c_m_trainOf σ x4 x1 q42 hc42) lkX12_285 2 dpX12_trainOf (by decide) (rest := [.ref 0, .int x3]) rfl rfl rfl rfl rfl rfl rfl rfl ?_
      refine MW_run C okX12_sorts 25 2 (gs := []) (cf' := (47, [some (.ref 0), some (.int x1), some (.int x2), some (.int x3), some (.int x4)], [.int x2, .int x1, .int q42.1, .ref 0, .int x3], (hM q42.2), 0, 0)) rfl trivial ?_
      obtain ⟨q47, hc47, hm⟩ := of_bind hm
      refine MW_callV0 C okX12_sorts 27 rfl (v0 := some (.int q47.1)) (h0 := (hM q47.2)) (c_m_thumbed q42.2 q42.1 x1 x2 q47 hc47) lkX12_338 3 dpX12_thumbed (by decide) (rest := [.int x3]) rfl rfl rfl rfl rfl rfl rfl rfl ?_
      refine MW_run C okX12_sorts 28 1 (gs := []) (cf' := (51, [some (.ref 0), some (.int x1), some (.int x2), some (.int x3), some (.int x4)], [.int x1, .int q47.1, .int x3], (hM q47.2), 0, 0)) rfl trivial ?_
      obtain ⟨hmt51, hmf51⟩ := of_if hm
      refine MW_brF C okX12_sorts 29 rfl rfl (fun hb51 => ?_) (fun hb51 => ?_)
      · have hm := hmt51 hb51
        refine MW_run C okX12_sorts 30 2 (gs := []) (cf' := (59, [some (.ref 0), some (.int x1), some (.int x2), some (.int x3), some (.int x4)], [.int 1, .int x3], (hM q47.2), 0, 0)) rfl trivial ?_
        refine MW_run C okX12_sorts 33 4 (gs := []) (cf' := (27, [some (.ref 0), some (.int x1), some (.int x2), some (.int (x3 + 1)), some (.int (x4 + 1))], [], (hM q47.2), 0, 0)) rfl trivial ?_
        exact ih q47.2 x1 x2 (x3 + 1) (x4 + 1) _ hm hp
      · have hm := hmf51 hb51
        refine MW_run C okX12_sorts 32 1 (gs := []) (cf' := (59, [some (.ref 0), some (.int x1), some (.int x2), some (.int x3), some (.int x4)], [.int 0, .int x3], (hM q47.2), 0, 0)) rfl trivial ?_
        refine MW_run C okX12_sorts 33 4 (gs := []) (cf' := (27, [some (.ref 0), some (.int x1), some (.int x2), some (.int (x3 + 0)), some (.int (x4 + 1))], [], (hM q47.2), 0, 0)) rfl trivial ?_
        exact ih q47.2 x1 x2 (x3 + 0) (x4 + 1) _ hm hp
    · have hm := hmf33 hb33
      obtain rfl := Option.some.inj hm
      refine MW_pick [false, false, false, true, false] rfl (vs' := [none, none, none, some (.int x3), none]) rfl ?_
      exact hp
def m_sorts (σ : MS) (x1 : Int32) (x2 : Int32) : Option (Int32 × MS) :=
  (m_isCount x1).bind fun q1 =>
    if q1 = 0 then
      some ((-2), σ)
    else
      (m_in ((x2 : Int32).toInt64) 0 2).bind fun q13 =>
        if q13 = 0 then
          some ((-2), σ)
        else
          (m_sorts_L27 N0 σ x1 x2 0 0).bind fun q27 =>
            some (q27.2, q27.1)
set_option maxRecDepth 100000 in
set_option maxHeartbeats 1000000 in
theorem t_m_sorts {X : CTX} {K : Option Value → AH → Prop} (C : CX X cX12_sorts yX12_sorts.cls (decide (yX12_sorts.name = "<init>")) 5 120) (hq : RQ X (some .int) K) (σ : MS) (x1 : Int32) (x2 : Int32) (out : Int32 × MS) (hm : m_sorts σ x1 x2 = some out) (hp : K (some (.int out.1)) (hM out.2)) : MW X (0, [some (.ref 0), some (.int x1), some (.int x2), none, none], [], (hM σ), 0, 0) := by
  unfold m_sorts at hm
  refine MW_run C okX12_sorts 0 1 (gs := []) (cf' := (1, [some (.ref 0), some (.int x1), some (.int x2), none, none], [.int x1], (hM σ), 0, 0)) rfl trivial ?_
  obtain ⟨q1, hc1, hm⟩ := of_bind hm
  refine MW_callS0 C okX12_sorts 1 rfl (v0 := some (.int q1)) (c_m_isCount x1 q1 hc1) lkX12_282 1 dpX12_isCount (by decide) (rest := []) rfl rfl rfl rfl rfl ?_
  obtain ⟨hmt4, hmf4⟩ := of_if hm
  refine MW_brT C okX12_sorts 2 rfl rfl (fun hb4 => ?_) (fun hb4 => ?_)
  · have hm := hmt4 hb4
    refine MW_run C okX12_sorts 9 1 (gs := []) (cf' := (21, [some (.ref 0), some (.int x1), some (.int x2), none, none], [.int (-2)], (hM σ), 0, 0)) rfl trivial ?_
    obtain rfl := Option.some.inj hm
    exact MW_iret C okX12_sorts hq 10 rfl hp
  · have hm := hmf4 hb4
    refine MW_run C okX12_sorts 3 4 (gs := []) (cf' := (13, [some (.ref 0), some (.int x1), some (.int x2), none, none], [.long 2, .long 0, .long ((x2 : Int32).toInt64)], (hM σ), 0, 0)) rfl trivial ?_
    obtain ⟨q13, hc13, hm⟩ := of_bind hm
    refine MW_callS0 C okX12_sorts 7 rfl (v0 := some (.int q13)) (c_m_in ((x2 : Int32).toInt64) 0 2 q13 hc13) lkX12_121 3 dpX12_in (by decide) (rest := []) rfl rfl rfl rfl rfl ?_
    obtain ⟨hmt16, hmf16⟩ := of_if hm
    refine MW_brF C okX12_sorts 8 rfl rfl (fun hb16 => ?_) (fun hb16 => ?_)
    · have hm := hmt16 hb16
      refine MW_run C okX12_sorts 9 1 (gs := []) (cf' := (21, [some (.ref 0), some (.int x1), some (.int x2), none, none], [.int (-2)], (hM σ), 0, 0)) rfl trivial ?_
      obtain rfl := Option.some.inj hm
      exact MW_iret C okX12_sorts hq 10 rfl hp
    · have hm := hmf16 hb16
      refine MW_run C okX12_sorts 11 4 (gs := []) (cf' := (27, [some (.ref 0), some (.int x1), some (.int x2), some (.int 0), some (.int 0)], [], (hM σ), 0, 0)) rfl trivial ?_
      obtain ⟨q27, hc27, hm⟩ := of_bind hm
      refine l_m_sorts_27 C hq N0 σ x1 x2 0 0 q27 hc27 ?_
      refine MW_run C okX12_sorts 37 1 (gs := []) (cf' := (68, [none, none, none, some (.int q27.2), none], [.int q27.2], (hM q27.1), 0, 0)) rfl trivial ?_
      obtain rfl := Option.some.inj hm
      exact MW_iret C okX12_sorts hq 38 rfl hp
theorem c_m_sorts (σ : MS) (x1 : Int32) (x2 : Int32) (out : Int32 × MS) (hm : m_sorts σ x1 x2 = some out) : CT yX12_sorts cX12_sorts 5 (some .int) 5 120 0 0 [.ref 0, .int x1, .int x2] (hM σ) (fun v h => v = (some (.int out.1)) ∧ h = (hM out.2)) :=
  CT_of (by decide +kernel) (vs0 := [some (.ref 0), some (.int x1), some (.int x2), none, none]) rfl rfl (fun X C hq => t_m_sorts C hq σ x1 x2 out hm ⟨rfl, rfl⟩)
/-! X12_draw -/
def m_draw_J78 (k : MS → Int32 → Int32 → Int32 → Int32 → Int32 → Int32 → Int32 → Option (Int32)) (σ : MS) (x2 : Int32) (x3 : Int32) (x4 : Int32) (x5 : Int32) (x6 : Int32) (x7 : Int32) (x8 : Int32) : Option (Int32) :=
  if ((x4 >>> (x8 &&& 31)) &&& 1) = 1 then
    k σ x2 x3 x4 x5 x6 (x7 - 0) (x8 + 1)
  else
    k σ x2 x3 x4 x5 x6 (x7 - 1) (x8 + 1)
set_option maxRecDepth 100000 in
set_option maxHeartbeats 1000000 in
theorem j_m_draw_78 {X : CTX} {K : Option Value → AH → Prop} (C : CX X cX12_draw yX12_draw.cls (decide (yX12_draw.name = "<init>")) 2 45) (hq : RQ X (some .int) K) (k : MS → Int32 → Int32 → Int32 → Int32 → Int32 → Int32 → Int32 → Option (Int32)) (hk : ∀ (σ : MS) (x2 : Int32) (x3 : Int32) (x4 : Int32) (x5 : Int32) (x6 : Int32) (x7 : Int32) (x8 : Int32) (out : Int32), k σ x2 x3 x4 x5 x6 x7 x8 = some out → MW X (105, [none, none, some (.int x2), some (.int x3), some (.int x4), some (.int x5), some (.int x6), none, some (.int out)], [], (hM σ), 0, 0) → MW X (62, [none, none, some (.int x2), some (.int x3), some (.int x4), some (.int x5), some (.int x6), some (.int x7), some (.int x8)], [], (hM σ), 0, 0)) (σ : MS) (x2 : Int32) (x3 : Int32) (x4 : Int32) (x5 : Int32) (x6 : Int32) (x7 : Int32) (x8 : Int32) (out : Int32) (hm : m_draw_J78 k σ x2 x3 x4 x5 x6 x7 x8 = some out) (hp : MW X (105, [none, none, some (.int x2), some (.int x3), some (.int x4), some (.int x5), some (.int x6), none, some (.int out)], [], (hM σ), 0, 0)) : MW X (78, [none, none, some (.int x2), some (.int x3), some (.int x4), some (.int x5), some (.int x6), some (.int x7), some (.int x8)], [], (hM σ), 0, 0) := by
  unfold m_draw_J78 at hm
  refine MW_run C okX12_draw 47 7 (gs := []) (cf' := (88, [none, none, some (.int x2), some (.int x3), some (.int x4), some (.int x5), some (.int x6), some (.int x7), some (.int x8)], [.int 1, .int ((x4 >>> (x8 &&& 31)) &&& 1), .int x7], (hM σ), 0, 0)) rfl trivial ?_
  obtain ⟨hmt88, hmf88⟩ := of_if hm
  refine MW_brF C okX12_draw 54 rfl rfl (fun hb88 => ?_) (fun hb88 => ?_)
  · have hm := hmt88 hb88
    refine MW_run C okX12_draw 55 2 (gs := []) (cf' := (96, [none, none, some (.int x2), some (.int x3), some (.int x4), some (.int x5), some (.int x6), some (.int x7), some (.int x8)], [.int 0, .int x7], (hM σ), 0, 0)) rfl trivial ?_
    refine MW_run C okX12_draw 58 4 (gs := []) (cf' := (62, [none, none, some (.int x2), some (.int x3), some (.int x4), some (.int x5), some (.int x6), some (.int (x7 - 0)), some (.int (x8 + 1))], [], (hM σ), 0, 0)) rfl trivial ?_
    exact hk σ x2 x3 x4 x5 x6 (x7 - 0) (x8 + 1) _ hm hp
  · have hm := hmf88 hb88
    refine MW_run C okX12_draw 57 1 (gs := []) (cf' := (96, [none, none, some (.int x2), some (.int x3), some (.int x4), some (.int x5), some (.int x6), some (.int x7), some (.int x8)], [.int 1, .int x7], (hM σ), 0, 0)) rfl trivial ?_
    refine MW_run C okX12_draw 58 4 (gs := []) (cf' := (62, [none, none, some (.int x2), some (.int x3), some (.int x4), some (.int x5), some (.int x6), some (.int (x7 - 1)), some (.int (x8 + 1))], [], (hM σ), 0, 0)) rfl trivial ?_
    exact hk σ x2 x3 x4 x5 x6 (x7 - 1) (x8 + 1) _ hm hp
def m_draw_L62 : Nat → MS → Int32 → Int32 → Int32 → Int32 → Int32 → Int32 → Int32 → Option (Int32)
  | 0, _, _, _, _, _, _, _, _ => none
  | n + 1, σ, x2, x3, x4, x5, x6, x7, x8 =>
    if ((x4 >>> (x8 &&& 31)) &&& 1) = 1 then
      m_draw_J78 (m_draw_L62 n) σ x2 x3 x4 x5 x6 x7 x8
    else
      if (0 : Int32) < x7 then
        m_draw_J78 (m_draw_L62 n) σ x2 x3 x4 x5 x6 x7 x8
      else
        some x8
set_option maxRecDepth 100000 in
set_option maxHeartbeats 1000000 in
theorem l_m_draw_62 {X : CTX} {K : Option Value → AH → Prop} (C : CX X cX12_draw yX12_draw.cls (decide (yX12_draw.name = "<init>")) 2 45) (hq : RQ X (some .int) K) : ∀ (n : Nat) (σ : MS) (x2 : Int32) (x3 : Int32) (x4 : Int32) (x5 : Int32) (x6 : Int32) (x7 : Int32) (x8 : Int32) (out : Int32) (hm : m_draw_L62 n σ x2 x3 x4 x5 x6 x7 x8 = some out) (hp : MW X (105, [none, none, some (.int x2), some (.int x3), some (.int x4), some (.int x5), some (.int x6), none, some (.int out)], [], (hM σ), 0, 0)), MW X (62, [none, none, some (.int x2), some (.int x3), some (.int x4), some (.int x5), some (.int x6), some (.int x7), some (.int x8)], [], (hM σ), 0, 0) := by
  intro n
  induction n with
  | zero => intro σ x2 x3 x4 x5 x6 x7 x8 out hm hp; rw [m_draw_L62] at hm; cases hm
  | succ n ih =>
    intro σ x2 x3 x4 x5 x6 x7 x8 out hm hp
    rw [m_draw_L62] at hm
    refine MW_run C okX12_draw 38 6 (gs := []) (cf' := (70, [none, none, some (.int x2), some (.int x3), some (.int x4), some (.int x5), some (.int x6), some (.int x7), some (.int x8)], [.int 1, .int ((x4 >>> (x8 &&& 31)) &&& 1)], (hM σ), 0, 0)) rfl trivial ?_
    obtain ⟨hmt70, hmf70⟩ := of_if hm
    refine MW_brT C okX12_draw 44 rfl rfl (fun hb70 => ?_) (fun hb70 => ?_)
    · have hm := hmt70 hb70
      exact j_m_draw_78 C hq (m_draw_L62 n) ih σ x2 x3 x4 x5 x6 x7 x8 _ hm hp
    · have hm := hmf70 hb70
      refine MW_run C okX12_draw 45 1 (gs := []) (cf' := (75, [none, none, some (.int x2), some (.int x3), some (.int x4), some (.int x5), some (.int x6), some (.int x7), some (.int x8)], [.int x7], (hM σ), 0, 0)) rfl trivial ?_
      obtain ⟨hmt75, hmf75⟩ := of_if hm
      refine MW_brF C okX12_draw 46 rfl rfl (fun hb75 => ?_) (fun hb75 => ?_)
      · have hm := hmt75 hb75
        exact j_m_draw_78 C hq (m_draw_L62 n) ih σ x2 x3 x4 x5 x6 x7 x8 _ hm hp
      · have hm := hmf75 hb75
        obtain rfl := Option.some.inj hm
        refine MW_pick [true, true, true, true, true, true, true, false, true] rfl (vs' := [none, none, some (.int x2), some (.int x3), some (.int x4), some (.int x5), some (.int x6), none, some (.int x8)]) rfl ?_
        exact hp
def m_draw_L33 : Nat → MS → Int32 → Int32 → Int32 → Int32 → Int32 → Option (Int32)
  | 0, _, _, _, _, _, _ => none
  | n + 1, σ, x2, x3, x4, x5, x6 =>
    if x6 < x2 then
      if ¬ (x2 - x6) = 0 then
        (m_draw_L62 N0 σ x2 (irm (((75 : Int32) * x3) + 74) 65537) x4 x5 x6 (irm (irm (((75 : Int32) * x3) + 74) 65537) (x2 - x6)) 1).bind fun q62 =>
          m_draw_L33 n σ x2 (irm (((75 : Int32) * x3) + 74) 65537) (x4 ||| ((1 : Int32) <<< (q62 &&& 31))) (((10 : Int32) * x5) + q62) (x6 + 1)
      else none
    else
      some x5
set_option maxRecDepth 100000 in
set_option maxHeartbeats 1000000 in
theorem l_m_draw_33 {X : CTX} {K : Option Value → AH → Prop} (C : CX X cX12_draw yX12_draw.cls (decide (yX12_draw.name = "<init>")) 2 45) (hq : RQ X (some .int) K) : ∀ (n : Nat) (σ : MS) (x2 : Int32) (x3 : Int32) (x4 : Int32) (x5 : Int32) (x6 : Int32) (out : Int32) (hm : m_draw_L33 n σ x2 x3 x4 x5 x6 = some out) (hp : MW X (130, [none, none, none, none, none, some (.int out), none, none, none], [], (hM σ), 0, 0)), MW X (33, [none, none, some (.int x2), some (.int x3), some (.int x4), some (.int x5), some (.int x6), none, none], [], (hM σ), 0, 0) := by
  intro n
  induction n with
  | zero => intro σ x2 x3 x4 x5 x6 out hm hp; rw [m_draw_L33] at hm; cases hm
  | succ n ih =>
    intro σ x2 x3 x4 x5 x6 out hm hp
    rw [m_draw_L33] at hm
    refine MW_run C okX12_draw 19 2 (gs := []) (cf' := (36, [none, none, some (.int x2), some (.int x3), some (.int x4), some (.int x5), some (.int x6), none, none], [.int x2, .int x6], (hM σ), 0, 0)) rfl trivial ?_
    obtain ⟨hmt36, hmf36⟩ := of_if hm
    refine MW_brF C okX12_draw 21 rfl rfl (fun hb36 => ?_) (fun hb36 => ?_)
    · have hm := hmt36 hb36
      obtain ⟨hg62, hm⟩ := of_guard hm
      refine MW_run C okX12_draw 22 16 (gs := [¬ (65537 : Int32) = 0, ¬ (x2 - x6) = 0]) (cf' := (62, [none, none, some (.int x2), some (.int (irm (((75 : Int32) * x3) + 74) 65537)), some (.int x4), some (.int x5), some (.int x6), some (.int (irm (irm (((75 : Int32) * x3) + 74) 65537) (x2 - x6))), some (.int 1)], [], (hM σ), 0, 0)) rfl ⟨(show ¬ (65537 : Int32) = 0 by decide), hg62⟩ ?_
      obtain ⟨q62, hc62, hm⟩ := of_bind hm
      refine l_m_draw_62 C hq N0 σ x2 (irm (((75 : Int32) * x3) + 74) 65537) x4 x5 x6 (irm (irm (((75 : Int32) * x3) + 74) 65537) (x2 - x6)) 1 q62 hc62 ?_
      refine MW_run C okX12_draw 62 14 (gs := []) (cf' := (33, [none, none, some (.int x2), some (.int (irm (((75 : Int32) * x3) + 74) 65537)), some (.int (x4 ||| ((1 : Int32) <<< (q62 &&& 31)))), some (.int (((10 : Int32) * x5) + q62)), some (.int (x6 + 1)), none, some (.int q62)], [], (hM σ), 0, 0)) rfl trivial ?_
      refine MW_pick [true, true, true, true, true, true, true, true, false] rfl (vs' := [none, none, some (.int x2), some (.int (irm (((75 : Int32) * x3) + 74) 65537)), some (.int (x4 ||| ((1 : Int32) <<< (q62 &&& 31)))), some (.int (((10 : Int32) * x5) + q62)), some (.int (x6 + 1)), none, none]) rfl ?_
      exact ih σ x2 (irm (((75 : Int32) * x3) + 74) 65537) (x4 ||| ((1 : Int32) <<< (q62 &&& 31))) (((10 : Int32) * x5) + q62) (x6 + 1) _ hm hp
    · have hm := hmf36 hb36
      obtain rfl := Option.some.inj hm
      refine MW_pick [true, true, false, false, false, true, false, true, true] rfl (vs' := [none, none, none, none, none, some (.int x5), none, none, none]) rfl ?_
      exact hp
def m_draw (σ : MS) (x1 : Int32) (x2 : Int32) : Option (Int32) :=
  (m_in ((x1 : Int32).toInt64) 0 9999).bind fun q6 =>
    if q6 = 0 then
      some (-2)
    else
      (m_isCount x2).bind fun q13 =>
        if q13 = 0 then
          some (-2)
        else
          (m_draw_L33 N0 σ x2 x1 0 0 0).bind fun q33 =>
            some q33
set_option maxRecDepth 100000 in
set_option maxHeartbeats 1000000 in
theorem t_m_draw {X : CTX} {K : Option Value → AH → Prop} (C : CX X cX12_draw yX12_draw.cls (decide (yX12_draw.name = "<init>")) 2 45) (hq : RQ X (some .int) K) (σ : MS) (x1 : Int32) (x2 : Int32) (out : Int32) (hm : m_draw σ x1 x2 = some out) (hp : K (some (.int out)) (hM σ)) : MW X (0, [some (.ref 0), some (.int x1), some (.int x2), none, none, none, none, none, none], [], (hM σ), 0, 0) := by
  unfold m_draw at hm
  refine MW_run C okX12_draw 0 4 (gs := []) (cf' := (6, [some (.ref 0), some (.int x1), some (.int x2), none, none, none, none, none, none], [.long 9999, .long 0, .long ((x1 : Int32).toInt64)], (hM σ), 0, 0)) rfl trivial ?_
  obtain ⟨q6, hc6, hm⟩ := of_bind hm
  refine MW_callS0 C okX12_draw 4 rfl (v0 := some (.int q6)) (c_m_in ((x1 : Int32).toInt64) 0 9999 q6 hc6) lkX12_121 3 dpX12_in (by decide) (rest := []) rfl rfl rfl rfl rfl ?_
  obtain ⟨hmt9, hmf9⟩ := of_if hm
  refine MW_brT C okX12_draw 5 rfl rfl (fun hb9 => ?_) (fun hb9 => ?_)
  · have hm := hmt9 hb9
    refine MW_run C okX12_draw 9 1 (gs := []) (cf' := (21, [some (.ref 0), some (.int x1), some (.int x2), none, none, none, none, none, none], [.int (-2)], (hM σ), 0, 0)) rfl trivial ?_
    obtain rfl := Option.some.inj hm
    exact MW_iret C okX12_draw hq 10 rfl hp
  · have hm := hmf9 hb9
    refine MW_run C okX12_draw 6 1 (gs := []) (cf' := (13, [some (.ref 0), some (.int x1), some (.int x2), none, none, none, none, none, none], [.int x2], (hM σ), 0, 0)) rfl trivial ?_
    obtain ⟨q13, hc13, hm⟩ := of_bind hm
    refine MW_callS0 C okX12_draw 7 rfl (v0 := some (.int q13)) (c_m_isCount x2 q13 hc13) lkX12_282 1 dpX12_isCount (by decide) (rest := []) rfl rfl rfl rfl rfl ?_
    obtain ⟨hmt16, hmf16⟩ := of_if hm
    refine MW_brF C okX12_draw 8 rfl rfl (fun hb16 => ?_) (fun hb16 => ?_)
    · have hm := hmt16 hb16
      refine MW_run C okX12_draw 9 1 (gs := []) (cf' := (21, [some (.ref 0), some (.int x1), some (.int x2), none, none, none, none, none, none], [.int (-2)], (hM σ), 0, 0)) rfl trivial ?_
      obtain rfl := Option.some.inj hm
      exact MW_iret C okX12_draw hq 10 rfl hp
    · have hm := hmf16 hb16
      refine MW_run C okX12_draw 11 8 (gs := []) (cf' := (33, [some (.ref 0), some (.int x1), some (.int x2), some (.int x1), some (.int 0), some (.int 0), some (.int 0), none, none], [], (hM σ), 0, 0)) rfl trivial ?_
      obtain ⟨q33, hc33, hm⟩ := of_bind hm
      refine MW_pick [false, false, true, true, true, true, true, true, true] rfl (vs' := [none, none, some (.int x2), some (.int x1), some (.int 0), some (.int 0), some (.int 0), none, none]) rfl ?_
      refine l_m_draw_33 C hq N0 σ x2 x1 0 0 0 q33 hc33 ?_
      refine MW_run C okX12_draw 76 1 (gs := []) (cf' := (132, [none, none, none, none, none, some (.int q33), none, none, none], [.int q33], (hM σ), 0, 0)) rfl trivial ?_
      obtain rfl := Option.some.inj hm
      exact MW_iret C okX12_draw hq 77 rfl hp
theorem c_m_draw (σ : MS) (x1 : Int32) (x2 : Int32) (out : Int32) (hm : m_draw σ x1 x2 = some out) : CT yX12_draw cX12_draw 9 (some .int) 2 45 0 0 [.ref 0, .int x1, .int x2] (hM σ) (fun v h => v = (some (.int out)) ∧ h = (hM σ)) :=
  CT_of (by decide +kernel) (vs0 := [some (.ref 0), some (.int x1), some (.int x2), none, none, none, none, none, none]) rfl rfl (fun X C hq => t_m_draw C hq σ x1 x2 out hm ⟨rfl, rfl⟩)
/-! X12_pass -/
def m_pass_J20 (σ : MS) (w0 : Int32) : Option (Int32 × MS) :=
  if inb (gI σ 42) 200 then
    some (w0, (sI (sA σ 28 (gI σ 42) w0) 42 ((gI σ 42) + 1)))
  else none
set_option maxRecDepth 100000 in
set_option maxHeartbeats 1000000 in
theorem j_m_pass_20 {X : CTX} {K : Option Value → AH → Prop} (C : CX X cX12_pass yX12_pass.cls (decide (yX12_pass.name = "<init>")) 0 0) (hq : RQ X (some .int) K) (σ : MS) (w0 : Int32) (out : Int32 × MS) (hm : m_pass_J20 σ w0 = some out) (hp : K (some (.int out.1)) (hM out.2)) : MW X (20, [some (.ref 0), none, none], [.int w0], (hM σ), 0, 0) := by
  unfold m_pass_J20 at hm
  obtain ⟨hg42, hm⟩ := of_guard hm
  refine MW_run C okX12_pass 10 14 (gs := [inb (gI σ 42) 200]) (cf' := (42, [some (.ref 0), none, some (.int w0)], [.int w0], (hM (sI (sA σ 28 (gI σ 42) w0) 42 ((gI σ 42) + 1))), 0, 0)) rfl hg42 ?_
  obtain rfl := Option.some.inj hm
  exact MW_iret C okX12_pass hq 24 rfl hp
def m_pass (σ : MS) (x1 : Int32) : Option (Int32 × MS) :=
  if (gI σ 43) = 0 then
    if inb (gI σ 42) 200 then
      m_pass_J20 σ (gA σ 28 (gI σ 42))
    else none
  else
    m_pass_J20 σ x1
set_option maxRecDepth 100000 in
set_option maxHeartbeats 1000000 in
theorem t_m_pass {X : CTX} {K : Option Value → AH → Prop} (C : CX X cX12_pass yX12_pass.cls (decide (yX12_pass.name = "<init>")) 0 0) (hq : RQ X (some .int) K) (σ : MS) (x1 : Int32) (out : Int32 × MS) (hm : m_pass σ x1 = some out) (hp : K (some (.int out.1)) (hM out.2)) : MW X (0, [some (.ref 0), some (.int x1), none], [], (hM σ), 0, 0) := by
  unfold m_pass at hm
  refine MW_run C okX12_pass 0 2 (gs := []) (cf' := (4, [some (.ref 0), some (.int x1), none], [.int (gI σ 43)], (hM σ), 0, 0)) rfl trivial ?_
  obtain ⟨hmt4, hmf4⟩ := of_if hm
  refine MW_brT C okX12_pass 2 rfl rfl (fun hb4 => ?_) (fun hb4 => ?_)
  · have hm := hmt4 hb4
    obtain ⟨hg20, hm⟩ := of_guard hm
    refine MW_run C okX12_pass 5 5 (gs := [inb (gI σ 42) 200]) (cf' := (20, [some (.ref 0), some (.int x1), none], [.int (gA σ 28 (gI σ 42))], (hM σ), 0, 0)) rfl hg20 ?_
    refine MW_pick [true, false, true] rfl (vs' := [some (.ref 0), none, none]) rfl ?_
    exact j_m_pass_20 C hq σ (gA σ 28 (gI σ 42)) _ hm hp
  · have hm := hmf4 hb4
    refine MW_run C okX12_pass 3 2 (gs := []) (cf' := (20, [some (.ref 0), some (.int x1), none], [.int x1], (hM σ), 0, 0)) rfl trivial ?_
    refine MW_pick [true, false, true] rfl (vs' := [some (.ref 0), none, none]) rfl ?_
    exact j_m_pass_20 C hq σ x1 _ hm hp
theorem c_m_pass (σ : MS) (x1 : Int32) (out : Int32 × MS) (hm : m_pass σ x1 = some out) : CT yX12_pass cX12_pass 3 (some .int) 0 0 0 0 [.ref 0, .int x1] (hM σ) (fun v h => v = (some (.int out.1)) ∧ h = (hM out.2)) :=
  CT_of (by decide +kernel) (vs0 := [some (.ref 0), some (.int x1), none]) rfl rfl (fun X C hq => t_m_pass C hq σ x1 out hm ⟨rfl, rfl⟩)
/-! X12_passAll -/
def m_passAll_L98 : Nat → MS → Int32 → Option (MS)
  | 0, _, _ => none
  | n + 1, σ, x1 =>
    if x1 < 4 then
      if inb x1 4 then
        (m_pass σ (gA σ 1 x1)).bind fun q115 =>
          if inb x1 4 ∧ inb x1 4 then
            (m_pass (sA q115.2 1 x1 q115.1) (gA q115.2 2 x1)).bind fun q131 =>
              if inb x1 4 ∧ inb x1 4 then
                (m_pass (sA q131.2 2 x1 q131.1) (gA q131.2 3 x1)).bind fun q147 =>
                  if inb x1 4 ∧ inb x1 4 then
                    (m_pass (sA q147.2 3 x1 q147.1) (gA q147.2 5 x1)).bind fun q163 =>
                      if inb x1 4 ∧ inb x1 4 then
                        (m_pass (sA q163.2 5 x1 q163.1) (gA q163.2 6 x1)).bind fun q179 =>
                          if inb x1 4 ∧ inb x1 4 then
                            (m_pass (sA q179.2 6 x1 q179.1) (gA q179.2 7 x1)).bind fun q195 =>
                              if inb x1 4 then
                                m_passAll_L98 n (sA q195.2 7 x1 q195.1) (x1 + 1)
                              else none
                          else none
                      else none
                  else none
              else none
          else none
      else none
    else
      some σ
set_option maxRecDepth 100000 in
set_option maxHeartbeats 1000000 in
theorem l_m_passAll_98 {X : CTX} {K : Option Value → AH → Prop} (C : CX X cX12_passAll yX12_passAll.cls (decide (yX12_passAll.name = "<init>")) 1 22) (hq : RQ X none K) : ∀ (n : Nat) (σ : MS) (x1 : Int32) (out : MS) (hm : m_passAll_L98 n σ x1 = some out) (hp : MW X (205, [some (.ref 0), none], [], (hM out), 0, 0)), MW X (98, [some (.ref 0), some (.int x1)], [], (hM σ), 0, 0) := by
  intro n
  induction n with
  | zero => intro σ x1 out hm hp; rw [m_passAll_L98] at hm; cases hm
  | succ n ih =>
    intro σ x1 out hm hp
    rw [m_passAll_L98] at hm
    refine MW_run C okX12_passAll 50 2 (gs := []) (cf' := (100, [some (.ref 0), some (.int x1)], [.int 4, .int x1], (hM σ), 0, 0)) rfl trivial ?_
    obtain ⟨hmt100, hmf100⟩ := of_if hm
    refine MW_brF C okX12_passAll 52 rfl rfl (fun hb100 => ?_) (fun hb100 => ?_)
    · have hm := hmt100 hb100
      obtain ⟨hg115, hm⟩ := of_guard hm
      refine MW_run C okX12_passAll 53 8 (gs := [inb x1 4]) (cf' := (115, [some (.ref 0), some (.int x1)], [.int (gA σ 1 x1), .ref 0, .int x1, .ref 1], (hM σ), 0, 0)) rfl hg115 ?_
      obtain ⟨q115, hc115, hm⟩ := of_bind hm
      refine MW_callV0 C okX12_passAll 61 rfl (v0 := some (.int q115.1)) (h0 := (hM q115.2)) (c_m_pass σ (gA σ 1 x1) q115 hc115) lkX12_351 1 dpX12_pass (by decide) (rest := [.int x1, .ref 1]) rfl rfl rfl rfl rfl rfl rfl rfl ?_
      obtain ⟨hg131, hm⟩ := of_guard hm
      refine MW_run C okX12_passAll 62 9 (gs := [inb x1 4, inb x1 4]) (cf' := (131, [some (.ref 0), some (.int x1)], [.int (gA q115.2 2 x1), .ref 0, .int x1, .ref 2], (hM (sA q115.2 1 x1 q115.1)), 0, 0)) rfl ⟨hg131.1, hg131.2⟩ ?_
      obtain ⟨q131, hc131, hm⟩ := of_bind hm
      refine MW_callV0 C okX12_passAll 71 rfl (v0 := some (.int q131.1)) (h0 := (hM q131.2)) (c_m_pass (sA q115.2 1 x1 q115.1) (gA q115.2 2 x1) q131 hc131) lkX12_351 1 dpX12_pass (by decide) (rest := [.int x1, .ref 2]) rfl rfl rfl rfl rfl rfl rfl rfl ?_
      obtain ⟨hg147, hm⟩ := of_guard hm
      refine MW_run C okX12_passAll 72 9 (gs := [inb x1 4, inb x1 4]) (cf' := (147, [some (.ref 0), some (.int x1)], [.int (gA q131.2 3 x1), .ref 0, .int x1, .ref 3], (hM (sA q131.2 2 x1 q131.1)), 0, 0)) rfl ⟨hg147.1, hg147.2⟩ ?_
      obtain ⟨q147, hc147, hm⟩ := of_bind hm
      refine MW_callV0 C okX12_passAll 81 rfl (v0 := some (.int q147.1)) (h0 := (hM q147.2)) (c_m_pass (sA q131.2 2 x1 q131.1) (gA q131.2 3 x1) q147 hc147) lkX12_351 1 dpX12_pass (by decide) (rest := [.int x1, .ref 3]) rfl rfl rfl rfl rfl rfl rfl rfl ?_
      obtain ⟨hg163, hm⟩ := of_guard hm
      refine MW_run C okX12_passAll 82 9 (gs := [inb x1 4, inb x1 4]) (cf' := (163, [some (.ref 0), some (.int x1)], [.int (gA q147.2 5 x1), .ref 0, .int x1, .ref 5], (hM (sA q147.2 3 x1 q147.1)), 0, 0)) rfl ⟨hg163.1, hg163.2⟩ ?_
      obtain ⟨q163, hc163, hm⟩ := of_bind hm
      refine MW_callV0 C okX12_passAll 91 rfl (v0 := some (.int q163.1)) (h0 := (hM q163.2)) (c_m_pass (sA q147.2 3 x1 q147.1) (gA q147.2 5 x1) q163 hc163) lkX12_351 1 dpX12_pass (by decide) (rest := [.int x1, .ref 5]) rfl rfl rfl rfl rfl rfl rfl rfl ?_
      obtain ⟨hg179, hm⟩ := of_guard hm
      refine MW_run C okX12_passAll 92 9 (gs := [inb x1 4, inb x1 4]) (cf' := (179, [some (.ref 0), some (.int x1)], [.int (gA q163.2 6 x1), .ref 0, .int x1, .ref 6], (hM (sA q163.2 5 x1 q163.1)), 0, 0)) rfl ⟨hg179.1, hg179.2⟩ ?_
      obtain ⟨q179, hc179, hm⟩ := of_bind hm
      refine MW_callV0 C okX12_passAll 101 rfl (v0 := some (.int q179.1)) (h0 := (hM q179.2)) (c_m_pass (sA q163.2 5 x1 q163.1) (gA q163.2 6 x1) q179 hc179) lkX12_351 1 dpX12_pass (by decide) (rest := [.int x1, .ref 6]) rfl rfl rfl rfl rfl rfl rfl rfl ?_
      obtain ⟨hg195, hm⟩ := of_guard hm
      refine MW_run C okX12_passAll 102 9 (gs := [inb x1 4, inb x1 4]) (cf' := (195, [some (.ref 0), some (.int x1)], [.int (gA q179.2 7 x1), .ref 0, .int x1, .ref 7], (hM (sA q179.2 6 x1 q179.1)), 0, 0)) rfl ⟨hg195.1, hg195.2⟩ ?_
      obtain ⟨q195, hc195, hm⟩ := of_bind hm
      refine MW_callV0 C okX12_passAll 111 rfl (v0 := some (.int q195.1)) (h0 := (hM q195.2)) (c_m_pass (sA q179.2 6 x1 q179.1) (gA q179.2 7 x1) q195 hc195) lkX12_351 1 dpX12_pass (by decide) (rest := [.int x1, .ref 7]) rfl rfl rfl rfl rfl rfl rfl rfl ?_
      obtain ⟨hg98, hm⟩ := of_guard hm
      refine MW_run C okX12_passAll 112 3 (gs := [inb x1 4]) (cf' := (98, [some (.ref 0), some (.int (x1 + 1))], [], (hM (sA q195.2 7 x1 q195.1)), 0, 0)) rfl hg98 ?_
      exact ih (sA q195.2 7 x1 q195.1) (x1 + 1) _ hm hp
    · have hm := hmf100 hb100
      obtain rfl := Option.some.inj hm
      refine MW_pick [true, false] rfl (vs' := [some (.ref 0), none]) rfl ?_
      exact hp
def m_passAll_L207 : Nat → MS → Int32 → Option (MS)
  | 0, _, _ => none
  | n + 1, σ, x1 =>
    if x1 < 3 then
      if inb x1 3 then
        (m_pass σ (gA σ 4 x1)).bind fun q224 =>
          if inb x1 3 ∧ inb x1 3 then
            (m_pass (sA q224.2 4 x1 q224.1) (gA q224.2 8 x1)).bind fun q240 =>
              if inb x1 3 then
                m_passAll_L207 n (sA q240.2 8 x1 q240.1) (x1 + 1)
              else none
          else none
      else none
    else
      some σ
set_option maxRecDepth 100000 in
set_option maxHeartbeats 1000000 in
theorem l_m_passAll_207 {X : CTX} {K : Option Value → AH → Prop} (C : CX X cX12_passAll yX12_passAll.cls (decide (yX12_passAll.name = "<init>")) 1 22) (hq : RQ X none K) : ∀ (n : Nat) (σ : MS) (x1 : Int32) (out : MS) (hm : m_passAll_L207 n σ x1 = some out) (hp : MW X (250, [some (.ref 0), none], [], (hM out), 0, 0)), MW X (207, [some (.ref 0), some (.int x1)], [], (hM σ), 0, 0) := by
  intro n
  induction n with
  | zero => intro σ x1 out hm hp; rw [m_passAll_L207] at hm; cases hm
  | succ n ih =>
    intro σ x1 out hm hp
    rw [m_passAll_L207] at hm
    refine MW_run C okX12_passAll 117 2 (gs := []) (cf' := (209, [some (.ref 0), some (.int x1)], [.int 3, .int x1], (hM σ), 0, 0)) rfl trivial ?_
    obtain ⟨hmt209, hmf209⟩ := of_if hm
    refine MW_brF C okX12_passAll 119 rfl rfl (fun hb209 => ?_) (fun hb209 => ?_)
    · have hm := hmt209 hb209
      obtain ⟨hg224, hm⟩ := of_guard hm
      refine MW_run C okX12_passAll 120 8 (gs := [inb x1 3]) (cf' := (224, [some (.ref 0), some (.int x1)], [.int (gA σ 4 x1), .ref 0, .int x1, .ref 4], (hM σ), 0, 0)) rfl hg224 ?_
      obtain ⟨q224, hc224, hm⟩ := of_bind hm
      refine MW_callV0 C okX12_passAll 128 rfl (v0 := some (.int q224.1)) (h0 := (hM q224.2)) (c_m_pass σ (gA σ 4 x1) q224 hc224) lkX12_351 1 dpX12_pass (by decide) (rest := [.int x1, .ref 4]) rfl rfl rfl rfl rfl rfl rfl rfl ?_
      obtain ⟨hg240, hm⟩ := of_guard hm
      refine MW_run C okX12_passAll 129 9 (gs := [inb x1 3, inb x1 3]) (cf' := (240, [some (.ref 0), some (.int x1)], [.int (gA q224.2 8 x1), .ref 0, .int x1, .ref 8], (hM (sA q224.2 4 x1 q224.1)), 0, 0)) rfl ⟨hg240.1, hg240.2⟩ ?_
      obtain ⟨q240, hc240, hm⟩ := of_bind hm
      refine MW_callV0 C okX12_passAll 138 rfl (v0 := some (.int q240.1)) (h0 := (hM q240.2)) (c_m_pass (sA q224.2 4 x1 q224.1) (gA q224.2 8 x1) q240 hc240) lkX12_351 1 dpX12_pass (by decide) (rest := [.int x1, .ref 8]) rfl rfl rfl rfl rfl rfl rfl rfl ?_
      obtain ⟨hg207, hm⟩ := of_guard hm
      refine MW_run C okX12_passAll 139 3 (gs := [inb x1 3]) (cf' := (207, [some (.ref 0), some (.int (x1 + 1))], [], (hM (sA q240.2 8 x1 q240.1)), 0, 0)) rfl hg207 ?_
      exact ih (sA q240.2 8 x1 q240.1) (x1 + 1) _ hm hp
    · have hm := hmf209 hb209
      obtain rfl := Option.some.inj hm
      refine MW_pick [true, false] rfl (vs' := [some (.ref 0), none]) rfl ?_
      exact hp
def m_passAll_L252 : Nat → MS → Int32 → Option (MS)
  | 0, _, _ => none
  | n + 1, σ, x1 =>
    if (40 : Int32) < x1 then
      some σ
    else
      if inb x1 41 then
        (m_pass σ (gA σ 27 x1)).bind fun q270 =>
          if inb x1 41 then
            m_passAll_L252 n (sA q270.2 27 x1 q270.1) (x1 + 1)
          else none
      else none
set_option maxRecDepth 100000 in
set_option maxHeartbeats 1000000 in
theorem l_m_passAll_252 {X : CTX} {K : Option Value → AH → Prop} (C : CX X cX12_passAll yX12_passAll.cls (decide (yX12_passAll.name = "<init>")) 1 22) (hq : RQ X none K) : ∀ (n : Nat) (σ : MS) (x1 : Int32) (out : MS) (hm : m_passAll_L252 n σ x1 = some out) (hp : MW X (280, [some (.ref 0), none], [], (hM out), 0, 0)), MW X (252, [some (.ref 0), some (.int x1)], [], (hM σ), 0, 0) := by
  intro n
  induction n with
  | zero => intro σ x1 out hm hp; rw [m_passAll_L252] at hm; cases hm
  | succ n ih =>
    intro σ x1 out hm hp
    rw [m_passAll_L252] at hm
    refine MW_run C okX12_passAll 144 2 (gs := []) (cf' := (255, [some (.ref 0), some (.int x1)], [.int 40, .int x1], (hM σ), 0, 0)) rfl trivial ?_
    obtain ⟨hmt255, hmf255⟩ := of_if hm
    refine MW_brT C okX12_passAll 146 rfl rfl (fun hb255 => ?_) (fun hb255 => ?_)
    · have hm := hmt255 hb255
      obtain rfl := Option.some.inj hm
      refine MW_pick [true, false] rfl (vs' := [some (.ref 0), none]) rfl ?_
      exact hp
    · have hm := hmf255 hb255
      obtain ⟨hg270, hm⟩ := of_guard hm
      refine MW_run C okX12_passAll 147 8 (gs := [inb x1 41]) (cf' := (270, [some (.ref 0), some (.int x1)], [.int (gA σ 27 x1), .ref 0, .int x1, .ref 27], (hM σ), 0, 0)) rfl hg270 ?_
      obtain ⟨q270, hc270, hm⟩ := of_bind hm
      refine MW_callV0 C okX12_passAll 155 rfl (v0 := some (.int q270.1)) (h0 := (hM q270.2)) (c_m_pass σ (gA σ 27 x1) q270 hc270) lkX12_351 1 dpX12_pass (by decide) (rest := [.int x1, .ref 27]) rfl rfl rfl rfl rfl rfl rfl rfl ?_
      obtain ⟨hg252, hm⟩ := of_guard hm
      refine MW_run C okX12_passAll 156 3 (gs := [inb x1 41]) (cf' := (252, [some (.ref 0), some (.int (x1 + 1))], [], (hM (sA q270.2 27 x1 q270.1)), 0, 0)) rfl hg252 ?_
      exact ih (sA q270.2 27 x1 q270.1) (x1 + 1) _ hm hp
def m_passAll (σ : MS) : Option (MS) :=
  (m_pass σ (gI σ 4)).bind fun q6 =>
    (m_pass (sI q6.2 4 q6.1) (gI q6.2 5)).bind fun q18 =>
      (m_pass (sI q18.2 5 q18.1) (gI q18.2 10)).bind fun q30 =>
        (m_pass (sI q30.2 10 q30.1) (gI q30.2 11)).bind fun q42 =>
          (m_pass (sI q42.2 11 q42.1) (gI q42.2 35)).bind fun q54 =>
            (m_pass (sI q54.2 35 q54.1) (gI q54.2 36)).bind fun q66 =>
              (m_pass (sI q66.2 36 q66.1) (gI q66.2 37)).bind fun q78 =>
                (m_pass (sI q78.2 37 q78.1) (gI q78.2 39)).bind fun q90 =>
                  (m_passAll_L98 N0 (sI q90.2 39 q90.1) 0).bind fun q98 =>
                    (m_passAll_L207 N0 q98 0).bind fun q207 =>
                      (m_passAll_L252 N0 q207 0).bind fun q252 =>
                        (m_forget q252).bind fun q281 =>
                          some q281
set_option maxRecDepth 100000 in
set_option maxHeartbeats 1000000 in
theorem t_m_passAll {X : CTX} {K : Option Value → AH → Prop} (C : CX X cX12_passAll yX12_passAll.cls (decide (yX12_passAll.name = "<init>")) 1 22) (hq : RQ X none K) (σ : MS) (out : MS) (hm : m_passAll σ = some out) (hp : K none (hM out)) : MW X (0, [some (.ref 0), none], [], (hM σ), 0, 0) := by
  unfold m_passAll at hm
  refine MW_run C okX12_passAll 0 4 (gs := []) (cf' := (6, [some (.ref 0), none], [.int (gI σ 4), .ref 0, .ref 0], (hM σ), 0, 0)) rfl trivial ?_
  obtain ⟨q6, hc6, hm⟩ := of_bind hm
  refine MW_callV0 C okX12_passAll 4 rfl (v0 := some (.int q6.1)) (h0 := (hM q6.2)) (c_m_pass σ (gI σ 4) q6 hc6) lkX12_351 1 dpX12_pass (by decide) (rest := [.ref 0]) rfl rfl rfl rfl rfl rfl rfl rfl ?_
  refine MW_run C okX12_passAll 5 5 (gs := []) (cf' := (18, [some (.ref 0), none], [.int (gI q6.2 5), .ref 0, .ref 0], (hM (sI q6.2 4 q6.1)), 0, 0)) rfl trivial ?_
  obtain ⟨q18, hc18, hm⟩ := of_bind hm
  refine MW_callV0 C okX12_passAll 10 rfl (v0 := some (.int q18.1)) (h0 := (hM q18.2)) (c_m_pass (sI q6.2 4 q6.1) (gI q6.2 5) q18 hc18) lkX12_351 1 dpX12_pass (by decide) (rest := [.ref 0]) rfl rfl rfl rfl rfl rfl rfl rfl ?_
  refine MW_run C okX12_passAll 11 5 (gs := []) (cf' := (30, [some (.ref 0), none], [.int (gI q18.2 10), .ref 0, .ref 0], (hM (sI q18.2 5 q18.1)), 0, 0)) rfl trivial ?_
  obtain ⟨q30, hc30, hm⟩ := of_bind hm
  refine MW_callV0 C okX12_passAll 16 rfl (v0 := some (.int q30.1)) (h0 := (hM q30.2)) (c_m_pass (sI q18.2 5 q18.1) (gI q18.2 10) q30 hc30) lkX12_351 1 dpX12_pass (by decide) (rest := [.ref 0]) rfl rfl rfl rfl rfl rfl rfl rfl ?_
  refine MW_run C okX12_passAll 17 5 (gs := []) (cf' := (42, [some (.ref 0), none], [.int (gI q30.2 11), .ref 0, .ref 0], (hM (sI q30.2 10 q30.1)), 0, 0)) rfl trivial ?_
  obtain ⟨q42, hc42, hm⟩ := of_bind hm
  refine MW_callV0 C okX12_passAll 22 rfl (v0 := some (.int q42.1)) (h0 := (hM q42.2)) (c_m_pass (sI q30.2 10 q30.1) (gI q30.2 11) q42 hc42) lkX12_351 1 dpX12_pass (by decide) (rest := [.ref 0]) rfl rfl rfl rfl rfl rfl rfl rfl ?_
  refine MW_run C okX12_passAll 23 5 (gs := []) (cf' := (54, [some (.ref 0), none], [.int (gI q42.2 35), .ref 0, .ref 0], (hM (sI q42.2 11 q42.1)), 0, 0)) rfl trivial ?_
  obtain ⟨q54, hc54, hm⟩ := of_bind hm
  refine MW_callV0 C okX12_passAll 28 rfl (v0 := some (.int q54.1)) (h0 := (hM q54.2)) (c_m_pass (sI q42.2 11 q42.1) (gI q42.2 35) q54 hc54) lkX12_351 1 dpX12_pass (by decide) (rest := [.ref 0]) rfl rfl rfl rfl rfl rfl rfl rfl ?_
  refine MW_run C okX12_passAll 29 5 (gs := []) (cf' := (66, [some (.ref 0), none], [.int (gI q54.2 36), .ref 0, .ref 0], (hM (sI q54.2 35 q54.1)), 0, 0)) rfl trivial ?_
  obtain ⟨q66, hc66, hm⟩ := of_bind hm
  refine MW_callV0 C okX12_passAll 34 rfl (v0 := some (.int q66.1)) (h0 := (hM q66.2)) (c_m_pass (sI q54.2 35 q54.1) (gI q54.2 36) q66 hc66) lkX12_351 1 dpX12_pass (by decide) (rest := [.ref 0]) rfl rfl rfl rfl rfl rfl rfl rfl ?_
  refine MW_run C okX12_passAll 35 5 (gs := []) (cf' := (78, [some (.ref 0), none], [.int (gI q66.2 37), .ref 0, .ref 0], (hM (sI q66.2 36 q66.1)), 0, 0)) rfl trivial ?_
  obtain ⟨q78, hc78, hm⟩ := of_bind hm
  refine MW_callV0 C okX12_passAll 40 rfl (v0 := some (.int q78.1)) (h0 := (hM q78.2)) (c_m_pass (sI q66.2 36 q66.1) (gI q66.2 37) q78 hc78) lkX12_351 1 dpX12_pass (by decide) (rest := [.ref 0]) rfl rfl rfl rfl rfl rfl rfl rfl ?_
  refine MW_run C okX12_passAll 41 5 (gs := []) (cf' := (90, [some (.ref 0), none], [.int (gI q78.2 39), .ref 0, .ref 0], (hM (sI q78.2 37 q78.1)), 0, 0)) rfl trivial ?_
  obtain ⟨q90, hc90, hm⟩ := of_bind hm
  refine MW_callV0 C okX12_passAll 46 rfl (v0 := some (.int q90.1)) (h0 := (hM q90.2)) (c_m_pass (sI q78.2 37 q78.1) (gI q78.2 39) q90 hc90) lkX12_351 1 dpX12_pass (by decide) (rest := [.ref 0]) rfl rfl rfl rfl rfl rfl rfl rfl ?_
  refine MW_run C okX12_passAll 47 3 (gs := []) (cf' := (98, [some (.ref 0), some (.int 0)], [], (hM (sI q90.2 39 q90.1)), 0, 0)) rfl trivial ?_
  obtain ⟨q98, hc98, hm⟩ := of_bind hm
  refine l_m_passAll_98 C hq N0 (sI q90.2 39 q90.1) 0 q98 hc98 ?_
  refine MW_run C okX12_passAll 115 2 (gs := []) (cf' := (207, [some (.ref 0), some (.int 0)], [], (hM q98), 0, 0)) rfl trivial ?_
  obtain ⟨q207, hc207, hm⟩ := of_bind hm
  refine l_m_passAll_207 C hq N0 q98 0 q207 hc207 ?_
  refine MW_run C okX12_passAll 142 2 (gs := []) (cf' := (252, [some (.ref 0), some (.int 0)], [], (hM q207), 0, 0)) rfl trivial ?_
  obtain ⟨q252, hc252, hm⟩ := of_bind hm
  refine l_m_passAll_252 C hq N0 q207 0 q252 hc252 ?_
  refine MW_run C okX12_passAll 159 1 (gs := []) (cf' := (281, [some (.ref 0), none], [.ref 0], (hM q252), 0, 0)) rfl trivial ?_
  obtain ⟨q281, hc281, hm⟩ := of_bind hm
  refine MW_callV0 C okX12_passAll 160 rfl (v0 := none) (h0 := (hM q281)) (c_m_forget q252 q281 hc281) lkX12_140 0 dpX12_forget (by decide) (rest := []) rfl rfl rfl rfl rfl rfl rfl rfl ?_
  obtain rfl := Option.some.inj hm
  exact MW_vret C okX12_passAll hq 161 rfl hp
theorem c_m_passAll (σ : MS) (out : MS) (hm : m_passAll σ = some out) : CT yX12_passAll cX12_passAll 2 none 1 22 0 0 [.ref 0] (hM σ) (fun v h => v = none ∧ h = (hM out)) :=
  CT_of (by decide +kernel) (vs0 := [some (.ref 0), none]) rfl rfl (fun X C hq => t_m_passAll C hq σ out hm ⟨rfl, rfl⟩)
/-! X12_image -/
def m_image (σ : MS) (x1 : Int32) : Option (Int32 × MS) :=
  (m_in ((x1 : Int32).toInt64) 0 1).bind fun q4 =>
    if q4 = 0 then
      some ((-2), σ)
    else
      (m_passAll (sI (sI σ 42 ((100 : Int32) * x1)) 43 1)).bind fun q27 =>
        if inb x1 2 then
          some (1, (sA q27 29 x1 (narZ 1)))
        else none
set_option maxRecDepth 100000 in
set_option maxHeartbeats 1000000 in
theorem t_m_image {X : CTX} {K : Option Value → AH → Prop} (C : CX X cX12_image yX12_image.cls (decide (yX12_image.name = "<init>")) 2 43) (hq : RQ X (some .int) K) (σ : MS) (x1 : Int32) (out : Int32 × MS) (hm : m_image σ x1 = some out) (hp : K (some (.int out.1)) (hM out.2)) : MW X (0, [some (.ref 0), some (.int x1)], [], (hM σ), 0, 0) := by
  unfold m_image at hm
  refine MW_run C okX12_image 0 4 (gs := []) (cf' := (4, [some (.ref 0), some (.int x1)], [.long 1, .long 0, .long ((x1 : Int32).toInt64)], (hM σ), 0, 0)) rfl trivial ?_
  obtain ⟨q4, hc4, hm⟩ := of_bind hm
  refine MW_callS0 C okX12_image 4 rfl (v0 := some (.int q4)) (c_m_in ((x1 : Int32).toInt64) 0 1 q4 hc4) lkX12_121 3 dpX12_in (by decide) (rest := []) rfl rfl rfl rfl rfl ?_
  obtain ⟨hmt7, hmf7⟩ := of_if hm
  refine MW_brF C okX12_image 5 rfl rfl (fun hb7 => ?_) (fun hb7 => ?_)
  · have hm := hmt7 hb7
    refine MW_run C okX12_image 6 1 (gs := []) (cf' := (12, [some (.ref 0), some (.int x1)], [.int (-2)], (hM σ), 0, 0)) rfl trivial ?_
    obtain rfl := Option.some.inj hm
    exact MW_iret C okX12_image hq 7 rfl hp
  · have hm := hmf7 hb7
    refine MW_run C okX12_image 8 9 (gs := [isZ 1]) (cf' := (27, [some (.ref 0), some (.int x1)], [.ref 0], (hM (sI (sI σ 42 ((100 : Int32) * x1)) 43 1)), 0, 0)) rfl (show isZ 1 by decide) ?_
    obtain ⟨q27, hc27, hm⟩ := of_bind hm
    refine MW_callV0 C okX12_image 17 rfl (v0 := none) (h0 := (hM q27)) (c_m_passAll (sI (sI σ 42 ((100 : Int32) * x1)) 43 1) q27 hc27) lkX12_354 0 dpX12_passAll (by decide) (rest := []) rfl rfl rfl rfl rfl rfl rfl rfl ?_
    obtain ⟨hg38, hm⟩ := of_guard hm
    refine MW_run C okX12_image 18 6 (gs := [inb x1 2]) (cf' := (38, [some (.ref 0), some (.int x1)], [.int 1], (hM (sA q27 29 x1 (narZ 1))), 0, 0)) rfl hg38 ?_
    obtain rfl := Option.some.inj hm
    exact MW_iret C okX12_image hq 24 rfl hp
theorem c_m_image (σ : MS) (x1 : Int32) (out : Int32 × MS) (hm : m_image σ x1 = some out) : CT yX12_image cX12_image 2 (some .int) 2 43 0 0 [.ref 0, .int x1] (hM σ) (fun v h => v = (some (.int out.1)) ∧ h = (hM out.2)) :=
  CT_of (by decide +kernel) (vs0 := [some (.ref 0), some (.int x1)]) rfl rfl (fun X C hq => t_m_image C hq σ x1 out hm ⟨rfl, rfl⟩)
/-! X12_restore -/
def m_restore (σ : MS) (x1 : Int32) : Option (Int32 × MS) :=
  (m_in ((x1 : Int32).toInt64) 0 1).bind fun q4 =>
    if q4 = 0 then
      some ((-2), σ)
    else
      if inb x1 2 then
        if (gA σ 29 x1) = 0 then
          some ((-3), σ)
        else
          (m_passAll (sI (sI σ 42 ((100 : Int32) * x1)) 43 0)).bind fun q39 =>
            some (1, q39)
      else none
set_option maxRecDepth 100000 in
set_option maxHeartbeats 1000000 in
theorem t_m_restore {X : CTX} {K : Option Value → AH → Prop} (C : CX X cX12_restore yX12_restore.cls (decide (yX12_restore.name = "<init>")) 2 43) (hq : RQ X (some .int) K) (σ : MS) (x1 : Int32) (out : Int32 × MS) (hm : m_restore σ x1 = some out) (hp : K (some (.int out.1)) (hM out.2)) : MW X (0, [some (.ref 0), some (.int x1)], [], (hM σ), 0, 0) := by
  unfold m_restore at hm
  refine MW_run C okX12_restore 0 4 (gs := []) (cf' := (4, [some (.ref 0), some (.int x1)], [.long 1, .long 0, .long ((x1 : Int32).toInt64)], (hM σ), 0, 0)) rfl trivial ?_
  obtain ⟨q4, hc4, hm⟩ := of_bind hm
  refine MW_callS0 C okX12_restore 4 rfl (v0 := some (.int q4)) (c_m_in ((x1 : Int32).toInt64) 0 1 q4 hc4) lkX12_121 3 dpX12_in (by decide) (rest := []) rfl rfl rfl rfl rfl ?_
  obtain ⟨hmt7, hmf7⟩ := of_if hm
  refine MW_brF C okX12_restore 5 rfl rfl (fun hb7 => ?_) (fun hb7 => ?_)
  · have hm := hmt7 hb7
    refine MW_run C okX12_restore 6 1 (gs := []) (cf' := (12, [some (.ref 0), some (.int x1)], [.int (-2)], (hM σ), 0, 0)) rfl trivial ?_
    obtain rfl := Option.some.inj hm
    exact MW_iret C okX12_restore hq 7 rfl hp
  · have hm := hmf7 hb7
    obtain ⟨hg19, hm⟩ := of_guard hm
    refine MW_run C okX12_restore 8 4 (gs := [inb x1 2]) (cf' := (19, [some (.ref 0), some (.int x1)], [.int (gA σ 29 x1)], (hM σ), 0, 0)) rfl hg19 ?_
    obtain ⟨hmt19, hmf19⟩ := of_if hm
    refine MW_brF C okX12_restore 12 rfl rfl (fun hb19 => ?_) (fun hb19 => ?_)
    · have hm := hmt19 hb19
      refine MW_run C okX12_restore 13 1 (gs := []) (cf' := (24, [some (.ref 0), some (.int x1)], [.int (-3)], (hM σ), 0, 0)) rfl trivial ?_
      obtain rfl := Option.some.inj hm
      exact MW_iret C okX12_restore hq 14 rfl hp
    · have hm := hmf19 hb19
      refine MW_run C okX12_restore 15 9 (gs := [isZ 0]) (cf' := (39, [some (.ref 0), some (.int x1)], [.ref 0], (hM (sI (sI σ 42 ((100 : Int32) * x1)) 43 0)), 0, 0)) rfl (show isZ 0 by decide) ?_
      obtain ⟨q39, hc39, hm⟩ := of_bind hm
      refine MW_callV0 C okX12_restore 24 rfl (v0 := none) (h0 := (hM q39)) (c_m_passAll (sI (sI σ 42 ((100 : Int32) * x1)) 43 0) q39 hc39) lkX12_354 0 dpX12_passAll (by decide) (rest := []) rfl rfl rfl rfl rfl rfl rfl rfl ?_
      refine MW_run C okX12_restore 25 1 (gs := []) (cf' := (43, [some (.ref 0), some (.int x1)], [.int 1], (hM q39), 0, 0)) rfl trivial ?_
      obtain rfl := Option.some.inj hm
      exact MW_iret C okX12_restore hq 26 rfl hp
theorem c_m_restore (σ : MS) (x1 : Int32) (out : Int32 × MS) (hm : m_restore σ x1 = some out) : CT yX12_restore cX12_restore 2 (some .int) 2 43 0 0 [.ref 0, .int x1] (hM σ) (fun v h => v = (some (.int out.1)) ∧ h = (hM out.2)) :=
  CT_of (by decide +kernel) (vs0 := [some (.ref 0), some (.int x1)]) rfl rfl (fun X C hq => t_m_restore C hq σ x1 out hm ⟨rfl, rfl⟩)
/-! X12_told -/
def m_told (σ : MS) (x1 : Int32) : Option (Int32) :=
  if x1 = 0 then
    some (gI σ 13)
  else if x1 = 1 then
    some (gI σ 4)
  else if x1 = 2 then
    some (gI σ 5)
  else if x1 = 3 then
    if (gI σ 37) = 0 then
      some (-6)
    else
      some (gI σ 39)
  else if x1 = 4 then
    some (gI σ 10)
  else
    some (-2)
set_option maxRecDepth 100000 in
set_option maxHeartbeats 1000000 in
theorem t_m_told {X : CTX} {K : Option Value → AH → Prop} (C : CX X cX12_told yX12_told.cls (decide (yX12_told.name = "<init>")) 0 0) (hq : RQ X (some .int) K) (σ : MS) (x1 : Int32) (out : Int32) (hm : m_told σ x1 = some out) (hp : K (some (.int out)) (hM σ)) : MW X (0, [some (.ref 0), some (.int x1)], [], (hM σ), 0, 0) := by
  unfold m_told at hm
  refine MW_run C okX12_told 0 1 (gs := []) (cf' := (1, [some (.ref 0), some (.int x1)], [.int x1], (hM σ), 0, 0)) rfl trivial ?_
  refine MW_tsw C okX12_told 1 rfl (tgts := [36, 41, 46, 51, 68]) (dt := 73) (by decide) (fun j t hj hx => ?_) (fun hx => ?_)
  · match j, hj with
    | 0, hj =>
      cases hj
      have hm := (of_if hm).1 (by rw [hx]; rfl)
      refine MW_run C okX12_told 2 2 (gs := []) (cf' := (40, [some (.ref 0), some (.int x1)], [.int (gI σ 13)], (hM σ), 0, 0)) rfl trivial ?_
      obtain rfl := Option.some.inj hm
      exact MW_iret C okX12_told hq 4 rfl hp
    | 1, hj =>
      cases hj
      have hm := (of_if hm).2 (by rw [hx]; decide)
      have hm := (of_if hm).1 (by rw [hx]; rfl)
      refine MW_run C okX12_told 5 2 (gs := []) (cf' := (45, [some (.ref 0), some (.int x1)], [.int (gI σ 4)], (hM σ), 0, 0)) rfl trivial ?_
      obtain rfl := Option.some.inj hm
      exact MW_iret C okX12_told hq 7 rfl hp
    | 2, hj =>
      cases hj
      have hm := (of_if hm).2 (by rw [hx]; decide)
      have hm := (of_if hm).2 (by rw [hx]; decide)
      have hm := (of_if hm).1 (by rw [hx]; rfl)
      refine MW_run C okX12_told 8 2 (gs := []) (cf' := (50, [some (.ref 0), some (.int x1)], [.int (gI σ 5)], (hM σ), 0, 0)) rfl trivial ?_
      obtain rfl := Option.some.inj hm
      exact MW_iret C okX12_told hq 10 rfl hp
    | 3, hj =>
      cases hj
      have hm := (of_if hm).2 (by rw [hx]; decide)
      have hm := (of_if hm).2 (by rw [hx]; decide)
      have hm := (of_if hm).2 (by rw [hx]; decide)
      have hm := (of_if hm).1 (by rw [hx]; rfl)
      refine MW_run C okX12_told 11 2 (gs := []) (cf' := (55, [some (.ref 0), some (.int x1)], [.int (gI σ 37)], (hM σ), 0, 0)) rfl trivial ?_
      obtain ⟨hmt55, hmf55⟩ := of_if hm
      refine MW_brF C okX12_told 13 rfl rfl (fun hb55 => ?_) (fun hb55 => ?_)
      · have hm := hmt55 hb55
        refine MW_run C okX12_told 14 2 (gs := []) (cf' := (67, [some (.ref 0), some (.int x1)], [.int (-6)], (hM σ), 0, 0)) rfl trivial ?_
        obtain rfl := Option.some.inj hm
        exact MW_iret C okX12_told hq 18 rfl hp
      · have hm := hmf55 hb55
        refine MW_run C okX12_told 16 2 (gs := []) (cf' := (67, [some (.ref 0), some (.int x1)], [.int (gI σ 39)], (hM σ), 0, 0)) rfl trivial ?_
        obtain rfl := Option.some.inj hm
        exact MW_iret C okX12_told hq 18 rfl hp
    | 4, hj =>
      cases hj
      have hm := (of_if hm).2 (by rw [hx]; decide)
      have hm := (of_if hm).2 (by rw [hx]; decide)
      have hm := (of_if hm).2 (by rw [hx]; decide)
      have hm := (of_if hm).2 (by rw [hx]; decide)
      have hm := (of_if hm).1 (by rw [hx]; rfl)
      refine MW_run C okX12_told 19 2 (gs := []) (cf' := (72, [some (.ref 0), some (.int x1)], [.int (gI σ 10)], (hM σ), 0, 0)) rfl trivial ?_
      obtain rfl := Option.some.inj hm
      exact MW_iret C okX12_told hq 21 rfl hp
    | j + 5, hj => simp at hj
  · skip
    have hm := (of_if hm).2 (hx 0 (by decide))
    have hm := (of_if hm).2 (hx 1 (by decide))
    have hm := (of_if hm).2 (hx 2 (by decide))
    have hm := (of_if hm).2 (hx 3 (by decide))
    have hm := (of_if hm).2 (hx 4 (by decide))
    refine MW_run C okX12_told 22 1 (gs := []) (cf' := (75, [some (.ref 0), some (.int x1)], [.int (-2)], (hM σ), 0, 0)) rfl trivial ?_
    obtain rfl := Option.some.inj hm
    exact MW_iret C okX12_told hq 23 rfl hp
theorem c_m_told (σ : MS) (x1 : Int32) (out : Int32) (hm : m_told σ x1 = some out) : CT yX12_told cX12_told 2 (some .int) 0 0 0 0 [.ref 0, .int x1] (hM σ) (fun v h => v = (some (.int out)) ∧ h = (hM σ)) :=
  CT_of (by decide +kernel) (vs0 := [some (.ref 0), some (.int x1)]) rfl rfl (fun X C hq => t_m_told C hq σ x1 out hm ⟨rfl, rfl⟩)
