/-! C: oc_copyFrom -/
def oc_copyFrom_L21 : Nat → OcS → OcS → Int32 → Option (OcS)
  | 0, _, _, _ => none
  | n + 1, o, f, x2 =>
    if x2 < 153 then
      if inb x2 153 ∧ inb x2 153 then
        oc_copyFrom_L21 n (o.1, o.2.1, (wrL o.2.2 x2 (rd f.2.2 x2))) f (x2 + 1)
      else none
    else
      some o
set_option maxRecDepth 100000 in
set_option maxHeartbeats 1000000 in
theorem l_oc_copyFrom_21 {X : CTX} {K : Option Value → AH → Prop} (C : CX X cX2_copyFrom yX2_copyFrom.cls (decide (yX2_copyFrom.name = "<init>")) 2 47) (hq : RQ X none K) : ∀ (n : Nat) (o : OcS) (f : OcS) (x2 : Int32) (out : OcS) (hm : oc_copyFrom_L21 n o f x2 = some out) (hp : MW X (46, [none, none, none], [], (hOc 0 out ++ (hOc 3 f)), 0, 0)), MW X (21, [some (.ref 0), some (.ref 3), some (.int x2)], [], (hOc 0 o ++ (hOc 3 f)), 0, 0) := by
  intro n
  induction n with
  | zero => intro o f x2 out hm hp; rw [oc_copyFrom_L21] at hm; cases hm
  | succ n ih =>
    intro o f x2 out hm hp
    rw [oc_copyFrom_L21] at hm
    refine MW_run C okX2_copyFrom 11 2 (gs := []) (cf' := (25, [some (.ref 0), some (.ref 3), some (.int x2)], [.int 153, .int x2], (hOc 0 o ++ (hOc 3 f)), 0, 0)) rfl trivial ?_
    obtain ⟨hmt25, hmf25⟩ := of_if hm
    refine MW_brF C okX2_copyFrom 13 rfl rfl (fun hb25 => ?_) (fun hb25 => ?_)
    · have hm := hmt25 hb25
      obtain ⟨hg21, hm⟩ := of_guard hm
      refine MW_run C okX2_copyFrom 14 10 (gs := [inb x2 153, inb x2 153]) (cf' := (21, [some (.ref 0), some (.ref 3), some (.int (x2 + 1))], [], (hOc 0 (o.1, o.2.1, (wrL o.2.2 x2 (rd f.2.2 x2))) ++ (hOc 3 f)), 0, 0)) rfl ⟨hg21.1, hg21.2⟩ ?_
      exact ih (o.1, o.2.1, (wrL o.2.2 x2 (rd f.2.2 x2))) f (x2 + 1) _ hm hp
    · have hm := hmf25 hb25
      obtain rfl := Option.some.inj hm
      refine MW_pick [false, false, false] rfl (vs' := [none, none, none]) rfl ?_
      exact hp
def oc_copyFrom (o : OcS) (f : OcS) : Option (OcS) :=
  (oc_copyFrom_L21 N0 (f.1, (cpy 153 f.2.1 o.2.1), o.2.2) f 0).bind fun q21 =>
    some q21
set_option maxRecDepth 100000 in
set_option maxHeartbeats 1000000 in
theorem t_oc_copyFrom {X : CTX} {K : Option Value → AH → Prop} (C : CX X cX2_copyFrom yX2_copyFrom.cls (decide (yX2_copyFrom.name = "<init>")) 2 47) (hq : RQ X none K) (o : OcS) (f : OcS) (out : OcS) (hm : oc_copyFrom o f = some out) (hp : K none (hOc 0 out ++ (hOc 3 f))) : MW X (0, [some (.ref 0), some (.ref 3), none], [], (hOc 0 o ++ (hOc 3 f)), 0, 0) := by
  unfold oc_copyFrom at hm
  refine MW_run C okX2_copyFrom 0 8 (gs := []) (cf' := (16, [some (.ref 0), some (.ref 3), none], [.ref 1, .ref 4], (hOc 0 (f.1, o.2.1, o.2.2) ++ (hOc 3 f)), 0, 0)) rfl trivial ?_
  refine MW_callSN1 C okX2_copyFrom 8 rfl [4, 1] (v0 := none) (h0 := [.inl (0, 153, .inl f.2.1), .inl (0, 153, .inl (cpy 153 f.2.1 o.2.1))]) (c_copyInts 153 (by decide) f.2.1 o.2.1) lkX2_23 2 dpX11_copyInts (by decide) (rest := []) rfl nkX2_23 rfl rfl rfl rfl rfl rfl (st2 := []) (h2 := (hOc 0 (f.1, (cpy 153 f.2.1 o.2.1), o.2.2) ++ (hOc 3 f))) rfl rfl ?_
  refine MW_run C okX2_copyFrom 9 2 (gs := []) (cf' := (21, [some (.ref 0), some (.ref 3), some (.int 0)], [], (hOc 0 (f.1, (cpy 153 f.2.1 o.2.1), o.2.2) ++ (hOc 3 f)), 0, 0)) rfl trivial ?_
  obtain ⟨q21, hc21, hm⟩ := of_bind hm
  refine l_oc_copyFrom_21 C hq N0 (f.1, (cpy 153 f.2.1 o.2.1), o.2.2) f 0 q21 hc21 ?_
  obtain rfl := Option.some.inj hm
  exact MW_vret C okX2_copyFrom hq 24 rfl hp
theorem c_oc_copyFrom (o : OcS) (f : OcS) (out : OcS) (hm : oc_copyFrom o f = some out) : CT yX2_copyFrom cX2_copyFrom 3 none 2 47 0 0 [.ref 0, .ref 3] (hOc 0 o ++ (hOc 3 f)) (fun v h => v = none ∧ h = (hOc 0 out ++ (hOc 3 f))) :=
  CT_of (by decide +kernel) (vs0 := [some (.ref 0), some (.ref 3), none]) rfl rfl (fun X C hq => t_oc_copyFrom C hq o f out hm ⟨rfl, rfl⟩)
/-! C: yd_copyFrom -/
def yd_copyFrom (y : YdS) (f : YdS) : Option (YdS) :=
  (oc_copyFrom y.2.2.2.2.2.2.2.2 f.2.2.2.2.2.2.2.2).bind fun q84 =>
    some (f.1, f.2.1, f.2.2.1, f.2.2.2.1, (cpy 4 f.2.2.2.2.1 y.2.2.2.2.1), (cpy 4 f.2.2.2.2.2.1 y.2.2.2.2.2.1), (cpy 4 f.2.2.2.2.2.2.1 y.2.2.2.2.2.2.1), (cpy 64 f.2.2.2.2.2.2.2.1 y.2.2.2.2.2.2.2.1), q84)
set_option maxRecDepth 100000 in
set_option maxHeartbeats 1000000 in
theorem t_yd_copyFrom {X : CTX} {K : Option Value → AH → Prop} (C : CX X cX10_copyFrom yX10_copyFrom.cls (decide (yX10_copyFrom.name = "<init>")) 3 69) (hq : RQ X none K) (y : YdS) (f : YdS) (out : YdS) (hm : yd_copyFrom y f = some out) (hp : K none (hYd 0 out ++ (hYd 8 f))) : MW X (0, [some (.ref 0), some (.ref 8)], [], (hYd 0 y ++ (hYd 8 f)), 0, 0) := by
  unfold yd_copyFrom at hm
  refine MW_run C okX10_copyFrom 0 20 (gs := []) (cf' := (40, [some (.ref 0), some (.ref 8)], [.ref 1, .ref 9], (hYd 0 (f.1, f.2.1, f.2.2.1, f.2.2.2.1, y.2.2.2.2.1, y.2.2.2.2.2.1, y.2.2.2.2.2.2.1, y.2.2.2.2.2.2.2.1, y.2.2.2.2.2.2.2.2) ++ (hYd 8 f)), 0, 0)) rfl trivial ?_
  refine MW_callSN1 C okX10_copyFrom 20 rfl [9, 1] (v0 := none) (h0 := [.inl (0, 4, .inl f.2.2.2.2.1), .inl (0, 4, .inl (cpy 4 f.2.2.2.2.1 y.2.2.2.2.1))]) (c_copyInts 4 (by decide) f.2.2.2.2.1 y.2.2.2.2.1) lkX10_47 2 dpX11_copyInts (by decide) (rest := []) rfl nkX10_47 rfl rfl rfl rfl rfl rfl (st2 := []) (h2 := (hYd 0 (f.1, f.2.1, f.2.2.1, f.2.2.2.1, (cpy 4 f.2.2.2.2.1 y.2.2.2.2.1), y.2.2.2.2.2.1, y.2.2.2.2.2.2.1, y.2.2.2.2.2.2.2.1, y.2.2.2.2.2.2.2.2) ++ (hYd 8 f))) rfl rfl ?_
  refine MW_run C okX10_copyFrom 21 4 (gs := []) (cf' := (51, [some (.ref 0), some (.ref 8)], [.ref 2, .ref 10], (hYd 0 (f.1, f.2.1, f.2.2.1, f.2.2.2.1, (cpy 4 f.2.2.2.2.1 y.2.2.2.2.1), y.2.2.2.2.2.1, y.2.2.2.2.2.2.1, y.2.2.2.2.2.2.2.1, y.2.2.2.2.2.2.2.2) ++ (hYd 8 f)), 0, 0)) rfl trivial ?_
  refine MW_callSN1 C okX10_copyFrom 25 rfl [10, 2] (v0 := none) (h0 := [.inl (0, 4, .inl f.2.2.2.2.2.1), .inl (0, 4, .inl (cpy 4 f.2.2.2.2.2.1 y.2.2.2.2.2.1))]) (c_copyInts 4 (by decide) f.2.2.2.2.2.1 y.2.2.2.2.2.1) lkX10_47 2 dpX11_copyInts (by decide) (rest := []) rfl nkX10_47 rfl rfl rfl rfl rfl rfl (st2 := []) (h2 := (hYd 0 (f.1, f.2.1, f.2.2.1, f.2.2.2.1, (cpy 4 f.2.2.2.2.1 y.2.2.2.2.1), (cpy 4 f.2.2.2.2.2.1 y.2.2.2.2.2.1), y.2.2.2.2.2.2.1, y.2.2.2.2.2.2.2.1, y.2.2.2.2.2.2.2.2) ++ (hYd 8 f))) rfl rfl ?_
  refine MW_run C okX10_copyFrom 26 4 (gs := []) (cf' := (62, [some (.ref 0), some (.ref 8)], [.ref 3, .ref 11], (hYd 0 (f.1, f.2.1, f.2.2.1, f.2.2.2.1, (cpy 4 f.2.2.2.2.1 y.2.2.2.2.1), (cpy 4 f.2.2.2.2.2.1 y.2.2.2.2.2.1), y.2.2.2.2.2.2.1, y.2.2.2.2.2.2.2.1, y.2.2.2.2.2.2.2.2) ++ (hYd 8 f)), 0, 0)) rfl trivial ?_
  refine MW_callSN1 C okX10_copyFrom 30 rfl [11, 3] (v0 := none) (h0 := [.inl (0, 4, .inl f.2.2.2.2.2.2.1), .inl (0, 4, .inl (cpy 4 f.2.2.2.2.2.2.1 y.2.2.2.2.2.2.1))]) (c_copyInts 4 (by decide) f.2.2.2.2.2.2.1 y.2.2.2.2.2.2.1) lkX10_47 2 dpX11_copyInts (by decide) (rest := []) rfl nkX10_47 rfl rfl rfl rfl rfl rfl (st2 := []) (h2 := (hYd 0 (f.1, f.2.1, f.2.2.1, f.2.2.2.1, (cpy 4 f.2.2.2.2.1 y.2.2.2.2.1), (cpy 4 f.2.2.2.2.2.1 y.2.2.2.2.2.1), (cpy 4 f.2.2.2.2.2.2.1 y.2.2.2.2.2.2.1), y.2.2.2.2.2.2.2.1, y.2.2.2.2.2.2.2.2) ++ (hYd 8 f))) rfl rfl ?_
  refine MW_run C okX10_copyFrom 31 4 (gs := []) (cf' := (73, [some (.ref 0), some (.ref 8)], [.ref 4, .ref 12], (hYd 0 (f.1, f.2.1, f.2.2.1, f.2.2.2.1, (cpy 4 f.2.2.2.2.1 y.2.2.2.2.1), (cpy 4 f.2.2.2.2.2.1 y.2.2.2.2.2.1), (cpy 4 f.2.2.2.2.2.2.1 y.2.2.2.2.2.2.1), y.2.2.2.2.2.2.2.1, y.2.2.2.2.2.2.2.2) ++ (hYd 8 f)), 0, 0)) rfl trivial ?_
  refine MW_callSN1 C okX10_copyFrom 35 rfl [12, 4] (v0 := none) (h0 := [.inl (0, 64, .inl f.2.2.2.2.2.2.2.1), .inl (0, 64, .inl (cpy 64 f.2.2.2.2.2.2.2.1 y.2.2.2.2.2.2.2.1))]) (c_copyInts 64 (by decide) f.2.2.2.2.2.2.2.1 y.2.2.2.2.2.2.2.1) lkX10_47 2 dpX11_copyInts (by decide) (rest := []) rfl nkX10_47 rfl rfl rfl rfl rfl rfl (st2 := []) (h2 := (hYd 0 (f.1, f.2.1, f.2.2.1, f.2.2.2.1, (cpy 4 f.2.2.2.2.1 y.2.2.2.2.1), (cpy 4 f.2.2.2.2.2.1 y.2.2.2.2.2.1), (cpy 4 f.2.2.2.2.2.2.1 y.2.2.2.2.2.2.1), (cpy 64 f.2.2.2.2.2.2.2.1 y.2.2.2.2.2.2.2.1), y.2.2.2.2.2.2.2.2) ++ (hYd 8 f))) rfl rfl ?_
  refine MW_run C okX10_copyFrom 36 4 (gs := []) (cf' := (84, [some (.ref 0), some (.ref 8)], [.ref 13, .ref 5], (hYd 0 (f.1, f.2.1, f.2.2.1, f.2.2.2.1, (cpy 4 f.2.2.2.2.1 y.2.2.2.2.1), (cpy 4 f.2.2.2.2.2.1 y.2.2.2.2.2.1), (cpy 4 f.2.2.2.2.2.2.1 y.2.2.2.2.2.2.1), (cpy 64 f.2.2.2.2.2.2.2.1 y.2.2.2.2.2.2.2.1), y.2.2.2.2.2.2.2.2) ++ (hYd 8 f)), 0, 0)) rfl trivial ?_
  obtain ⟨q84, hc84, hm⟩ := of_bind hm
  refine MW_callV1 C okX10_copyFrom 40 rfl [5, 6, 7, 13, 14, 15] (v0 := none) (h0 := (hOc 0 q84 ++ (hOc 3 f.2.2.2.2.2.2.2.2))) (c_oc_copyFrom y.2.2.2.2.2.2.2.2 f.2.2.2.2.2.2.2.2 q84 hc84) lkX10_51 1 dpX2_copyFrom (by decide) (rest := []) rfl rfl rfl rfl rfl rfl rfl rfl rfl rfl rfl (st2 := []) (h2 := (hYd 0 (f.1, f.2.1, f.2.2.1, f.2.2.2.1, (cpy 4 f.2.2.2.2.1 y.2.2.2.2.1), (cpy 4 f.2.2.2.2.2.1 y.2.2.2.2.2.1), (cpy 4 f.2.2.2.2.2.2.1 y.2.2.2.2.2.2.1), (cpy 64 f.2.2.2.2.2.2.2.1 y.2.2.2.2.2.2.2.1), q84) ++ (hYd 8 f))) rfl rfl ?_
  obtain rfl := Option.some.inj hm
  exact MW_vret C okX10_copyFrom hq 41 rfl hp
theorem c_yd_copyFrom (y : YdS) (f : YdS) (out : YdS) (hm : yd_copyFrom y f = some out) : CT yX10_copyFrom cX10_copyFrom 2 none 3 69 0 0 [.ref 0, .ref 8] (hYd 0 y ++ (hYd 8 f)) (fun v h => v = none ∧ h = (hYd 0 out ++ (hYd 8 f))) :=
  CT_of (by decide +kernel) (vs0 := [some (.ref 0), some (.ref 8)]) rfl rfl (fun X C hq => t_yd_copyFrom C hq y f out hm ⟨rfl, rfl⟩)
/-! C: yd_lengthAt -/
def yd_lengthAt (y : YdS) (x1 : Int32) : Option (Int32) :=
  if x1 < 0 then
    some 0
  else
    if x1 < (nI 4) then
      if inb x1 4 then
        some (rd y.2.2.2.2.2.1 x1)
      else none
    else
      some 0
set_option maxRecDepth 100000 in
set_option maxHeartbeats 1000000 in
theorem t_yd_lengthAt {X : CTX} {K : Option Value → AH → Prop} (C : CX X cX10_lengthAt yX10_lengthAt.cls (decide (yX10_lengthAt.name = "<init>")) 0 0) (hq : RQ X (some .int) K) (y : YdS) (x1 : Int32) (out : Int32) (hm : yd_lengthAt y x1 = some out) (hp : K (some (.int out)) (hYd 0 y)) : MW X (0, [some (.ref 0), some (.int x1)], [], (hYd 0 y), 0, 0) := by
  unfold yd_lengthAt at hm
  refine MW_run C okX10_lengthAt 0 1 (gs := []) (cf' := (1, [some (.ref 0), some (.int x1)], [.int x1], (hYd 0 y), 0, 0)) rfl trivial ?_
  obtain ⟨hmt1, hmf1⟩ := of_if hm
  refine MW_brT C okX10_lengthAt 1 rfl rfl (fun hb1 => ?_) (fun hb1 => ?_)
  · have hm := hmt1 hb1
    refine MW_run C okX10_lengthAt 12 1 (gs := []) (cf' := (23, [some (.ref 0), some (.int x1)], [.int 0], (hYd 0 y), 0, 0)) rfl trivial ?_
    obtain rfl := Option.some.inj hm
    exact MW_iret C okX10_lengthAt hq 13 rfl hp
  · have hm := hmf1 hb1
    refine MW_run C okX10_lengthAt 2 4 (gs := []) (cf' := (10, [some (.ref 0), some (.int x1)], [.int (nI 4), .int x1], (hYd 0 y), 0, 0)) rfl trivial ?_
    obtain ⟨hmt10, hmf10⟩ := of_if hm
    refine MW_brF C okX10_lengthAt 6 rfl rfl (fun hb10 => ?_) (fun hb10 => ?_)
    · have hm := hmt10 hb10
      obtain ⟨hg23, hm⟩ := of_guard hm
      refine MW_run C okX10_lengthAt 7 5 (gs := [inb x1 4]) (cf' := (23, [some (.ref 0), some (.int x1)], [.int (rd y.2.2.2.2.2.1 x1)], (hYd 0 y), 0, 0)) rfl hg23 ?_
      obtain rfl := Option.some.inj hm
      exact MW_iret C okX10_lengthAt hq 13 rfl hp
    · have hm := hmf10 hb10
      refine MW_run C okX10_lengthAt 12 1 (gs := []) (cf' := (23, [some (.ref 0), some (.int x1)], [.int 0], (hYd 0 y), 0, 0)) rfl trivial ?_
      obtain rfl := Option.some.inj hm
      exact MW_iret C okX10_lengthAt hq 13 rfl hp
theorem c_yd_lengthAt (y : YdS) (x1 : Int32) (out : Int32) (hm : yd_lengthAt y x1 = some out) : CT yX10_lengthAt cX10_lengthAt 2 (some .int) 0 0 0 0 [.ref 0, .int x1] (hYd 0 y) (fun v h => v = (some (.int out)) ∧ h = (hYd 0 y)) :=
  CT_of (by decide +kernel) (vs0 := [some (.ref 0), some (.int x1)]) rfl rfl (fun X C hq => t_yd_lengthAt C hq y x1 out hm ⟨rfl, rfl⟩)
/-! C: yd_setLength -/
def yd_setLength (y : YdS) (x1 : Int32) (x2 : Int32) : Option (YdS) :=
  if x1 < 0 then
    some y
  else
    if x1 < (nI 4) then
      if inb x1 4 then
        some (y.1, y.2.1, y.2.2.1, y.2.2.2.1, y.2.2.2.2.1, (wr y.2.2.2.2.2.1 x1 x2), y.2.2.2.2.2.2.1, y.2.2.2.2.2.2.2.1, y.2.2.2.2.2.2.2.2)
      else none
    else
      some y
set_option maxRecDepth 100000 in
set_option maxHeartbeats 1000000 in
theorem t_yd_setLength {X : CTX} {K : Option Value → AH → Prop} (C : CX X cX10_setLength yX10_setLength.cls (decide (yX10_setLength.name = "<init>")) 0 0) (hq : RQ X none K) (y : YdS) (x1 : Int32) (x2 : Int32) (out : YdS) (hm : yd_setLength y x1 x2 = some out) (hp : K none (hYd 0 out)) : MW X (0, [some (.ref 0), some (.int x1), some (.int x2)], [], (hYd 0 y), 0, 0) := by
  unfold yd_setLength at hm
  refine MW_run C okX10_setLength 0 1 (gs := []) (cf' := (1, [some (.ref 0), some (.int x1), some (.int x2)], [.int x1], (hYd 0 y), 0, 0)) rfl trivial ?_
  obtain ⟨hmt1, hmf1⟩ := of_if hm
  refine MW_brT C okX10_setLength 1 rfl rfl (fun hb1 => ?_) (fun hb1 => ?_)
  · have hm := hmt1 hb1
    obtain rfl := Option.some.inj hm
    exact MW_vret C okX10_setLength hq 12 rfl hp
  · have hm := hmf1 hb1
    refine MW_run C okX10_setLength 2 4 (gs := []) (cf' := (10, [some (.ref 0), some (.int x1), some (.int x2)], [.int (nI 4), .int x1], (hYd 0 y), 0, 0)) rfl trivial ?_
    obtain ⟨hmt10, hmf10⟩ := of_if hm
    refine MW_brF C okX10_setLength 6 rfl rfl (fun hb10 => ?_) (fun hb10 => ?_)
    · have hm := hmt10 hb10
      obtain ⟨hg20, hm⟩ := of_guard hm
      refine MW_run C okX10_setLength 7 5 (gs := [inb x1 4]) (cf' := (20, [some (.ref 0), some (.int x1), some (.int x2)], [], (hYd 0 (y.1, y.2.1, y.2.2.1, y.2.2.2.1, y.2.2.2.2.1, (wr y.2.2.2.2.2.1 x1 x2), y.2.2.2.2.2.2.1, y.2.2.2.2.2.2.2.1, y.2.2.2.2.2.2.2.2)), 0, 0)) rfl hg20 ?_
      obtain rfl := Option.some.inj hm
      exact MW_vret C okX10_setLength hq 12 rfl hp
    · have hm := hmf10 hb10
      obtain rfl := Option.some.inj hm
      exact MW_vret C okX10_setLength hq 12 rfl hp
theorem c_yd_setLength (y : YdS) (x1 : Int32) (x2 : Int32) (out : YdS) (hm : yd_setLength y x1 x2 = some out) : CT yX10_setLength cX10_setLength 3 none 0 0 0 0 [.ref 0, .int x1, .int x2] (hYd 0 y) (fun v h => v = none ∧ h = (hYd 0 out)) :=
  CT_of (by decide +kernel) (vs0 := [some (.ref 0), some (.int x1), some (.int x2)]) rfl rfl (fun X C hq => t_yd_setLength C hq y x1 x2 out hm ⟨rfl, rfl⟩)
/-! C: nd_setLengths -/
def nd_setLengths_L16 : Nat → NdS → YdS → Int32 → Int32 → Int32 → Int32 → Option (NdS × Int32 × Int32)
  | 0, _, _, _, _, _, _ => none
  | n + 1, s, y, x3, x4, x5, x6 =>
    if x6 < 0 then
      some (s, x4, x5)
    else
      (yd_setLength s.2.2 x6 ((irm x3 5) + 1)).bind fun q40 =>
        if x5 = 0 then
          nd_setLengths_L16 n (s.1, s.2.1, q40) y (x3 / 5) (x4 + ((irm x3 5) + 1)) 0 (x6 + (-1))
        else
          (yd_lengthAt y x6).bind fun q53 =>
            if q53 < ((irm x3 5) + 1) then
              nd_setLengths_L16 n (s.1, s.2.1, q40) y (x3 / 5) (x4 + ((irm x3 5) + 1)) 0 (x6 + (-1))
            else
              nd_setLengths_L16 n (s.1, s.2.1, q40) y (x3 / 5) (x4 + ((irm x3 5) + 1)) 1 (x6 + (-1))
set_option maxRecDepth 100000 in
set_option maxHeartbeats 1000000 in
theorem l_nd_setLengths_16 {X : CTX} {K : Option Value → AH → Prop} (C : CX X cX1_setLengths yX1_setLengths.cls (decide (yX1_setLengths.name = "<init>")) 1 22) (hq : RQ X (some .int) K) : ∀ (n : Nat) (s : NdS) (y : YdS) (x3 : Int32) (x4 : Int32) (x5 : Int32) (x6 : Int32) (out : NdS × Int32 × Int32) (hm : nd_setLengths_L16 n s y x3 x4 x5 x6 = some out) (hp : MW X (79, [none, none, none, none, some (.int out.2.1), some (.int out.2.2), none, none], [], (hNd 0 out.1 ++ (hYd 9 y)), 0, 0)), MW X (16, [some (.ref 0), some (.ref 9), none, some (.int x3), some (.int x4), some (.int x5), some (.int x6), none], [], (hNd 0 s ++ (hYd 9 y)), 0, 0) := by
  intro n
  induction n with
  | zero => intro s y x3 x4 x5 x6 out hm hp; rw [nd_setLengths_L16] at hm; cases hm
  | succ n ih =>
    intro s y x3 x4 x5 x6 out hm hp
    rw [nd_setLengths_L16] at hm
    refine MW_run C okX1_setLengths 11 1 (gs := []) (cf' := (18, [some (.ref 0), some (.ref 9), none, some (.int x3), some (.int x4), some (.int x5), some (.int x6), none], [.int x6], (hNd 0 s ++ (hYd 9 y)), 0, 0)) rfl trivial ?_
    obtain ⟨hmt18, hmf18⟩ := of_if hm
    refine MW_brT C okX1_setLengths 12 rfl rfl (fun hb18 => ?_) (fun hb18 => ?_)
    · have hm := hmt18 hb18
      obtain rfl := Option.some.inj hm
      refine MW_pick [false, false, true, false, true, true, false, true] rfl (vs' := [none, none, none, none, some (.int x4), some (.int x5), none, none]) rfl ?_
      exact hp
    · have hm := hmf18 hb18
      refine MW_run C okX1_setLengths 13 14 (gs := [¬ (5 : Int32) = 0, ¬ (5 : Int32) = 0]) (cf' := (40, [some (.ref 0), some (.ref 9), none, some (.int (x3 / 5)), some (.int x4), some (.int x5), some (.int x6), some (.int ((irm x3 5) + 1))], [.int ((irm x3 5) + 1), .int x6, .ref 1], (hNd 0 s ++ (hYd 9 y)), 0, 0)) rfl ⟨(show ¬ (5 : Int32) = 0 by decide), (show ¬ (5 : Int32) = 0 by decide)⟩ ?_
      obtain ⟨q40, hc40, hm⟩ := of_bind hm
      refine MW_callV1 C okX1_setLengths 27 rfl [1, 2, 3, 4, 5, 6, 7, 8] (v0 := none) (h0 := (hYd 0 q40)) (c_yd_setLength s.2.2 x6 ((irm x3 5) + 1) q40 hc40) lkX1_50 2 dpX10_setLength (by decide) (rest := []) rfl rfl rfl rfl rfl rfl rfl rfl rfl rfl rfl (st2 := []) (h2 := (hNd 0 (s.1, s.2.1, q40) ++ (hYd 9 y))) rfl rfl ?_
      refine MW_run C okX1_setLengths 28 1 (gs := []) (cf' := (45, [some (.ref 0), some (.ref 9), none, some (.int (x3 / 5)), some (.int x4), some (.int x5), some (.int x6), some (.int ((irm x3 5) + 1))], [.int x5], (hNd 0 (s.1, s.2.1, q40) ++ (hYd 9 y)), 0, 0)) rfl trivial ?_
      obtain ⟨hmt45, hmf45⟩ := of_if hm
      refine MW_brT C okX1_setLengths 29 rfl rfl (fun hb45 => ?_) (fun hb45 => ?_)
      · have hm := hmt45 hb45
        refine MW_run C okX1_setLengths 37 1 (gs := []) (cf' := (64, [some (.ref 0), some (.ref 9), none, some (.int (x3 / 5)), some (.int x4), some (.int x5), some (.int x6), some (.int ((irm x3 5) + 1))], [.int 0], (hNd 0 (s.1, s.2.1, q40) ++ (hYd 9 y)), 0, 0)) rfl trivial ?_
        refine MW_run C okX1_setLengths 38 7 (gs := []) (cf' := (16, [some (.ref 0), some (.ref 9), none, some (.int (x3 / 5)), some (.int (x4 + ((irm x3 5) + 1))), some (.int 0), some (.int (x6 + (-1))), some (.int ((irm x3 5) + 1))], [], (hNd 0 (s.1, s.2.1, q40) ++ (hYd 9 y)), 0, 0)) rfl trivial ?_
        refine MW_pick [true, true, true, true, true, true, true, false] rfl (vs' := [some (.ref 0), some (.ref 9), none, some (.int (x3 / 5)), some (.int (x4 + ((irm x3 5) + 1))), some (.int 0), some (.int (x6 + (-1))), none]) rfl ?_
        exact ih (s.1, s.2.1, q40) y (x3 / 5) (x4 + ((irm x3 5) + 1)) 0 (x6 + (-1)) _ hm hp
      · have hm := hmf45 hb45
        refine MW_run C okX1_setLengths 30 3 (gs := []) (cf' := (53, [some (.ref 0), some (.ref 9), none, some (.int (x3 / 5)), some (.int x4), some (.int x5), some (.int x6), some (.int ((irm x3 5) + 1))], [.int x6, .ref 9, .int ((irm x3 5) + 1)], (hNd 0 (s.1, s.2.1, q40) ++ (hYd 9 y)), 0, 0)) rfl trivial ?_
        obtain ⟨q53, hc53, hm⟩ := of_bind hm
        refine MW_callV1 C okX1_setLengths 33 rfl [9, 10, 11, 12, 13, 14, 15, 16] (v0 := some (.int q53)) (h0 := (hYd 0 y)) (c_yd_lengthAt y x6 q53 hc53) lkX1_26 1 dpX10_lengthAt (by decide) (rest := [.int ((irm x3 5) + 1)]) rfl rfl rfl rfl rfl rfl rfl rfl rfl rfl rfl (st2 := [.int q53, .int ((irm x3 5) + 1)]) (h2 := (hNd 0 (s.1, s.2.1, q40) ++ (hYd 9 y))) rfl rfl ?_
        obtain ⟨hmt56, hmf56⟩ := of_if hm
        refine MW_brT C okX1_setLengths 34 rfl rfl (fun hb56 => ?_) (fun hb56 => ?_)
        · have hm := hmt56 hb56
          refine MW_run C okX1_setLengths 37 1 (gs := []) (cf' := (64, [some (.ref 0), some (.ref 9), none, some (.int (x3 / 5)), some (.int x4), some (.int x5), some (.int x6), some (.int ((irm x3 5) + 1))], [.int 0], (hNd 0 (s.1, s.2.1, q40) ++ (hYd 9 y)), 0, 0)) rfl trivial ?_
          refine MW_run C okX1_setLengths 38 7 (gs := []) (cf' := (16, [some (.ref 0), some (.ref 9), none, some (.int (x3 / 5)), some (.int (x4 + ((irm x3 5) + 1))), some (.int 0), some (.int (x6 + (-1))), some (.int ((irm x3 5) + 1))], [], (hNd 0 (s.1, s.2.1, q40) ++ (hYd 9 y)), 0, 0)) rfl trivial ?_
          refine MW_pick [true, true, true, true, true, true, true, false] rfl (vs' := [some (.ref 0), some (.ref 9), none, some (.int (x3 / 5)), some (.int (x4 + ((irm x3 5) + 1))), some (.int 0), some (.int (x6 + (-1))), none]) rfl ?_
          exact ih (s.1, s.2.1, q40) y (x3 / 5) (x4 + ((irm x3 5) + 1)) 0 (x6 + (-1)) _ hm hp
        · have hm := hmf56 hb56
          refine MW_run C okX1_setLengths 35 2 (gs := []) (cf' := (64, [some (.ref 0), some (.ref 9), none, some (.int (x3 / 5)), some (.int x4), some (.int x5), some (.int x6), some (.int ((irm x3 5) + 1))], [.int 1], (hNd 0 (s.1, s.2.1, q40) ++ (hYd 9 y)), 0, 0)) rfl trivial ?_
          refine MW_run C okX1_setLengths 38 7 (gs := []) (cf' := (16, [some (.ref 0), some (.ref 9), none, some (.int (x3 / 5)), some (.int (x4 + ((irm x3 5) + 1))), some (.int 1), some (.int (x6 + (-1))), some (.int ((irm x3 5) + 1))], [], (hNd 0 (s.1, s.2.1, q40) ++ (hYd 9 y)), 0, 0)) rfl trivial ?_
          refine MW_pick [true, true, true, true, true, true, true, false] rfl (vs' := [some (.ref 0), some (.ref 9), none, some (.int (x3 / 5)), some (.int (x4 + ((irm x3 5) + 1))), some (.int 1), some (.int (x6 + (-1))), none]) rfl ?_
          exact ih (s.1, s.2.1, q40) y (x3 / 5) (x4 + ((irm x3 5) + 1)) 1 (x6 + (-1)) _ hm hp
def nd_setLengths (s : NdS) (y : YdS) (x2 : Int32) : Option (Int32 × NdS) :=
  (nd_setLengths_L16 N0 s y x2 0 1 (y.1 - 1)).bind fun q16 =>
    if q16.2.2 = 0 then
      some (0, q16.1)
    else
      some (q16.2.1, q16.1)
set_option maxRecDepth 100000 in
set_option maxHeartbeats 1000000 in
theorem t_nd_setLengths {X : CTX} {K : Option Value → AH → Prop} (C : CX X cX1_setLengths yX1_setLengths.cls (decide (yX1_setLengths.name = "<init>")) 1 22) (hq : RQ X (some .int) K) (s : NdS) (y : YdS) (x2 : Int32) (out : Int32 × NdS) (hm : nd_setLengths s y x2 = some out) (hp : K (some (.int out.1)) (hNd 0 out.2 ++ (hYd 9 y))) : MW X (0, [some (.ref 0), some (.ref 9), some (.int x2), none, none, none, none, none], [], (hNd 0 s ++ (hYd 9 y)), 0, 0) := by
  unfold nd_setLengths at hm
  refine MW_run C okX1_setLengths 0 11 (gs := []) (cf' := (16, [some (.ref 0), some (.ref 9), some (.int x2), some (.int x2), some (.int 0), some (.int 1), some (.int (y.1 - 1)), none], [], (hNd 0 s ++ (hYd 9 y)), 0, 0)) rfl trivial ?_
  obtain ⟨q16, hc16, hm⟩ := of_bind hm
  refine MW_pick [true, true, false, true, true, true, true, true] rfl (vs' := [some (.ref 0), some (.ref 9), none, some (.int x2), some (.int 0), some (.int 1), some (.int (y.1 - 1)), none]) rfl ?_
  refine l_nd_setLengths_16 C hq N0 s y x2 0 1 (y.1 - 1) q16 hc16 ?_
  refine MW_run C okX1_setLengths 45 1 (gs := []) (cf' := (81, [none, none, none, none, some (.int q16.2.1), some (.int q16.2.2), none, none], [.int q16.2.2], (hNd 0 q16.1 ++ (hYd 9 y)), 0, 0)) rfl trivial ?_
  obtain ⟨hmt81, hmf81⟩ := of_if hm
  refine MW_brT C okX1_setLengths 46 rfl rfl (fun hb81 => ?_) (fun hb81 => ?_)
  · have hm := hmt81 hb81
    refine MW_run C okX1_setLengths 49 1 (gs := []) (cf' := (90, [none, none, none, none, some (.int q16.2.1), some (.int q16.2.2), none, none], [.int 0], (hNd 0 q16.1 ++ (hYd 9 y)), 0, 0)) rfl trivial ?_
    obtain rfl := Option.some.inj hm
    exact MW_iret C okX1_setLengths hq 50 rfl hp
  · have hm := hmf81 hb81
    refine MW_run C okX1_setLengths 47 2 (gs := []) (cf' := (90, [none, none, none, none, some (.int q16.2.1), some (.int q16.2.2), none, none], [.int q16.2.1], (hNd 0 q16.1 ++ (hYd 9 y)), 0, 0)) rfl trivial ?_
    obtain rfl := Option.some.inj hm
    exact MW_iret C okX1_setLengths hq 50 rfl hp
theorem c_nd_setLengths (s : NdS) (y : YdS) (x2 : Int32) (out : Int32 × NdS) (hm : nd_setLengths s y x2 = some out) : CT yX1_setLengths cX1_setLengths 8 (some .int) 1 22 0 0 [.ref 0, .ref 9, .int x2] (hNd 0 s ++ (hYd 9 y)) (fun v h => v = (some (.int out.1)) ∧ h = (hNd 0 out.2 ++ (hYd 9 y))) :=
  CT_of (by decide +kernel) (vs0 := [some (.ref 0), some (.ref 9), some (.int x2), none, none, none, none, none]) rfl rfl (fun X C hq => t_nd_setLengths C hq s y x2 out hm ⟨rfl, rfl⟩)
/-! C: se_forget -/
def se_forget (s : SeS) : Option (SeS) :=
  some (s.1, s.2.1, s.2.2.1, 0, 0)
set_option maxRecDepth 100000 in
set_option maxHeartbeats 1000000 in
theorem t_se_forget {X : CTX} {K : Option Value → AH → Prop} (C : CX X cX7_forget yX7_forget.cls (decide (yX7_forget.name = "<init>")) 0 0) (hq : RQ X none K) (s : SeS) (out : SeS) (hm : se_forget s = some out) (hp : K none (hSe 0 5 out)) : MW X (0, [some (.ref 0)], [], (hSe 0 5 s), 0, 0) := by
  unfold se_forget at hm
  refine MW_run C okX7_forget 0 6 (gs := []) (cf' := (10, [some (.ref 0)], [], (hSe 0 5 (s.1, s.2.1, s.2.2.1, 0, 0)), 0, 0)) rfl trivial ?_
  obtain rfl := Option.some.inj hm
  exact MW_vret C okX7_forget hq 6 rfl hp
theorem c_se_forget (s : SeS) (out : SeS) (hm : se_forget s = some out) : CT yX7_forget cX7_forget 1 none 0 0 0 0 [.ref 0] (hSe 0 5 s) (fun v h => v = none ∧ h = (hSe 0 5 out)) :=
  CT_of (by decide +kernel) (vs0 := [some (.ref 0)]) rfl rfl (fun X C hq => t_se_forget C hq s out hm ⟨rfl, rfl⟩)
/-! C: se_aim -/
def se_aim_J16 (s : SeS) (x2 : Int32) (x3 : Int32) : Option (SeS) :=
  some (s.1, s.2.1, (s.2.2.1 + 1), x2, x3)
set_option maxRecDepth 100000 in
set_option maxHeartbeats 1000000 in
theorem j_se_aim_16 {X : CTX} {K : Option Value → AH → Prop} (C : CX X cX7_aim yX7_aim.cls (decide (yX7_aim.name = "<init>")) 0 0) (hq : RQ X none K) (s : SeS) (x2 : Int32) (x3 : Int32) (out : SeS) (hm : se_aim_J16 s x2 x3 = some out) (hp : K none (hSe 0 6 out)) : MW X (16, [some (.ref 0), some (.ref 6), some (.int x2), some (.int x3)], [], (hSe 0 5 s), 0, 0) := by
  unfold se_aim_J16 at hm
  refine MW_run C okX7_aim 8 6 (gs := []) (cf' := (26, [some (.ref 0), some (.ref 6), some (.int x2), some (.int x3)], [], (hSe 0 5 (s.1, s.2.1, (s.2.2.1 + 1), s.2.2.2.1, s.2.2.2.2)), 0, 0)) rfl trivial ?_
  refine MW_run C okX7_aim 14 9 (gs := []) (cf' := (41, [some (.ref 0), some (.ref 6), some (.int x2), some (.int x3)], [], (hSe 0 6 (s.1, s.2.1, (s.2.2.1 + 1), x2, x3)), 0, 0)) rfl trivial ?_
  obtain rfl := Option.some.inj hm
  exact MW_vret C okX7_aim hq 23 rfl hp
def se_aim (s : SeS) (x2 : Int32) (x3 : Int32) : Option (SeS) :=
  if x2 = s.2.2.2.1 then
    if x3 = s.2.2.2.2 then
      some (s.1, s.2.1, s.2.2.1, x2, x3)
    else
      se_aim_J16 s x2 x3
  else
    se_aim_J16 s x2 x3
set_option maxRecDepth 100000 in
set_option maxHeartbeats 1000000 in
theorem t_se_aim {X : CTX} {K : Option Value → AH → Prop} (C : CX X cX7_aim yX7_aim.cls (decide (yX7_aim.name = "<init>")) 0 0) (hq : RQ X none K) (s : SeS) (x2 : Int32) (x3 : Int32) (out : SeS) (hm : se_aim s x2 x3 = some out) (hp : K none (hSe 0 6 out)) : MW X (0, [some (.ref 0), some (.ref 6), some (.int x2), some (.int x3)], [], (hSe 0 5 s), 0, 0) := by
  unfold se_aim at hm
  refine MW_run C okX7_aim 0 3 (gs := []) (cf' := (5, [some (.ref 0), some (.ref 6), some (.int x2), some (.int x3)], [.int s.2.2.2.1, .int x2], (hSe 0 5 s), 0, 0)) rfl trivial ?_
  obtain ⟨hmt5, hmf5⟩ := of_if hm
  refine MW_brF C okX7_aim 3 rfl rfl (fun hb5 => ?_) (fun hb5 => ?_)
  · have hm := hmt5 hb5
    refine MW_run C okX7_aim 4 3 (gs := []) (cf' := (13, [some (.ref 0), some (.ref 6), some (.int x2), some (.int x3)], [.int s.2.2.2.2, .int x3], (hSe 0 5 s), 0, 0)) rfl trivial ?_
    obtain ⟨hmt13, hmf13⟩ := of_if hm
    refine MW_brT C okX7_aim 7 rfl rfl (fun hb13 => ?_) (fun hb13 => ?_)
    · have hm := hmt13 hb13
      refine MW_run C okX7_aim 14 9 (gs := []) (cf' := (41, [some (.ref 0), some (.ref 6), some (.int x2), some (.int x3)], [], (hSe 0 6 (s.1, s.2.1, s.2.2.1, x2, x3)), 0, 0)) rfl trivial ?_
      obtain rfl := Option.some.inj hm
      exact MW_vret C okX7_aim hq 23 rfl hp
    · have hm := hmf13 hb13
      exact j_se_aim_16 C hq s x2 x3 _ hm hp
  · have hm := hmf5 hb5
    exact j_se_aim_16 C hq s x2 x3 _ hm hp
theorem c_se_aim (s : SeS) (x2 : Int32) (x3 : Int32) (out : SeS) (hm : se_aim s x2 x3 = some out) : CT yX7_aim cX7_aim 4 none 0 0 0 0 [.ref 0, .ref 6, .int x2, .int x3] (hSe 0 5 s) (fun v h => v = none ∧ h = (hSe 0 6 out)) :=
  CT_of (by decide +kernel) (vs0 := [some (.ref 0), some (.ref 6), some (.int x2), some (.int x3)]) rfl rfl (fun X C hq => t_se_aim C hq s x2 x3 out hm ⟨rfl, rfl⟩)
/-! C: rw_upTo -/
def rw_upTo_L4 : Nat → Int32 → Int32 → Int32 → Option (Int32)
  | 0, _, _, _ => none
  | n + 1, x0, x1, x2 =>
    if x0 < x2 then
      some x1
    else
      if (5 : Int32) < x2 then
        some x1
      else
        rw_upTo_L4 n x0 (x1 ||| (x2 <<< (((3 : Int32) * (x2 - 1)) &&& 31))) (x2 + 1)
set_option maxRecDepth 100000 in
set_option maxHeartbeats 1000000 in
theorem l_rw_upTo_4 {X : CTX} {K : Option Value → AH → Prop} (C : CX X cX6_upTo yX6_upTo.cls (decide (yX6_upTo.name = "<init>")) 0 0) (hq : RQ X (some .int) K) : ∀ (n : Nat) (x0 : Int32) (x1 : Int32) (x2 : Int32) (out : Int32) (hm : rw_upTo_L4 n x0 x1 x2 = some out) (hp : MW X (30, [none, some (.int out), none], [], [], 0, 0)), MW X (4, [some (.int x0), some (.int x1), some (.int x2)], [], [], 0, 0) := by
  intro n
  induction n with
  | zero => intro x0 x1 x2 out hm hp; rw [rw_upTo_L4] at hm; cases hm
  | succ n ih =>
    intro x0 x1 x2 out hm hp
    rw [rw_upTo_L4] at hm
    refine MW_run C okX6_upTo 4 2 (gs := []) (cf' := (6, [some (.int x0), some (.int x1), some (.int x2)], [.int x0, .int x2], [], 0, 0)) rfl trivial ?_
    obtain ⟨hmt6, hmf6⟩ := of_if hm
    refine MW_brT C okX6_upTo 6 rfl rfl (fun hb6 => ?_) (fun hb6 => ?_)
    · have hm := hmt6 hb6
      obtain rfl := Option.some.inj hm
      refine MW_pick [false, true, false] rfl (vs' := [none, some (.int x1), none]) rfl ?_
      exact hp
    · have hm := hmf6 hb6
      refine MW_run C okX6_upTo 7 2 (gs := []) (cf' := (11, [some (.int x0), some (.int x1), some (.int x2)], [.int 5, .int x2], [], 0, 0)) rfl trivial ?_
      obtain ⟨hmt11, hmf11⟩ := of_if hm
      refine MW_brT C okX6_upTo 9 rfl rfl (fun hb11 => ?_) (fun hb11 => ?_)
      · have hm := hmt11 hb11
        obtain rfl := Option.some.inj hm
        refine MW_pick [false, true, false] rfl (vs' := [none, some (.int x1), none]) rfl ?_
        exact hp
      · have hm := hmf11 hb11
        refine MW_run C okX6_upTo 10 12 (gs := []) (cf' := (4, [some (.int x0), some (.int (x1 ||| (x2 <<< (((3 : Int32) * (x2 - 1)) &&& 31)))), some (.int (x2 + 1))], [], [], 0, 0)) rfl trivial ?_
        exact ih x0 (x1 ||| (x2 <<< (((3 : Int32) * (x2 - 1)) &&& 31))) (x2 + 1) _ hm hp
def rw_upTo (x0 : Int32) : Option (Int32) :=
  (rw_upTo_L4 N0 x0 0 1).bind fun q4 =>
    some q4
set_option maxRecDepth 100000 in
set_option maxHeartbeats 1000000 in
theorem t_rw_upTo {X : CTX} {K : Option Value → AH → Prop} (C : CX X cX6_upTo yX6_upTo.cls (decide (yX6_upTo.name = "<init>")) 0 0) (hq : RQ X (some .int) K) (x0 : Int32) (out : Int32) (hm : rw_upTo x0 = some out) (hp : K (some (.int out)) []) : MW X (0, [some (.int x0), none, none], [], [], 0, 0) := by
  unfold rw_upTo at hm
  refine MW_run C okX6_upTo 0 4 (gs := []) (cf' := (4, [some (.int x0), some (.int 0), some (.int 1)], [], [], 0, 0)) rfl trivial ?_
  obtain ⟨q4, hc4, hm⟩ := of_bind hm
  refine l_rw_upTo_4 C hq N0 x0 0 1 q4 hc4 ?_
  refine MW_run C okX6_upTo 22 1 (gs := []) (cf' := (31, [none, some (.int q4), none], [.int q4], [], 0, 0)) rfl trivial ?_
  obtain rfl := Option.some.inj hm
  exact MW_iret C okX6_upTo hq 23 rfl hp
theorem c_rw_upTo (x0 : Int32) (out : Int32) (hm : rw_upTo x0 = some out) : CT yX6_upTo cX6_upTo 3 (some .int) 0 0 0 0 [.int x0] [] (fun v h => v = (some (.int out)) ∧ h = []) :=
  CT_of (by decide +kernel) (vs0 := [some (.int x0), none, none]) rfl rfl (fun X C hq => t_rw_upTo C hq x0 out hm ⟨rfl, rfl⟩)
/-! C: pl_begin -/
def pl_begin_L2 : Nat → PlS → Int32 → Int32 → Int32 → Option (PlS)
  | 0, _, _, _, _ => none
  | n + 1, p, x1, x2, x3 =>
    if x3 < 6 then
      if inb x3 6 ∧ inb x3 6 then
        pl_begin_L2 n ((wr p.1 x3 0), (wr p.2 x3 0)) x1 x2 (x3 + 1)
      else none
    else
      some p
set_option maxRecDepth 100000 in
set_option maxHeartbeats 1000000 in
theorem l_pl_begin_2 {X : CTX} {K : Option Value → AH → Prop} (C : CX X cX4_begin yX4_begin.cls (decide (yX4_begin.name = "<init>")) 0 0) (hq : RQ X none K) : ∀ (n : Nat) (p : PlS) (x1 : Int32) (x2 : Int32) (x3 : Int32) (out : PlS) (hm : pl_begin_L2 n p x1 x2 x3 = some out) (hp : MW X (28, [some (.ref 0), some (.int x1), some (.int x2), none], [], (hPl 0 out), 0, 0)), MW X (2, [some (.ref 0), some (.int x1), some (.int x2), some (.int x3)], [], (hPl 0 p), 0, 0) := by
  intro n
  induction n with
  | zero => intro p x1 x2 x3 out hm hp; rw [pl_begin_L2] at hm; cases hm
  | succ n ih =>
    intro p x1 x2 x3 out hm hp
    rw [pl_begin_L2] at hm
    refine MW_run C okX4_begin 2 2 (gs := []) (cf' := (5, [some (.ref 0), some (.int x1), some (.int x2), some (.int x3)], [.int 6, .int x3], (hPl 0 p), 0, 0)) rfl trivial ?_
    obtain ⟨hmt5, hmf5⟩ := of_if hm
    refine MW_brF C okX4_begin 4 rfl rfl (fun hb5 => ?_) (fun hb5 => ?_)
    · have hm := hmt5 hb5
      obtain ⟨hg2, hm⟩ := of_guard hm
      refine MW_run C okX4_begin 5 12 (gs := [inb x3 6, inb x3 6]) (cf' := (2, [some (.ref 0), some (.int x1), some (.int x2), some (.int (x3 + 1))], [], (hPl 0 ((wr p.1 x3 0), (wr p.2 x3 0))), 0, 0)) rfl ⟨hg2.1, hg2.2⟩ ?_
      exact ih ((wr p.1 x3 0), (wr p.2 x3 0)) x1 x2 (x3 + 1) _ hm hp
    · have hm := hmf5 hb5
      obtain rfl := Option.some.inj hm
      refine MW_pick [true, true, true, false] rfl (vs' := [some (.ref 0), some (.int x1), some (.int x2), none]) rfl ?_
      exact hp
def pl_begin (p : PlS) (x1 : Int32) (x2 : Int32) : Option (PlS) :=
  (pl_begin_L2 N0 p x1 x2 0).bind fun q2 =>
    some ((wr q2.1 0 x1), (wr q2.2 0 x2))
set_option maxRecDepth 100000 in
set_option maxHeartbeats 1000000 in
theorem t_pl_begin {X : CTX} {K : Option Value → AH → Prop} (C : CX X cX4_begin yX4_begin.cls (decide (yX4_begin.name = "<init>")) 0 0) (hq : RQ X none K) (p : PlS) (x1 : Int32) (x2 : Int32) (out : PlS) (hm : pl_begin p x1 x2 = some out) (hp : K none (hPl 0 out)) : MW X (0, [some (.ref 0), some (.int x1), some (.int x2), none], [], (hPl 0 p), 0, 0) := by
  unfold pl_begin at hm
  refine MW_run C okX4_begin 0 2 (gs := []) (cf' := (2, [some (.ref 0), some (.int x1), some (.int x2), some (.int 0)], [], (hPl 0 p), 0, 0)) rfl trivial ?_
  obtain ⟨q2, hc2, hm⟩ := of_bind hm
  refine l_pl_begin_2 C hq N0 p x1 x2 0 q2 hc2 ?_
  refine MW_run C okX4_begin 17 10 (gs := [inb 0 6, inb 0 6]) (cf' := (42, [some (.ref 0), some (.int x1), some (.int x2), none], [], (hPl 0 ((wr q2.1 0 x1), (wr q2.2 0 x2))), 0, 0)) rfl ⟨(show inb 0 6 by decide), (show inb 0 6 by decide)⟩ ?_
  obtain rfl := Option.some.inj hm
  exact MW_vret C okX4_begin hq 27 rfl hp
theorem c_pl_begin (p : PlS) (x1 : Int32) (x2 : Int32) (out : PlS) (hm : pl_begin p x1 x2 = some out) : CT yX4_begin cX4_begin 4 none 0 0 0 0 [.ref 0, .int x1, .int x2] (hPl 0 p) (fun v h => v = none ∧ h = (hPl 0 out)) :=
  CT_of (by decide +kernel) (vs0 := [some (.ref 0), some (.int x1), some (.int x2), none]) rfl rfl (fun X C hq => t_pl_begin C hq p x1 x2 out hm ⟨rfl, rfl⟩)
/-! C: pl_placeOfList -/
def pl_placeOfList (x0 : Int32) (x1 : Int32) : Option (Int32) :=
  if x0 < x1 then
    some (x0 + 1)
  else
    some 5
set_option maxRecDepth 100000 in
set_option maxHeartbeats 1000000 in
theorem t_pl_placeOfList {X : CTX} {K : Option Value → AH → Prop} (C : CX X cX4_placeOfList yX4_placeOfList.cls (decide (yX4_placeOfList.name = "<init>")) 0 0) (hq : RQ X (some .int) K) (x0 : Int32) (x1 : Int32) (out : Int32) (hm : pl_placeOfList x0 x1 = some out) (hp : K (some (.int out)) []) : MW X (0, [some (.int x0), some (.int x1)], [], [], 0, 0) := by
  unfold pl_placeOfList at hm
  refine MW_run C okX4_placeOfList 0 2 (gs := []) (cf' := (2, [some (.int x0), some (.int x1)], [.int x1, .int x0], [], 0, 0)) rfl trivial ?_
  obtain ⟨hmt2, hmf2⟩ := of_if hm
  refine MW_brF C okX4_placeOfList 2 rfl rfl (fun hb2 => ?_) (fun hb2 => ?_)
  · have hm := hmt2 hb2
    refine MW_run C okX4_placeOfList 3 4 (gs := []) (cf' := (12, [some (.int x0), some (.int x1)], [.int (x0 + 1)], [], 0, 0)) rfl trivial ?_
    obtain rfl := Option.some.inj hm
    exact MW_iret C okX4_placeOfList hq 8 rfl hp
  · have hm := hmf2 hb2
    refine MW_run C okX4_placeOfList 7 1 (gs := []) (cf' := (12, [some (.int x0), some (.int x1)], [.int 5], [], 0, 0)) rfl trivial ?_
    obtain rfl := Option.some.inj hm
    exact MW_iret C okX4_placeOfList hq 8 rfl hp
theorem c_pl_placeOfList (x0 : Int32) (x1 : Int32) (out : Int32) (hm : pl_placeOfList x0 x1 = some out) : CT yX4_placeOfList cX4_placeOfList 2 (some .int) 0 0 0 0 [.int x0, .int x1] [] (fun v h => v = (some (.int out)) ∧ h = []) :=
  CT_of (by decide +kernel) (vs0 := [some (.int x0), some (.int x1)]) rfl rfl (fun X C hq => t_pl_placeOfList C hq x0 x1 out hm ⟨rfl, rfl⟩)
/-! C: pl_rowAt -/
def pl_rowAt (p : PlS) (x1 : Int32) : Option (Int32) :=
  if x1 < 0 then
    some 0
  else
    if x1 < 6 then
      if inb x1 6 then
        some (rd p.1 x1)
      else none
    else
      some 0
set_option maxRecDepth 100000 in
set_option maxHeartbeats 1000000 in
theorem t_pl_rowAt {X : CTX} {K : Option Value → AH → Prop} (C : CX X cX4_rowAt yX4_rowAt.cls (decide (yX4_rowAt.name = "<init>")) 0 0) (hq : RQ X (some .int) K) (p : PlS) (x1 : Int32) (out : Int32) (hm : pl_rowAt p x1 = some out) (hp : K (some (.int out)) (hPl 0 p)) : MW X (0, [some (.ref 0), some (.int x1)], [], (hPl 0 p), 0, 0) := by
  unfold pl_rowAt at hm
  refine MW_run C okX4_rowAt 0 1 (gs := []) (cf' := (1, [some (.ref 0), some (.int x1)], [.int x1], (hPl 0 p), 0, 0)) rfl trivial ?_
  obtain ⟨hmt1, hmf1⟩ := of_if hm
  refine MW_brT C okX4_rowAt 1 rfl rfl (fun hb1 => ?_) (fun hb1 => ?_)
  · have hm := hmt1 hb1
    refine MW_run C okX4_rowAt 10 1 (gs := []) (cf' := (20, [some (.ref 0), some (.int x1)], [.int 0], (hPl 0 p), 0, 0)) rfl trivial ?_
    obtain rfl := Option.some.inj hm
    exact MW_iret C okX4_rowAt hq 11 rfl hp
  · have hm := hmf1 hb1
    refine MW_run C okX4_rowAt 2 2 (gs := []) (cf' := (7, [some (.ref 0), some (.int x1)], [.int 6, .int x1], (hPl 0 p), 0, 0)) rfl trivial ?_
    obtain ⟨hmt7, hmf7⟩ := of_if hm
    refine MW_brF C okX4_rowAt 4 rfl rfl (fun hb7 => ?_) (fun hb7 => ?_)
    · have hm := hmt7 hb7
      obtain ⟨hg20, hm⟩ := of_guard hm
      refine MW_run C okX4_rowAt 5 5 (gs := [inb x1 6]) (cf' := (20, [some (.ref 0), some (.int x1)], [.int (rd p.1 x1)], (hPl 0 p), 0, 0)) rfl hg20 ?_
      obtain rfl := Option.some.inj hm
      exact MW_iret C okX4_rowAt hq 11 rfl hp
    · have hm := hmf7 hb7
      refine MW_run C okX4_rowAt 10 1 (gs := []) (cf' := (20, [some (.ref 0), some (.int x1)], [.int 0], (hPl 0 p), 0, 0)) rfl trivial ?_
      obtain rfl := Option.some.inj hm
      exact MW_iret C okX4_rowAt hq 11 rfl hp
theorem c_pl_rowAt (p : PlS) (x1 : Int32) (out : Int32) (hm : pl_rowAt p x1 = some out) : CT yX4_rowAt cX4_rowAt 2 (some .int) 0 0 0 0 [.ref 0, .int x1] (hPl 0 p) (fun v h => v = (some (.int out)) ∧ h = (hPl 0 p)) :=
  CT_of (by decide +kernel) (vs0 := [some (.ref 0), some (.int x1)]) rfl rfl (fun X C hq => t_pl_rowAt C hq p x1 out hm ⟨rfl, rfl⟩)
/-! C: jt_bitCount -/
def jt_bitCount (x0 : Int32) : Option (Int32) :=
  some ((((((((x0 - ((iush x0 1) &&& 1431655765)) &&& 858993459) + ((iush (x0 - ((iush x0 1) &&& 1431655765)) 2) &&& 858993459)) + (iush (((x0 - ((iush x0 1) &&& 1431655765)) &&& 858993459) + ((iush (x0 - ((iush x0 1) &&& 1431655765)) 2) &&& 858993459)) 4)) &&& 252645135) + (iush (((((x0 - ((iush x0 1) &&& 1431655765)) &&& 858993459) + ((iush (x0 - ((iush x0 1) &&& 1431655765)) 2) &&& 858993459)) + (iush (((x0 - ((iush x0 1) &&& 1431655765)) &&& 858993459) + ((iush (x0 - ((iush x0 1) &&& 1431655765)) 2) &&& 858993459)) 4)) &&& 252645135) 8)) + (iush ((((((x0 - ((iush x0 1) &&& 1431655765)) &&& 858993459) + ((iush (x0 - ((iush x0 1) &&& 1431655765)) 2) &&& 858993459)) + (iush (((x0 - ((iush x0 1) &&& 1431655765)) &&& 858993459) + ((iush (x0 - ((iush x0 1) &&& 1431655765)) 2) &&& 858993459)) 4)) &&& 252645135) + (iush (((((x0 - ((iush x0 1) &&& 1431655765)) &&& 858993459) + ((iush (x0 - ((iush x0 1) &&& 1431655765)) 2) &&& 858993459)) + (iush (((x0 - ((iush x0 1) &&& 1431655765)) &&& 858993459) + ((iush (x0 - ((iush x0 1) &&& 1431655765)) 2) &&& 858993459)) 4)) &&& 252645135) 8)) 16)) &&& 63)
set_option maxRecDepth 100000 in
set_option maxHeartbeats 1000000 in
theorem t_jt_bitCount {X : CTX} {K : Option Value → AH → Prop} (C : CX X cJ6_bitCount_0f7a4 yJ6_bitCount_0f7a4.cls (decide (yJ6_bitCount_0f7a4.name = "<init>")) 0 0) (hq : RQ X (some .int) K) (x0 : Int32) (out : Int32) (hm : jt_bitCount x0 = some out) (hp : K (some (.int out)) []) : MW X (0, [some (.int x0)], [], [], 0, 0) := by
  unfold jt_bitCount at hm
  refine MW_run C okJ6_bitCount_0f7a4 0 41 (gs := []) (cf' := (52, [some (.int (((((((x0 - ((iush x0 1) &&& 1431655765)) &&& 858993459) + ((iush (x0 - ((iush x0 1) &&& 1431655765)) 2) &&& 858993459)) + (iush (((x0 - ((iush x0 1) &&& 1431655765)) &&& 858993459) + ((iush (x0 - ((iush x0 1) &&& 1431655765)) 2) &&& 858993459)) 4)) &&& 252645135) + (iush (((((x0 - ((iush x0 1) &&& 1431655765)) &&& 858993459) + ((iush (x0 - ((iush x0 1) &&& 1431655765)) 2) &&& 858993459)) + (iush (((x0 - ((iush x0 1) &&& 1431655765)) &&& 858993459) + ((iush (x0 - ((iush x0 1) &&& 1431655765)) 2) &&& 858993459)) 4)) &&& 252645135) 8)) + (iush ((((((x0 - ((iush x0 1) &&& 1431655765)) &&& 858993459) + ((iush (x0 - ((iush x0 1) &&& 1431655765)) 2) &&& 858993459)) + (iush (((x0 - ((iush x0 1) &&& 1431655765)) &&& 858993459) + ((iush (x0 - ((iush x0 1) &&& 1431655765)) 2) &&& 858993459)) 4)) &&& 252645135) + (iush (((((x0 - ((iush x0 1) &&& 1431655765)) &&& 858993459) + ((iush (x0 - ((iush x0 1) &&& 1431655765)) 2) &&& 858993459)) + (iush (((x0 - ((iush x0 1) &&& 1431655765)) &&& 858993459) + ((iush (x0 - ((iush x0 1) &&& 1431655765)) 2) &&& 858993459)) 4)) &&& 252645135) 8)) 16)))], [.int ((((((((x0 - ((iush x0 1) &&& 1431655765)) &&& 858993459) + ((iush (x0 - ((iush x0 1) &&& 1431655765)) 2) &&& 858993459)) + (iush (((x0 - ((iush x0 1) &&& 1431655765)) &&& 858993459) + ((iush (x0 - ((iush x0 1) &&& 1431655765)) 2) &&& 858993459)) 4)) &&& 252645135) + (iush (((((x0 - ((iush x0 1) &&& 1431655765)) &&& 858993459) + ((iush (x0 - ((iush x0 1) &&& 1431655765)) 2) &&& 858993459)) + (iush (((x0 - ((iush x0 1) &&& 1431655765)) &&& 858993459) + ((iush (x0 - ((iush x0 1) &&& 1431655765)) 2) &&& 858993459)) 4)) &&& 252645135) 8)) + (iush ((((((x0 - ((iush x0 1) &&& 1431655765)) &&& 858993459) + ((iush (x0 - ((iush x0 1) &&& 1431655765)) 2) &&& 858993459)) + (iush (((x0 - ((iush x0 1) &&& 1431655765)) &&& 858993459) + ((iush (x0 - ((iush x0 1) &&& 1431655765)) 2) &&& 858993459)) 4)) &&& 252645135) + (iush (((((x0 - ((iush x0 1) &&& 1431655765)) &&& 858993459) + ((iush (x0 - ((iush x0 1) &&& 1431655765)) 2) &&& 858993459)) + (iush (((x0 - ((iush x0 1) &&& 1431655765)) &&& 858993459) + ((iush (x0 - ((iush x0 1) &&& 1431655765)) 2) &&& 858993459)) 4)) &&& 252645135) 8)) 16)) &&& 63)], [], 0, 0)) rfl trivial ?_
  obtain rfl := Option.some.inj hm
  exact MW_iret C okJ6_bitCount_0f7a4 hq 41 rfl hp
theorem c_jt_bitCount (x0 : Int32) (out : Int32) (hm : jt_bitCount x0 = some out) : CT yJ6_bitCount_0f7a4 cJ6_bitCount_0f7a4 1 (some .int) 0 0 0 0 [.int x0] [] (fun v h => v = (some (.int out)) ∧ h = []) :=
  CT_of (by decide +kernel) (vs0 := [some (.int x0)]) rfl rfl (fun X C hq => t_jt_bitCount C hq x0 out hm ⟨rfl, rfl⟩)
/-! C: pl_index -/
def pl_index_L34 : Nat → PlS → Int32 → Int32 → Int32 → Int32 → Int32 → Int32 → Option (Int32 × Int32)
  | 0, _, _, _, _, _, _, _ => none
  | n + 1, p, x1, x2, x3, x4, x5, x6 =>
    if x6 < 5 then
      if (0 : Int32) < x5 then
        (jt_bitCount (x2 &&& (((1 : Int32) <<< ((x5 &&& 7) &&& 31)) - 1))).bind fun q63 =>
          pl_index_L34 n p x1 (x2 ||| ((1 : Int32) <<< ((x5 &&& 7) &&& 31))) (x3 ||| ((x4 + q63) <<< (((4 : Int32) * (x5 &&& 7)) &&& 31))) x4 (x5 >>> (3 &&& 31)) (x6 + 1)
      else
        some (x2, x3)
    else
      some (x2, x3)
set_option maxRecDepth 100000 in
set_option maxHeartbeats 1000000 in
theorem l_pl_index_34 {X : CTX} {K : Option Value → AH → Prop} (C : CX X cX4_index yX4_index.cls (decide (yX4_index.name = "<init>")) 1 21) (hq : RQ X (some .int) K) : ∀ (n : Nat) (p : PlS) (x1 : Int32) (x2 : Int32) (x3 : Int32) (x4 : Int32) (x5 : Int32) (x6 : Int32) (out : Int32 × Int32) (hm : pl_index_L34 n p x1 x2 x3 x4 x5 x6 = some out) (hp : MW X (93, [some (.ref 0), some (.int x1), some (.int out.1), some (.int out.2), some (.int x4), none, none, none, none], [], (hPl 0 p), 0, 0)), MW X (34, [some (.ref 0), some (.int x1), some (.int x2), some (.int x3), some (.int x4), some (.int x5), some (.int x6), none, none], [], (hPl 0 p), 0, 0) := by
  intro n
  induction n with
  | zero => intro p x1 x2 x3 x4 x5 x6 out hm hp; rw [pl_index_L34] at hm; cases hm
  | succ n ih =>
    intro p x1 x2 x3 x4 x5 x6 out hm hp
    rw [pl_index_L34] at hm
    refine MW_run C okX4_index 20 2 (gs := []) (cf' := (37, [some (.ref 0), some (.int x1), some (.int x2), some (.int x3), some (.int x4), some (.int x5), some (.int x6), none, none], [.int 5, .int x6], (hPl 0 p), 0, 0)) rfl trivial ?_
    obtain ⟨hmt37, hmf37⟩ := of_if hm
    refine MW_brF C okX4_index 22 rfl rfl (fun hb37 => ?_) (fun hb37 => ?_)
    · have hm := hmt37 hb37
      refine MW_run C okX4_index 23 1 (gs := []) (cf' := (42, [some (.ref 0), some (.int x1), some (.int x2), some (.int x3), some (.int x4), some (.int x5), some (.int x6), none, none], [.int x5], (hPl 0 p), 0, 0)) rfl trivial ?_
      obtain ⟨hmt42, hmf42⟩ := of_if hm
      refine MW_brF C okX4_index 24 rfl rfl (fun hb42 => ?_) (fun hb42 => ?_)
      · have hm := hmt42 hb42
        refine MW_run C okX4_index 25 13 (gs := []) (cf' := (63, [some (.ref 0), some (.int x1), some (.int x2), some (.int x3), some (.int x4), some (.int x5), some (.int x6), some (.int (x5 &&& 7)), none], [.int (x2 &&& (((1 : Int32) <<< ((x5 &&& 7) &&& 31)) - 1)), .int x4, .int x3], (hPl 0 p), 0, 0)) rfl trivial ?_
        obtain ⟨q63, hc63, hm⟩ := of_bind hm
        refine MW_callS0 C okX4_index 38 rfl (v0 := some (.int q63)) (c_jt_bitCount (x2 &&& (((1 : Int32) <<< ((x5 &&& 7) &&& 31)) - 1)) q63 hc63) lkX4_58 1 dpJ6_bitCount_0f7a4 (by decide) (rest := [.int x4, .int x3]) rfl rfl rfl rfl rfl ?_
        refine MW_run C okX4_index 39 19 (gs := []) (cf' := (34, [some (.ref 0), some (.int x1), some (.int (x2 ||| ((1 : Int32) <<< ((x5 &&& 7) &&& 31)))), some (.int (x3 ||| ((x4 + q63) <<< (((4 : Int32) * (x5 &&& 7)) &&& 31)))), some (.int x4), some (.int (x5 >>> (3 &&& 31))), some (.int (x6 + 1)), some (.int (x5 &&& 7)), none], [], (hPl 0 p), 0, 0)) rfl trivial ?_
        refine MW_pick [true, true, true, true, true, true, true, false, true] rfl (vs' := [some (.ref 0), some (.int x1), some (.int (x2 ||| ((1 : Int32) <<< ((x5 &&& 7) &&& 31)))), some (.int (x3 ||| ((x4 + q63) <<< (((4 : Int32) * (x5 &&& 7)) &&& 31)))), some (.int x4), some (.int (x5 >>> (3 &&& 31))), some (.int (x6 + 1)), none, none]) rfl ?_
        exact ih p x1 (x2 ||| ((1 : Int32) <<< ((x5 &&& 7) &&& 31))) (x3 ||| ((x4 + q63) <<< (((4 : Int32) * (x5 &&& 7)) &&& 31))) x4 (x5 >>> (3 &&& 31)) (x6 + 1) _ hm hp
      · have hm := hmf42 hb42
        obtain rfl := Option.some.inj hm
        refine MW_pick [true, true, true, true, true, false, false, true, true] rfl (vs' := [some (.ref 0), some (.int x1), some (.int x2), some (.int x3), some (.int x4), none, none, none, none]) rfl ?_
        exact hp
    · have hm := hmf37 hb37
      obtain rfl := Option.some.inj hm
      refine MW_pick [true, true, true, true, true, false, false, true, true] rfl (vs' := [some (.ref 0), some (.int x1), some (.int x2), some (.int x3), some (.int x4), none, none, none, none]) rfl ?_
      exact hp
def pl_index_L7 : Nat → PlS → Int32 → Int32 → Int32 → Int32 → Option (Int32 × Int32)
  | 0, _, _, _, _, _ => none
  | n + 1, p, x1, x2, x3, x4 =>
    if x1 < x4 then
      some (x2, x3)
    else
      if (4 : Int32) < x4 then
        some (x2, x3)
      else
        (pl_placeOfList x4 x1).bind fun q23 =>
          (pl_rowAt p q23).bind fun q26 =>
            (pl_index_L34 N0 p x1 x2 x3 x4 q26 0).bind fun q34 =>
              pl_index_L7 n p x1 q34.1 q34.2 (x4 + 1)
set_option maxRecDepth 100000 in
set_option maxHeartbeats 1000000 in
theorem l_pl_index_7 {X : CTX} {K : Option Value → AH → Prop} (C : CX X cX4_index yX4_index.cls (decide (yX4_index.name = "<init>")) 1 21) (hq : RQ X (some .int) K) : ∀ (n : Nat) (p : PlS) (x1 : Int32) (x2 : Int32) (x3 : Int32) (x4 : Int32) (out : Int32 × Int32) (hm : pl_index_L7 n p x1 x2 x3 x4 = some out) (hp : MW X (99, [none, some (.int x1), some (.int out.1), some (.int out.2), none, none, none, none, none], [], (hPl 0 p), 0, 0)), MW X (7, [some (.ref 0), some (.int x1), some (.int x2), some (.int x3), some (.int x4), none, none, none, none], [], (hPl 0 p), 0, 0) := by
  intro n
  induction n with
  | zero => intro p x1 x2 x3 x4 out hm hp; rw [pl_index_L7] at hm; cases hm
  | succ n ih =>
    intro p x1 x2 x3 x4 out hm hp
    rw [pl_index_L7] at hm
    refine MW_run C okX4_index 6 2 (gs := []) (cf' := (10, [some (.ref 0), some (.int x1), some (.int x2), some (.int x3), some (.int x4), none, none, none, none], [.int x1, .int x4], (hPl 0 p), 0, 0)) rfl trivial ?_
    obtain ⟨hmt10, hmf10⟩ := of_if hm
    refine MW_brT C okX4_index 8 rfl rfl (fun hb10 => ?_) (fun hb10 => ?_)
    · have hm := hmt10 hb10
      obtain rfl := Option.some.inj hm
      refine MW_pick [false, true, true, true, false, true, true, true, true] rfl (vs' := [none, some (.int x1), some (.int x2), some (.int x3), none, none, none, none, none]) rfl ?_
      exact hp
    · have hm := hmf10 hb10
      refine MW_run C okX4_index 9 2 (gs := []) (cf' := (16, [some (.ref 0), some (.int x1), some (.int x2), some (.int x3), some (.int x4), none, none, none, none], [.int 4, .int x4], (hPl 0 p), 0, 0)) rfl trivial ?_
      obtain ⟨hmt16, hmf16⟩ := of_if hm
      refine MW_brT C okX4_index 11 rfl rfl (fun hb16 => ?_) (fun hb16 => ?_)
      · have hm := hmt16 hb16
        obtain rfl := Option.some.inj hm
        refine MW_pick [false, true, true, true, false, true, true, true, true] rfl (vs' := [none, some (.int x1), some (.int x2), some (.int x3), none, none, none, none, none]) rfl ?_
        exact hp
      · have hm := hmf16 hb16
        refine MW_run C okX4_index 12 3 (gs := []) (cf' := (23, [some (.ref 0), some (.int x1), some (.int x2), some (.int x3), some (.int x4), none, none, none, none], [.int x1, .int x4, .ref 0], (hPl 0 p), 0, 0)) rfl trivial ?_
        obtain ⟨q23, hc23, hm⟩ := of_bind hm
        refine MW_callS0 C okX4_index 15 rfl (v0 := some (.int q23)) (c_pl_placeOfList x4 x1 q23 hc23) lkX4_55 2 dpX4_placeOfList (by decide) (rest := [.ref 0]) rfl rfl rfl rfl rfl ?_
        obtain ⟨q26, hc26, hm⟩ := of_bind hm
        refine MW_callV0 C okX4_index 16 rfl (v0 := some (.int q26)) (h0 := (hPl 0 p)) (c_pl_rowAt p q23 q26 hc26) lkX4_31 1 dpX4_rowAt (by decide) (rest := []) rfl rfl rfl rfl rfl rfl rfl rfl ?_
        refine MW_run C okX4_index 17 3 (gs := []) (cf' := (34, [some (.ref 0), some (.int x1), some (.int x2), some (.int x3), some (.int x4), some (.int q26), some (.int 0), none, none], [], (hPl 0 p), 0, 0)) rfl trivial ?_
        obtain ⟨q34, hc34, hm⟩ := of_bind hm
        refine l_pl_index_34 C hq N0 p x1 x2 x3 x4 q26 0 q34 hc34 ?_
        refine MW_run C okX4_index 58 2 (gs := []) (cf' := (7, [some (.ref 0), some (.int x1), some (.int q34.1), some (.int q34.2), some (.int (x4 + 1)), none, none, none, none], [], (hPl 0 p), 0, 0)) rfl trivial ?_
        exact ih p x1 q34.1 q34.2 (x4 + 1) _ hm hp
def pl_index_L117 : Nat → PlS → Int32 → Int32 → Int32 → Int32 → Int32 → Int32 → Int32 → Option (Int32 × Int32)
  | 0, _, _, _, _, _, _, _, _ => none
  | n + 1, p, x1, x3, x4, x5, x6, x7, x8 =>
    if x4 < x8 then
      some (x5, x7)
    else
      pl_index_L117 n p x1 x3 x4 (x5 + x6) (x6 * (x8 + x1)) ((x7 * (x8 + x1)) + ((x3 >>> (((4 : Int32) * x8) &&& 31)) &&& 15)) (x8 + 1)
set_option maxRecDepth 100000 in
set_option maxHeartbeats 1000000 in
theorem l_pl_index_117 {X : CTX} {K : Option Value → AH → Prop} (C : CX X cX4_index yX4_index.cls (decide (yX4_index.name = "<init>")) 1 21) (hq : RQ X (some .int) K) : ∀ (n : Nat) (p : PlS) (x1 : Int32) (x3 : Int32) (x4 : Int32) (x5 : Int32) (x6 : Int32) (x7 : Int32) (x8 : Int32) (out : Int32 × Int32) (hm : pl_index_L117 n p x1 x3 x4 x5 x6 x7 x8 = some out) (hp : MW X (165, [none, none, none, none, none, some (.int out.1), none, some (.int out.2), none], [], (hPl 0 p), 0, 0)), MW X (117, [none, some (.int x1), none, some (.int x3), some (.int x4), some (.int x5), some (.int x6), some (.int x7), some (.int x8)], [], (hPl 0 p), 0, 0) := by
  intro n
  induction n with
  | zero => intro p x1 x3 x4 x5 x6 x7 x8 out hm hp; rw [pl_index_L117] at hm; cases hm
  | succ n ih =>
    intro p x1 x3 x4 x5 x6 x7 x8 out hm hp
    rw [pl_index_L117] at hm
    refine MW_run C okX4_index 71 2 (gs := []) (cf' := (121, [none, some (.int x1), none, some (.int x3), some (.int x4), some (.int x5), some (.int x6), some (.int x7), some (.int x8)], [.int x4, .int x8], (hPl 0 p), 0, 0)) rfl trivial ?_
    obtain ⟨hmt121, hmf121⟩ := of_if hm
    refine MW_brT C okX4_index 73 rfl rfl (fun hb121 => ?_) (fun hb121 => ?_)
    · have hm := hmt121 hb121
      obtain rfl := Option.some.inj hm
      refine MW_pick [true, false, true, false, false, true, false, true, false] rfl (vs' := [none, none, none, none, none, some (.int x5), none, some (.int x7), none]) rfl ?_
      exact hp
    · have hm := hmf121 hb121
      refine MW_run C okX4_index 74 26 (gs := []) (cf' := (117, [none, some (.int x1), none, some (.int x3), some (.int x4), some (.int (x5 + x6)), some (.int (x6 * (x8 + x1))), some (.int ((x7 * (x8 + x1)) + ((x3 >>> (((4 : Int32) * x8) &&& 31)) &&& 15))), some (.int (x8 + 1))], [], (hPl 0 p), 0, 0)) rfl trivial ?_
      exact ih p x1 x3 x4 (x5 + x6) (x6 * (x8 + x1)) ((x7 * (x8 + x1)) + ((x3 >>> (((4 : Int32) * x8) &&& 31)) &&& 15)) (x8 + 1) _ hm hp
def pl_index_J99 (p : PlS) (x1 : Int32) (x2 : Int32) (x3 : Int32) : Option (Int32) :=
  (jt_bitCount x2).bind fun q100 =>
    (pl_index_L117 N0 p x1 x3 q100 0 1 0 1).bind fun q117 =>
      some (q117.1 + q117.2)
set_option maxRecDepth 100000 in
set_option maxHeartbeats 1000000 in
theorem j_pl_index_99 {X : CTX} {K : Option Value → AH → Prop} (C : CX X cX4_index yX4_index.cls (decide (yX4_index.name = "<init>")) 1 21) (hq : RQ X (some .int) K) (p : PlS) (x1 : Int32) (x2 : Int32) (x3 : Int32) (out : Int32) (hm : pl_index_J99 p x1 x2 x3 = some out) (hp : K (some (.int out)) (hPl 0 p)) : MW X (99, [none, some (.int x1), some (.int x2), some (.int x3), none, none, none, none, none], [], (hPl 0 p), 0, 0) := by
  unfold pl_index_J99 at hm
  refine MW_run C okX4_index 60 1 (gs := []) (cf' := (100, [none, some (.int x1), some (.int x2), some (.int x3), none, none, none, none, none], [.int x2], (hPl 0 p), 0, 0)) rfl trivial ?_
  obtain ⟨q100, hc100, hm⟩ := of_bind hm
  refine MW_callS0 C okX4_index 61 rfl (v0 := some (.int q100)) (c_jt_bitCount x2 q100 hc100) lkX4_58 1 dpJ6_bitCount_0f7a4 (by decide) (rest := []) rfl rfl rfl rfl rfl ?_
  refine MW_run C okX4_index 62 9 (gs := []) (cf' := (117, [none, some (.int x1), some (.int x2), some (.int x3), some (.int q100), some (.int 0), some (.int 1), some (.int 0), some (.int 1)], [], (hPl 0 p), 0, 0)) rfl trivial ?_
  obtain ⟨q117, hc117, hm⟩ := of_bind hm
  refine MW_pick [true, true, false, true, true, true, true, true, true] rfl (vs' := [none, some (.int x1), none, some (.int x3), some (.int q100), some (.int 0), some (.int 1), some (.int 0), some (.int 1)]) rfl ?_
  refine l_pl_index_117 C hq N0 p x1 x3 q100 0 1 0 1 q117 hc117 ?_
  refine MW_run C okX4_index 100 3 (gs := []) (cf' := (170, [none, none, none, none, none, some (.int q117.1), none, some (.int q117.2), none], [.int (q117.1 + q117.2)], (hPl 0 p), 0, 0)) rfl trivial ?_
  obtain rfl := Option.some.inj hm
  exact MW_iret C okX4_index hq 103 rfl hp
def pl_index (p : PlS) (x1 : Int32) : Option (Int32) :=
  (pl_index_L7 N0 p x1 0 0 0).bind fun q7 =>
    pl_index_J99 p x1 q7.1 q7.2
set_option maxRecDepth 100000 in
set_option maxHeartbeats 1000000 in
theorem t_pl_index {X : CTX} {K : Option Value → AH → Prop} (C : CX X cX4_index yX4_index.cls (decide (yX4_index.name = "<init>")) 1 21) (hq : RQ X (some .int) K) (p : PlS) (x1 : Int32) (out : Int32) (hm : pl_index p x1 = some out) (hp : K (some (.int out)) (hPl 0 p)) : MW X (0, [some (.ref 0), some (.int x1), none, none, none, none, none, none, none], [], (hPl 0 p), 0, 0) := by
  unfold pl_index at hm
  refine MW_run C okX4_index 0 6 (gs := []) (cf' := (7, [some (.ref 0), some (.int x1), some (.int 0), some (.int 0), some (.int 0), none, none, none, none], [], (hPl 0 p), 0, 0)) rfl trivial ?_
  obtain ⟨q7, hc7, hm⟩ := of_bind hm
  refine l_pl_index_7 C hq N0 p x1 0 0 0 q7 hc7 ?_
  exact j_pl_index_99 C hq p x1 q7.1 q7.2 _ hm hp
theorem c_pl_index (p : PlS) (x1 : Int32) (out : Int32) (hm : pl_index p x1 = some out) : CT yX4_index cX4_index 9 (some .int) 1 21 0 0 [.ref 0, .int x1] (hPl 0 p) (fun v h => v = (some (.int out)) ∧ h = (hPl 0 p)) :=
  CT_of (by decide +kernel) (vs0 := [some (.ref 0), some (.int x1), none, none, none, none, none, none, none]) rfl rfl (fun X C hq => t_pl_index C hq p x1 out hm ⟨rfl, rfl⟩)
/-! C: pl_countAt -/
def pl_countAt (p : PlS) (x1 : Int32) : Option (Int32) :=
  if x1 < 0 then
    some 0
  else
    if x1 < 6 then
      if inb x1 6 then
        some (rd p.2 x1)
      else none
    else
      some 0
set_option maxRecDepth 100000 in
set_option maxHeartbeats 1000000 in
theorem t_pl_countAt {X : CTX} {K : Option Value → AH → Prop} (C : CX X cX4_countAt yX4_countAt.cls (decide (yX4_countAt.name = "<init>")) 0 0) (hq : RQ X (some .int) K) (p : PlS) (x1 : Int32) (out : Int32) (hm : pl_countAt p x1 = some out) (hp : K (some (.int out)) (hPl 0 p)) : MW X (0, [some (.ref 0), some (.int x1)], [], (hPl 0 p), 0, 0) := by
  unfold pl_countAt at hm
  refine MW_run C okX4_countAt 0 1 (gs := []) (cf' := (1, [some (.ref 0), some (.int x1)], [.int x1], (hPl 0 p), 0, 0)) rfl trivial ?_
  obtain ⟨hmt1, hmf1⟩ := of_if hm
  refine MW_brT C okX4_countAt 1 rfl rfl (fun hb1 => ?_) (fun hb1 => ?_)
  · have hm := hmt1 hb1
    refine MW_run C okX4_countAt 10 1 (gs := []) (cf' := (20, [some (.ref 0), some (.int x1)], [.int 0], (hPl 0 p), 0, 0)) rfl trivial ?_
    obtain rfl := Option.some.inj hm
    exact MW_iret C okX4_countAt hq 11 rfl hp
  · have hm := hmf1 hb1
    refine MW_run C okX4_countAt 2 2 (gs := []) (cf' := (7, [some (.ref 0), some (.int x1)], [.int 6, .int x1], (hPl 0 p), 0, 0)) rfl trivial ?_
    obtain ⟨hmt7, hmf7⟩ := of_if hm
    refine MW_brF C okX4_countAt 4 rfl rfl (fun hb7 => ?_) (fun hb7 => ?_)
    · have hm := hmt7 hb7
      obtain ⟨hg20, hm⟩ := of_guard hm
      refine MW_run C okX4_countAt 5 5 (gs := [inb x1 6]) (cf' := (20, [some (.ref 0), some (.int x1)], [.int (rd p.2 x1)], (hPl 0 p), 0, 0)) rfl hg20 ?_
      obtain rfl := Option.some.inj hm
      exact MW_iret C okX4_countAt hq 11 rfl hp
    · have hm := hmf7 hb7
      refine MW_run C okX4_countAt 10 1 (gs := []) (cf' := (20, [some (.ref 0), some (.int x1)], [.int 0], (hPl 0 p), 0, 0)) rfl trivial ?_
      obtain rfl := Option.some.inj hm
      exact MW_iret C okX4_countAt hq 11 rfl hp
theorem c_pl_countAt (p : PlS) (x1 : Int32) (out : Int32) (hm : pl_countAt p x1 = some out) : CT yX4_countAt cX4_countAt 2 (some .int) 0 0 0 0 [.ref 0, .int x1] (hPl 0 p) (fun v h => v = (some (.int out)) ∧ h = (hPl 0 p)) :=
  CT_of (by decide +kernel) (vs0 := [some (.ref 0), some (.int x1)]) rfl rfl (fun X C hq => t_pl_countAt C hq p x1 out hm ⟨rfl, rfl⟩)
/-! C: se_isAstray -/
def se_isAstray (s : SeS) : Option (Int32) :=
  (pl_countAt s.2.1 5).bind fun q5 =>
    (pl_rowAt s.2.1 5).bind fun q14 =>
      if q14 = (s.2.2.2.2 &&& (((1 : Int32) <<< (((3 : Int32) * q5) &&& 31)) - 1)) then
        some 0
      else
        some 1
set_option maxRecDepth 100000 in
set_option maxHeartbeats 1000000 in
theorem t_se_isAstray {X : CTX} {K : Option Value → AH → Prop} (C : CX X cX7_isAstray yX7_isAstray.cls (decide (yX7_isAstray.name = "<init>")) 1 21) (hq : RQ X (some .boolean) K) (s : SeS) (out : Int32) (hm : se_isAstray s = some out) (hp : K (some (.int out)) (hSe 0 5 s)) : MW X (0, [some (.ref 0), none], [], (hSe 0 5 s), 0, 0) := by
  unfold se_isAstray at hm
  refine MW_run C okX7_isAstray 0 3 (gs := []) (cf' := (5, [some (.ref 0), none], [.int 5, .ref 2], (hSe 0 5 s), 0, 0)) rfl trivial ?_
  obtain ⟨q5, hc5, hm⟩ := of_bind hm
  refine MW_callV1 C okX7_isAstray 3 rfl [2, 3, 4] (v0 := some (.int q5)) (h0 := (hPl 0 s.2.1)) (c_pl_countAt s.2.1 5 q5 hc5) lkX7_69 1 dpX4_countAt (by decide) (rest := []) rfl rfl rfl rfl rfl rfl rfl rfl rfl rfl rfl (st2 := [.int q5]) (h2 := (hSe 0 5 s)) rfl rfl ?_
  refine MW_run C okX7_isAstray 4 4 (gs := []) (cf' := (14, [some (.ref 0), some (.int q5)], [.int 5, .ref 2], (hSe 0 5 s), 0, 0)) rfl trivial ?_
  obtain ⟨q14, hc14, hm⟩ := of_bind hm
  refine MW_callV1 C okX7_isAstray 8 rfl [2, 3, 4] (v0 := some (.int q14)) (h0 := (hPl 0 s.2.1)) (c_pl_rowAt s.2.1 5 q14 hc14) lkX7_76 1 dpX4_rowAt (by decide) (rest := []) rfl rfl rfl rfl rfl rfl rfl rfl rfl rfl rfl (st2 := [.int q14]) (h2 := (hSe 0 5 s)) rfl rfl ?_
  refine MW_run C okX7_isAstray 9 10 (gs := []) (cf' := (29, [some (.ref 0), some (.int q5)], [.int (s.2.2.2.2 &&& (((1 : Int32) <<< (((3 : Int32) * q5) &&& 31)) - 1)), .int q14], (hSe 0 5 s), 0, 0)) rfl trivial ?_
  obtain ⟨hmt29, hmf29⟩ := of_if hm
  refine MW_brT C okX7_isAstray 19 rfl rfl (fun hb29 => ?_) (fun hb29 => ?_)
  · have hm := hmt29 hb29
    refine MW_run C okX7_isAstray 22 1 (gs := []) (cf' := (37, [some (.ref 0), some (.int q5)], [.int 0], (hSe 0 5 s), 0, 0)) rfl trivial ?_
    obtain rfl := Option.some.inj hm
    exact MW_zret C okX7_isAstray hq 23 rfl (by decide) hp
  · have hm := hmf29 hb29
    refine MW_run C okX7_isAstray 20 2 (gs := []) (cf' := (37, [some (.ref 0), some (.int q5)], [.int 1], (hSe 0 5 s), 0, 0)) rfl trivial ?_
    obtain rfl := Option.some.inj hm
    exact MW_zret C okX7_isAstray hq 23 rfl (by decide) hp
theorem c_se_isAstray (s : SeS) (out : Int32) (hm : se_isAstray s = some out) : CT yX7_isAstray cX7_isAstray 2 (some .boolean) 1 21 0 0 [.ref 0] (hSe 0 5 s) (fun v h => v = (some (.int out)) ∧ h = (hSe 0 5 s)) :=
  CT_of (by decide +kernel) (vs0 := [some (.ref 0), none]) rfl rfl (fun X C hq => t_se_isAstray C hq s out hm ⟨rfl, rfl⟩)
/-! C: yd_moveAt -/
def yd_moveAt (y : YdS) (x1 : Int32) : Option (Int32) :=
  if x1 < 0 then
    some 0
  else
    if x1 < y.2.2.1 then
      if x1 < (nI 64) then
        if inb x1 64 then
          some (rd y.2.2.2.2.2.2.2.1 x1)
        else none
      else
        some 0
    else
      some 0
set_option maxRecDepth 100000 in
set_option maxHeartbeats 1000000 in
theorem t_yd_moveAt {X : CTX} {K : Option Value → AH → Prop} (C : CX X cX10_moveAt yX10_moveAt.cls (decide (yX10_moveAt.name = "<init>")) 0 0) (hq : RQ X (some .int) K) (y : YdS) (x1 : Int32) (out : Int32) (hm : yd_moveAt y x1 = some out) (hp : K (some (.int out)) (hYd 0 y)) : MW X (0, [some (.ref 0), some (.int x1)], [], (hYd 0 y), 0, 0) := by
  unfold yd_moveAt at hm
  refine MW_run C okX10_moveAt 0 1 (gs := []) (cf' := (1, [some (.ref 0), some (.int x1)], [.int x1], (hYd 0 y), 0, 0)) rfl trivial ?_
  obtain ⟨hmt1, hmf1⟩ := of_if hm
  refine MW_brT C okX10_moveAt 1 rfl rfl (fun hb1 => ?_) (fun hb1 => ?_)
  · have hm := hmt1 hb1
    refine MW_run C okX10_moveAt 16 1 (gs := []) (cf' := (31, [some (.ref 0), some (.int x1)], [.int 0], (hYd 0 y), 0, 0)) rfl trivial ?_
    obtain rfl := Option.some.inj hm
    exact MW_iret C okX10_moveAt hq 17 rfl hp
  · have hm := hmf1 hb1
    refine MW_run C okX10_moveAt 2 3 (gs := []) (cf' := (9, [some (.ref 0), some (.int x1)], [.int y.2.2.1, .int x1], (hYd 0 y), 0, 0)) rfl trivial ?_
    obtain ⟨hmt9, hmf9⟩ := of_if hm
    refine MW_brF C okX10_moveAt 5 rfl rfl (fun hb9 => ?_) (fun hb9 => ?_)
    · have hm := hmt9 hb9
      refine MW_run C okX10_moveAt 6 4 (gs := []) (cf' := (18, [some (.ref 0), some (.int x1)], [.int (nI 64), .int x1], (hYd 0 y), 0, 0)) rfl trivial ?_
      obtain ⟨hmt18, hmf18⟩ := of_if hm
      refine MW_brF C okX10_moveAt 10 rfl rfl (fun hb18 => ?_) (fun hb18 => ?_)
      · have hm := hmt18 hb18
        obtain ⟨hg31, hm⟩ := of_guard hm
        refine MW_run C okX10_moveAt 11 5 (gs := [inb x1 64]) (cf' := (31, [some (.ref 0), some (.int x1)], [.int (rd y.2.2.2.2.2.2.2.1 x1)], (hYd 0 y), 0, 0)) rfl hg31 ?_
        obtain rfl := Option.some.inj hm
        exact MW_iret C okX10_moveAt hq 17 rfl hp
      · have hm := hmf18 hb18
        refine MW_run C okX10_moveAt 16 1 (gs := []) (cf' := (31, [some (.ref 0), some (.int x1)], [.int 0], (hYd 0 y), 0, 0)) rfl trivial ?_
        obtain rfl := Option.some.inj hm
        exact MW_iret C okX10_moveAt hq 17 rfl hp
    · have hm := hmf9 hb9
      refine MW_run C okX10_moveAt 16 1 (gs := []) (cf' := (31, [some (.ref 0), some (.int x1)], [.int 0], (hYd 0 y), 0, 0)) rfl trivial ?_
      obtain rfl := Option.some.inj hm
      exact MW_iret C okX10_moveAt hq 17 rfl hp
theorem c_yd_moveAt (y : YdS) (x1 : Int32) (out : Int32) (hm : yd_moveAt y x1 = some out) : CT yX10_moveAt cX10_moveAt 2 (some .int) 0 0 0 0 [.ref 0, .int x1] (hYd 0 y) (fun v h => v = (some (.int out)) ∧ h = (hYd 0 y)) :=
  CT_of (by decide +kernel) (vs0 := [some (.ref 0), some (.int x1)]) rfl rfl (fun X C hq => t_yd_moveAt C hq y x1 out hm ⟨rfl, rfl⟩)
/-! C: pl_allows -/
def pl_allows (p : PlS) (y : YdS) (x2 : Int32) : Option (Int32) :=
  (pl_countAt p (x2 / 1000)).bind fun q14 =>
    if (0 : Int32) < q14 then
      if (irm (x2 / 10) 10) = 5 then
        some 1
      else
        (pl_countAt p (irm (x2 / 10) 10)).bind fun q27 =>
          (yd_lengthAt y ((irm (x2 / 10) 10) - 1)).bind fun q34 =>
            if q27 < q34 then
              some 1
            else
              some 0
    else
      some 0
set_option maxRecDepth 100000 in
set_option maxHeartbeats 1000000 in
theorem t_pl_allows {X : CTX} {K : Option Value → AH → Prop} (C : CX X cX4_allows yX4_allows.cls (decide (yX4_allows.name = "<init>")) 1 21) (hq : RQ X (some .boolean) K) (p : PlS) (y : YdS) (x2 : Int32) (out : Int32) (hm : pl_allows p y x2 = some out) (hp : K (some (.int out)) (hPl 0 p ++ (hYd 3 y))) : MW X (0, [some (.ref 0), some (.ref 3), some (.int x2), none], [], (hPl 0 p ++ (hYd 3 y)), 0, 0) := by
  unfold pl_allows at hm
  refine MW_run C okX4_allows 0 10 (gs := [¬ (10 : Int32) = 0, ¬ (10 : Int32) = 0, ¬ (1000 : Int32) = 0]) (cf' := (14, [some (.ref 0), some (.ref 3), some (.int x2), some (.int (irm (x2 / 10) 10))], [.int (x2 / 1000), .ref 0], (hPl 0 p ++ (hYd 3 y)), 0, 0)) rfl ⟨(show ¬ (10 : Int32) = 0 by decide), (show ¬ (10 : Int32) = 0 by decide), (show ¬ (1000 : Int32) = 0 by decide)⟩ ?_
  obtain ⟨q14, hc14, hm⟩ := of_bind hm
  refine MW_callV1 C okX4_allows 10 rfl [0, 1, 2] (v0 := some (.int q14)) (h0 := (hPl 0 p)) (c_pl_countAt p (x2 / 1000) q14 hc14) lkX4_22 1 dpX4_countAt (by decide) (rest := []) rfl rfl rfl rfl rfl rfl rfl rfl rfl rfl rfl (st2 := [.int q14]) (h2 := (hPl 0 p ++ (hYd 3 y))) rfl rfl ?_
  obtain ⟨hmt17, hmf17⟩ := of_if hm
  refine MW_brF C okX4_allows 11 rfl rfl (fun hb17 => ?_) (fun hb17 => ?_)
  · have hm := hmt17 hb17
    refine MW_run C okX4_allows 12 2 (gs := []) (cf' := (22, [some (.ref 0), some (.ref 3), some (.int x2), some (.int (irm (x2 / 10) 10))], [.int 5, .int (irm (x2 / 10) 10)], (hPl 0 p ++ (hYd 3 y)), 0, 0)) rfl trivial ?_
    obtain ⟨hmt22, hmf22⟩ := of_if hm
    refine MW_brT C okX4_allows 14 rfl rfl (fun hb22 => ?_) (fun hb22 => ?_)
    · have hm := hmt22 hb22
      refine MW_run C okX4_allows 24 2 (gs := []) (cf' := (45, [some (.ref 0), some (.ref 3), some (.int x2), some (.int (irm (x2 / 10) 10))], [.int 1], (hPl 0 p ++ (hYd 3 y)), 0, 0)) rfl trivial ?_
      obtain rfl := Option.some.inj hm
      exact MW_zret C okX4_allows hq 27 rfl (by decide) hp
    · have hm := hmf22 hb22
      refine MW_run C okX4_allows 15 2 (gs := []) (cf' := (27, [some (.ref 0), some (.ref 3), some (.int x2), some (.int (irm (x2 / 10) 10))], [.int (irm (x2 / 10) 10), .ref 0], (hPl 0 p ++ (hYd 3 y)), 0, 0)) rfl trivial ?_
      obtain ⟨q27, hc27, hm⟩ := of_bind hm
      refine MW_callV1 C okX4_allows 17 rfl [0, 1, 2] (v0 := some (.int q27)) (h0 := (hPl 0 p)) (c_pl_countAt p (irm (x2 / 10) 10) q27 hc27) lkX4_22 1 dpX4_countAt (by decide) (rest := []) rfl rfl rfl rfl rfl rfl rfl rfl rfl rfl rfl (st2 := [.int q27]) (h2 := (hPl 0 p ++ (hYd 3 y))) rfl rfl ?_
      refine MW_run C okX4_allows 18 4 (gs := []) (cf' := (34, [some (.ref 0), some (.ref 3), some (.int x2), some (.int (irm (x2 / 10) 10))], [.int ((irm (x2 / 10) 10) - 1), .ref 3, .int q27], (hPl 0 p ++ (hYd 3 y)), 0, 0)) rfl trivial ?_
      obtain ⟨q34, hc34, hm⟩ := of_bind hm
      refine MW_callV1 C okX4_allows 22 rfl [3, 4, 5, 6, 7, 8, 9, 10] (v0 := some (.int q34)) (h0 := (hYd 0 y)) (c_yd_lengthAt y ((irm (x2 / 10) 10) - 1) q34 hc34) lkX4_26 1 dpX10_lengthAt (by decide) (rest := [.int q27]) rfl rfl rfl rfl rfl rfl rfl rfl rfl rfl rfl (st2 := [.int q34, .int q27]) (h2 := (hPl 0 p ++ (hYd 3 y))) rfl rfl ?_
      obtain ⟨hmt37, hmf37⟩ := of_if hm
      refine MW_brF C okX4_allows 23 rfl rfl (fun hb37 => ?_) (fun hb37 => ?_)
      · have hm := hmt37 hb37
        refine MW_run C okX4_allows 24 2 (gs := []) (cf' := (45, [some (.ref 0), some (.ref 3), some (.int x2), some (.int (irm (x2 / 10) 10))], [.int 1], (hPl 0 p ++ (hYd 3 y)), 0, 0)) rfl trivial ?_
        obtain rfl := Option.some.inj hm
        exact MW_zret C okX4_allows hq 27 rfl (by decide) hp
      · have hm := hmf37 hb37
        refine MW_run C okX4_allows 26 1 (gs := []) (cf' := (45, [some (.ref 0), some (.ref 3), some (.int x2), some (.int (irm (x2 / 10) 10))], [.int 0], (hPl 0 p ++ (hYd 3 y)), 0, 0)) rfl trivial ?_
        obtain rfl := Option.some.inj hm
        exact MW_zret C okX4_allows hq 27 rfl (by decide) hp
  · have hm := hmf17 hb17
    refine MW_run C okX4_allows 26 1 (gs := []) (cf' := (45, [some (.ref 0), some (.ref 3), some (.int x2), some (.int (irm (x2 / 10) 10))], [.int 0], (hPl 0 p ++ (hYd 3 y)), 0, 0)) rfl trivial ?_
    obtain rfl := Option.some.inj hm
    exact MW_zret C okX4_allows hq 27 rfl (by decide) hp
theorem c_pl_allows (p : PlS) (y : YdS) (x2 : Int32) (out : Int32) (hm : pl_allows p y x2 = some out) : CT yX4_allows cX4_allows 4 (some .boolean) 1 21 0 0 [.ref 0, .ref 3, .int x2] (hPl 0 p ++ (hYd 3 y)) (fun v h => v = (some (.int out)) ∧ h = (hPl 0 p ++ (hYd 3 y))) :=
  CT_of (by decide +kernel) (vs0 := [some (.ref 0), some (.ref 3), some (.int x2), none]) rfl rfl (fun X C hq => t_pl_allows C hq p y x2 out hm ⟨rfl, rfl⟩)
/-! C: pl_isFarTake -/
def pl_isFarTake (x0 : Int32) : Option (Int32) :=
  if (irm (x0 / 100) 10) = 1 then
    some 1
  else
    some 0
set_option maxRecDepth 100000 in
set_option maxHeartbeats 1000000 in
theorem t_pl_isFarTake {X : CTX} {K : Option Value → AH → Prop} (C : CX X cX4_isFarTake yX4_isFarTake.cls (decide (yX4_isFarTake.name = "<init>")) 0 0) (hq : RQ X (some .boolean) K) (x0 : Int32) (out : Int32) (hm : pl_isFarTake x0 = some out) (hp : K (some (.int out)) []) : MW X (0, [some (.int x0)], [], [], 0, 0) := by
  unfold pl_isFarTake at hm
  refine MW_run C okX4_isFarTake 0 6 (gs := [¬ (100 : Int32) = 0, ¬ (10 : Int32) = 0]) (cf' := (8, [some (.int x0)], [.int 1, .int (irm (x0 / 100) 10)], [], 0, 0)) rfl ⟨(show ¬ (100 : Int32) = 0 by decide), (show ¬ (10 : Int32) = 0 by decide)⟩ ?_
  obtain ⟨hmt8, hmf8⟩ := of_if hm
  refine MW_brF C okX4_isFarTake 6 rfl rfl (fun hb8 => ?_) (fun hb8 => ?_)
  · have hm := hmt8 hb8
    refine MW_run C okX4_isFarTake 7 2 (gs := []) (cf' := (16, [some (.int x0)], [.int 1], [], 0, 0)) rfl trivial ?_
    obtain rfl := Option.some.inj hm
    exact MW_zret C okX4_isFarTake hq 10 rfl (by decide) hp
  · have hm := hmf8 hb8
    refine MW_run C okX4_isFarTake 9 1 (gs := []) (cf' := (16, [some (.int x0)], [.int 0], [], 0, 0)) rfl trivial ?_
    obtain rfl := Option.some.inj hm
    exact MW_zret C okX4_isFarTake hq 10 rfl (by decide) hp
theorem c_pl_isFarTake (x0 : Int32) (out : Int32) (hm : pl_isFarTake x0 = some out) : CT yX4_isFarTake cX4_isFarTake 1 (some .boolean) 0 0 0 0 [.int x0] [] (fun v h => v = (some (.int out)) ∧ h = []) :=
  CT_of (by decide +kernel) (vs0 := [some (.int x0)]) rfl rfl (fun X C hq => t_pl_isFarTake C hq x0 out hm ⟨rfl, rfl⟩)
/-! C: rw_wagonAt -/
def rw_wagonAt (x0 : Int32) (x1 : Int32) : Option (Int32) :=
  if x1 < 0 then
    some 0
  else
    if x1 < 5 then
      some ((x0 >>> (((3 : Int32) * x1) &&& 31)) &&& 7)
    else
      some 0
set_option maxRecDepth 100000 in
set_option maxHeartbeats 1000000 in
theorem t_rw_wagonAt {X : CTX} {K : Option Value → AH → Prop} (C : CX X cX6_wagonAt yX6_wagonAt.cls (decide (yX6_wagonAt.name = "<init>")) 0 0) (hq : RQ X (some .int) K) (x0 : Int32) (x1 : Int32) (out : Int32) (hm : rw_wagonAt x0 x1 = some out) (hp : K (some (.int out)) []) : MW X (0, [some (.int x0), some (.int x1)], [], [], 0, 0) := by
  unfold rw_wagonAt at hm
  refine MW_run C okX6_wagonAt 0 1 (gs := []) (cf' := (1, [some (.int x0), some (.int x1)], [.int x1], [], 0, 0)) rfl trivial ?_
  obtain ⟨hmt1, hmf1⟩ := of_if hm
  refine MW_brT C okX6_wagonAt 1 rfl rfl (fun hb1 => ?_) (fun hb1 => ?_)
  · have hm := hmt1 hb1
    refine MW_run C okX6_wagonAt 13 1 (gs := []) (cf' := (21, [some (.int x0), some (.int x1)], [.int 0], [], 0, 0)) rfl trivial ?_
    obtain rfl := Option.some.inj hm
    exact MW_iret C okX6_wagonAt hq 14 rfl hp
  · have hm := hmf1 hb1
    refine MW_run C okX6_wagonAt 2 2 (gs := []) (cf' := (6, [some (.int x0), some (.int x1)], [.int 5, .int x1], [], 0, 0)) rfl trivial ?_
    obtain ⟨hmt6, hmf6⟩ := of_if hm
    refine MW_brF C okX6_wagonAt 4 rfl rfl (fun hb6 => ?_) (fun hb6 => ?_)
    · have hm := hmt6 hb6
      refine MW_run C okX6_wagonAt 5 8 (gs := []) (cf' := (21, [some (.int x0), some (.int x1)], [.int ((x0 >>> (((3 : Int32) * x1) &&& 31)) &&& 7)], [], 0, 0)) rfl trivial ?_
      obtain rfl := Option.some.inj hm
      exact MW_iret C okX6_wagonAt hq 14 rfl hp
    · have hm := hmf6 hb6
      refine MW_run C okX6_wagonAt 13 1 (gs := []) (cf' := (21, [some (.int x0), some (.int x1)], [.int 0], [], 0, 0)) rfl trivial ?_
      obtain rfl := Option.some.inj hm
      exact MW_iret C okX6_wagonAt hq 14 rfl hp
theorem c_rw_wagonAt (x0 : Int32) (x1 : Int32) (out : Int32) (hm : rw_wagonAt x0 x1 = some out) : CT yX6_wagonAt cX6_wagonAt 2 (some .int) 0 0 0 0 [.int x0, .int x1] [] (fun v h => v = (some (.int out)) ∧ h = []) :=
  CT_of (by decide +kernel) (vs0 := [some (.int x0), some (.int x1)]) rfl rfl (fun X C hq => t_rw_wagonAt C hq x0 x1 out hm ⟨rfl, rfl⟩)
/-! C: pl_wagonOf -/
def pl_wagonOf (p : PlS) (x1 : Int32) : Option (Int32) :=
  (pl_rowAt p (x1 / 1000)).bind fun q8 =>
    (pl_isFarTake x1).bind fun q12 =>
      if q12 = 0 then
        (rw_wagonAt q8 0).bind fun q29 =>
          some q29
      else
        (pl_countAt p (x1 / 1000)).bind fun q20 =>
          (rw_wagonAt q8 (q20 - 1)).bind fun q29 =>
            some q29
set_option maxRecDepth 100000 in
set_option maxHeartbeats 1000000 in
theorem t_pl_wagonOf {X : CTX} {K : Option Value → AH → Prop} (C : CX X cX4_wagonOf yX4_wagonOf.cls (decide (yX4_wagonOf.name = "<init>")) 1 21) (hq : RQ X (some .int) K) (p : PlS) (x1 : Int32) (out : Int32) (hm : pl_wagonOf p x1 = some out) (hp : K (some (.int out)) (hPl 0 p)) : MW X (0, [some (.ref 0), some (.int x1), none], [], (hPl 0 p), 0, 0) := by
  unfold pl_wagonOf at hm
  refine MW_run C okX4_wagonOf 0 6 (gs := [¬ (1000 : Int32) = 0]) (cf' := (8, [some (.ref 0), some (.int x1), some (.int (x1 / 1000))], [.int (x1 / 1000), .ref 0], (hPl 0 p), 0, 0)) rfl (show ¬ (1000 : Int32) = 0 by decide) ?_
  obtain ⟨q8, hc8, hm⟩ := of_bind hm
  refine MW_callV0 C okX4_wagonOf 6 rfl (v0 := some (.int q8)) (h0 := (hPl 0 p)) (c_pl_rowAt p (x1 / 1000) q8 hc8) lkX4_31 1 dpX4_rowAt (by decide) (rest := []) rfl rfl rfl rfl rfl rfl rfl rfl ?_
  refine MW_run C okX4_wagonOf 7 1 (gs := []) (cf' := (12, [some (.ref 0), some (.int x1), some (.int (x1 / 1000))], [.int x1, .int q8], (hPl 0 p), 0, 0)) rfl trivial ?_
  obtain ⟨q12, hc12, hm⟩ := of_bind hm
  refine MW_callS0 C okX4_wagonOf 8 rfl (v0 := some (.int q12)) (c_pl_isFarTake x1 q12 hc12) lkX4_34 1 dpX4_isFarTake (by decide) (rest := [.int q8]) rfl rfl rfl rfl rfl ?_
  obtain ⟨hmt15, hmf15⟩ := of_if hm
  refine MW_brT C okX4_wagonOf 9 rfl rfl (fun hb15 => ?_) (fun hb15 => ?_)
  · have hm := hmt15 hb15
    refine MW_run C okX4_wagonOf 16 1 (gs := []) (cf' := (29, [some (.ref 0), some (.int x1), some (.int (x1 / 1000))], [.int 0, .int q8], (hPl 0 p), 0, 0)) rfl trivial ?_
    obtain ⟨q29, hc29, hm⟩ := of_bind hm
    refine MW_callS0 C okX4_wagonOf 17 rfl (v0 := some (.int q29)) (c_rw_wagonAt q8 0 q29 hc29) lkX4_38 2 dpX6_wagonAt (by decide) (rest := []) rfl rfl rfl rfl rfl ?_
    obtain rfl := Option.some.inj hm
    exact MW_iret C okX4_wagonOf hq 18 rfl hp
  · have hm := hmf15 hb15
    refine MW_run C okX4_wagonOf 10 2 (gs := []) (cf' := (20, [some (.ref 0), some (.int x1), some (.int (x1 / 1000))], [.int (x1 / 1000), .ref 0, .int q8], (hPl 0 p), 0, 0)) rfl trivial ?_
    obtain ⟨q20, hc20, hm⟩ := of_bind hm
    refine MW_callV0 C okX4_wagonOf 12 rfl (v0 := some (.int q20)) (h0 := (hPl 0 p)) (c_pl_countAt p (x1 / 1000) q20 hc20) lkX4_22 1 dpX4_countAt (by decide) (rest := [.int q8]) rfl rfl rfl rfl rfl rfl rfl rfl ?_
    refine MW_run C okX4_wagonOf 13 3 (gs := []) (cf' := (29, [some (.ref 0), some (.int x1), some (.int (x1 / 1000))], [.int (q20 - 1), .int q8], (hPl 0 p), 0, 0)) rfl trivial ?_
    obtain ⟨q29, hc29, hm⟩ := of_bind hm
    refine MW_callS0 C okX4_wagonOf 17 rfl (v0 := some (.int q29)) (c_rw_wagonAt q8 (q20 - 1) q29 hc29) lkX4_38 2 dpX6_wagonAt (by decide) (rest := []) rfl rfl rfl rfl rfl ?_
    obtain rfl := Option.some.inj hm
    exact MW_iret C okX4_wagonOf hq 18 rfl hp
theorem c_pl_wagonOf (p : PlS) (x1 : Int32) (out : Int32) (hm : pl_wagonOf p x1 = some out) : CT yX4_wagonOf cX4_wagonOf 3 (some .int) 1 21 0 0 [.ref 0, .int x1] (hPl 0 p) (fun v h => v = (some (.int out)) ∧ h = (hPl 0 p)) :=
  CT_of (by decide +kernel) (vs0 := [some (.ref 0), some (.int x1), none]) rfl rfl (fun X C hq => t_pl_wagonOf C hq p x1 out hm ⟨rfl, rfl⟩)
/-! C: se_fits -/
def se_fits (s : SeS) (y : YdS) (x1 : Int32) : Option (Int32) :=
  (pl_allows s.2.1 y x1).bind fun q9 =>
    if q9 = 0 then
      some 0
    else
      if (irm (x1 / 10) 10) = 5 then
        (pl_wagonOf s.2.1 x1).bind fun q33 =>
          (pl_countAt s.2.1 5).bind fun q45 =>
            (rw_wagonAt s.2.2.2.2 q45).bind fun q48 =>
              if q33 = q48 then
                some 1
              else
                some 0
      else
        some 1
set_option maxRecDepth 100000 in
set_option maxHeartbeats 1000000 in
theorem t_se_fits {X : CTX} {K : Option Value → AH → Prop} (C : CX X cX7_fits yX7_fits.cls (decide (yX7_fits.name = "<init>")) 2 44) (hq : RQ X (some .boolean) K) (s : SeS) (y : YdS) (x1 : Int32) (out : Int32) (hm : se_fits s y x1 = some out) (hp : K (some (.int out)) (hSe 0 5 s ++ (hYd 5 y))) : MW X (0, [some (.ref 0), some (.int x1)], [], (hSe 0 5 s ++ (hYd 5 y)), 0, 0) := by
  unfold se_fits at hm
  refine MW_run C okX7_fits 0 5 (gs := []) (cf' := (9, [some (.ref 0), some (.int x1)], [.int x1, .ref 5, .ref 2], (hSe 0 5 s ++ (hYd 5 y)), 0, 0)) rfl trivial ?_
  obtain ⟨q9, hc9, hm⟩ := of_bind hm
  refine MW_callV1 C okX7_fits 5 rfl [2, 3, 4, 5, 6, 7, 8, 9, 10, 11, 12] (v0 := some (.int q9)) (h0 := (hPl 0 s.2.1 ++ (hYd 3 y))) (c_pl_allows s.2.1 y x1 q9 hc9) lkX7_62 2 dpX4_allows (by decide) (rest := []) rfl rfl rfl rfl rfl rfl rfl rfl rfl rfl rfl (st2 := [.int q9]) (h2 := (hSe 0 5 s ++ (hYd 5 y))) rfl rfl ?_
  obtain ⟨hmt12, hmf12⟩ := of_if hm
  refine MW_brF C okX7_fits 6 rfl rfl (fun hb12 => ?_) (fun hb12 => ?_)
  · have hm := hmt12 hb12
    refine MW_run C okX7_fits 7 1 (gs := []) (cf' := (16, [some (.ref 0), some (.int x1)], [.int 0], (hSe 0 5 s ++ (hYd 5 y)), 0, 0)) rfl trivial ?_
    obtain rfl := Option.some.inj hm
    exact MW_zret C okX7_fits hq 8 rfl (by decide) hp
  · have hm := hmf12 hb12
    refine MW_run C okX7_fits 9 6 (gs := [¬ (10 : Int32) = 0, ¬ (10 : Int32) = 0]) (cf' := (25, [some (.ref 0), some (.int x1)], [.int 5, .int (irm (x1 / 10) 10)], (hSe 0 5 s ++ (hYd 5 y)), 0, 0)) rfl ⟨(show ¬ (10 : Int32) = 0 by decide), (show ¬ (10 : Int32) = 0 by decide)⟩ ?_
    obtain ⟨hmt25, hmf25⟩ := of_if hm
    refine MW_brF C okX7_fits 15 rfl rfl (fun hb25 => ?_) (fun hb25 => ?_)
    · have hm := hmt25 hb25
      refine MW_run C okX7_fits 16 3 (gs := []) (cf' := (33, [some (.ref 0), some (.int x1)], [.int x1, .ref 2], (hSe 0 5 s ++ (hYd 5 y)), 0, 0)) rfl trivial ?_
      obtain ⟨q33, hc33, hm⟩ := of_bind hm
      refine MW_callV1 C okX7_fits 19 rfl [2, 3, 4] (v0 := some (.int q33)) (h0 := (hPl 0 s.2.1)) (c_pl_wagonOf s.2.1 x1 q33 hc33) lkX7_66 1 dpX4_wagonOf (by decide) (rest := []) rfl rfl rfl rfl rfl rfl rfl rfl rfl rfl rfl (st2 := [.int q33]) (h2 := (hSe 0 5 s ++ (hYd 5 y))) rfl rfl ?_
      refine MW_run C okX7_fits 20 5 (gs := []) (cf' := (45, [some (.ref 0), some (.int x1)], [.int 5, .ref 2, .int s.2.2.2.2, .int q33], (hSe 0 5 s ++ (hYd 5 y)), 0, 0)) rfl trivial ?_
      obtain ⟨q45, hc45, hm⟩ := of_bind hm
      refine MW_callV1 C okX7_fits 25 rfl [2, 3, 4] (v0 := some (.int q45)) (h0 := (hPl 0 s.2.1)) (c_pl_countAt s.2.1 5 q45 hc45) lkX7_69 1 dpX4_countAt (by decide) (rest := [.int s.2.2.2.2, .int q33]) rfl rfl rfl rfl rfl rfl rfl rfl rfl rfl rfl (st2 := [.int q45, .int s.2.2.2.2, .int q33]) (h2 := (hSe 0 5 s ++ (hYd 5 y))) rfl rfl ?_
      obtain ⟨q48, hc48, hm⟩ := of_bind hm
      refine MW_callS0 C okX7_fits 26 rfl (v0 := some (.int q48)) (c_rw_wagonAt s.2.2.2.2 q45 q48 hc48) lkX7_72 2 dpX6_wagonAt (by decide) (rest := [.int q33]) rfl rfl rfl rfl rfl ?_
      obtain ⟨hmt51, hmf51⟩ := of_if hm
      refine MW_brF C okX7_fits 27 rfl rfl (fun hb51 => ?_) (fun hb51 => ?_)
      · have hm := hmt51 hb51
        refine MW_run C okX7_fits 28 2 (gs := []) (cf' := (59, [some (.ref 0), some (.int x1)], [.int 1], (hSe 0 5 s ++ (hYd 5 y)), 0, 0)) rfl trivial ?_
        obtain rfl := Option.some.inj hm
        exact MW_zret C okX7_fits hq 31 rfl (by decide) hp
      · have hm := hmf51 hb51
        refine MW_run C okX7_fits 30 1 (gs := []) (cf' := (59, [some (.ref 0), some (.int x1)], [.int 0], (hSe 0 5 s ++ (hYd 5 y)), 0, 0)) rfl trivial ?_
        obtain rfl := Option.some.inj hm
        exact MW_zret C okX7_fits hq 31 rfl (by decide) hp
    · have hm := hmf25 hb25
      refine MW_run C okX7_fits 28 2 (gs := []) (cf' := (59, [some (.ref 0), some (.int x1)], [.int 1], (hSe 0 5 s ++ (hYd 5 y)), 0, 0)) rfl trivial ?_
      obtain rfl := Option.some.inj hm
      exact MW_zret C okX7_fits hq 31 rfl (by decide) hp
theorem c_se_fits (s : SeS) (y : YdS) (x1 : Int32) (out : Int32) (hm : se_fits s y x1 = some out) : CT yX7_fits cX7_fits 2 (some .boolean) 2 44 0 0 [.ref 0, .int x1] (hSe 0 5 s ++ (hYd 5 y)) (fun v h => v = (some (.int out)) ∧ h = (hSe 0 5 s ++ (hYd 5 y))) :=
  CT_of (by decide +kernel) (vs0 := [some (.ref 0), some (.int x1)]) rfl rfl (fun X C hq => t_se_fits C hq s y x1 out hm ⟨rfl, rfl⟩)
/-! C: pl_take -/
def pl_take (p : PlS) (x1 : Int32) (x2 : Int32) : Option (Int32 × PlS) :=
  if x1 < 0 then
    some (0, p)
  else
    if x1 < 6 then
      if inb x1 6 then
        if (rd p.2 x1) < 1 then
          some (0, p)
        else
          if inb x1 6 ∧ inb x1 6 ∧ inb x1 6 then
            if x2 = 0 then
              if inb x1 6 then
                some (((rd p.1 x1) &&& 7), ((wr p.1 x1 ((rd p.1 x1) >>> (3 &&& 31))), (wr p.2 x1 ((rd p.2 x1) - 1))))
              else none
            else
              if inb x1 6 ∧ inb x1 6 then
                some ((((rd p.1 x1) >>> (((3 : Int32) * (rd (wr p.2 x1 ((rd p.2 x1) - 1)) x1)) &&& 31)) &&& 7), ((wr p.1 x1 ((rd p.1 x1) &&& (((1 : Int32) <<< (((3 : Int32) * (rd (wr p.2 x1 ((rd p.2 x1) - 1)) x1)) &&& 31)) - 1))), (wr p.2 x1 ((rd p.2 x1) - 1))))
              else none
          else none
      else none
    else
      some (0, p)
set_option maxRecDepth 100000 in
set_option maxHeartbeats 1000000 in
theorem t_pl_take {X : CTX} {K : Option Value → AH → Prop} (C : CX X cX4_take yX4_take.cls (decide (yX4_take.name = "<init>")) 0 0) (hq : RQ X (some .int) K) (p : PlS) (x1 : Int32) (x2 : Int32) (out : Int32 × PlS) (hm : pl_take p x1 x2 = some out) (hp : K (some (.int out.1)) (hPl 0 out.2)) : MW X (0, [some (.ref 0), some (.int x1), some (.int x2), none, none], [], (hPl 0 p), 0, 0) := by
  unfold pl_take at hm
  refine MW_run C okX4_take 0 1 (gs := []) (cf' := (1, [some (.ref 0), some (.int x1), some (.int x2), none, none], [.int x1], (hPl 0 p), 0, 0)) rfl trivial ?_
  obtain ⟨hmt1, hmf1⟩ := of_if hm
  refine MW_brT C okX4_take 1 rfl rfl (fun hb1 => ?_) (fun hb1 => ?_)
  · have hm := hmt1 hb1
    refine MW_run C okX4_take 11 1 (gs := []) (cf' := (21, [some (.ref 0), some (.int x1), some (.int x2), none, none], [.int 0], (hPl 0 p), 0, 0)) rfl trivial ?_
    obtain rfl := Option.some.inj hm
    exact MW_iret C okX4_take hq 12 rfl hp
  · have hm := hmf1 hb1
    refine MW_run C okX4_take 2 2 (gs := []) (cf' := (7, [some (.ref 0), some (.int x1), some (.int x2), none, none], [.int 6, .int x1], (hPl 0 p), 0, 0)) rfl trivial ?_
    obtain ⟨hmt7, hmf7⟩ := of_if hm
    refine MW_brF C okX4_take 4 rfl rfl (fun hb7 => ?_) (fun hb7 => ?_)
    · have hm := hmt7 hb7
      obtain ⟨hg17, hm⟩ := of_guard hm
      refine MW_run C okX4_take 5 5 (gs := [inb x1 6]) (cf' := (17, [some (.ref 0), some (.int x1), some (.int x2), none, none], [.int 1, .int (rd p.2 x1)], (hPl 0 p), 0, 0)) rfl hg17 ?_
      obtain ⟨hmt17, hmf17⟩ := of_if hm
      refine MW_brF C okX4_take 10 rfl rfl (fun hb17 => ?_) (fun hb17 => ?_)
      · have hm := hmt17 hb17
        refine MW_run C okX4_take 11 1 (gs := []) (cf' := (21, [some (.ref 0), some (.int x1), some (.int x2), none, none], [.int 0], (hPl 0 p), 0, 0)) rfl trivial ?_
        obtain rfl := Option.some.inj hm
        exact MW_iret C okX4_take hq 12 rfl hp
      · have hm := hmf17 hb17
        obtain ⟨hg40, hm⟩ := of_guard hm
        refine MW_run C okX4_take 13 14 (gs := [inb x1 6, inb x1 6, inb x1 6]) (cf' := (40, [some (.ref 0), some (.int x1), some (.int x2), some (.int (rd p.1 x1)), none], [.int x2], (hPl 0 (p.1, (wr p.2 x1 ((rd p.2 x1) - 1)))), 0, 0)) rfl ⟨hg40.1, hg40.2.1, hg40.2.2⟩ ?_
        obtain ⟨hmt40, hmf40⟩ := of_if hm
        refine MW_brF C okX4_take 27 rfl rfl (fun hb40 => ?_) (fun hb40 => ?_)
        · have hm := hmt40 hb40
          obtain ⟨hg56, hm⟩ := of_guard hm
          refine MW_run C okX4_take 28 10 (gs := [inb x1 6]) (cf' := (56, [some (.ref 0), some (.int x1), some (.int x2), some (.int (rd p.1 x1)), none], [.int ((rd p.1 x1) &&& 7)], (hPl 0 ((wr p.1 x1 ((rd p.1 x1) >>> (3 &&& 31))), (wr p.2 x1 ((rd p.2 x1) - 1)))), 0, 0)) rfl hg56 ?_
          obtain rfl := Option.some.inj hm
          exact MW_iret C okX4_take hq 38 rfl hp
        · have hm := hmf40 hb40
          obtain ⟨hg88, hm⟩ := of_guard hm
          refine MW_run C okX4_take 39 23 (gs := [inb x1 6, inb x1 6]) (cf' := (88, [some (.ref 0), some (.int x1), some (.int x2), some (.int (rd p.1 x1)), some (.int ((3 : Int32) * (rd (wr p.2 x1 ((rd p.2 x1) - 1)) x1)))], [.int (((rd p.1 x1) >>> (((3 : Int32) * (rd (wr p.2 x1 ((rd p.2 x1) - 1)) x1)) &&& 31)) &&& 7)], (hPl 0 ((wr p.1 x1 ((rd p.1 x1) &&& (((1 : Int32) <<< (((3 : Int32) * (rd (wr p.2 x1 ((rd p.2 x1) - 1)) x1)) &&& 31)) - 1))), (wr p.2 x1 ((rd p.2 x1) - 1)))), 0, 0)) rfl ⟨hg88.1, hg88.2⟩ ?_
          obtain rfl := Option.some.inj hm
          exact MW_iret C okX4_take hq 62 rfl hp
    · have hm := hmf7 hb7
      refine MW_run C okX4_take 11 1 (gs := []) (cf' := (21, [some (.ref 0), some (.int x1), some (.int x2), none, none], [.int 0], (hPl 0 p), 0, 0)) rfl trivial ?_
      obtain rfl := Option.some.inj hm
      exact MW_iret C okX4_take hq 12 rfl hp
theorem c_pl_take (p : PlS) (x1 : Int32) (x2 : Int32) (out : Int32 × PlS) (hm : pl_take p x1 x2 = some out) : CT yX4_take cX4_take 5 (some .int) 0 0 0 0 [.ref 0, .int x1, .int x2] (hPl 0 p) (fun v h => v = (some (.int out.1)) ∧ h = (hPl 0 out.2)) :=
  CT_of (by decide +kernel) (vs0 := [some (.ref 0), some (.int x1), some (.int x2), none, none]) rfl rfl (fun X C hq => t_pl_take C hq p x1 x2 out hm ⟨rfl, rfl⟩)
/-! C: pl_isFarPut -/
def pl_isFarPut (x0 : Int32) : Option (Int32) :=
  if (irm (x0 / 10) 10) = 5 then
    some 1
  else
    if (irm x0 10) = 1 then
      some 1
    else
      some 0
set_option maxRecDepth 100000 in
set_option maxHeartbeats 1000000 in
theorem t_pl_isFarPut {X : CTX} {K : Option Value → AH → Prop} (C : CX X cX4_isFarPut yX4_isFarPut.cls (decide (yX4_isFarPut.name = "<init>")) 0 0) (hq : RQ X (some .boolean) K) (x0 : Int32) (out : Int32) (hm : pl_isFarPut x0 = some out) (hp : K (some (.int out)) []) : MW X (0, [some (.int x0)], [], [], 0, 0) := by
  unfold pl_isFarPut at hm
  refine MW_run C okX4_isFarPut 0 6 (gs := [¬ (10 : Int32) = 0, ¬ (10 : Int32) = 0]) (cf' := (8, [some (.int x0)], [.int 5, .int (irm (x0 / 10) 10)], [], 0, 0)) rfl ⟨(show ¬ (10 : Int32) = 0 by decide), (show ¬ (10 : Int32) = 0 by decide)⟩ ?_
  obtain ⟨hmt8, hmf8⟩ := of_if hm
  refine MW_brT C okX4_isFarPut 6 rfl rfl (fun hb8 => ?_) (fun hb8 => ?_)
  · have hm := hmt8 hb8
    refine MW_run C okX4_isFarPut 12 2 (gs := []) (cf' := (24, [some (.int x0)], [.int 1], [], 0, 0)) rfl trivial ?_
    obtain rfl := Option.some.inj hm
    exact MW_zret C okX4_isFarPut hq 15 rfl (by decide) hp
  · have hm := hmf8 hb8
    refine MW_run C okX4_isFarPut 7 4 (gs := [¬ (10 : Int32) = 0]) (cf' := (16, [some (.int x0)], [.int 1, .int (irm x0 10)], [], 0, 0)) rfl (show ¬ (10 : Int32) = 0 by decide) ?_
    obtain ⟨hmt16, hmf16⟩ := of_if hm
    refine MW_brF C okX4_isFarPut 11 rfl rfl (fun hb16 => ?_) (fun hb16 => ?_)
    · have hm := hmt16 hb16
      refine MW_run C okX4_isFarPut 12 2 (gs := []) (cf' := (24, [some (.int x0)], [.int 1], [], 0, 0)) rfl trivial ?_
      obtain rfl := Option.some.inj hm
      exact MW_zret C okX4_isFarPut hq 15 rfl (by decide) hp
    · have hm := hmf16 hb16
      refine MW_run C okX4_isFarPut 14 1 (gs := []) (cf' := (24, [some (.int x0)], [.int 0], [], 0, 0)) rfl trivial ?_
      obtain rfl := Option.some.inj hm
      exact MW_zret C okX4_isFarPut hq 15 rfl (by decide) hp
theorem c_pl_isFarPut (x0 : Int32) (out : Int32) (hm : pl_isFarPut x0 = some out) : CT yX4_isFarPut cX4_isFarPut 1 (some .boolean) 0 0 0 0 [.int x0] [] (fun v h => v = (some (.int out)) ∧ h = []) :=
  CT_of (by decide +kernel) (vs0 := [some (.int x0)]) rfl rfl (fun X C hq => t_pl_isFarPut C hq x0 out hm ⟨rfl, rfl⟩)
