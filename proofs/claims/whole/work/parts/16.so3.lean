/-! C: pl_copyFrom -/
def pl_copyFrom (p : PlS) (f : PlS) : Option (PlS) :=
  some ((cpy 6 f.1 p.1), (cpy 6 f.2 p.2))
set_option maxRecDepth 100000 in
set_option maxHeartbeats 1000000 in
theorem t_pl_copyFrom {X : CTX} {K : Option Value → AH → Prop} (C : CX X cX4_copyFrom yX4_copyFrom.cls (decide (yX4_copyFrom.name = "<init>")) 2 47) (hq : RQ X none K) (p : PlS) (f : PlS) (out : PlS) (hm : pl_copyFrom p f = some out) (hp : K none (hPl 0 out ++ (hPl 3 f))) : MW X (0, [some (.ref 0), some (.ref 3)], [], (hPl 0 p ++ (hPl 3 f)), 0, 0) := by
  unfold pl_copyFrom at hm
  refine MW_run C okX4_copyFrom 0 4 (gs := []) (cf' := (8, [some (.ref 0), some (.ref 3)], [.ref 1, .ref 4], (hPl 0 p ++ (hPl 3 f)), 0, 0)) rfl trivial ?_
  refine MW_callSN1 C okX4_copyFrom 4 rfl [4, 1] (v0 := none) (h0 := [.inl (0, 6, .inl f.1), .inl (0, 6, .inl (cpy 6 f.1 p.1))]) (c_copyInts 6 (by decide) f.1 p.1) lkX4_18 2 dpX11_copyInts (by decide) (rest := []) rfl nkX4_18 rfl rfl rfl rfl rfl rfl (st2 := []) (h2 := (hPl 0 ((cpy 6 f.1 p.1), p.2) ++ (hPl 3 f))) rfl rfl ?_
  refine MW_run C okX4_copyFrom 5 4 (gs := []) (cf' := (19, [some (.ref 0), some (.ref 3)], [.ref 2, .ref 5], (hPl 0 ((cpy 6 f.1 p.1), p.2) ++ (hPl 3 f)), 0, 0)) rfl trivial ?_
  refine MW_callSN1 C okX4_copyFrom 9 rfl [5, 2] (v0 := none) (h0 := [.inl (0, 6, .inl f.2), .inl (0, 6, .inl (cpy 6 f.2 p.2))]) (c_copyInts 6 (by decide) f.2 p.2) lkX4_18 2 dpX11_copyInts (by decide) (rest := []) rfl nkX4_18 rfl rfl rfl rfl rfl rfl (st2 := []) (h2 := (hPl 0 ((cpy 6 f.1 p.1), (cpy 6 f.2 p.2)) ++ (hPl 3 f))) rfl rfl ?_
  obtain rfl := Option.some.inj hm
  exact MW_vret C okX4_copyFrom hq 10 rfl hp
theorem c_pl_copyFrom (p : PlS) (f : PlS) (out : PlS) (hm : pl_copyFrom p f = some out) : CT yX4_copyFrom cX4_copyFrom 2 none 2 47 0 0 [.ref 0, .ref 3] (hPl 0 p ++ (hPl 3 f)) (fun v h => v = none ∧ h = (hPl 0 out ++ (hPl 3 f))) :=
  CT_of (by decide +kernel) (vs0 := [some (.ref 0), some (.ref 3)]) rfl rfl (fun X C hq => t_pl_copyFrom C hq p f out hm ⟨rfl, rfl⟩)
/-! C: pl_indices -/
def pl_indices_L7 : Nat → Int32 → Int32 → Int32 → Int32 → Int32 → Option (Int32)
  | 0, _, _, _, _, _ => none
  | n + 1, x0, x1, x2, x3, x4 =>
    if x0 < x4 then
      some x3
    else
      if (5 : Int32) < x4 then
        some x3
      else
        pl_indices_L7 n x0 x1 (x2 * (x4 + x1)) (x3 + (x2 * (x4 + x1))) (x4 + 1)
set_option maxRecDepth 100000 in
set_option maxHeartbeats 1000000 in
theorem l_pl_indices_7 {X : CTX} {K : Option Value → AH → Prop} (C : CX X cX4_indices yX4_indices.cls (decide (yX4_indices.name = "<init>")) 0 0) (hq : RQ X (some .int) K) : ∀ (n : Nat) (x0 : Int32) (x1 : Int32) (x2 : Int32) (x3 : Int32) (x4 : Int32) (out : Int32) (hm : pl_indices_L7 n x0 x1 x2 x3 x4 = some out) (hp : MW X (36, [none, none, none, some (.int out), none], [], [], 0, 0)), MW X (7, [some (.int x0), some (.int x1), some (.int x2), some (.int x3), some (.int x4)], [], [], 0, 0) := by
  intro n
  induction n with
  | zero => intro x0 x1 x2 x3 x4 out hm hp; rw [pl_indices_L7] at hm; cases hm
  | succ n ih =>
    intro x0 x1 x2 x3 x4 out hm hp
    rw [pl_indices_L7] at hm
    refine MW_run C okX4_indices 6 2 (gs := []) (cf' := (10, [some (.int x0), some (.int x1), some (.int x2), some (.int x3), some (.int x4)], [.int x0, .int x4], [], 0, 0)) rfl trivial ?_
    obtain ⟨hmt10, hmf10⟩ := of_if hm
    refine MW_brT C okX4_indices 8 rfl rfl (fun hb10 => ?_) (fun hb10 => ?_)
    · have hm := hmt10 hb10
      obtain rfl := Option.some.inj hm
      refine MW_pick [false, false, false, true, false] rfl (vs' := [none, none, none, some (.int x3), none]) rfl ?_
      exact hp
    · have hm := hmf10 hb10
      refine MW_run C okX4_indices 9 2 (gs := []) (cf' := (16, [some (.int x0), some (.int x1), some (.int x2), some (.int x3), some (.int x4)], [.int 5, .int x4], [], 0, 0)) rfl trivial ?_
      obtain ⟨hmt16, hmf16⟩ := of_if hm
      refine MW_brT C okX4_indices 11 rfl rfl (fun hb16 => ?_) (fun hb16 => ?_)
      · have hm := hmt16 hb16
        obtain rfl := Option.some.inj hm
        refine MW_pick [false, false, false, true, false] rfl (vs' := [none, none, none, some (.int x3), none]) rfl ?_
        exact hp
      · have hm := hmf16 hb16
        refine MW_run C okX4_indices 12 12 (gs := []) (cf' := (7, [some (.int x0), some (.int x1), some (.int (x2 * (x4 + x1))), some (.int (x3 + (x2 * (x4 + x1)))), some (.int (x4 + 1))], [], [], 0, 0)) rfl trivial ?_
        exact ih x0 x1 (x2 * (x4 + x1)) (x3 + (x2 * (x4 + x1))) (x4 + 1) _ hm hp
def pl_indices (x0 : Int32) (x1 : Int32) : Option (Int32) :=
  (pl_indices_L7 N0 x0 x1 1 1 1).bind fun q7 =>
    some q7
set_option maxRecDepth 100000 in
set_option maxHeartbeats 1000000 in
theorem t_pl_indices {X : CTX} {K : Option Value → AH → Prop} (C : CX X cX4_indices yX4_indices.cls (decide (yX4_indices.name = "<init>")) 0 0) (hq : RQ X (some .int) K) (x0 : Int32) (x1 : Int32) (out : Int32) (hm : pl_indices x0 x1 = some out) (hp : K (some (.int out)) []) : MW X (0, [some (.int x0), some (.int x1), none, none, none], [], [], 0, 0) := by
  unfold pl_indices at hm
  refine MW_run C okX4_indices 0 6 (gs := []) (cf' := (7, [some (.int x0), some (.int x1), some (.int 1), some (.int 1), some (.int 1)], [], [], 0, 0)) rfl trivial ?_
  obtain ⟨q7, hc7, hm⟩ := of_bind hm
  refine l_pl_indices_7 C hq N0 x0 x1 1 1 1 q7 hc7 ?_
  refine MW_run C okX4_indices 24 1 (gs := []) (cf' := (37, [none, none, none, some (.int q7), none], [.int q7], [], 0, 0)) rfl trivial ?_
  obtain rfl := Option.some.inj hm
  exact MW_iret C okX4_indices hq 25 rfl hp
theorem c_pl_indices (x0 : Int32) (x1 : Int32) (out : Int32) (hm : pl_indices x0 x1 = some out) : CT yX4_indices cX4_indices 5 (some .int) 0 0 0 0 [.int x0, .int x1] [] (fun v h => v = (some (.int out)) ∧ h = []) :=
  CT_of (by decide +kernel) (vs0 := [some (.int x0), some (.int x1), none, none, none]) rfl rfl (fun X C hq => t_pl_indices C hq x0 x1 out hm ⟨rfl, rfl⟩)
/-! C: pl_insertAt -/
def pl_insertAt (p : PlS) (x1 : Int32) (x2 : Int32) (x3 : Int32) : Option (PlS) :=
  if x1 < 0 then
    some p
  else
    if x1 < 6 then
      if inb x1 6 ∧ inb x1 6 ∧ inb x1 6 ∧ inb x1 6 then
        some ((wr p.1 x1 ((((rd p.1 x1) &&& (((1 : Int32) <<< (((3 : Int32) * x3) &&& 31)) - 1)) ||| (x2 <<< (((3 : Int32) * x3) &&& 31))) ||| (((rd p.1 x1) >>> (((3 : Int32) * x3) &&& 31)) <<< ((((3 : Int32) * x3) + 3) &&& 31)))), (wr p.2 x1 ((rd p.2 x1) + 1)))
      else none
    else
      some p
set_option maxRecDepth 100000 in
set_option maxHeartbeats 1000000 in
theorem t_pl_insertAt {X : CTX} {K : Option Value → AH → Prop} (C : CX X cX4_insertAt yX4_insertAt.cls (decide (yX4_insertAt.name = "<init>")) 0 0) (hq : RQ X none K) (p : PlS) (x1 : Int32) (x2 : Int32) (x3 : Int32) (out : PlS) (hm : pl_insertAt p x1 x2 x3 = some out) (hp : K none (hPl 0 out)) : MW X (0, [some (.ref 0), some (.int x1), some (.int x2), some (.int x3), none, none], [], (hPl 0 p), 0, 0) := by
  unfold pl_insertAt at hm
  refine MW_run C okX4_insertAt 0 1 (gs := []) (cf' := (1, [some (.ref 0), some (.int x1), some (.int x2), some (.int x3), none, none], [.int x1], (hPl 0 p), 0, 0)) rfl trivial ?_
  obtain ⟨hmt1, hmf1⟩ := of_if hm
  refine MW_brT C okX4_insertAt 1 rfl rfl (fun hb1 => ?_) (fun hb1 => ?_)
  · have hm := hmt1 hb1
    obtain rfl := Option.some.inj hm
    exact MW_vret C okX4_insertAt hq 45 rfl hp
  · have hm := hmf1 hb1
    refine MW_run C okX4_insertAt 2 2 (gs := []) (cf' := (7, [some (.ref 0), some (.int x1), some (.int x2), some (.int x3), none, none], [.int 6, .int x1], (hPl 0 p), 0, 0)) rfl trivial ?_
    obtain ⟨hmt7, hmf7⟩ := of_if hm
    refine MW_brF C okX4_insertAt 4 rfl rfl (fun hb7 => ?_) (fun hb7 => ?_)
    · have hm := hmt7 hb7
      obtain ⟨hg64, hm⟩ := of_guard hm
      refine MW_run C okX4_insertAt 5 40 (gs := [inb x1 6, inb x1 6, inb x1 6, inb x1 6]) (cf' := (64, [some (.ref 0), some (.int x1), some (.int x2), some (.int x3), some (.int ((3 : Int32) * x3)), some (.int (rd p.1 x1))], [], (hPl 0 ((wr p.1 x1 ((((rd p.1 x1) &&& (((1 : Int32) <<< (((3 : Int32) * x3) &&& 31)) - 1)) ||| (x2 <<< (((3 : Int32) * x3) &&& 31))) ||| (((rd p.1 x1) >>> (((3 : Int32) * x3) &&& 31)) <<< ((((3 : Int32) * x3) + 3) &&& 31)))), (wr p.2 x1 ((rd p.2 x1) + 1)))), 0, 0)) rfl ⟨hg64.1, hg64.2.1, hg64.2.2.1, hg64.2.2.2⟩ ?_
      obtain rfl := Option.some.inj hm
      exact MW_vret C okX4_insertAt hq 45 rfl hp
    · have hm := hmf7 hb7
      obtain rfl := Option.some.inj hm
      exact MW_vret C okX4_insertAt hq 45 rfl hp
theorem c_pl_insertAt (p : PlS) (x1 : Int32) (x2 : Int32) (x3 : Int32) (out : PlS) (hm : pl_insertAt p x1 x2 x3 = some out) : CT yX4_insertAt cX4_insertAt 6 none 0 0 0 0 [.ref 0, .int x1, .int x2, .int x3] (hPl 0 p) (fun v h => v = none ∧ h = (hPl 0 out)) :=
  CT_of (by decide +kernel) (vs0 := [some (.ref 0), some (.int x1), some (.int x2), some (.int x3), none, none]) rfl rfl (fun X C hq => t_pl_insertAt C hq p x1 x2 x3 out hm ⟨rfl, rfl⟩)
/-! C: pl_insert -/
def pl_insert_L6 : Nat → PlS → Int32 → Int32 → Int32 → Int32 → Option ((PlS) ⊕ (PlS))
  | 0, _, _, _, _, _ => none
  | n + 1, p, x1, x3, x4, x5 =>
    if x3 < x5 then
      some (.inl p)
    else
      (pl_placeOfList x5 x3).bind fun q15 =>
        (pl_countAt p q15).bind fun q23 =>
          if q23 < x4 then
            pl_insert_L6 n p x1 x3 (x4 - (q23 + 1)) (x5 + 1)
          else
            (pl_insertAt p q15 x1 x4).bind fun q41 =>
              some (.inr q41)
set_option maxRecDepth 100000 in
set_option maxHeartbeats 1000000 in
theorem l_pl_insert_6 {X : CTX} {K : Option Value → AH → Prop} (C : CX X cX4_insert yX4_insert.cls (decide (yX4_insert.name = "<init>")) 1 25) (hq : RQ X none K) : ∀ (n : Nat) (p : PlS) (x1 : Int32) (x3 : Int32) (x4 : Int32) (x5 : Int32) (out : (PlS) ⊕ (PlS)) (hm : pl_insert_L6 n p x1 x3 x4 x5 = some out) (hp : Sum.elim (fun e => MW X (60, [none, none, none, none, none, none, none, none], [], (hPl 0 e), 0, 0)) (fun r => K none (hPl 0 r)) out), MW X (6, [some (.ref 0), some (.int x1), none, some (.int x3), some (.int x4), some (.int x5), none, none], [], (hPl 0 p), 0, 0) := by
  intro n
  induction n with
  | zero => intro p x1 x3 x4 x5 out hm hp; rw [pl_insert_L6] at hm; cases hm
  | succ n ih =>
    intro p x1 x3 x4 x5 out hm hp
    rw [pl_insert_L6] at hm
    refine MW_run C okX4_insert 4 2 (gs := []) (cf' := (9, [some (.ref 0), some (.int x1), none, some (.int x3), some (.int x4), some (.int x5), none, none], [.int x3, .int x5], (hPl 0 p), 0, 0)) rfl trivial ?_
    obtain ⟨hmt9, hmf9⟩ := of_if hm
    refine MW_brT C okX4_insert 6 rfl rfl (fun hb9 => ?_) (fun hb9 => ?_)
    · have hm := hmt9 hb9
      obtain rfl := Option.some.inj hm
      refine MW_pick [false, false, true, false, false, false, true, true] rfl (vs' := [none, none, none, none, none, none, none, none]) rfl ?_
      exact hp
    · have hm := hmf9 hb9
      refine MW_run C okX4_insert 7 2 (gs := []) (cf' := (15, [some (.ref 0), some (.int x1), none, some (.int x3), some (.int x4), some (.int x5), none, none], [.int x3, .int x5], (hPl 0 p), 0, 0)) rfl trivial ?_
      obtain ⟨q15, hc15, hm⟩ := of_bind hm
      refine MW_callS0 C okX4_insert 9 rfl (v0 := some (.int q15)) (c_pl_placeOfList x5 x3 q15 hc15) lkX4_55 2 dpX4_placeOfList (by decide) (rest := []) rfl rfl rfl rfl rfl ?_
      refine MW_run C okX4_insert 10 3 (gs := []) (cf' := (23, [some (.ref 0), some (.int x1), none, some (.int x3), some (.int x4), some (.int x5), some (.int q15), none], [.int q15, .ref 0], (hPl 0 p), 0, 0)) rfl trivial ?_
      obtain ⟨q23, hc23, hm⟩ := of_bind hm
      refine MW_callV0 C okX4_insert 13 rfl (v0 := some (.int q23)) (h0 := (hPl 0 p)) (c_pl_countAt p q15 q23 hc23) lkX4_22 1 dpX4_countAt (by decide) (rest := []) rfl rfl rfl rfl rfl rfl rfl rfl ?_
      refine MW_run C okX4_insert 14 3 (gs := []) (cf' := (32, [some (.ref 0), some (.int x1), none, some (.int x3), some (.int x4), some (.int x5), some (.int q15), some (.int q23)], [.int q23, .int x4], (hPl 0 p), 0, 0)) rfl trivial ?_
      obtain ⟨hmt32, hmf32⟩ := of_if hm
      refine MW_brT C okX4_insert 17 rfl rfl (fun hb32 => ?_) (fun hb32 => ?_)
      · have hm := hmt32 hb32
        refine MW_run C okX4_insert 24 8 (gs := []) (cf' := (6, [some (.ref 0), some (.int x1), none, some (.int x3), some (.int (x4 - (q23 + 1))), some (.int (x5 + 1)), some (.int q15), some (.int q23)], [], (hPl 0 p), 0, 0)) rfl trivial ?_
        refine MW_pick [true, true, true, true, true, true, false, false] rfl (vs' := [some (.ref 0), some (.int x1), none, some (.int x3), some (.int (x4 - (q23 + 1))), some (.int (x5 + 1)), none, none]) rfl ?_
        exact ih p x1 x3 (x4 - (q23 + 1)) (x5 + 1) _ hm hp
      · have hm := hmf32 hb32
        refine MW_run C okX4_insert 18 4 (gs := []) (cf' := (41, [some (.ref 0), some (.int x1), none, some (.int x3), some (.int x4), some (.int x5), some (.int q15), some (.int q23)], [.int x4, .int x1, .int q15, .ref 0], (hPl 0 p), 0, 0)) rfl trivial ?_
        obtain ⟨q41, hc41, hm⟩ := of_bind hm
        refine MW_callV0 C okX4_insert 22 rfl (v0 := none) (h0 := (hPl 0 q41)) (c_pl_insertAt p q15 x1 x4 q41 hc41) lkX4_79 3 dpX4_insertAt (by decide) (rest := []) rfl rfl rfl rfl rfl rfl rfl rfl ?_
        obtain rfl := Option.some.inj hm
        exact MW_vret C okX4_insert hq 23 rfl hp
def pl_insert (p : PlS) (x1 : Int32) (x2 : Int32) (x3 : Int32) : Option (PlS) :=
  (pl_insert_L6 N0 p x1 x3 x2 0).bind fun q6 =>
    match q6 with
    | .inr r6 => some r6
    | .inl e6 =>
      some e6
set_option maxRecDepth 100000 in
set_option maxHeartbeats 1000000 in
theorem t_pl_insert {X : CTX} {K : Option Value → AH → Prop} (C : CX X cX4_insert yX4_insert.cls (decide (yX4_insert.name = "<init>")) 1 25) (hq : RQ X none K) (p : PlS) (x1 : Int32) (x2 : Int32) (x3 : Int32) (out : PlS) (hm : pl_insert p x1 x2 x3 = some out) (hp : K none (hPl 0 out)) : MW X (0, [some (.ref 0), some (.int x1), some (.int x2), some (.int x3), none, none, none, none], [], (hPl 0 p), 0, 0) := by
  unfold pl_insert at hm
  refine MW_run C okX4_insert 0 4 (gs := []) (cf' := (6, [some (.ref 0), some (.int x1), some (.int x2), some (.int x3), some (.int x2), some (.int 0), none, none], [], (hPl 0 p), 0, 0)) rfl trivial ?_
  obtain ⟨q6, hc6, hm⟩ := of_bind hm
  refine MW_pick [true, true, false, true, true, true, true, true] rfl (vs' := [some (.ref 0), some (.int x1), none, some (.int x3), some (.int x2), some (.int 0), none, none]) rfl ?_
  refine l_pl_insert_6 C hq N0 p x1 x3 x2 0 q6 hc6 ?_
  cases q6 with
  | inr r6 =>
    obtain rfl := Option.some.inj hm
    exact hp
  | inl e6 =>
    show MW X (60, [none, none, none, none, none, none, none, none], [], (hPl 0 e6), 0, 0)
    obtain rfl := Option.some.inj hm
    exact MW_vret C okX4_insert hq 32 rfl hp
theorem c_pl_insert (p : PlS) (x1 : Int32) (x2 : Int32) (x3 : Int32) (out : PlS) (hm : pl_insert p x1 x2 x3 = some out) : CT yX4_insert cX4_insert 8 none 1 25 0 0 [.ref 0, .int x1, .int x2, .int x3] (hPl 0 p) (fun v h => v = none ∧ h = (hPl 0 out)) :=
  CT_of (by decide +kernel) (vs0 := [some (.ref 0), some (.int x1), some (.int x2), some (.int x3), none, none, none, none]) rfl rfl (fun X C hq => t_pl_insert C hq p x1 x2 x3 out hm ⟨rfl, rfl⟩)
/-! C: pl_setUp -/
def pl_setUp_L9 : Nat → PlS → Int32 → Int32 → Int32 → Int32 → Int32 → Option (Int32 × Int32)
  | 0, _, _, _, _, _, _ => none
  | n + 1, p, x2, x3, x4, x5, x6 =>
    if x4 < x2 then
      if x6 < x5 then
        some (x4, x6)
      else
        pl_setUp_L9 n p x2 x3 (x4 + 1) (x5 * ((x4 + 1) + x3)) (x6 - x5)
    else
      some (x4, x6)
set_option maxRecDepth 100000 in
set_option maxHeartbeats 1000000 in
theorem l_pl_setUp_9 {X : CTX} {K : Option Value → AH → Prop} (C : CX X cX4_setUp yX4_setUp.cls (decide (yX4_setUp.name = "<init>")) 2 52) (hq : RQ X none K) : ∀ (n : Nat) (p : PlS) (x2 : Int32) (x3 : Int32) (x4 : Int32) (x5 : Int32) (x6 : Int32) (out : Int32 × Int32) (hm : pl_setUp_L9 n p x2 x3 x4 x5 x6 = some out) (hp : MW X (44, [some (.ref 0), none, some (.int x2), some (.int x3), some (.int out.1), none, some (.int out.2), none, none, none], [], (hPl 0 p), 0, 0)), MW X (9, [some (.ref 0), none, some (.int x2), some (.int x3), some (.int x4), some (.int x5), some (.int x6), none, none, none], [], (hPl 0 p), 0, 0) := by
  intro n
  induction n with
  | zero => intro p x2 x3 x4 x5 x6 out hm hp; rw [pl_setUp_L9] at hm; cases hm
  | succ n ih =>
    intro p x2 x3 x4 x5 x6 out hm hp
    rw [pl_setUp_L9] at hm
    refine MW_run C okX4_setUp 6 2 (gs := []) (cf' := (12, [some (.ref 0), none, some (.int x2), some (.int x3), some (.int x4), some (.int x5), some (.int x6), none, none, none], [.int x2, .int x4], (hPl 0 p), 0, 0)) rfl trivial ?_
    obtain ⟨hmt12, hmf12⟩ := of_if hm
    refine MW_brF C okX4_setUp 8 rfl rfl (fun hb12 => ?_) (fun hb12 => ?_)
    · have hm := hmt12 hb12
      refine MW_run C okX4_setUp 9 2 (gs := []) (cf' := (19, [some (.ref 0), none, some (.int x2), some (.int x3), some (.int x4), some (.int x5), some (.int x6), none, none, none], [.int x5, .int x6], (hPl 0 p), 0, 0)) rfl trivial ?_
      obtain ⟨hmt19, hmf19⟩ := of_if hm
      refine MW_brT C okX4_setUp 11 rfl rfl (fun hb19 => ?_) (fun hb19 => ?_)
      · have hm := hmt19 hb19
        obtain rfl := Option.some.inj hm
        refine MW_pick [true, true, true, true, true, false, true, true, true, true] rfl (vs' := [some (.ref 0), none, some (.int x2), some (.int x3), some (.int x4), none, some (.int x6), none, none, none]) rfl ?_
        exact hp
      · have hm := hmf19 hb19
        refine MW_run C okX4_setUp 12 12 (gs := []) (cf' := (9, [some (.ref 0), none, some (.int x2), some (.int x3), some (.int (x4 + 1)), some (.int (x5 * ((x4 + 1) + x3))), some (.int (x6 - x5)), none, none, none], [], (hPl 0 p), 0, 0)) rfl trivial ?_
        exact ih p x2 x3 (x4 + 1) (x5 * ((x4 + 1) + x3)) (x6 - x5) _ hm hp
    · have hm := hmf12 hb12
      obtain rfl := Option.some.inj hm
      refine MW_pick [true, true, true, true, true, false, true, true, true, true] rfl (vs' := [some (.ref 0), none, some (.int x2), some (.int x3), some (.int x4), none, some (.int x6), none, none, none]) rfl ?_
      exact hp
def pl_setUp_L51 : Nat → PlS → Int32 → Int32 → Int32 → Int32 → Int32 → Int32 → Option (Int32)
  | 0, _, _, _, _, _, _, _ => none
  | n + 1, p, x2, x3, x4, x6, x7, x8 =>
    if (0 : Int32) < x8 then
      if ¬ (imax 1 (x8 + x3)) = 0 ∧ ¬ (imax 1 (x8 + x3)) = 0 then
        pl_setUp_L51 n p x2 x3 x4 (x6 / (imax 1 (x8 + x3))) (x7 ||| ((irm x6 (imax 1 (x8 + x3))) <<< (((4 : Int32) * x8) &&& 31))) (x8 + (-1))
      else none
    else
      some x7
set_option maxRecDepth 100000 in
set_option maxHeartbeats 1000000 in
theorem l_pl_setUp_51 {X : CTX} {K : Option Value → AH → Prop} (C : CX X cX4_setUp yX4_setUp.cls (decide (yX4_setUp.name = "<init>")) 2 52) (hq : RQ X none K) : ∀ (n : Nat) (p : PlS) (x2 : Int32) (x3 : Int32) (x4 : Int32) (x6 : Int32) (x7 : Int32) (x8 : Int32) (out : Int32) (hm : pl_setUp_L51 n p x2 x3 x4 x6 x7 x8 = some out) (hp : MW X (94, [some (.ref 0), none, some (.int x2), some (.int x3), some (.int x4), none, none, some (.int out), none, none], [], (hPl 0 p), 0, 0)), MW X (51, [some (.ref 0), none, some (.int x2), some (.int x3), some (.int x4), none, some (.int x6), some (.int x7), some (.int x8), none], [], (hPl 0 p), 0, 0) := by
  intro n
  induction n with
  | zero => intro p x2 x3 x4 x6 x7 x8 out hm hp; rw [pl_setUp_L51] at hm; cases hm
  | succ n ih =>
    intro p x2 x3 x4 x6 x7 x8 out hm hp
    rw [pl_setUp_L51] at hm
    refine MW_run C okX4_setUp 28 1 (gs := []) (cf' := (53, [some (.ref 0), none, some (.int x2), some (.int x3), some (.int x4), none, some (.int x6), some (.int x7), some (.int x8), none], [.int x8], (hPl 0 p), 0, 0)) rfl trivial ?_
    obtain ⟨hmt53, hmf53⟩ := of_if hm
    refine MW_brF C okX4_setUp 29 rfl rfl (fun hb53 => ?_) (fun hb53 => ?_)
    · have hm := hmt53 hb53
      refine MW_run C okX4_setUp 30 4 (gs := []) (cf' := (61, [some (.ref 0), none, some (.int x2), some (.int x3), some (.int x4), none, some (.int x6), some (.int x7), some (.int x8), none], [.int (x8 + x3), .int 1], (hPl 0 p), 0, 0)) rfl trivial ?_
      refine MW_mmax C okX4_setUp 34 rfl (lkX4_63) (by decide) ?_
      obtain ⟨hg51, hm⟩ := of_guard hm
      refine MW_run C okX4_setUp 35 17 (gs := [¬ (imax 1 (x8 + x3)) = 0, ¬ (imax 1 (x8 + x3)) = 0]) (cf' := (51, [some (.ref 0), none, some (.int x2), some (.int x3), some (.int x4), none, some (.int (x6 / (imax 1 (x8 + x3)))), some (.int (x7 ||| ((irm x6 (imax 1 (x8 + x3))) <<< (((4 : Int32) * x8) &&& 31)))), some (.int (x8 + (-1))), some (.int (imax 1 (x8 + x3)))], [], (hPl 0 p), 0, 0)) rfl ⟨hg51.1, hg51.2⟩ ?_
      refine MW_pick [true, true, true, true, true, true, true, true, true, false] rfl (vs' := [some (.ref 0), none, some (.int x2), some (.int x3), some (.int x4), none, some (.int (x6 / (imax 1 (x8 + x3)))), some (.int (x7 ||| ((irm x6 (imax 1 (x8 + x3))) <<< (((4 : Int32) * x8) &&& 31)))), some (.int (x8 + (-1))), none]) rfl ?_
      exact ih p x2 x3 x4 (x6 / (imax 1 (x8 + x3))) (x7 ||| ((irm x6 (imax 1 (x8 + x3))) <<< (((4 : Int32) * x8) &&& 31))) (x8 + (-1)) _ hm hp
    · have hm := hmf53 hb53
      obtain rfl := Option.some.inj hm
      refine MW_pick [true, true, true, true, true, true, false, true, false, true] rfl (vs' := [some (.ref 0), none, some (.int x2), some (.int x3), some (.int x4), none, none, some (.int x7), none, none]) rfl ?_
      exact hp
def pl_setUp_L114 : Nat → PlS → Int32 → Int32 → Int32 → Int32 → Option (PlS)
  | 0, _, _, _, _, _ => none
  | n + 1, p, x3, x4, x7, x8 =>
    if x4 < x8 then
      some p
    else
      (pl_insert p x8 ((x7 >>> (((4 : Int32) * x8) &&& 31)) &&& 15) x3).bind fun q135 =>
        pl_setUp_L114 n q135 x3 x4 x7 (x8 + 1)
set_option maxRecDepth 100000 in
set_option maxHeartbeats 1000000 in
theorem l_pl_setUp_114 {X : CTX} {K : Option Value → AH → Prop} (C : CX X cX4_setUp yX4_setUp.cls (decide (yX4_setUp.name = "<init>")) 2 52) (hq : RQ X none K) : ∀ (n : Nat) (p : PlS) (x3 : Int32) (x4 : Int32) (x7 : Int32) (x8 : Int32) (out : PlS) (hm : pl_setUp_L114 n p x3 x4 x7 x8 = some out) (hp : MW X (144, [none, none, none, none, none, none, none, none, none, none], [], (hPl 0 out), 0, 0)), MW X (114, [some (.ref 0), none, none, some (.int x3), some (.int x4), none, none, some (.int x7), some (.int x8), none], [], (hPl 0 p), 0, 0) := by
  intro n
  induction n with
  | zero => intro p x3 x4 x7 x8 out hm hp; rw [pl_setUp_L114] at hm; cases hm
  | succ n ih =>
    intro p x3 x4 x7 x8 out hm hp
    rw [pl_setUp_L114] at hm
    refine MW_run C okX4_setUp 65 2 (gs := []) (cf' := (118, [some (.ref 0), none, none, some (.int x3), some (.int x4), none, none, some (.int x7), some (.int x8), none], [.int x4, .int x8], (hPl 0 p), 0, 0)) rfl trivial ?_
    obtain ⟨hmt118, hmf118⟩ := of_if hm
    refine MW_brT C okX4_setUp 67 rfl rfl (fun hb118 => ?_) (fun hb118 => ?_)
    · have hm := hmt118 hb118
      obtain rfl := Option.some.inj hm
      refine MW_pick [false, true, true, false, false, true, true, false, false, true] rfl (vs' := [none, none, none, none, none, none, none, none, none, none]) rfl ?_
      exact hp
    · have hm := hmf118 hb118
      refine MW_run C okX4_setUp 68 10 (gs := []) (cf' := (135, [some (.ref 0), none, none, some (.int x3), some (.int x4), none, none, some (.int x7), some (.int x8), none], [.int x3, .int ((x7 >>> (((4 : Int32) * x8) &&& 31)) &&& 15), .int x8, .ref 0], (hPl 0 p), 0, 0)) rfl trivial ?_
      obtain ⟨q135, hc135, hm⟩ := of_bind hm
      refine MW_callV0 C okX4_setUp 78 rfl (v0 := none) (h0 := (hPl 0 q135)) (c_pl_insert p x8 ((x7 >>> (((4 : Int32) * x8) &&& 31)) &&& 15) x3 q135 hc135) lkX4_75 3 dpX4_insert (by decide) (rest := []) rfl rfl rfl rfl rfl rfl rfl rfl ?_
      refine MW_run C okX4_setUp 79 2 (gs := []) (cf' := (114, [some (.ref 0), none, none, some (.int x3), some (.int x4), none, none, some (.int x7), some (.int (x8 + 1)), none], [], (hPl 0 q135), 0, 0)) rfl trivial ?_
      exact ih q135 x3 x4 x7 (x8 + 1) _ hm hp
def pl_setUp (p : PlS) (x1 : Int32) (x2 : Int32) (x3 : Int32) : Option (PlS) :=
  (pl_setUp_L9 N0 p x2 x3 0 1 x1).bind fun q9 =>
    (pl_setUp_L51 N0 p x2 x3 q9.1 q9.2 0 q9.1).bind fun q51 =>
      (rw_upTo x2).bind fun q96 =>
        (pl_begin p (q96 >>> (((3 : Int32) * q9.1) &&& 31)) (x2 - q9.1)).bind fun q108 =>
          (pl_setUp_L114 N0 q108 x3 q9.1 q51 1).bind fun q114 =>
            some q114
set_option maxRecDepth 100000 in
set_option maxHeartbeats 1000000 in
theorem t_pl_setUp {X : CTX} {K : Option Value → AH → Prop} (C : CX X cX4_setUp yX4_setUp.cls (decide (yX4_setUp.name = "<init>")) 2 52) (hq : RQ X none K) (p : PlS) (x1 : Int32) (x2 : Int32) (x3 : Int32) (out : PlS) (hm : pl_setUp p x1 x2 x3 = some out) (hp : K none (hPl 0 out)) : MW X (0, [some (.ref 0), some (.int x1), some (.int x2), some (.int x3), none, none, none, none, none, none], [], (hPl 0 p), 0, 0) := by
  unfold pl_setUp at hm
  refine MW_run C okX4_setUp 0 6 (gs := []) (cf' := (9, [some (.ref 0), some (.int x1), some (.int x2), some (.int x3), some (.int 0), some (.int 1), some (.int x1), none, none, none], [], (hPl 0 p), 0, 0)) rfl trivial ?_
  obtain ⟨q9, hc9, hm⟩ := of_bind hm
  refine MW_pick [true, false, true, true, true, true, true, true, true, true] rfl (vs' := [some (.ref 0), none, some (.int x2), some (.int x3), some (.int 0), some (.int 1), some (.int x1), none, none, none]) rfl ?_
  refine l_pl_setUp_9 C hq N0 p x2 x3 0 1 x1 q9 hc9 ?_
  refine MW_run C okX4_setUp 24 4 (gs := []) (cf' := (51, [some (.ref 0), none, some (.int x2), some (.int x3), some (.int q9.1), none, some (.int q9.2), some (.int 0), some (.int q9.1), none], [], (hPl 0 p), 0, 0)) rfl trivial ?_
  obtain ⟨q51, hc51, hm⟩ := of_bind hm
  refine l_pl_setUp_51 C hq N0 p x2 x3 q9.1 q9.2 0 q9.1 q51 hc51 ?_
  refine MW_run C okX4_setUp 52 2 (gs := []) (cf' := (96, [some (.ref 0), none, some (.int x2), some (.int x3), some (.int q9.1), none, none, some (.int q51), none, none], [.int x2, .ref 0], (hPl 0 p), 0, 0)) rfl trivial ?_
  obtain ⟨q96, hc96, hm⟩ := of_bind hm
  refine MW_callS0 C okX4_setUp 54 rfl (v0 := some (.int q96)) (c_rw_upTo x2 q96 hc96) lkX4_68 1 dpX6_upTo (by decide) (rest := [.ref 0]) rfl rfl rfl rfl rfl ?_
  refine MW_run C okX4_setUp 55 7 (gs := []) (cf' := (108, [some (.ref 0), none, some (.int x2), some (.int x3), some (.int q9.1), none, none, some (.int q51), none, none], [.int (x2 - q9.1), .int (q96 >>> (((3 : Int32) * q9.1) &&& 31)), .ref 0], (hPl 0 p), 0, 0)) rfl trivial ?_
  obtain ⟨q108, hc108, hm⟩ := of_bind hm
  refine MW_callV0 C okX4_setUp 62 rfl (v0 := none) (h0 := (hPl 0 q108)) (c_pl_begin p (q96 >>> (((3 : Int32) * q9.1) &&& 31)) (x2 - q9.1) q108 hc108) lkX4_71 2 dpX4_begin (by decide) (rest := []) rfl rfl rfl rfl rfl rfl rfl rfl ?_
  refine MW_run C okX4_setUp 63 2 (gs := []) (cf' := (114, [some (.ref 0), none, some (.int x2), some (.int x3), some (.int q9.1), none, none, some (.int q51), some (.int 1), none], [], (hPl 0 q108), 0, 0)) rfl trivial ?_
  obtain ⟨q114, hc114, hm⟩ := of_bind hm
  refine MW_pick [true, true, false, true, true, true, true, true, true, true] rfl (vs' := [some (.ref 0), none, none, some (.int x3), some (.int q9.1), none, none, some (.int q51), some (.int 1), none]) rfl ?_
  refine l_pl_setUp_114 C hq N0 q108 x3 q9.1 q51 1 q114 hc114 ?_
  obtain rfl := Option.some.inj hm
  exact MW_vret C okX4_setUp hq 81 rfl hp
theorem c_pl_setUp (p : PlS) (x1 : Int32) (x2 : Int32) (x3 : Int32) (out : PlS) (hm : pl_setUp p x1 x2 x3 = some out) : CT yX4_setUp cX4_setUp 10 none 2 52 0 0 [.ref 0, .int x1, .int x2, .int x3] (hPl 0 p) (fun v h => v = none ∧ h = (hPl 0 out)) :=
  CT_of (by decide +kernel) (vs0 := [some (.ref 0), some (.int x1), some (.int x2), some (.int x3), none, none, none, none, none, none]) rfl rfl (fun X C hq => t_pl_setUp C hq p x1 x2 x3 out hm ⟨rfl, rfl⟩)
/-! C: py_begin -/
def py_begin (p : PyS) (x1 : Int32) (x2 : Int32) (x3 : Int32) : Option (PyS) :=
  (rw_upTo x3).bind fun q30 =>
    (pl_begin p.2.2.2.2.2.2 q30 x3).bind fun q34 =>
      some (1, x1, x2, x3, 0, p.2.2.2.2.2.1, q34)
set_option maxRecDepth 100000 in
set_option maxHeartbeats 1000000 in
theorem t_py_begin {X : CTX} {K : Option Value → AH → Prop} (C : CX X cX5_begin yX5_begin.cls (decide (yX5_begin.name = "<init>")) 1 23) (hq : RQ X none K) (p : PyS) (x1 : Int32) (x2 : Int32) (x3 : Int32) (out : PyS) (hm : py_begin p x1 x2 x3 = some out) (hp : K none (hPy 0 out)) : MW X (0, [some (.ref 0), some (.int x1), some (.int x2), some (.int x3)], [], (hPy 0 p), 0, 0) := by
  unfold py_begin at hm
  refine MW_run C okX5_begin 0 18 (gs := [isZ 1]) (cf' := (30, [some (.ref 0), some (.int x1), some (.int x2), some (.int x3)], [.int x3, .ref 2], (hPy 0 (1, x1, x2, x3, 0, p.2.2.2.2.2.1, p.2.2.2.2.2.2)), 0, 0)) rfl (show isZ 1 by decide) ?_
  obtain ⟨q30, hc30, hm⟩ := of_bind hm
  refine MW_callS0 C okX5_begin 18 rfl (v0 := some (.int q30)) (c_rw_upTo x3 q30 hc30) lkX5_39 1 dpX6_upTo (by decide) (rest := [.ref 2]) rfl rfl rfl rfl rfl ?_
  refine MW_run C okX5_begin 19 1 (gs := []) (cf' := (34, [some (.ref 0), some (.int x1), some (.int x2), some (.int x3)], [.int x3, .int q30, .ref 2], (hPy 0 (1, x1, x2, x3, 0, p.2.2.2.2.2.1, p.2.2.2.2.2.2)), 0, 0)) rfl trivial ?_
  obtain ⟨q34, hc34, hm⟩ := of_bind hm
  refine MW_callV1 C okX5_begin 20 rfl [2, 3, 4] (v0 := none) (h0 := (hPl 0 q34)) (c_pl_begin p.2.2.2.2.2.2 q30 x3 q34 hc34) lkX5_45 2 dpX4_begin (by decide) (rest := []) rfl rfl rfl rfl rfl rfl rfl rfl rfl rfl rfl (st2 := []) (h2 := (hPy 0 (1, x1, x2, x3, 0, p.2.2.2.2.2.1, q34))) rfl rfl ?_
  obtain rfl := Option.some.inj hm
  exact MW_vret C okX5_begin hq 21 rfl hp
theorem c_py_begin (p : PyS) (x1 : Int32) (x2 : Int32) (x3 : Int32) (out : PyS) (hm : py_begin p x1 x2 x3 = some out) : CT yX5_begin cX5_begin 4 none 1 23 0 0 [.ref 0, .int x1, .int x2, .int x3] (hPy 0 p) (fun v h => v = none ∧ h = (hPy 0 out)) :=
  CT_of (by decide +kernel) (vs0 := [some (.ref 0), some (.int x1), some (.int x2), some (.int x3)]) rfl rfl (fun X C hq => t_py_begin C hq p x1 x2 x3 out hm ⟨rfl, rfl⟩)
/-! C: py_copyFrom -/
def py_copyFrom (p : PyS) (f : PyS) : Option (PyS) :=
  if isZ f.1 then
    (pl_copyFrom p.2.2.2.2.2.2 f.2.2.2.2.2.2).bind fun q59 =>
      some (f.1, f.2.1, f.2.2.1, f.2.2.2.1, f.2.2.2.2.1, (cpy 20 f.2.2.2.2.2.1 p.2.2.2.2.2.1), q59)
  else none
set_option maxRecDepth 100000 in
set_option maxHeartbeats 1000000 in
theorem t_py_copyFrom {X : CTX} {K : Option Value → AH → Prop} (C : CX X cX5_copyFrom yX5_copyFrom.cls (decide (yX5_copyFrom.name = "<init>")) 3 68) (hq : RQ X none K) (p : PyS) (f : PyS) (out : PyS) (hm : py_copyFrom p f = some out) (hp : K none (hPy 0 out ++ (hPy 5 f))) : MW X (0, [some (.ref 0), some (.ref 5)], [], (hPy 0 p ++ (hPy 5 f)), 0, 0) := by
  unfold py_copyFrom at hm
  obtain ⟨hg48, hm⟩ := of_guard hm
  refine MW_run C okX5_copyFrom 0 24 (gs := [isZ f.1]) (cf' := (48, [some (.ref 0), some (.ref 5)], [.ref 1, .ref 6], (hPy 0 (f.1, f.2.1, f.2.2.1, f.2.2.2.1, f.2.2.2.2.1, p.2.2.2.2.2.1, p.2.2.2.2.2.2) ++ (hPy 5 f)), 0, 0)) rfl hg48 ?_
  refine MW_callSN1 C okX5_copyFrom 24 rfl [6, 1] (v0 := none) (h0 := [.inl (0, 20, .inl f.2.2.2.2.2.1), .inl (0, 20, .inl (cpy 20 f.2.2.2.2.2.1 p.2.2.2.2.2.1))]) (c_copyInts 20 (by decide) f.2.2.2.2.2.1 p.2.2.2.2.2.1) lkX5_49 2 dpX11_copyInts (by decide) (rest := []) rfl nkX5_49 rfl rfl rfl rfl rfl rfl (st2 := []) (h2 := (hPy 0 (f.1, f.2.1, f.2.2.1, f.2.2.2.1, f.2.2.2.2.1, (cpy 20 f.2.2.2.2.2.1 p.2.2.2.2.2.1), p.2.2.2.2.2.2) ++ (hPy 5 f))) rfl rfl ?_
  refine MW_run C okX5_copyFrom 25 4 (gs := []) (cf' := (59, [some (.ref 0), some (.ref 5)], [.ref 7, .ref 2], (hPy 0 (f.1, f.2.1, f.2.2.1, f.2.2.2.1, f.2.2.2.2.1, (cpy 20 f.2.2.2.2.2.1 p.2.2.2.2.2.1), p.2.2.2.2.2.2) ++ (hPy 5 f)), 0, 0)) rfl trivial ?_
  obtain ⟨q59, hc59, hm⟩ := of_bind hm
  refine MW_callV1 C okX5_copyFrom 29 rfl [2, 3, 4, 7, 8, 9] (v0 := none) (h0 := (hPl 0 q59 ++ (hPl 3 f.2.2.2.2.2.2))) (c_pl_copyFrom p.2.2.2.2.2.2 f.2.2.2.2.2.2 q59 hc59) lkX5_53 1 dpX4_copyFrom (by decide) (rest := []) rfl rfl rfl rfl rfl rfl rfl rfl rfl rfl rfl (st2 := []) (h2 := (hPy 0 (f.1, f.2.1, f.2.2.1, f.2.2.2.1, f.2.2.2.2.1, (cpy 20 f.2.2.2.2.2.1 p.2.2.2.2.2.1), q59) ++ (hPy 5 f))) rfl rfl ?_
  obtain rfl := Option.some.inj hm
  exact MW_vret C okX5_copyFrom hq 30 rfl hp
theorem c_py_copyFrom (p : PyS) (f : PyS) (out : PyS) (hm : py_copyFrom p f = some out) : CT yX5_copyFrom cX5_copyFrom 2 none 3 68 0 0 [.ref 0, .ref 5] (hPy 0 p ++ (hPy 5 f)) (fun v h => v = none ∧ h = (hPy 0 out ++ (hPy 5 f))) :=
  CT_of (by decide +kernel) (vs0 := [some (.ref 0), some (.ref 5)]) rfl rfl (fun X C hq => t_py_copyFrom C hq p f out hm ⟨rfl, rfl⟩)
/-! C: py_add -/
def py_add (p : PyS) (x1 : Int32) : Option (Int32 × PyS) :=
  if p.2.2.2.2.1 < 0 then
    some (0, p)
  else
    if p.2.2.2.2.1 < 20 then
      if inb p.2.2.2.2.1 20 then
        (pl_shift p.2.2.2.2.2.2 x1).bind fun q43 =>
          some (1, (p.1, p.2.1, p.2.2.1, p.2.2.2.1, (p.2.2.2.2.1 + 1), (wr p.2.2.2.2.2.1 p.2.2.2.2.1 x1), q43))
      else none
    else
      some (0, p)
set_option maxRecDepth 100000 in
set_option maxHeartbeats 1000000 in
theorem t_py_add {X : CTX} {K : Option Value → AH → Prop} (C : CX X cX5_add yX5_add.cls (decide (yX5_add.name = "<init>")) 2 45) (hq : RQ X (some .boolean) K) (p : PyS) (x1 : Int32) (out : Int32 × PyS) (hm : py_add p x1 = some out) (hp : K (some (.int out.1)) (hPy 0 out.2)) : MW X (0, [some (.ref 0), some (.int x1)], [], (hPy 0 p), 0, 0) := by
  unfold py_add at hm
  refine MW_run C okX5_add 0 2 (gs := []) (cf' := (4, [some (.ref 0), some (.int x1)], [.int p.2.2.2.2.1], (hPy 0 p), 0, 0)) rfl trivial ?_
  obtain ⟨hmt4, hmf4⟩ := of_if hm
  refine MW_brT C okX5_add 2 rfl rfl (fun hb4 => ?_) (fun hb4 => ?_)
  · have hm := hmt4 hb4
    refine MW_run C okX5_add 7 1 (gs := []) (cf' := (17, [some (.ref 0), some (.int x1)], [.int 0], (hPy 0 p), 0, 0)) rfl trivial ?_
    obtain rfl := Option.some.inj hm
    exact MW_zret C okX5_add hq 8 rfl (by decide) hp
  · have hm := hmf4 hb4
    refine MW_run C okX5_add 3 3 (gs := []) (cf' := (13, [some (.ref 0), some (.int x1)], [.int 20, .int p.2.2.2.2.1], (hPy 0 p), 0, 0)) rfl trivial ?_
    obtain ⟨hmt13, hmf13⟩ := of_if hm
    refine MW_brT C okX5_add 6 rfl rfl (fun hb13 => ?_) (fun hb13 => ?_)
    · have hm := hmt13 hb13
      obtain ⟨hg43, hm⟩ := of_guard hm
      refine MW_run C okX5_add 9 15 (gs := [inb p.2.2.2.2.1 20]) (cf' := (43, [some (.ref 0), some (.int x1)], [.int x1, .ref 2], (hPy 0 (p.1, p.2.1, p.2.2.1, p.2.2.2.1, (p.2.2.2.2.1 + 1), (wr p.2.2.2.2.2.1 p.2.2.2.2.1 x1), p.2.2.2.2.2.2)), 0, 0)) rfl hg43 ?_
      obtain ⟨q43, hc43, hm⟩ := of_bind hm
      refine MW_callV1 C okX5_add 24 rfl [2, 3, 4] (v0 := none) (h0 := (hPl 0 q43)) (c_pl_shift p.2.2.2.2.2.2 x1 q43 hc43) lkX5_57 1 dpX4_shift (by decide) (rest := []) rfl rfl rfl rfl rfl rfl rfl rfl rfl rfl rfl (st2 := []) (h2 := (hPy 0 (p.1, p.2.1, p.2.2.1, p.2.2.2.1, (p.2.2.2.2.1 + 1), (wr p.2.2.2.2.2.1 p.2.2.2.2.1 x1), q43))) rfl rfl ?_
      refine MW_run C okX5_add 25 1 (gs := []) (cf' := (47, [some (.ref 0), some (.int x1)], [.int 1], (hPy 0 (p.1, p.2.1, p.2.2.1, p.2.2.2.1, (p.2.2.2.2.1 + 1), (wr p.2.2.2.2.2.1 p.2.2.2.2.1 x1), q43)), 0, 0)) rfl trivial ?_
      obtain rfl := Option.some.inj hm
      exact MW_zret C okX5_add hq 26 rfl (by decide) hp
    · have hm := hmf13 hb13
      refine MW_run C okX5_add 7 1 (gs := []) (cf' := (17, [some (.ref 0), some (.int x1)], [.int 0], (hPy 0 p), 0, 0)) rfl trivial ?_
      obtain rfl := Option.some.inj hm
      exact MW_zret C okX5_add hq 8 rfl (by decide) hp
theorem c_py_add (p : PyS) (x1 : Int32) (out : Int32 × PyS) (hm : py_add p x1 = some out) : CT yX5_add cX5_add 2 (some .boolean) 2 45 0 0 [.ref 0, .int x1] (hPy 0 p) (fun v h => v = (some (.int out.1)) ∧ h = (hPy 0 out.2)) :=
  CT_of (by decide +kernel) (vs0 := [some (.ref 0), some (.int x1)]) rfl rfl (fun X C hq => t_py_add C hq p x1 out hm ⟨rfl, rfl⟩)
/-! C: py_takeBack -/
def py_takeBack (p : PyS) : Option (Int32 × PyS) :=
  if p.2.2.2.2.1 < 1 then
    some (0, p)
  else
    if (20 : Int32) < p.2.2.2.2.1 then
      some (0, p)
    else
      if inb (p.2.2.2.2.1 - 1) 20 then
        (pl_unshift p.2.2.2.2.2.2 (rd p.2.2.2.2.2.1 (p.2.2.2.2.1 - 1))).bind fun q42 =>
          some (1, (p.1, p.2.1, p.2.2.1, p.2.2.2.1, (p.2.2.2.2.1 - 1), p.2.2.2.2.2.1, q42))
      else none
set_option maxRecDepth 100000 in
set_option maxHeartbeats 1000000 in
theorem t_py_takeBack {X : CTX} {K : Option Value → AH → Prop} (C : CX X cX5_takeBack yX5_takeBack.cls (decide (yX5_takeBack.name = "<init>")) 2 45) (hq : RQ X (some .boolean) K) (p : PyS) (out : Int32 × PyS) (hm : py_takeBack p = some out) (hp : K (some (.int out.1)) (hPy 0 out.2)) : MW X (0, [some (.ref 0)], [], (hPy 0 p), 0, 0) := by
  unfold py_takeBack at hm
  refine MW_run C okX5_takeBack 0 3 (gs := []) (cf' := (5, [some (.ref 0)], [.int 1, .int p.2.2.2.2.1], (hPy 0 p), 0, 0)) rfl trivial ?_
  obtain ⟨hmt5, hmf5⟩ := of_if hm
  refine MW_brT C okX5_takeBack 3 rfl rfl (fun hb5 => ?_) (fun hb5 => ?_)
  · have hm := hmt5 hb5
    refine MW_run C okX5_takeBack 8 1 (gs := []) (cf' := (18, [some (.ref 0)], [.int 0], (hPy 0 p), 0, 0)) rfl trivial ?_
    obtain rfl := Option.some.inj hm
    exact MW_zret C okX5_takeBack hq 9 rfl (by decide) hp
  · have hm := hmf5 hb5
    refine MW_run C okX5_takeBack 4 3 (gs := []) (cf' := (14, [some (.ref 0)], [.int 20, .int p.2.2.2.2.1], (hPy 0 p), 0, 0)) rfl trivial ?_
    obtain ⟨hmt14, hmf14⟩ := of_if hm
    refine MW_brF C okX5_takeBack 7 rfl rfl (fun hb14 => ?_) (fun hb14 => ?_)
    · have hm := hmt14 hb14
      refine MW_run C okX5_takeBack 8 1 (gs := []) (cf' := (18, [some (.ref 0)], [.int 0], (hPy 0 p), 0, 0)) rfl trivial ?_
      obtain rfl := Option.some.inj hm
      exact MW_zret C okX5_takeBack hq 9 rfl (by decide) hp
    · have hm := hmf14 hb14
      obtain ⟨hg42, hm⟩ := of_guard hm
      refine MW_run C okX5_takeBack 10 13 (gs := [inb (p.2.2.2.2.1 - 1) 20]) (cf' := (42, [some (.ref 0)], [.int (rd p.2.2.2.2.2.1 (p.2.2.2.2.1 - 1)), .ref 2], (hPy 0 (p.1, p.2.1, p.2.2.1, p.2.2.2.1, (p.2.2.2.2.1 - 1), p.2.2.2.2.2.1, p.2.2.2.2.2.2)), 0, 0)) rfl hg42 ?_
      obtain ⟨q42, hc42, hm⟩ := of_bind hm
      refine MW_callV1 C okX5_takeBack 23 rfl [2, 3, 4] (v0 := none) (h0 := (hPl 0 q42)) (c_pl_unshift p.2.2.2.2.2.2 (rd p.2.2.2.2.2.1 (p.2.2.2.2.1 - 1)) q42 hc42) lkX5_61 1 dpX4_unshift (by decide) (rest := []) rfl rfl rfl rfl rfl rfl rfl rfl rfl rfl rfl (st2 := []) (h2 := (hPy 0 (p.1, p.2.1, p.2.2.1, p.2.2.2.1, (p.2.2.2.2.1 - 1), p.2.2.2.2.2.1, q42))) rfl rfl ?_
      refine MW_run C okX5_takeBack 24 1 (gs := []) (cf' := (46, [some (.ref 0)], [.int 1], (hPy 0 (p.1, p.2.1, p.2.2.1, p.2.2.2.1, (p.2.2.2.2.1 - 1), p.2.2.2.2.2.1, q42)), 0, 0)) rfl trivial ?_
      obtain rfl := Option.some.inj hm
      exact MW_zret C okX5_takeBack hq 25 rfl (by decide) hp
theorem c_py_takeBack (p : PyS) (out : Int32 × PyS) (hm : py_takeBack p = some out) : CT yX5_takeBack cX5_takeBack 1 (some .boolean) 2 45 0 0 [.ref 0] (hPy 0 p) (fun v h => v = (some (.int out.1)) ∧ h = (hPy 0 out.2)) :=
  CT_of (by decide +kernel) (vs0 := [some (.ref 0)]) rfl rfl (fun X C hq => t_py_takeBack C hq p out hm ⟨rfl, rfl⟩)
/-! C: rw_wagons -/
def rw_wagons_L6 : Nat → Int32 → Int32 → Int32 → Option (Int32 × Int32 × Int32)
  | 0, _, _, _ => none
  | n + 1, x1, x2, x3 =>
    if (0 : Int32) < x1 then
      if x3 < 5 then
        rw_wagons_L6 n (x1 / 10) (x2 ||| ((1 : Int32) <<< ((irm x1 10) &&& 31))) (x3 + 1)
      else
        some (x1, x2, x3)
    else
      some (x1, x2, x3)
set_option maxRecDepth 100000 in
set_option maxHeartbeats 1000000 in
theorem l_rw_wagons_6 {X : CTX} {K : Option Value → AH → Prop} (C : CX X cX6_wagons yX6_wagons.cls (decide (yX6_wagons.name = "<init>")) 1 20) (hq : RQ X (some .int) K) : ∀ (n : Nat) (x1 : Int32) (x2 : Int32) (x3 : Int32) (out : Int32 × Int32 × Int32) (hm : rw_wagons_L6 n x1 x2 x3 = some out) (hp : MW X (35, [none, some (.int out.1), some (.int out.2.1), some (.int out.2.2)], [], [], 0, 0)), MW X (6, [none, some (.int x1), some (.int x2), some (.int x3)], [], [], 0, 0) := by
  intro n
  induction n with
  | zero => intro x1 x2 x3 out hm hp; rw [rw_wagons_L6] at hm; cases hm
  | succ n ih =>
    intro x1 x2 x3 out hm hp
    rw [rw_wagons_L6] at hm
    refine MW_run C okX6_wagons 6 1 (gs := []) (cf' := (7, [none, some (.int x1), some (.int x2), some (.int x3)], [.int x1], [], 0, 0)) rfl trivial ?_
    obtain ⟨hmt7, hmf7⟩ := of_if hm
    refine MW_brF C okX6_wagons 7 rfl rfl (fun hb7 => ?_) (fun hb7 => ?_)
    · have hm := hmt7 hb7
      refine MW_run C okX6_wagons 8 2 (gs := []) (cf' := (12, [none, some (.int x1), some (.int x2), some (.int x3)], [.int 5, .int x3], [], 0, 0)) rfl trivial ?_
      obtain ⟨hmt12, hmf12⟩ := of_if hm
      refine MW_brF C okX6_wagons 10 rfl rfl (fun hb12 => ?_) (fun hb12 => ?_)
      · have hm := hmt12 hb12
        refine MW_run C okX6_wagons 11 14 (gs := [¬ (10 : Int32) = 0, ¬ (10 : Int32) = 0]) (cf' := (6, [none, some (.int (x1 / 10)), some (.int (x2 ||| ((1 : Int32) <<< ((irm x1 10) &&& 31)))), some (.int (x3 + 1))], [], [], 0, 0)) rfl ⟨(show ¬ (10 : Int32) = 0 by decide), (show ¬ (10 : Int32) = 0 by decide)⟩ ?_
        exact ih (x1 / 10) (x2 ||| ((1 : Int32) <<< ((irm x1 10) &&& 31))) (x3 + 1) _ hm hp
      · have hm := hmf12 hb12
        obtain rfl := Option.some.inj hm
        exact hp
    · have hm := hmf7 hb7
      obtain rfl := Option.some.inj hm
      exact hp
def rw_wagons_J35 (x1 : Int32) (x2 : Int32) (x3 : Int32) : Option (Int32) :=
  if x1 = 0 then
    if (0 : Int32) < x3 then
      (rw_setUpTo x3).bind fun q45 =>
        if x2 = q45 then
          some x3
        else
          some 0
    else
      some 0
  else
    some 0
set_option maxRecDepth 100000 in
set_option maxHeartbeats 1000000 in
theorem j_rw_wagons_35 {X : CTX} {K : Option Value → AH → Prop} (C : CX X cX6_wagons yX6_wagons.cls (decide (yX6_wagons.name = "<init>")) 1 20) (hq : RQ X (some .int) K) (x1 : Int32) (x2 : Int32) (x3 : Int32) (out : Int32) (hm : rw_wagons_J35 x1 x2 x3 = some out) (hp : K (some (.int out)) []) : MW X (35, [none, some (.int x1), some (.int x2), some (.int x3)], [], [], 0, 0) := by
  unfold rw_wagons_J35 at hm
  refine MW_run C okX6_wagons 25 1 (gs := []) (cf' := (36, [none, some (.int x1), some (.int x2), some (.int x3)], [.int x1], [], 0, 0)) rfl trivial ?_
  obtain ⟨hmt36, hmf36⟩ := of_if hm
  refine MW_brF C okX6_wagons 26 rfl rfl (fun hb36 => ?_) (fun hb36 => ?_)
  · have hm := hmt36 hb36
    refine MW_run C okX6_wagons 27 1 (gs := []) (cf' := (40, [none, some (.int x1), some (.int x2), some (.int x3)], [.int x3], [], 0, 0)) rfl trivial ?_
    obtain ⟨hmt40, hmf40⟩ := of_if hm
    refine MW_brF C okX6_wagons 28 rfl rfl (fun hb40 => ?_) (fun hb40 => ?_)
    · have hm := hmt40 hb40
      refine MW_run C okX6_wagons 29 2 (gs := []) (cf' := (45, [none, some (.int x1), some (.int x2), some (.int x3)], [.int x3, .int x2], [], 0, 0)) rfl trivial ?_
      obtain ⟨q45, hc45, hm⟩ := of_bind hm
      refine MW_callS0 C okX6_wagons 31 rfl (v0 := some (.int q45)) (c_rw_setUpTo x3 q45 hc45) lkX6_9 1 dpX6_setUpTo (by decide) (rest := [.int x2]) rfl rfl rfl rfl rfl ?_
      obtain ⟨hmt48, hmf48⟩ := of_if hm
      refine MW_brF C okX6_wagons 32 rfl rfl (fun hb48 => ?_) (fun hb48 => ?_)
      · have hm := hmt48 hb48
        refine MW_run C okX6_wagons 33 2 (gs := []) (cf' := (56, [none, some (.int x1), some (.int x2), some (.int x3)], [.int x3], [], 0, 0)) rfl trivial ?_
        obtain rfl := Option.some.inj hm
        exact MW_iret C okX6_wagons hq 36 rfl hp
      · have hm := hmf48 hb48
        refine MW_run C okX6_wagons 35 1 (gs := []) (cf' := (56, [none, some (.int x1), some (.int x2), some (.int x3)], [.int 0], [], 0, 0)) rfl trivial ?_
        obtain rfl := Option.some.inj hm
        exact MW_iret C okX6_wagons hq 36 rfl hp
    · have hm := hmf40 hb40
      refine MW_run C okX6_wagons 35 1 (gs := []) (cf' := (56, [none, some (.int x1), some (.int x2), some (.int x3)], [.int 0], [], 0, 0)) rfl trivial ?_
      obtain rfl := Option.some.inj hm
      exact MW_iret C okX6_wagons hq 36 rfl hp
  · have hm := hmf36 hb36
    refine MW_run C okX6_wagons 35 1 (gs := []) (cf' := (56, [none, some (.int x1), some (.int x2), some (.int x3)], [.int 0], [], 0, 0)) rfl trivial ?_
    obtain rfl := Option.some.inj hm
    exact MW_iret C okX6_wagons hq 36 rfl hp
def rw_wagons (x0 : Int32) : Option (Int32) :=
  (rw_wagons_L6 N0 x0 0 0).bind fun q6 =>
    rw_wagons_J35 q6.1 q6.2.1 q6.2.2
set_option maxRecDepth 100000 in
set_option maxHeartbeats 1000000 in
theorem t_rw_wagons {X : CTX} {K : Option Value → AH → Prop} (C : CX X cX6_wagons yX6_wagons.cls (decide (yX6_wagons.name = "<init>")) 1 20) (hq : RQ X (some .int) K) (x0 : Int32) (out : Int32) (hm : rw_wagons x0 = some out) (hp : K (some (.int out)) []) : MW X (0, [some (.int x0), none, none, none], [], [], 0, 0) := by
  unfold rw_wagons at hm
  refine MW_run C okX6_wagons 0 6 (gs := []) (cf' := (6, [some (.int x0), some (.int x0), some (.int 0), some (.int 0)], [], [], 0, 0)) rfl trivial ?_
  obtain ⟨q6, hc6, hm⟩ := of_bind hm
  refine MW_pick [false, true, true, true] rfl (vs' := [none, some (.int x0), some (.int 0), some (.int 0)]) rfl ?_
  refine l_rw_wagons_6 C hq N0 x0 0 0 q6 hc6 ?_
  exact j_rw_wagons_35 C hq q6.1 q6.2.1 q6.2.2 _ hm hp
theorem c_rw_wagons (x0 : Int32) (out : Int32) (hm : rw_wagons x0 = some out) : CT yX6_wagons cX6_wagons 4 (some .int) 1 20 0 0 [.int x0] [] (fun v h => v = (some (.int out)) ∧ h = []) :=
  CT_of (by decide +kernel) (vs0 := [some (.int x0), none, none, none]) rfl rfl (fun X C hq => t_rw_wagons C hq x0 out hm ⟨rfl, rfl⟩)
/-! C: rw_pick -/
def rw_pick_L4 : Nat → Int32 → Int32 → Int32 → Int32 → Option ((Unit) ⊕ (Int32))
  | 0, _, _, _, _ => none
  | n + 1, x0, x1, x2, x3 =>
    if (5 : Int32) < x3 then
      some (.inl ())
    else
      if ((x0 >>> (x3 &&& 31)) &&& 1) = 1 then
        if x2 = x1 then
          some (.inr x3)
        else
          rw_pick_L4 n x0 x1 (x2 + 1) (x3 + 1)
      else
        rw_pick_L4 n x0 x1 x2 (x3 + 1)
set_option maxRecDepth 100000 in
set_option maxHeartbeats 1000000 in
theorem l_rw_pick_4 {X : CTX} {K : Option Value → AH → Prop} (C : CX X cX6_pick yX6_pick.cls (decide (yX6_pick.name = "<init>")) 0 0) (hq : RQ X (some .int) K) : ∀ (n : Nat) (x0 : Int32) (x1 : Int32) (x2 : Int32) (x3 : Int32) (out : (Unit) ⊕ (Int32)) (hm : rw_pick_L4 n x0 x1 x2 x3 = some out) (hp : Sum.elim (fun e => MW X (34, [none, none, none, none], [], [], 0, 0)) (fun r => K (some (.int r)) []) out), MW X (4, [some (.int x0), some (.int x1), some (.int x2), some (.int x3)], [], [], 0, 0) := by
  intro n
  induction n with
  | zero => intro x0 x1 x2 x3 out hm hp; rw [rw_pick_L4] at hm; cases hm
  | succ n ih =>
    intro x0 x1 x2 x3 out hm hp
    rw [rw_pick_L4] at hm
    refine MW_run C okX6_pick 4 2 (gs := []) (cf' := (6, [some (.int x0), some (.int x1), some (.int x2), some (.int x3)], [.int 5, .int x3], [], 0, 0)) rfl trivial ?_
    obtain ⟨hmt6, hmf6⟩ := of_if hm
    refine MW_brT C okX6_pick 6 rfl rfl (fun hb6 => ?_) (fun hb6 => ?_)
    · have hm := hmt6 hb6
      obtain rfl := Option.some.inj hm
      refine MW_pick [false, false, false, false] rfl (vs' := [none, none, none, none]) rfl ?_
      exact hp
    · have hm := hmf6 hb6
      refine MW_run C okX6_pick 7 6 (gs := []) (cf' := (15, [some (.int x0), some (.int x1), some (.int x2), some (.int x3)], [.int 1, .int ((x0 >>> (x3 &&& 31)) &&& 1)], [], 0, 0)) rfl trivial ?_
      obtain ⟨hmt15, hmf15⟩ := of_if hm
      refine MW_brF C okX6_pick 13 rfl rfl (fun hb15 => ?_) (fun hb15 => ?_)
      · have hm := hmt15 hb15
        refine MW_run C okX6_pick 14 2 (gs := []) (cf' := (20, [some (.int x0), some (.int x1), some (.int x2), some (.int x3)], [.int x1, .int x2], [], 0, 0)) rfl trivial ?_
        obtain ⟨hmt20, hmf20⟩ := of_if hm
        refine MW_brF C okX6_pick 16 rfl rfl (fun hb20 => ?_) (fun hb20 => ?_)
        · have hm := hmt20 hb20
          refine MW_run C okX6_pick 17 1 (gs := []) (cf' := (24, [some (.int x0), some (.int x1), some (.int x2), some (.int x3)], [.int x3], [], 0, 0)) rfl trivial ?_
          obtain rfl := Option.some.inj hm
          exact MW_iret C okX6_pick hq 18 rfl hp
        · have hm := hmf20 hb20
          refine MW_run C okX6_pick 19 1 (gs := []) (cf' := (28, [some (.int x0), some (.int x1), some (.int (x2 + 1)), some (.int x3)], [], [], 0, 0)) rfl trivial ?_
          refine MW_run C okX6_pick 20 2 (gs := []) (cf' := (4, [some (.int x0), some (.int x1), some (.int (x2 + 1)), some (.int (x3 + 1))], [], [], 0, 0)) rfl trivial ?_
          exact ih x0 x1 (x2 + 1) (x3 + 1) _ hm hp
      · have hm := hmf15 hb15
        refine MW_run C okX6_pick 20 2 (gs := []) (cf' := (4, [some (.int x0), some (.int x1), some (.int x2), some (.int (x3 + 1))], [], [], 0, 0)) rfl trivial ?_
        exact ih x0 x1 x2 (x3 + 1) _ hm hp
def rw_pick (x0 : Int32) (x1 : Int32) : Option (Int32) :=
  (rw_pick_L4 N0 x0 x1 0 1).bind fun q4 =>
    match q4 with
    | .inr r4 => some r4
    | .inl e4 =>
      some 0
set_option maxRecDepth 100000 in
set_option maxHeartbeats 1000000 in
theorem t_rw_pick {X : CTX} {K : Option Value → AH → Prop} (C : CX X cX6_pick yX6_pick.cls (decide (yX6_pick.name = "<init>")) 0 0) (hq : RQ X (some .int) K) (x0 : Int32) (x1 : Int32) (out : Int32) (hm : rw_pick x0 x1 = some out) (hp : K (some (.int out)) []) : MW X (0, [some (.int x0), some (.int x1), none, none], [], [], 0, 0) := by
  unfold rw_pick at hm
  refine MW_run C okX6_pick 0 4 (gs := []) (cf' := (4, [some (.int x0), some (.int x1), some (.int 0), some (.int 1)], [], [], 0, 0)) rfl trivial ?_
  obtain ⟨q4, hc4, hm⟩ := of_bind hm
  refine l_rw_pick_4 C hq N0 x0 x1 0 1 q4 hc4 ?_
  cases q4 with
  | inr r4 =>
    obtain rfl := Option.some.inj hm
    exact hp
  | inl e4 =>
    show MW X (34, [none, none, none, none], [], [], 0, 0)
    refine MW_run C okX6_pick 22 1 (gs := []) (cf' := (35, [none, none, none, none], [.int 0], [], 0, 0)) rfl trivial ?_
    obtain rfl := Option.some.inj hm
    exact MW_iret C okX6_pick hq 23 rfl hp
theorem c_rw_pick (x0 : Int32) (x1 : Int32) (out : Int32) (hm : rw_pick x0 x1 = some out) : CT yX6_pick cX6_pick 4 (some .int) 0 0 0 0 [.int x0, .int x1] [] (fun v h => v = (some (.int out)) ∧ h = []) :=
  CT_of (by decide +kernel) (vs0 := [some (.int x0), some (.int x1), none, none]) rfl rfl (fun X C hq => t_rw_pick C hq x0 x1 out hm ⟨rfl, rfl⟩)
/-! C: rw_ofNumber -/
def rw_ofNumber_L6 : Nat → Int32 → Int32 → Int32 → Option (Int32)
  | 0, _, _, _ => none
  | n + 1, x1, x2, x3 =>
    if x3 < 5 then
      if (0 : Int32) < x2 then
        rw_ofNumber_L6 n ((x1 <<< (3 &&& 31)) ||| (irm x2 10)) (x2 / 10) (x3 + 1)
      else
        some x1
    else
      some x1
set_option maxRecDepth 100000 in
set_option maxHeartbeats 1000000 in
theorem l_rw_ofNumber_6 {X : CTX} {K : Option Value → AH → Prop} (C : CX X cX6_ofNumber yX6_ofNumber.cls (decide (yX6_ofNumber.name = "<init>")) 0 0) (hq : RQ X (some .int) K) : ∀ (n : Nat) (x1 : Int32) (x2 : Int32) (x3 : Int32) (out : Int32) (hm : rw_ofNumber_L6 n x1 x2 x3 = some out) (hp : MW X (35, [none, some (.int out), none, none], [], [], 0, 0)), MW X (6, [none, some (.int x1), some (.int x2), some (.int x3)], [], [], 0, 0) := by
  intro n
  induction n with
  | zero => intro x1 x2 x3 out hm hp; rw [rw_ofNumber_L6] at hm; cases hm
  | succ n ih =>
    intro x1 x2 x3 out hm hp
    rw [rw_ofNumber_L6] at hm
    refine MW_run C okX6_ofNumber 6 2 (gs := []) (cf' := (8, [none, some (.int x1), some (.int x2), some (.int x3)], [.int 5, .int x3], [], 0, 0)) rfl trivial ?_
    obtain ⟨hmt8, hmf8⟩ := of_if hm
    refine MW_brF C okX6_ofNumber 8 rfl rfl (fun hb8 => ?_) (fun hb8 => ?_)
    · have hm := hmt8 hb8
      refine MW_run C okX6_ofNumber 9 1 (gs := []) (cf' := (12, [none, some (.int x1), some (.int x2), some (.int x3)], [.int x2], [], 0, 0)) rfl trivial ?_
      obtain ⟨hmt12, hmf12⟩ := of_if hm
      refine MW_brF C okX6_ofNumber 10 rfl rfl (fun hb12 => ?_) (fun hb12 => ?_)
      · have hm := hmt12 hb12
        refine MW_run C okX6_ofNumber 11 14 (gs := [¬ (10 : Int32) = 0, ¬ (10 : Int32) = 0]) (cf' := (6, [none, some (.int ((x1 <<< (3 &&& 31)) ||| (irm x2 10))), some (.int (x2 / 10)), some (.int (x3 + 1))], [], [], 0, 0)) rfl ⟨(show ¬ (10 : Int32) = 0 by decide), (show ¬ (10 : Int32) = 0 by decide)⟩ ?_
        exact ih ((x1 <<< (3 &&& 31)) ||| (irm x2 10)) (x2 / 10) (x3 + 1) _ hm hp
      · have hm := hmf12 hb12
        obtain rfl := Option.some.inj hm
        refine MW_pick [true, true, false, false] rfl (vs' := [none, some (.int x1), none, none]) rfl ?_
        exact hp
    · have hm := hmf8 hb8
      obtain rfl := Option.some.inj hm
      refine MW_pick [true, true, false, false] rfl (vs' := [none, some (.int x1), none, none]) rfl ?_
      exact hp
def rw_ofNumber (x0 : Int32) : Option (Int32) :=
  (rw_ofNumber_L6 N0 0 x0 0).bind fun q6 =>
    some q6
set_option maxRecDepth 100000 in
set_option maxHeartbeats 1000000 in
theorem t_rw_ofNumber {X : CTX} {K : Option Value → AH → Prop} (C : CX X cX6_ofNumber yX6_ofNumber.cls (decide (yX6_ofNumber.name = "<init>")) 0 0) (hq : RQ X (some .int) K) (x0 : Int32) (out : Int32) (hm : rw_ofNumber x0 = some out) (hp : K (some (.int out)) []) : MW X (0, [some (.int x0), none, none, none], [], [], 0, 0) := by
  unfold rw_ofNumber at hm
  refine MW_run C okX6_ofNumber 0 6 (gs := []) (cf' := (6, [some (.int x0), some (.int 0), some (.int x0), some (.int 0)], [], [], 0, 0)) rfl trivial ?_
  obtain ⟨q6, hc6, hm⟩ := of_bind hm
  refine MW_pick [false, true, true, true] rfl (vs' := [none, some (.int 0), some (.int x0), some (.int 0)]) rfl ?_
  refine l_rw_ofNumber_6 C hq N0 0 x0 0 q6 hc6 ?_
  refine MW_run C okX6_ofNumber 25 1 (gs := []) (cf' := (36, [none, some (.int q6), none, none], [.int q6], [], 0, 0)) rfl trivial ?_
  obtain rfl := Option.some.inj hm
  exact MW_iret C okX6_ofNumber hq 26 rfl hp
theorem c_rw_ofNumber (x0 : Int32) (out : Int32) (hm : rw_ofNumber x0 = some out) : CT yX6_ofNumber cX6_ofNumber 4 (some .int) 0 0 0 0 [.int x0] [] (fun v h => v = (some (.int out)) ∧ h = []) :=
  CT_of (by decide +kernel) (vs0 := [some (.int x0), none, none, none]) rfl rfl (fun X C hq => t_rw_ofNumber C hq x0 out hm ⟨rfl, rfl⟩)
/-! C: rw_toNumber -/
def rw_toNumber_L4 : Nat → Int32 → Int32 → Int32 → Option (Int32)
  | 0, _, _, _ => none
  | n + 1, x0, x1, x2 =>
    if x2 < 5 then
      (rw_wagonAt x0 x2).bind fun q11 =>
        if (0 : Int32) < q11 then
          (rw_wagonAt x0 x2).bind fun q23 =>
            rw_toNumber_L4 n x0 ((x1 * 10) + q23) (x2 + 1)
        else
          some x1
    else
      some x1
set_option maxRecDepth 100000 in
set_option maxHeartbeats 1000000 in
theorem l_rw_toNumber_4 {X : CTX} {K : Option Value → AH → Prop} (C : CX X cX6_toNumber yX6_toNumber.cls (decide (yX6_toNumber.name = "<init>")) 1 21) (hq : RQ X (some .int) K) : ∀ (n : Nat) (x0 : Int32) (x1 : Int32) (x2 : Int32) (out : Int32) (hm : rw_toNumber_L4 n x0 x1 x2 = some out) (hp : MW X (34, [none, some (.int out), none], [], [], 0, 0)), MW X (4, [some (.int x0), some (.int x1), some (.int x2)], [], [], 0, 0) := by
  intro n
  induction n with
  | zero => intro x0 x1 x2 out hm hp; rw [rw_toNumber_L4] at hm; cases hm
  | succ n ih =>
    intro x0 x1 x2 out hm hp
    rw [rw_toNumber_L4] at hm
    refine MW_run C okX6_toNumber 4 2 (gs := []) (cf' := (6, [some (.int x0), some (.int x1), some (.int x2)], [.int 5, .int x2], [], 0, 0)) rfl trivial ?_
    obtain ⟨hmt6, hmf6⟩ := of_if hm
    refine MW_brF C okX6_toNumber 6 rfl rfl (fun hb6 => ?_) (fun hb6 => ?_)
    · have hm := hmt6 hb6
      refine MW_run C okX6_toNumber 7 2 (gs := []) (cf' := (11, [some (.int x0), some (.int x1), some (.int x2)], [.int x2, .int x0], [], 0, 0)) rfl trivial ?_
      obtain ⟨q11, hc11, hm⟩ := of_bind hm
      refine MW_callS0 C okX6_toNumber 9 rfl (v0 := some (.int q11)) (c_rw_wagonAt x0 x2 q11 hc11) lkX6_15 2 dpX6_wagonAt (by decide) (rest := []) rfl rfl rfl rfl rfl ?_
      obtain ⟨hmt14, hmf14⟩ := of_if hm
      refine MW_brF C okX6_toNumber 10 rfl rfl (fun hb14 => ?_) (fun hb14 => ?_)
      · have hm := hmt14 hb14
        refine MW_run C okX6_toNumber 11 5 (gs := []) (cf' := (23, [some (.int x0), some (.int x1), some (.int x2)], [.int x2, .int x0, .int (x1 * 10)], [], 0, 0)) rfl trivial ?_
        obtain ⟨q23, hc23, hm⟩ := of_bind hm
        refine MW_callS0 C okX6_toNumber 16 rfl (v0 := some (.int q23)) (c_rw_wagonAt x0 x2 q23 hc23) lkX6_15 2 dpX6_wagonAt (by decide) (rest := [.int (x1 * 10)]) rfl rfl rfl rfl rfl ?_
        refine MW_run C okX6_toNumber 17 4 (gs := []) (cf' := (4, [some (.int x0), some (.int ((x1 * 10) + q23)), some (.int (x2 + 1))], [], [], 0, 0)) rfl trivial ?_
        exact ih x0 ((x1 * 10) + q23) (x2 + 1) _ hm hp
      · have hm := hmf14 hb14
        obtain rfl := Option.some.inj hm
        refine MW_pick [false, true, false] rfl (vs' := [none, some (.int x1), none]) rfl ?_
        exact hp
    · have hm := hmf6 hb6
      obtain rfl := Option.some.inj hm
      refine MW_pick [false, true, false] rfl (vs' := [none, some (.int x1), none]) rfl ?_
      exact hp
def rw_toNumber (x0 : Int32) : Option (Int32) :=
  (rw_toNumber_L4 N0 x0 0 0).bind fun q4 =>
    some q4
set_option maxRecDepth 100000 in
set_option maxHeartbeats 1000000 in
theorem t_rw_toNumber {X : CTX} {K : Option Value → AH → Prop} (C : CX X cX6_toNumber yX6_toNumber.cls (decide (yX6_toNumber.name = "<init>")) 1 21) (hq : RQ X (some .int) K) (x0 : Int32) (out : Int32) (hm : rw_toNumber x0 = some out) (hp : K (some (.int out)) []) : MW X (0, [some (.int x0), none, none], [], [], 0, 0) := by
  unfold rw_toNumber at hm
  refine MW_run C okX6_toNumber 0 4 (gs := []) (cf' := (4, [some (.int x0), some (.int 0), some (.int 0)], [], [], 0, 0)) rfl trivial ?_
  obtain ⟨q4, hc4, hm⟩ := of_bind hm
  refine l_rw_toNumber_4 C hq N0 x0 0 0 q4 hc4 ?_
  refine MW_run C okX6_toNumber 21 1 (gs := []) (cf' := (35, [none, some (.int q4), none], [.int q4], [], 0, 0)) rfl trivial ?_
  obtain rfl := Option.some.inj hm
  exact MW_iret C okX6_toNumber hq 22 rfl hp
theorem c_rw_toNumber (x0 : Int32) (out : Int32) (hm : rw_toNumber x0 = some out) : CT yX6_toNumber cX6_toNumber 3 (some .int) 1 21 0 0 [.int x0] [] (fun v h => v = (some (.int out)) ∧ h = []) :=
  CT_of (by decide +kernel) (vs0 := [some (.int x0), none, none]) rfl rfl (fun X C hq => t_rw_toNumber C hq x0 out hm ⟨rfl, rfl⟩)
/-! C: rw_placeOf -/
def rw_placeOf_L2 : Nat → Int32 → Int32 → Int32 → Option ((Unit) ⊕ (Int32))
  | 0, _, _, _ => none
  | n + 1, x0, x1, x2 =>
    if x2 < 5 then
      (rw_wagonAt x0 x2).bind fun q9 =>
        if q9 = x1 then
          some (.inr (x2 + 1))
        else
          rw_placeOf_L2 n x0 x1 (x2 + 1)
    else
      some (.inl ())
set_option maxRecDepth 100000 in
set_option maxHeartbeats 1000000 in
theorem l_rw_placeOf_2 {X : CTX} {K : Option Value → AH → Prop} (C : CX X cX6_placeOf yX6_placeOf.cls (decide (yX6_placeOf.name = "<init>")) 1 21) (hq : RQ X (some .int) K) : ∀ (n : Nat) (x0 : Int32) (x1 : Int32) (x2 : Int32) (out : (Unit) ⊕ (Int32)) (hm : rw_placeOf_L2 n x0 x1 x2 = some out) (hp : Sum.elim (fun e => MW X (26, [none, none, none], [], [], 0, 0)) (fun r => K (some (.int r)) []) out), MW X (2, [some (.int x0), some (.int x1), some (.int x2)], [], [], 0, 0) := by
  intro n
  induction n with
  | zero => intro x0 x1 x2 out hm hp; rw [rw_placeOf_L2] at hm; cases hm
  | succ n ih =>
    intro x0 x1 x2 out hm hp
    rw [rw_placeOf_L2] at hm
    refine MW_run C okX6_placeOf 2 2 (gs := []) (cf' := (4, [some (.int x0), some (.int x1), some (.int x2)], [.int 5, .int x2], [], 0, 0)) rfl trivial ?_
    obtain ⟨hmt4, hmf4⟩ := of_if hm
    refine MW_brF C okX6_placeOf 4 rfl rfl (fun hb4 => ?_) (fun hb4 => ?_)
    · have hm := hmt4 hb4
      refine MW_run C okX6_placeOf 5 2 (gs := []) (cf' := (9, [some (.int x0), some (.int x1), some (.int x2)], [.int x2, .int x0], [], 0, 0)) rfl trivial ?_
      obtain ⟨q9, hc9, hm⟩ := of_bind hm
      refine MW_callS0 C okX6_placeOf 7 rfl (v0 := some (.int q9)) (c_rw_wagonAt x0 x2 q9 hc9) lkX6_15 2 dpX6_wagonAt (by decide) (rest := []) rfl rfl rfl rfl rfl ?_
      refine MW_run C okX6_placeOf 8 1 (gs := []) (cf' := (13, [some (.int x0), some (.int x1), some (.int x2)], [.int x1, .int q9], [], 0, 0)) rfl trivial ?_
      obtain ⟨hmt13, hmf13⟩ := of_if hm
      refine MW_brF C okX6_placeOf 9 rfl rfl (fun hb13 => ?_) (fun hb13 => ?_)
      · have hm := hmt13 hb13
        refine MW_run C okX6_placeOf 10 3 (gs := []) (cf' := (19, [some (.int x0), some (.int x1), some (.int x2)], [.int (x2 + 1)], [], 0, 0)) rfl trivial ?_
        obtain rfl := Option.some.inj hm
        exact MW_iret C okX6_placeOf hq 13 rfl hp
      · have hm := hmf13 hb13
        refine MW_run C okX6_placeOf 14 2 (gs := []) (cf' := (2, [some (.int x0), some (.int x1), some (.int (x2 + 1))], [], [], 0, 0)) rfl trivial ?_
        exact ih x0 x1 (x2 + 1) _ hm hp
    · have hm := hmf4 hb4
      obtain rfl := Option.some.inj hm
      refine MW_pick [false, false, false] rfl (vs' := [none, none, none]) rfl ?_
      exact hp
def rw_placeOf (x0 : Int32) (x1 : Int32) : Option (Int32) :=
  (rw_placeOf_L2 N0 x0 x1 0).bind fun q2 =>
    match q2 with
    | .inr r2 => some r2
    | .inl e2 =>
      some 0
set_option maxRecDepth 100000 in
set_option maxHeartbeats 1000000 in
theorem t_rw_placeOf {X : CTX} {K : Option Value → AH → Prop} (C : CX X cX6_placeOf yX6_placeOf.cls (decide (yX6_placeOf.name = "<init>")) 1 21) (hq : RQ X (some .int) K) (x0 : Int32) (x1 : Int32) (out : Int32) (hm : rw_placeOf x0 x1 = some out) (hp : K (some (.int out)) []) : MW X (0, [some (.int x0), some (.int x1), none], [], [], 0, 0) := by
  unfold rw_placeOf at hm
  refine MW_run C okX6_placeOf 0 2 (gs := []) (cf' := (2, [some (.int x0), some (.int x1), some (.int 0)], [], [], 0, 0)) rfl trivial ?_
  obtain ⟨q2, hc2, hm⟩ := of_bind hm
  refine l_rw_placeOf_2 C hq N0 x0 x1 0 q2 hc2 ?_
  cases q2 with
  | inr r2 =>
    obtain rfl := Option.some.inj hm
    exact hp
  | inl e2 =>
    show MW X (26, [none, none, none], [], [], 0, 0)
    refine MW_run C okX6_placeOf 16 1 (gs := []) (cf' := (27, [none, none, none], [.int 0], [], 0, 0)) rfl trivial ?_
    obtain rfl := Option.some.inj hm
    exact MW_iret C okX6_placeOf hq 17 rfl hp
theorem c_rw_placeOf (x0 : Int32) (x1 : Int32) (out : Int32) (hm : rw_placeOf x0 x1 = some out) : CT yX6_placeOf cX6_placeOf 3 (some .int) 1 21 0 0 [.int x0, .int x1] [] (fun v h => v = (some (.int out)) ∧ h = []) :=
  CT_of (by decide +kernel) (vs0 := [some (.int x0), some (.int x1), none]) rfl rfl (fun X C hq => t_rw_placeOf C hq x0 x1 out hm ⟨rfl, rfl⟩)
/-! C: rw_relative -/
def rw_relative_L5 : Nat → Int32 → Int32 → Int32 → Int32 → Int32 → Option (Int32)
  | 0, _, _, _, _, _ => none
  | n + 1, x0, x1, x2, x3, x4 =>
    if x4 < x2 then
      if x4 < 5 then
        (rw_wagonAt x1 x4).bind fun q22 =>
          (rw_placeOf x0 q22).bind fun q25 =>
            rw_relative_L5 n x0 x1 x2 (x3 ||| (q25 <<< (((3 : Int32) * x4) &&& 31))) (x4 + 1)
      else
        some x3
    else
      some x3
set_option maxRecDepth 100000 in
set_option maxHeartbeats 1000000 in
theorem l_rw_relative_5 {X : CTX} {K : Option Value → AH → Prop} (C : CX X cX6_relative yX6_relative.cls (decide (yX6_relative.name = "<init>")) 2 43) (hq : RQ X (some .int) K) : ∀ (n : Nat) (x0 : Int32) (x1 : Int32) (x2 : Int32) (x3 : Int32) (x4 : Int32) (out : Int32) (hm : rw_relative_L5 n x0 x1 x2 x3 x4 = some out) (hp : MW X (41, [none, none, none, some (.int out), none], [], [], 0, 0)), MW X (5, [some (.int x0), some (.int x1), some (.int x2), some (.int x3), some (.int x4)], [], [], 0, 0) := by
  intro n
  induction n with
  | zero => intro x0 x1 x2 x3 x4 out hm hp; rw [rw_relative_L5] at hm; cases hm
  | succ n ih =>
    intro x0 x1 x2 x3 x4 out hm hp
    rw [rw_relative_L5] at hm
    refine MW_run C okX6_relative 4 2 (gs := []) (cf' := (8, [some (.int x0), some (.int x1), some (.int x2), some (.int x3), some (.int x4)], [.int x2, .int x4], [], 0, 0)) rfl trivial ?_
    obtain ⟨hmt8, hmf8⟩ := of_if hm
    refine MW_brF C okX6_relative 6 rfl rfl (fun hb8 => ?_) (fun hb8 => ?_)
    · have hm := hmt8 hb8
      refine MW_run C okX6_relative 7 2 (gs := []) (cf' := (14, [some (.int x0), some (.int x1), some (.int x2), some (.int x3), some (.int x4)], [.int 5, .int x4], [], 0, 0)) rfl trivial ?_
      obtain ⟨hmt14, hmf14⟩ := of_if hm
      refine MW_brF C okX6_relative 9 rfl rfl (fun hb14 => ?_) (fun hb14 => ?_)
      · have hm := hmt14 hb14
        refine MW_run C okX6_relative 10 4 (gs := []) (cf' := (22, [some (.int x0), some (.int x1), some (.int x2), some (.int x3), some (.int x4)], [.int x4, .int x1, .int x0, .int x3], [], 0, 0)) rfl trivial ?_
        obtain ⟨q22, hc22, hm⟩ := of_bind hm
        refine MW_callS0 C okX6_relative 14 rfl (v0 := some (.int q22)) (c_rw_wagonAt x1 x4 q22 hc22) lkX6_15 2 dpX6_wagonAt (by decide) (rest := [.int x0, .int x3]) rfl rfl rfl rfl rfl ?_
        obtain ⟨q25, hc25, hm⟩ := of_bind hm
        refine MW_callS0 C okX6_relative 15 rfl (v0 := some (.int q25)) (c_rw_placeOf x0 q22 q25 hc25) lkX6_19 2 dpX6_placeOf (by decide) (rest := [.int x3]) rfl rfl rfl rfl rfl ?_
        refine MW_run C okX6_relative 16 8 (gs := []) (cf' := (5, [some (.int x0), some (.int x1), some (.int x2), some (.int (x3 ||| (q25 <<< (((3 : Int32) * x4) &&& 31)))), some (.int (x4 + 1))], [], [], 0, 0)) rfl trivial ?_
        exact ih x0 x1 x2 (x3 ||| (q25 <<< (((3 : Int32) * x4) &&& 31))) (x4 + 1) _ hm hp
      · have hm := hmf14 hb14
        obtain rfl := Option.some.inj hm
        refine MW_pick [false, false, false, true, false] rfl (vs' := [none, none, none, some (.int x3), none]) rfl ?_
        exact hp
    · have hm := hmf8 hb8
      obtain rfl := Option.some.inj hm
      refine MW_pick [false, false, false, true, false] rfl (vs' := [none, none, none, some (.int x3), none]) rfl ?_
      exact hp
def rw_relative (x0 : Int32) (x1 : Int32) (x2 : Int32) : Option (Int32) :=
  (rw_relative_L5 N0 x0 x1 x2 0 0).bind fun q5 =>
    some q5
set_option maxRecDepth 100000 in
set_option maxHeartbeats 1000000 in
theorem t_rw_relative {X : CTX} {K : Option Value → AH → Prop} (C : CX X cX6_relative yX6_relative.cls (decide (yX6_relative.name = "<init>")) 2 43) (hq : RQ X (some .int) K) (x0 : Int32) (x1 : Int32) (x2 : Int32) (out : Int32) (hm : rw_relative x0 x1 x2 = some out) (hp : K (some (.int out)) []) : MW X (0, [some (.int x0), some (.int x1), some (.int x2), none, none], [], [], 0, 0) := by
  unfold rw_relative at hm
  refine MW_run C okX6_relative 0 4 (gs := []) (cf' := (5, [some (.int x0), some (.int x1), some (.int x2), some (.int 0), some (.int 0)], [], [], 0, 0)) rfl trivial ?_
  obtain ⟨q5, hc5, hm⟩ := of_bind hm
  refine l_rw_relative_5 C hq N0 x0 x1 x2 0 0 q5 hc5 ?_
  refine MW_run C okX6_relative 24 1 (gs := []) (cf' := (42, [none, none, none, some (.int q5), none], [.int q5], [], 0, 0)) rfl trivial ?_
  obtain rfl := Option.some.inj hm
  exact MW_iret C okX6_relative hq 25 rfl hp
theorem c_rw_relative (x0 : Int32) (x1 : Int32) (x2 : Int32) (out : Int32) (hm : rw_relative x0 x1 x2 = some out) : CT yX6_relative cX6_relative 5 (some .int) 2 43 0 0 [.int x0, .int x1, .int x2] [] (fun v h => v = (some (.int out)) ∧ h = []) :=
  CT_of (by decide +kernel) (vs0 := [some (.int x0), some (.int x1), some (.int x2), none, none]) rfl rfl (fun X C hq => t_rw_relative C hq x0 x1 x2 out hm ⟨rfl, rfl⟩)
/-! C: rw_named -/
def rw_named_L4 : Nat → Int32 → Int32 → Int32 → Int32 → Option (Int32)
  | 0, _, _, _, _ => none
  | n + 1, x0, x1, x2, x3 =>
    if x3 < 5 then
      (rw_wagonAt x0 x3).bind fun q11 =>
        if (0 : Int32) < q11 then
          (rw_wagonAt x0 x3).bind fun q21 =>
            (rw_wagonAt x1 (q21 - 1)).bind fun q26 =>
              rw_named_L4 n x0 x1 (x2 ||| (q26 <<< (((3 : Int32) * x3) &&& 31))) (x3 + 1)
        else
          some x2
    else
      some x2
set_option maxRecDepth 100000 in
set_option maxHeartbeats 1000000 in
theorem l_rw_named_4 {X : CTX} {K : Option Value → AH → Prop} (C : CX X cX6_named yX6_named.cls (decide (yX6_named.name = "<init>")) 1 21) (hq : RQ X (some .int) K) : ∀ (n : Nat) (x0 : Int32) (x1 : Int32) (x2 : Int32) (x3 : Int32) (out : Int32) (hm : rw_named_L4 n x0 x1 x2 x3 = some out) (hp : MW X (41, [none, none, some (.int out), none], [], [], 0, 0)), MW X (4, [some (.int x0), some (.int x1), some (.int x2), some (.int x3)], [], [], 0, 0) := by
  intro n
  induction n with
  | zero => intro x0 x1 x2 x3 out hm hp; rw [rw_named_L4] at hm; cases hm
  | succ n ih =>
    intro x0 x1 x2 x3 out hm hp
    rw [rw_named_L4] at hm
    refine MW_run C okX6_named 4 2 (gs := []) (cf' := (6, [some (.int x0), some (.int x1), some (.int x2), some (.int x3)], [.int 5, .int x3], [], 0, 0)) rfl trivial ?_
    obtain ⟨hmt6, hmf6⟩ := of_if hm
    refine MW_brF C okX6_named 6 rfl rfl (fun hb6 => ?_) (fun hb6 => ?_)
    · have hm := hmt6 hb6
      refine MW_run C okX6_named 7 2 (gs := []) (cf' := (11, [some (.int x0), some (.int x1), some (.int x2), some (.int x3)], [.int x3, .int x0], [], 0, 0)) rfl trivial ?_
      obtain ⟨q11, hc11, hm⟩ := of_bind hm
      refine MW_callS0 C okX6_named 9 rfl (v0 := some (.int q11)) (c_rw_wagonAt x0 x3 q11 hc11) lkX6_15 2 dpX6_wagonAt (by decide) (rest := []) rfl rfl rfl rfl rfl ?_
      obtain ⟨hmt14, hmf14⟩ := of_if hm
      refine MW_brF C okX6_named 10 rfl rfl (fun hb14 => ?_) (fun hb14 => ?_)
      · have hm := hmt14 hb14
        refine MW_run C okX6_named 11 4 (gs := []) (cf' := (21, [some (.int x0), some (.int x1), some (.int x2), some (.int x3)], [.int x3, .int x0, .int x1, .int x2], [], 0, 0)) rfl trivial ?_
        obtain ⟨q21, hc21, hm⟩ := of_bind hm
        refine MW_callS0 C okX6_named 15 rfl (v0 := some (.int q21)) (c_rw_wagonAt x0 x3 q21 hc21) lkX6_15 2 dpX6_wagonAt (by decide) (rest := [.int x1, .int x2]) rfl rfl rfl rfl rfl ?_
        refine MW_run C okX6_named 16 2 (gs := []) (cf' := (26, [some (.int x0), some (.int x1), some (.int x2), some (.int x3)], [.int (q21 - 1), .int x1, .int x2], [], 0, 0)) rfl trivial ?_
        obtain ⟨q26, hc26, hm⟩ := of_bind hm
        refine MW_callS0 C okX6_named 18 rfl (v0 := some (.int q26)) (c_rw_wagonAt x1 (q21 - 1) q26 hc26) lkX6_15 2 dpX6_wagonAt (by decide) (rest := [.int x2]) rfl rfl rfl rfl rfl ?_
        refine MW_run C okX6_named 19 8 (gs := []) (cf' := (4, [some (.int x0), some (.int x1), some (.int (x2 ||| (q26 <<< (((3 : Int32) * x3) &&& 31)))), some (.int (x3 + 1))], [], [], 0, 0)) rfl trivial ?_
        exact ih x0 x1 (x2 ||| (q26 <<< (((3 : Int32) * x3) &&& 31))) (x3 + 1) _ hm hp
      · have hm := hmf14 hb14
        obtain rfl := Option.some.inj hm
        refine MW_pick [false, false, true, false] rfl (vs' := [none, none, some (.int x2), none]) rfl ?_
        exact hp
    · have hm := hmf6 hb6
      obtain rfl := Option.some.inj hm
      refine MW_pick [false, false, true, false] rfl (vs' := [none, none, some (.int x2), none]) rfl ?_
      exact hp
def rw_named (x0 : Int32) (x1 : Int32) : Option (Int32) :=
  (rw_named_L4 N0 x0 x1 0 0).bind fun q4 =>
    some q4
set_option maxRecDepth 100000 in
set_option maxHeartbeats 1000000 in
theorem t_rw_named {X : CTX} {K : Option Value → AH → Prop} (C : CX X cX6_named yX6_named.cls (decide (yX6_named.name = "<init>")) 1 21) (hq : RQ X (some .int) K) (x0 : Int32) (x1 : Int32) (out : Int32) (hm : rw_named x0 x1 = some out) (hp : K (some (.int out)) []) : MW X (0, [some (.int x0), some (.int x1), none, none], [], [], 0, 0) := by
  unfold rw_named at hm
  refine MW_run C okX6_named 0 4 (gs := []) (cf' := (4, [some (.int x0), some (.int x1), some (.int 0), some (.int 0)], [], [], 0, 0)) rfl trivial ?_
  obtain ⟨q4, hc4, hm⟩ := of_bind hm
  refine l_rw_named_4 C hq N0 x0 x1 0 0 q4 hc4 ?_
  refine MW_run C okX6_named 27 1 (gs := []) (cf' := (42, [none, none, some (.int q4), none], [.int q4], [], 0, 0)) rfl trivial ?_
  obtain rfl := Option.some.inj hm
  exact MW_iret C okX6_named hq 28 rfl hp
theorem c_rw_named (x0 : Int32) (x1 : Int32) (out : Int32) (hm : rw_named x0 x1 = some out) : CT yX6_named cX6_named 4 (some .int) 1 21 0 0 [.int x0, .int x1] [] (fun v h => v = (some (.int out)) ∧ h = []) :=
  CT_of (by decide +kernel) (vs0 := [some (.int x0), some (.int x1), none, none]) rfl rfl (fun X C hq => t_rw_named C hq x0 x1 out hm ⟨rfl, rfl⟩)
/-! C: rw_ofRank -/
def rw_ofRank_L13 : Nat → Int32 → Int32 → Int32 → Int32 → Int32 → Option (Int32)
  | 0, _, _, _, _, _ => none
  | n + 1, x1, x2, x3, x4, x5 =>
    if x5 < x1 then
      if x5 < 5 then
        (rw_factorial ((x1 - 1) - x5)).bind fun q32 =>
          if ¬ (imax 1 q32) = 0 then
            (rw_pick x3 (x4 / (imax 1 q32))).bind fun q46 =>
              if ¬ (imax 1 q32) = 0 then
                rw_ofRank_L13 n x1 (x2 ||| (q46 <<< (((3 : Int32) * x5) &&& 31))) (x3 &&& (((1 : Int32) <<< (q46 &&& 31)) ^^^ (-1))) (irm x4 (imax 1 q32)) (x5 + 1)
              else none
          else none
      else
        some x2
    else
      some x2
set_option maxRecDepth 100000 in
set_option maxHeartbeats 1000000 in
theorem l_rw_ofRank_13 {X : CTX} {K : Option Value → AH → Prop} (C : CX X cX6_ofRank yX6_ofRank.cls (decide (yX6_ofRank.name = "<init>")) 1 23) (hq : RQ X (some .int) K) : ∀ (n : Nat) (x1 : Int32) (x2 : Int32) (x3 : Int32) (x4 : Int32) (x5 : Int32) (out : Int32) (hm : rw_ofRank_L13 n x1 x2 x3 x4 x5 = some out) (hp : MW X (83, [none, none, some (.int out), none, none, none, none, none], [], [], 0, 0)), MW X (13, [none, some (.int x1), some (.int x2), some (.int x3), some (.int x4), some (.int x5), none, none], [], [], 0, 0) := by
  intro n
  induction n with
  | zero => intro x1 x2 x3 x4 x5 out hm hp; rw [rw_ofRank_L13] at hm; cases hm
  | succ n ih =>
    intro x1 x2 x3 x4 x5 out hm hp
    rw [rw_ofRank_L13] at hm
    refine MW_run C okX6_ofRank 9 2 (gs := []) (cf' := (16, [none, some (.int x1), some (.int x2), some (.int x3), some (.int x4), some (.int x5), none, none], [.int x1, .int x5], [], 0, 0)) rfl trivial ?_
    obtain ⟨hmt16, hmf16⟩ := of_if hm
    refine MW_brF C okX6_ofRank 11 rfl rfl (fun hb16 => ?_) (fun hb16 => ?_)
    · have hm := hmt16 hb16
      refine MW_run C okX6_ofRank 12 2 (gs := []) (cf' := (22, [none, some (.int x1), some (.int x2), some (.int x3), some (.int x4), some (.int x5), none, none], [.int 5, .int x5], [], 0, 0)) rfl trivial ?_
      obtain ⟨hmt22, hmf22⟩ := of_if hm
      refine MW_brF C okX6_ofRank 14 rfl rfl (fun hb22 => ?_) (fun hb22 => ?_)
      · have hm := hmt22 hb22
        refine MW_run C okX6_ofRank 15 6 (gs := []) (cf' := (32, [none, some (.int x1), some (.int x2), some (.int x3), some (.int x4), some (.int x5), none, none], [.int ((x1 - 1) - x5), .int 1], [], 0, 0)) rfl trivial ?_
        obtain ⟨q32, hc32, hm⟩ := of_bind hm
        refine MW_callS0 C okX6_ofRank 21 rfl (v0 := some (.int q32)) (c_rw_factorial ((x1 - 1) - x5) q32 hc32) lkX6_27 1 dpX6_factorial (by decide) (rest := [.int 1]) rfl rfl rfl rfl rfl ?_
        refine MW_mmax C okX6_ofRank 22 rfl (lkX6_30) (by decide) ?_
        obtain ⟨hg46, hm⟩ := of_guard hm
        refine MW_run C okX6_ofRank 23 5 (gs := [¬ (imax 1 q32) = 0]) (cf' := (46, [none, some (.int x1), some (.int x2), some (.int x3), some (.int x4), some (.int x5), some (.int (imax 1 q32)), none], [.int (x4 / (imax 1 q32)), .int x3], [], 0, 0)) rfl hg46 ?_
        obtain ⟨q46, hc46, hm⟩ := of_bind hm
        refine MW_callS0 C okX6_ofRank 28 rfl (v0 := some (.int q46)) (c_rw_pick x3 (x4 / (imax 1 q32)) q46 hc46) lkX6_35 2 dpX6_pick (by decide) (rest := []) rfl rfl rfl rfl rfl ?_
        obtain ⟨hg13, hm⟩ := of_guard hm
        refine MW_run C okX6_ofRank 29 23 (gs := [¬ (imax 1 q32) = 0]) (cf' := (13, [none, some (.int x1), some (.int (x2 ||| (q46 <<< (((3 : Int32) * x5) &&& 31)))), some (.int (x3 &&& (((1 : Int32) <<< (q46 &&& 31)) ^^^ (-1)))), some (.int (irm x4 (imax 1 q32))), some (.int (x5 + 1)), some (.int (imax 1 q32)), some (.int q46)], [], [], 0, 0)) rfl hg13 ?_
        refine MW_pick [true, true, true, true, true, true, false, false] rfl (vs' := [none, some (.int x1), some (.int (x2 ||| (q46 <<< (((3 : Int32) * x5) &&& 31)))), some (.int (x3 &&& (((1 : Int32) <<< (q46 &&& 31)) ^^^ (-1)))), some (.int (irm x4 (imax 1 q32))), some (.int (x5 + 1)), none, none]) rfl ?_
        exact ih x1 (x2 ||| (q46 <<< (((3 : Int32) * x5) &&& 31))) (x3 &&& (((1 : Int32) <<< (q46 &&& 31)) ^^^ (-1))) (irm x4 (imax 1 q32)) (x5 + 1) _ hm hp
      · have hm := hmf22 hb22
        obtain rfl := Option.some.inj hm
        refine MW_pick [true, false, true, false, false, false, true, true] rfl (vs' := [none, none, some (.int x2), none, none, none, none, none]) rfl ?_
        exact hp
    · have hm := hmf16 hb16
      obtain rfl := Option.some.inj hm
      refine MW_pick [true, false, true, false, false, false, true, true] rfl (vs' := [none, none, some (.int x2), none, none, none, none, none]) rfl ?_
      exact hp
def rw_ofRank (x0 : Int32) (x1 : Int32) : Option (Int32) :=
  (rw_setUpTo x1).bind fun q3 =>
    (rw_ofRank_L13 N0 x1 0 q3 x0 0).bind fun q13 =>
      some q13
set_option maxRecDepth 100000 in
set_option maxHeartbeats 1000000 in
theorem t_rw_ofRank {X : CTX} {K : Option Value → AH → Prop} (C : CX X cX6_ofRank yX6_ofRank.cls (decide (yX6_ofRank.name = "<init>")) 1 23) (hq : RQ X (some .int) K) (x0 : Int32) (x1 : Int32) (out : Int32) (hm : rw_ofRank x0 x1 = some out) (hp : K (some (.int out)) []) : MW X (0, [some (.int x0), some (.int x1), none, none, none, none, none, none], [], [], 0, 0) := by
  unfold rw_ofRank at hm
  refine MW_run C okX6_ofRank 0 3 (gs := []) (cf' := (3, [some (.int x0), some (.int x1), some (.int 0), none, none, none, none, none], [.int x1], [], 0, 0)) rfl trivial ?_
  obtain ⟨q3, hc3, hm⟩ := of_bind hm
  refine MW_callS0 C okX6_ofRank 3 rfl (v0 := some (.int q3)) (c_rw_setUpTo x1 q3 hc3) lkX6_9 1 dpX6_setUpTo (by decide) (rest := []) rfl rfl rfl rfl rfl ?_
  refine MW_run C okX6_ofRank 4 5 (gs := []) (cf' := (13, [some (.int x0), some (.int x1), some (.int 0), some (.int q3), some (.int x0), some (.int 0), none, none], [], [], 0, 0)) rfl trivial ?_
  obtain ⟨q13, hc13, hm⟩ := of_bind hm
  refine MW_pick [false, true, true, true, true, true, true, true] rfl (vs' := [none, some (.int x1), some (.int 0), some (.int q3), some (.int x0), some (.int 0), none, none]) rfl ?_
  refine l_rw_ofRank_13 C hq N0 x1 0 q3 x0 0 q13 hc13 ?_
  refine MW_run C okX6_ofRank 52 1 (gs := []) (cf' := (84, [none, none, some (.int q13), none, none, none, none, none], [.int q13], [], 0, 0)) rfl trivial ?_
  obtain rfl := Option.some.inj hm
  exact MW_iret C okX6_ofRank hq 53 rfl hp
theorem c_rw_ofRank (x0 : Int32) (x1 : Int32) (out : Int32) (hm : rw_ofRank x0 x1 = some out) : CT yX6_ofRank cX6_ofRank 8 (some .int) 1 23 0 0 [.int x0, .int x1] [] (fun v h => v = (some (.int out)) ∧ h = []) :=
  CT_of (by decide +kernel) (vs0 := [some (.int x0), some (.int x1), none, none, none, none, none, none]) rfl rfl (fun X C hq => t_rw_ofRank C hq x0 x1 out hm ⟨rfl, rfl⟩)
/-! C: se_restFrom -/
def se_restFrom (s : SeS) (y : YdS) (f : PlS) : Option (Int32 × SeS) :=
  (pl_copyFrom s.2.1 f).bind fun q5 =>
    (se_remaining 24 (s.1, q5, s.2.2.1, s.2.2.2.1, s.2.2.2.2) y 0).bind fun q10 =>
      some (q10.1, q10.2)
set_option maxRecDepth 100000 in
set_option maxHeartbeats 1000000 in
theorem t_se_restFrom {X : CTX} {K : Option Value → AH → Prop} (C : CX X cX7_restFrom yX7_restFrom.cls (decide (yX7_restFrom.name = "<init>")) 28 740) (hq : RQ X (some .int) K) (s : SeS) (y : YdS) (f : PlS) (out : Int32 × SeS) (hm : se_restFrom s y f = some out) (hp : K (some (.int out.1)) (hSe 0 5 out.2 ++ (hYd 5 y ++ (hPl 13 f)))) : MW X (0, [some (.ref 0), some (.ref 13)], [], (hSe 0 5 s ++ (hYd 5 y ++ (hPl 13 f))), 0, 0) := by
  unfold se_restFrom at hm
  refine MW_run C okX7_restFrom 0 3 (gs := []) (cf' := (5, [some (.ref 0), some (.ref 13)], [.ref 13, .ref 2], (hSe 0 5 s ++ (hYd 5 y ++ (hPl 13 f))), 0, 0)) rfl trivial ?_
  obtain ⟨q5, hc5, hm⟩ := of_bind hm
  refine MW_callV1 C okX7_restFrom 3 rfl [2, 3, 4, 13, 14, 15] (v0 := none) (h0 := (hPl 0 q5 ++ (hPl 3 f))) (c_pl_copyFrom s.2.1 f q5 hc5) lkX7_50 1 dpX4_copyFrom (by decide) (rest := []) rfl rfl rfl rfl rfl rfl rfl rfl rfl rfl rfl (st2 := []) (h2 := (hSe 0 5 (s.1, q5, s.2.2.1, s.2.2.2.1, s.2.2.2.2) ++ (hYd 5 y ++ (hPl 13 f)))) rfl rfl ?_
  refine MW_run C okX7_restFrom 4 2 (gs := []) (cf' := (10, [some (.ref 0), some (.ref 13)], [.int 0, .ref 0], (hSe 0 5 (s.1, q5, s.2.2.1, s.2.2.2.1, s.2.2.2.2) ++ (hYd 5 y ++ (hPl 13 f))), 0, 0)) rfl trivial ?_
  obtain ⟨q10, hc10, hm⟩ := of_bind hm
  refine MW_callS1 C okX7_restFrom 6 rfl [0, 1, 2, 3, 4, 5, 6, 7, 8, 9, 10, 11, 12] (v0 := some (.int q10.1)) (h0 := (hSe 0 5 q10.2 ++ (hYd 5 y))) (c_se_remaining 24 (s.1, q5, s.2.2.1, s.2.2.2.1, s.2.2.2.2) y 0 q10 hc10) lkX7_46 2 dpX7_remaining (by decide) (rest := []) rfl rfl rfl rfl rfl rfl rfl (st2 := [.int q10.1]) (h2 := (hSe 0 5 q10.2 ++ (hYd 5 y ++ (hPl 13 f)))) rfl rfl ?_
  obtain rfl := Option.some.inj hm
  exact MW_iret C okX7_restFrom hq 7 rfl hp
theorem c_se_restFrom (s : SeS) (y : YdS) (f : PlS) (out : Int32 × SeS) (hm : se_restFrom s y f = some out) : CT yX7_restFrom cX7_restFrom 2 (some .int) 28 740 0 0 [.ref 0, .ref 13] (hSe 0 5 s ++ (hYd 5 y ++ (hPl 13 f))) (fun v h => v = (some (.int out.1)) ∧ h = (hSe 0 5 out.2 ++ (hYd 5 y ++ (hPl 13 f)))) :=
  CT_of (by decide +kernel) (vs0 := [some (.ref 0), some (.ref 13)]) rfl rfl (fun X C hq => t_se_restFrom C hq s y f out hm ⟨rfl, rfl⟩)
/-! C: se_bestMove -/
def se_bestMove_L16 : Nat → SeS → YdS → Int32 → Int32 → Option ((SeS) ⊕ (Int32 × SeS))
  | 0, _, _, _, _ => none
  | n + 1, s, y, x1, x2 =>
    if x2 < y.2.2.1 then
      (yd_moveAt y x2).bind fun q32 =>
        (se_fits s y q32).bind fun q38 =>
          if q38 = 0 then
            se_bestMove_L16 n s y x1 (x2 + 1)
          else
            (pl_shift s.2.1 q32).bind fun q49 =>
              (se_remaining 24 (s.1, q49, s.2.2.1, s.2.2.2.1, s.2.2.2.2) y 1).bind fun q54 =>
                (pl_unshift q54.2.2.1 q32).bind fun q64 =>
                  if q54.1 = (x1 - 1) then
                    some (.inr (q32, (q54.2.1, q64, q54.2.2.2.1, q54.2.2.2.2.1, q54.2.2.2.2.2)))
                  else
                    se_bestMove_L16 n (q54.2.1, q64, q54.2.2.2.1, q54.2.2.2.2.1, q54.2.2.2.2.2) y x1 (x2 + 1)
    else
      some (.inl s)
set_option maxRecDepth 100000 in
set_option maxHeartbeats 1000000 in
theorem l_se_bestMove_16 {X : CTX} {K : Option Value → AH → Prop} (C : CX X cX7_bestMove yX7_bestMove.cls (decide (yX7_bestMove.name = "<init>")) 28 740) (hq : RQ X (some .int) K) : ∀ (n : Nat) (s : SeS) (y : YdS) (x1 : Int32) (x2 : Int32) (out : (SeS) ⊕ (Int32 × SeS)) (hm : se_bestMove_L16 n s y x1 x2 = some out) (hp : Sum.elim (fun e => MW X (83, [none, none, none, none, none], [], (hSe 0 5 e ++ (hYd 5 y)), 0, 0)) (fun r => K (some (.int r.1)) (hSe 0 5 r.2 ++ (hYd 5 y))) out), MW X (16, [some (.ref 0), some (.int x1), some (.int x2), none, none], [], (hSe 0 5 s ++ (hYd 5 y)), 0, 0) := by
  intro n
  induction n with
  | zero => intro s y x1 x2 out hm hp; rw [se_bestMove_L16] at hm; cases hm
  | succ n ih =>
    intro s y x1 x2 out hm hp
    rw [se_bestMove_L16] at hm
    refine MW_run C okX7_bestMove 11 4 (gs := []) (cf' := (24, [some (.ref 0), some (.int x1), some (.int x2), none, none], [.int y.2.2.1, .int x2], (hSe 0 5 s ++ (hYd 5 y)), 0, 0)) rfl trivial ?_
    obtain ⟨hmt24, hmf24⟩ := of_if hm
    refine MW_brF C okX7_bestMove 15 rfl rfl (fun hb24 => ?_) (fun hb24 => ?_)
    · have hm := hmt24 hb24
      refine MW_run C okX7_bestMove 16 3 (gs := []) (cf' := (32, [some (.ref 0), some (.int x1), some (.int x2), none, none], [.int x2, .ref 5], (hSe 0 5 s ++ (hYd 5 y)), 0, 0)) rfl trivial ?_
      obtain ⟨q32, hc32, hm⟩ := of_bind hm
      refine MW_callV1 C okX7_bestMove 19 rfl [5, 6, 7, 8, 9, 10, 11, 12] (v0 := some (.int q32)) (h0 := (hYd 0 y)) (c_yd_moveAt y x2 q32 hc32) lkX7_84 1 dpX10_moveAt (by decide) (rest := []) rfl rfl rfl rfl rfl rfl rfl rfl rfl rfl rfl (st2 := [.int q32]) (h2 := (hSe 0 5 s ++ (hYd 5 y))) rfl rfl ?_
      refine MW_run C okX7_bestMove 20 3 (gs := []) (cf' := (38, [some (.ref 0), some (.int x1), some (.int x2), some (.int q32), none], [.int q32, .ref 0], (hSe 0 5 s ++ (hYd 5 y)), 0, 0)) rfl trivial ?_
      obtain ⟨q38, hc38, hm⟩ := of_bind hm
      refine MW_callV0 C okX7_bestMove 23 rfl (v0 := some (.int q38)) (h0 := (hSe 0 5 s ++ (hYd 5 y))) (c_se_fits s y q32 q38 hc38) lkX7_87 1 dpX7_fits (by decide) (rest := []) rfl rfl rfl rfl rfl rfl rfl rfl ?_
      obtain ⟨hmt41, hmf41⟩ := of_if hm
      refine MW_brT C okX7_bestMove 24 rfl rfl (fun hb41 => ?_) (fun hb41 => ?_)
      · have hm := hmt41 hb41
        refine MW_run C okX7_bestMove 44 2 (gs := []) (cf' := (16, [some (.ref 0), some (.int x1), some (.int (x2 + 1)), some (.int q32), none], [], (hSe 0 5 s ++ (hYd 5 y)), 0, 0)) rfl trivial ?_
        refine MW_pick [true, true, true, false, true] rfl (vs' := [some (.ref 0), some (.int x1), some (.int (x2 + 1)), none, none]) rfl ?_
        exact ih s y x1 (x2 + 1) _ hm hp
      · have hm := hmf41 hb41
        refine MW_run C okX7_bestMove 25 3 (gs := []) (cf' := (49, [some (.ref 0), some (.int x1), some (.int x2), some (.int q32), none], [.int q32, .ref 2], (hSe 0 5 s ++ (hYd 5 y)), 0, 0)) rfl trivial ?_
        obtain ⟨q49, hc49, hm⟩ := of_bind hm
        refine MW_callV1 C okX7_bestMove 28 rfl [2, 3, 4] (v0 := none) (h0 := (hPl 0 q49)) (c_pl_shift s.2.1 q32 q49 hc49) lkX7_58 1 dpX4_shift (by decide) (rest := []) rfl rfl rfl rfl rfl rfl rfl rfl rfl rfl rfl (st2 := []) (h2 := (hSe 0 5 (s.1, q49, s.2.2.1, s.2.2.2.1, s.2.2.2.2) ++ (hYd 5 y))) rfl rfl ?_
        refine MW_run C okX7_bestMove 29 2 (gs := []) (cf' := (54, [some (.ref 0), some (.int x1), some (.int x2), some (.int q32), none], [.int 1, .ref 0], (hSe 0 5 (s.1, q49, s.2.2.1, s.2.2.2.1, s.2.2.2.2) ++ (hYd 5 y)), 0, 0)) rfl trivial ?_
        obtain ⟨q54, hc54, hm⟩ := of_bind hm
        refine MW_callS1 C okX7_bestMove 31 rfl [0, 1, 2, 3, 4, 5, 6, 7, 8, 9, 10, 11, 12] (v0 := some (.int q54.1)) (h0 := (hSe 0 5 q54.2 ++ (hYd 5 y))) (c_se_remaining 24 (s.1, q49, s.2.2.1, s.2.2.2.1, s.2.2.2.2) y 1 q54 hc54) lkX7_46 2 dpX7_remaining (by decide) (rest := []) rfl rfl rfl rfl rfl rfl rfl (st2 := [.int q54.1]) (h2 := (hSe 0 5 q54.2 ++ (hYd 5 y))) rfl rfl ?_
        refine MW_run C okX7_bestMove 32 4 (gs := []) (cf' := (64, [some (.ref 0), some (.int x1), some (.int x2), some (.int q32), some (.int q54.1)], [.int q32, .ref 2], (hSe 0 5 q54.2 ++ (hYd 5 y)), 0, 0)) rfl trivial ?_
        obtain ⟨q64, hc64, hm⟩ := of_bind hm
        refine MW_callV1 C okX7_bestMove 36 rfl [2, 3, 4] (v0 := none) (h0 := (hPl 0 q64)) (c_pl_unshift q54.2.2.1 q32 q64 hc64) lkX7_91 1 dpX4_unshift (by decide) (rest := []) rfl rfl rfl rfl rfl rfl rfl rfl rfl rfl rfl (st2 := []) (h2 := (hSe 0 5 (q54.2.1, q64, q54.2.2.2.1, q54.2.2.2.2.1, q54.2.2.2.2.2) ++ (hYd 5 y))) rfl rfl ?_
        refine MW_run C okX7_bestMove 37 4 (gs := []) (cf' := (72, [some (.ref 0), some (.int x1), some (.int x2), some (.int q32), some (.int q54.1)], [.int (x1 - 1), .int q54.1], (hSe 0 5 (q54.2.1, q64, q54.2.2.2.1, q54.2.2.2.2.1, q54.2.2.2.2.2) ++ (hYd 5 y)), 0, 0)) rfl trivial ?_
        obtain ⟨hmt72, hmf72⟩ := of_if hm
        refine MW_brF C okX7_bestMove 41 rfl rfl (fun hb72 => ?_) (fun hb72 => ?_)
        · have hm := hmt72 hb72
          refine MW_run C okX7_bestMove 42 1 (gs := []) (cf' := (76, [some (.ref 0), some (.int x1), some (.int x2), some (.int q32), some (.int q54.1)], [.int q32], (hSe 0 5 (q54.2.1, q64, q54.2.2.2.1, q54.2.2.2.2.1, q54.2.2.2.2.2) ++ (hYd 5 y)), 0, 0)) rfl trivial ?_
          obtain rfl := Option.some.inj hm
          exact MW_iret C okX7_bestMove hq 43 rfl hp
        · have hm := hmf72 hb72
          refine MW_run C okX7_bestMove 44 2 (gs := []) (cf' := (16, [some (.ref 0), some (.int x1), some (.int (x2 + 1)), some (.int q32), some (.int q54.1)], [], (hSe 0 5 (q54.2.1, q64, q54.2.2.2.1, q54.2.2.2.2.1, q54.2.2.2.2.2) ++ (hYd 5 y)), 0, 0)) rfl trivial ?_
          refine MW_pick [true, true, true, false, false] rfl (vs' := [some (.ref 0), some (.int x1), some (.int (x2 + 1)), none, none]) rfl ?_
          exact ih (q54.2.1, q64, q54.2.2.2.1, q54.2.2.2.2.1, q54.2.2.2.2.2) y x1 (x2 + 1) _ hm hp
    · have hm := hmf24 hb24
      obtain rfl := Option.some.inj hm
      refine MW_pick [false, false, false, true, true] rfl (vs' := [none, none, none, none, none]) rfl ?_
      exact hp
def se_bestMove (s : SeS) (y : YdS) : Option (Int32 × SeS) :=
  (se_remaining 24 s y 0).bind fun q2 =>
    if q2.1 < 1 then
      some ((-6), q2.2)
    else
      (se_bestMove_L16 N0 q2.2 y q2.1 0).bind fun q16 =>
        match q16 with
        | .inr r16 => some r16
        | .inl e16 =>
          some ((-6), e16)
set_option maxRecDepth 100000 in
set_option maxHeartbeats 1000000 in
theorem t_se_bestMove {X : CTX} {K : Option Value → AH → Prop} (C : CX X cX7_bestMove yX7_bestMove.cls (decide (yX7_bestMove.name = "<init>")) 28 740) (hq : RQ X (some .int) K) (s : SeS) (y : YdS) (out : Int32 × SeS) (hm : se_bestMove s y = some out) (hp : K (some (.int out.1)) (hSe 0 5 out.2 ++ (hYd 5 y))) : MW X (0, [some (.ref 0), none, none, none, none], [], (hSe 0 5 s ++ (hYd 5 y)), 0, 0) := by
  unfold se_bestMove at hm
  refine MW_run C okX7_bestMove 0 2 (gs := []) (cf' := (2, [some (.ref 0), none, none, none, none], [.int 0, .ref 0], (hSe 0 5 s ++ (hYd 5 y)), 0, 0)) rfl trivial ?_
  obtain ⟨q2, hc2, hm⟩ := of_bind hm
  refine MW_callS1 C okX7_bestMove 2 rfl [0, 1, 2, 3, 4, 5, 6, 7, 8, 9, 10, 11, 12] (v0 := some (.int q2.1)) (h0 := (hSe 0 5 q2.2 ++ (hYd 5 y))) (c_se_remaining 24 s y 0 q2 hc2) lkX7_46 2 dpX7_remaining (by decide) (rest := []) rfl rfl rfl rfl rfl rfl rfl (st2 := [.int q2.1]) (h2 := (hSe 0 5 q2.2 ++ (hYd 5 y))) rfl rfl ?_
  refine MW_run C okX7_bestMove 3 3 (gs := []) (cf' := (8, [some (.ref 0), some (.int q2.1), none, none, none], [.int 1, .int q2.1], (hSe 0 5 q2.2 ++ (hYd 5 y)), 0, 0)) rfl trivial ?_
  obtain ⟨hmt8, hmf8⟩ := of_if hm
  refine MW_brF C okX7_bestMove 6 rfl rfl (fun hb8 => ?_) (fun hb8 => ?_)
  · have hm := hmt8 hb8
    refine MW_run C okX7_bestMove 7 1 (gs := []) (cf' := (13, [some (.ref 0), some (.int q2.1), none, none, none], [.int (-6)], (hSe 0 5 q2.2 ++ (hYd 5 y)), 0, 0)) rfl trivial ?_
    obtain rfl := Option.some.inj hm
    exact MW_iret C okX7_bestMove hq 8 rfl hp
  · have hm := hmf8 hb8
    refine MW_run C okX7_bestMove 9 2 (gs := []) (cf' := (16, [some (.ref 0), some (.int q2.1), some (.int 0), none, none], [], (hSe 0 5 q2.2 ++ (hYd 5 y)), 0, 0)) rfl trivial ?_
    obtain ⟨q16, hc16, hm⟩ := of_bind hm
    refine l_se_bestMove_16 C hq N0 q2.2 y q2.1 0 q16 hc16 ?_
    cases q16 with
    | inr r16 =>
      obtain rfl := Option.some.inj hm
      exact hp
    | inl e16 =>
      show MW X (83, [none, none, none, none, none], [], (hSe 0 5 e16 ++ (hYd 5 y)), 0, 0)
      refine MW_run C okX7_bestMove 46 1 (gs := []) (cf' := (85, [none, none, none, none, none], [.int (-6)], (hSe 0 5 e16 ++ (hYd 5 y)), 0, 0)) rfl trivial ?_
      obtain rfl := Option.some.inj hm
      exact MW_iret C okX7_bestMove hq 47 rfl hp
theorem c_se_bestMove (s : SeS) (y : YdS) (out : Int32 × SeS) (hm : se_bestMove s y = some out) : CT yX7_bestMove cX7_bestMove 5 (some .int) 28 740 0 0 [.ref 0] (hSe 0 5 s ++ (hYd 5 y)) (fun v h => v = (some (.int out.1)) ∧ h = (hSe 0 5 out.2 ++ (hYd 5 y))) :=
  CT_of (by decide +kernel) (vs0 := [some (.ref 0), none, none, none, none]) rfl rfl (fun X C hq => t_se_bestMove C hq s y out hm ⟨rfl, rfl⟩)
