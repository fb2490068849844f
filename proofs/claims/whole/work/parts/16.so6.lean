/-! C: so_good -/
def so_good_L33 : Nat → SoS → Nat → Int32 → Int32 → Int32 → Int32 → Int32 → Option ((SoS × Int32) ⊕ (Int32 × SoS))
  | 0, _, _, _, _, _, _, _ => none
  | n + 1, s, yr, x1, x2, x3, x4, x5 =>
    if x5 < x3 then
      (rw_ofRank x5 x1).bind fun q42 =>
        (so_leastSorted_y s yr q42 x1).bind fun q55 =>
          if (0 : Int32) < q55.1 then
            so_good_L33 n q55.2 yr x1 x2 x3 (x4 + 1) (x5 + 1)
          else
            if x2 = 1 then
              (rw_toNumber q42).bind fun q74 =>
                some (.inr (q74, q55.2))
            else
              so_good_L33 n q55.2 yr x1 x2 x3 x4 (x5 + 1)
    else
      some (.inl (s, x4))
set_option maxRecDepth 100000 in
set_option maxHeartbeats 1000000 in
theorem l_so_good_33 {X : CTX} {K : Option Value → AH → Prop} (C : CX X cX11_good yX11_good.cls (decide (yX11_good.name = "<init>")) 7 166) (hq : RQ X (some .int) K) : ∀ (n : Nat) (s : SoS) (yr : Nat) (x1 : Int32) (x2 : Int32) (x3 : Int32) (x4 : Int32) (x5 : Int32) (out : (SoS × Int32) ⊕ (Int32 × SoS)) (hm : so_good_L33 n s yr x1 x2 x3 x4 x5 = some out) (hp : Sum.elim (fun e => MW X (84, [none, none, some (.int x2), none, some (.int e.2), none, none], [], (hSo yr e.1), 0, 0)) (fun r => K (some (.int r.1)) (hSo yr r.2)) out), MW X (33, [some (.ref 0), some (.int x1), some (.int x2), some (.int x3), some (.int x4), some (.int x5), none], [], (hSo yr s), 0, 0) := by
  intro n
  induction n with
  | zero => intro s yr x1 x2 x3 x4 x5 out hm hp; rw [so_good_L33] at hm; cases hm
  | succ n ih =>
    intro s yr x1 x2 x3 x4 x5 out hm hp
    rw [so_good_L33] at hm
    refine MW_run C okX11_good 20 2 (gs := []) (cf' := (36, [some (.ref 0), some (.int x1), some (.int x2), some (.int x3), some (.int x4), some (.int x5), none], [.int x3, .int x5], (hSo yr s), 0, 0)) rfl trivial ?_
    obtain ⟨hmt36, hmf36⟩ := of_if hm
    refine MW_brF C okX11_good 22 rfl rfl (fun hb36 => ?_) (fun hb36 => ?_)
    · have hm := hmt36 hb36
      refine MW_run C okX11_good 23 2 (gs := []) (cf' := (42, [some (.ref 0), some (.int x1), some (.int x2), some (.int x3), some (.int x4), some (.int x5), none], [.int x1, .int x5], (hSo yr s), 0, 0)) rfl trivial ?_
      obtain ⟨q42, hc42, hm⟩ := of_bind hm
      refine MW_callS0 C okX11_good 25 rfl (v0 := some (.int q42)) (c_rw_ofRank x5 x1 q42 hc42) lkX11_166 2 dpX6_ofRank (by decide) (rest := []) rfl rfl rfl rfl rfl ?_
      refine MW_run C okX11_good 26 6 (gs := []) (cf' := (55, [some (.ref 0), some (.int x1), some (.int x2), some (.int x3), some (.int x4), some (.int x5), some (.int q42)], [.int x1, .int q42, .ref 3, .ref 0], (hSo yr s), 0, 0)) rfl trivial ?_
      obtain ⟨q55, hc55, hm⟩ := of_bind hm
      refine MW_callV0 C okX11_good 32 rfl (v0 := some (.int q55.1)) (h0 := (hSo yr q55.2)) (c_so_leastSorted_y s yr q42 x1 q55 hc55) lkX11_173 3 dpX11_leastSorted (by decide) (rest := []) rfl rfl rfl rfl rfl rfl rfl rfl ?_
      obtain ⟨hmt58, hmf58⟩ := of_if hm
      refine MW_brF C okX11_good 33 rfl rfl (fun hb58 => ?_) (fun hb58 => ?_)
      · have hm := hmt58 hb58
        refine MW_run C okX11_good 34 2 (gs := []) (cf' := (78, [some (.ref 0), some (.int x1), some (.int x2), some (.int x3), some (.int (x4 + 1)), some (.int x5), some (.int q42)], [], (hSo yr q55.2), 0, 0)) rfl trivial ?_
        refine MW_run C okX11_good 42 2 (gs := []) (cf' := (33, [some (.ref 0), some (.int x1), some (.int x2), some (.int x3), some (.int (x4 + 1)), some (.int (x5 + 1)), some (.int q42)], [], (hSo yr q55.2), 0, 0)) rfl trivial ?_
        refine MW_pick [true, true, true, true, true, true, false] rfl (vs' := [some (.ref 0), some (.int x1), some (.int x2), some (.int x3), some (.int (x4 + 1)), some (.int (x5 + 1)), none]) rfl ?_
        exact ih q55.2 yr x1 x2 x3 (x4 + 1) (x5 + 1) _ hm hp
      · have hm := hmf58 hb58
        refine MW_run C okX11_good 36 2 (gs := []) (cf' := (69, [some (.ref 0), some (.int x1), some (.int x2), some (.int x3), some (.int x4), some (.int x5), some (.int q42)], [.int 1, .int x2], (hSo yr q55.2), 0, 0)) rfl trivial ?_
        obtain ⟨hmt69, hmf69⟩ := of_if hm
        refine MW_brF C okX11_good 38 rfl rfl (fun hb69 => ?_) (fun hb69 => ?_)
        · have hm := hmt69 hb69
          refine MW_run C okX11_good 39 1 (gs := []) (cf' := (74, [some (.ref 0), some (.int x1), some (.int x2), some (.int x3), some (.int x4), some (.int x5), some (.int q42)], [.int q42], (hSo yr q55.2), 0, 0)) rfl trivial ?_
          obtain ⟨q74, hc74, hm⟩ := of_bind hm
          refine MW_callS0 C okX11_good 40 rfl (v0 := some (.int q74)) (c_rw_toNumber q42 q74 hc74) lkX11_170 1 dpX6_toNumber (by decide) (rest := []) rfl rfl rfl rfl rfl ?_
          obtain rfl := Option.some.inj hm
          exact MW_iret C okX11_good hq 41 rfl hp
        · have hm := hmf69 hb69
          refine MW_run C okX11_good 42 2 (gs := []) (cf' := (33, [some (.ref 0), some (.int x1), some (.int x2), some (.int x3), some (.int x4), some (.int (x5 + 1)), some (.int q42)], [], (hSo yr q55.2), 0, 0)) rfl trivial ?_
          refine MW_pick [true, true, true, true, true, true, false] rfl (vs' := [some (.ref 0), some (.int x1), some (.int x2), some (.int x3), some (.int x4), some (.int (x5 + 1)), none]) rfl ?_
          exact ih q55.2 yr x1 x2 x3 x4 (x5 + 1) _ hm hp
    · have hm := hmf36 hb36
      obtain rfl := Option.some.inj hm
      refine MW_pick [false, false, true, false, true, false, true] rfl (vs' := [none, none, some (.int x2), none, some (.int x4), none, none]) rfl ?_
      exact hp
def so_good (s : SoS) (yr : Nat) (x1 : Int32) (x2 : Int32) : Option (Int32 × SoS) :=
  if x1 < 1 then
    some ((-2), s)
  else
    if (5 : Int32) < x1 then
      some ((-2), s)
    else
      if x2 < 0 then
        some ((-2), s)
      else
        if (1 : Int32) < x2 then
          some ((-2), s)
        else
          (rw_factorial x1).bind fun q23 =>
            (so_good_L33 N0 s yr x1 x2 q23 0 0).bind fun q33 =>
              match q33 with
              | .inr r33 => some r33
              | .inl e33 =>
                if x2 = 0 then
                  some (e33.2, e33.1)
                else
                  some ((-6), e33.1)
set_option maxRecDepth 100000 in
set_option maxHeartbeats 1000000 in
theorem t_so_good {X : CTX} {K : Option Value → AH → Prop} (C : CX X cX11_good yX11_good.cls (decide (yX11_good.name = "<init>")) 7 166) (hq : RQ X (some .int) K) (s : SoS) (yr : Nat) (x1 : Int32) (x2 : Int32) (out : Int32 × SoS) (hm : so_good s yr x1 x2 = some out) (hp : K (some (.int out.1)) (hSo yr out.2)) : MW X (0, [some (.ref 0), some (.int x1), some (.int x2), none, none, none, none], [], (hSo yr s), 0, 0) := by
  unfold so_good at hm
  refine MW_run C okX11_good 0 2 (gs := []) (cf' := (2, [some (.ref 0), some (.int x1), some (.int x2), none, none, none, none], [.int 1, .int x1], (hSo yr s), 0, 0)) rfl trivial ?_
  obtain ⟨hmt2, hmf2⟩ := of_if hm
  refine MW_brT C okX11_good 2 rfl rfl (fun hb2 => ?_) (fun hb2 => ?_)
  · have hm := hmt2 hb2
    refine MW_run C okX11_good 11 1 (gs := []) (cf' := (21, [some (.ref 0), some (.int x1), some (.int x2), none, none, none, none], [.int (-2)], (hSo yr s), 0, 0)) rfl trivial ?_
    obtain rfl := Option.some.inj hm
    exact MW_iret C okX11_good hq 12 rfl hp
  · have hm := hmf2 hb2
    refine MW_run C okX11_good 3 2 (gs := []) (cf' := (7, [some (.ref 0), some (.int x1), some (.int x2), none, none, none, none], [.int 5, .int x1], (hSo yr s), 0, 0)) rfl trivial ?_
    obtain ⟨hmt7, hmf7⟩ := of_if hm
    refine MW_brT C okX11_good 5 rfl rfl (fun hb7 => ?_) (fun hb7 => ?_)
    · have hm := hmt7 hb7
      refine MW_run C okX11_good 11 1 (gs := []) (cf' := (21, [some (.ref 0), some (.int x1), some (.int x2), none, none, none, none], [.int (-2)], (hSo yr s), 0, 0)) rfl trivial ?_
      obtain rfl := Option.some.inj hm
      exact MW_iret C okX11_good hq 12 rfl hp
    · have hm := hmf7 hb7
      refine MW_run C okX11_good 6 1 (gs := []) (cf' := (11, [some (.ref 0), some (.int x1), some (.int x2), none, none, none, none], [.int x2], (hSo yr s), 0, 0)) rfl trivial ?_
      obtain ⟨hmt11, hmf11⟩ := of_if hm
      refine MW_brT C okX11_good 7 rfl rfl (fun hb11 => ?_) (fun hb11 => ?_)
      · have hm := hmt11 hb11
        refine MW_run C okX11_good 11 1 (gs := []) (cf' := (21, [some (.ref 0), some (.int x1), some (.int x2), none, none, none, none], [.int (-2)], (hSo yr s), 0, 0)) rfl trivial ?_
        obtain rfl := Option.some.inj hm
        exact MW_iret C okX11_good hq 12 rfl hp
      · have hm := hmf11 hb11
        refine MW_run C okX11_good 8 2 (gs := []) (cf' := (16, [some (.ref 0), some (.int x1), some (.int x2), none, none, none, none], [.int 1, .int x2], (hSo yr s), 0, 0)) rfl trivial ?_
        obtain ⟨hmt16, hmf16⟩ := of_if hm
        refine MW_brF C okX11_good 10 rfl rfl (fun hb16 => ?_) (fun hb16 => ?_)
        · have hm := hmt16 hb16
          refine MW_run C okX11_good 11 1 (gs := []) (cf' := (21, [some (.ref 0), some (.int x1), some (.int x2), none, none, none, none], [.int (-2)], (hSo yr s), 0, 0)) rfl trivial ?_
          obtain rfl := Option.some.inj hm
          exact MW_iret C okX11_good hq 12 rfl hp
        · have hm := hmf16 hb16
          refine MW_run C okX11_good 13 1 (gs := []) (cf' := (23, [some (.ref 0), some (.int x1), some (.int x2), none, none, none, none], [.int x1], (hSo yr s), 0, 0)) rfl trivial ?_
          obtain ⟨q23, hc23, hm⟩ := of_bind hm
          refine MW_callS0 C okX11_good 14 rfl (v0 := some (.int q23)) (c_rw_factorial x1 q23 hc23) lkX11_163 1 dpX6_factorial (by decide) (rest := []) rfl rfl rfl rfl rfl ?_
          refine MW_run C okX11_good 15 5 (gs := []) (cf' := (33, [some (.ref 0), some (.int x1), some (.int x2), some (.int q23), some (.int 0), some (.int 0), none], [], (hSo yr s), 0, 0)) rfl trivial ?_
          obtain ⟨q33, hc33, hm⟩ := of_bind hm
          refine l_so_good_33 C hq N0 s yr x1 x2 q23 0 0 q33 hc33 ?_
          cases q33 with
          | inr r33 =>
            obtain rfl := Option.some.inj hm
            exact hp
          | inl e33 =>
            show MW X (84, [none, none, some (.int x2), none, some (.int e33.2), none, none], [], (hSo yr e33.1), 0, 0)
            refine MW_run C okX11_good 44 1 (gs := []) (cf' := (85, [none, none, some (.int x2), none, some (.int e33.2), none, none], [.int x2], (hSo yr e33.1), 0, 0)) rfl trivial ?_
            obtain ⟨hmt85, hmf85⟩ := of_if hm
            refine MW_brF C okX11_good 45 rfl rfl (fun hb85 => ?_) (fun hb85 => ?_)
            · have hm := hmt85 hb85
              refine MW_run C okX11_good 46 2 (gs := []) (cf' := (95, [none, none, some (.int x2), none, some (.int e33.2), none, none], [.int e33.2], (hSo yr e33.1), 0, 0)) rfl trivial ?_
              obtain rfl := Option.some.inj hm
              exact MW_iret C okX11_good hq 49 rfl hp
            · have hm := hmf85 hb85
              refine MW_run C okX11_good 48 1 (gs := []) (cf' := (95, [none, none, some (.int x2), none, some (.int e33.2), none, none], [.int (-6)], (hSo yr e33.1), 0, 0)) rfl trivial ?_
              obtain rfl := Option.some.inj hm
              exact MW_iret C okX11_good hq 49 rfl hp
theorem c_so_good (s : SoS) (yr : Nat) (x1 : Int32) (x2 : Int32) (out : Int32 × SoS) (hm : so_good s yr x1 x2 = some out) : CT yX11_good cX11_good 7 (some .int) 7 166 0 0 [.ref 0, .int x1, .int x2] (hSo yr s) (fun v h => v = (some (.int out.1)) ∧ h = (hSo yr out.2)) :=
  CT_of (by decide +kernel) (vs0 := [some (.ref 0), some (.int x1), some (.int x2), none, none, none, none]) rfl rfl (fun X C hq => t_so_good C hq s yr x1 x2 out hm ⟨rfl, rfl⟩)
/-! C: so_inLowestTerms -/
def so_inLowestTerms_L8 : Nat → Int32 → Int32 → Int32 → Int32 → Int32 → Int32 → Option (Int32)
  | 0, _, _, _, _, _, _ => none
  | n + 1, x0, x1, x2, x3, x4, x5 =>
    if x5 < 64 then
      if (0 : Int32) < x4 then
        if ¬ x4 = 0 then
          so_inLowestTerms_L8 n x0 x1 x2 x4 (irm x3 x4) (x5 + 1)
        else none
      else
        some x3
    else
      some x3
set_option maxRecDepth 100000 in
set_option maxHeartbeats 1000000 in
theorem l_so_inLowestTerms_8 {X : CTX} {K : Option Value → AH → Prop} (C : CX X cX11_inLowestTerms yX11_inLowestTerms.cls (decide (yX11_inLowestTerms.name = "<init>")) 0 0) (hq : RQ X (some .long) K) : ∀ (n : Nat) (x0 : Int32) (x1 : Int32) (x2 : Int32) (x3 : Int32) (x4 : Int32) (x5 : Int32) (out : Int32) (hm : so_inLowestTerms_L8 n x0 x1 x2 x3 x4 x5 = some out) (hp : MW X (39, [some (.int x0), some (.int x1), some (.int x2), some (.int out), none, none, none], [], [], 0, 0)), MW X (8, [some (.int x0), some (.int x1), some (.int x2), some (.int x3), some (.int x4), some (.int x5), none], [], [], 0, 0) := by
  intro n
  induction n with
  | zero => intro x0 x1 x2 x3 x4 x5 out hm hp; rw [so_inLowestTerms_L8] at hm; cases hm
  | succ n ih =>
    intro x0 x1 x2 x3 x4 x5 out hm hp
    rw [so_inLowestTerms_L8] at hm
    refine MW_run C okX11_inLowestTerms 6 2 (gs := []) (cf' := (12, [some (.int x0), some (.int x1), some (.int x2), some (.int x3), some (.int x4), some (.int x5), none], [.int 64, .int x5], [], 0, 0)) rfl trivial ?_
    obtain ⟨hmt12, hmf12⟩ := of_if hm
    refine MW_brF C okX11_inLowestTerms 8 rfl rfl (fun hb12 => ?_) (fun hb12 => ?_)
    · have hm := hmt12 hb12
      refine MW_run C okX11_inLowestTerms 9 1 (gs := []) (cf' := (17, [some (.int x0), some (.int x1), some (.int x2), some (.int x3), some (.int x4), some (.int x5), none], [.int x4], [], 0, 0)) rfl trivial ?_
      obtain ⟨hmt17, hmf17⟩ := of_if hm
      refine MW_brF C okX11_inLowestTerms 10 rfl rfl (fun hb17 => ?_) (fun hb17 => ?_)
      · have hm := hmt17 hb17
        obtain ⟨hg8, hm⟩ := of_guard hm
        refine MW_run C okX11_inLowestTerms 11 10 (gs := [¬ x4 = 0]) (cf' := (8, [some (.int x0), some (.int x1), some (.int x2), some (.int x4), some (.int (irm x3 x4)), some (.int (x5 + 1)), some (.int (irm x3 x4))], [], [], 0, 0)) rfl hg8 ?_
        refine MW_pick [true, true, true, true, true, true, false] rfl (vs' := [some (.int x0), some (.int x1), some (.int x2), some (.int x4), some (.int (irm x3 x4)), some (.int (x5 + 1)), none]) rfl ?_
        exact ih x0 x1 x2 x4 (irm x3 x4) (x5 + 1) _ hm hp
      · have hm := hmf17 hb17
        obtain rfl := Option.some.inj hm
        refine MW_pick [true, true, true, true, false, false, true] rfl (vs' := [some (.int x0), some (.int x1), some (.int x2), some (.int x3), none, none, none]) rfl ?_
        exact hp
    · have hm := hmf12 hb12
      obtain rfl := Option.some.inj hm
      refine MW_pick [true, true, true, true, false, false, true] rfl (vs' := [some (.int x0), some (.int x1), some (.int x2), some (.int x3), none, none, none]) rfl ?_
      exact hp
def so_inLowestTerms_J39 (x0 : Int32) (x1 : Int32) (x2 : Int32) (x3 : Int32) : Option (Int64) :=
  if x3 < 1 then
    some ((x2 : Int32).toInt64)
  else
    if x1 < 1 then
      some ((x2 : Int32).toInt64)
    else
      if x2 = 0 then
        if ¬ x3 = 0 then
          some (((x0 / x3) : Int32).toInt64)
        else none
      else
        if ¬ x3 = 0 then
          some (((x1 / x3) : Int32).toInt64)
        else none
set_option maxRecDepth 100000 in
set_option maxHeartbeats 1000000 in
theorem j_so_inLowestTerms_39 {X : CTX} {K : Option Value → AH → Prop} (C : CX X cX11_inLowestTerms yX11_inLowestTerms.cls (decide (yX11_inLowestTerms.name = "<init>")) 0 0) (hq : RQ X (some .long) K) (x0 : Int32) (x1 : Int32) (x2 : Int32) (x3 : Int32) (out : Int64) (hm : so_inLowestTerms_J39 x0 x1 x2 x3 = some out) (hp : K (some (.long out)) []) : MW X (39, [some (.int x0), some (.int x1), some (.int x2), some (.int x3), none, none, none], [], [], 0, 0) := by
  unfold so_inLowestTerms_J39 at hm
  refine MW_run C okX11_inLowestTerms 21 2 (gs := []) (cf' := (41, [some (.int x0), some (.int x1), some (.int x2), some (.int x3), none, none, none], [.int 1, .int x3], [], 0, 0)) rfl trivial ?_
  obtain ⟨hmt41, hmf41⟩ := of_if hm
  refine MW_brT C okX11_inLowestTerms 23 rfl rfl (fun hb41 => ?_) (fun hb41 => ?_)
  · have hm := hmt41 hb41
    refine MW_run C okX11_inLowestTerms 27 2 (gs := []) (cf' := (51, [some (.int x0), some (.int x1), some (.int x2), some (.int x3), none, none, none], [.long ((x2 : Int32).toInt64)], [], 0, 0)) rfl trivial ?_
    obtain rfl := Option.some.inj hm
    exact MW_lret C okX11_inLowestTerms hq 29 rfl hp
  · have hm := hmf41 hb41
    refine MW_run C okX11_inLowestTerms 24 2 (gs := []) (cf' := (46, [some (.int x0), some (.int x1), some (.int x2), some (.int x3), none, none, none], [.int 1, .int x1], [], 0, 0)) rfl trivial ?_
    obtain ⟨hmt46, hmf46⟩ := of_if hm
    refine MW_brF C okX11_inLowestTerms 26 rfl rfl (fun hb46 => ?_) (fun hb46 => ?_)
    · have hm := hmt46 hb46
      refine MW_run C okX11_inLowestTerms 27 2 (gs := []) (cf' := (51, [some (.int x0), some (.int x1), some (.int x2), some (.int x3), none, none, none], [.long ((x2 : Int32).toInt64)], [], 0, 0)) rfl trivial ?_
      obtain rfl := Option.some.inj hm
      exact MW_lret C okX11_inLowestTerms hq 29 rfl hp
    · have hm := hmf46 hb46
      refine MW_run C okX11_inLowestTerms 30 1 (gs := []) (cf' := (53, [some (.int x0), some (.int x1), some (.int x2), some (.int x3), none, none, none], [.int x2], [], 0, 0)) rfl trivial ?_
      obtain ⟨hmt53, hmf53⟩ := of_if hm
      refine MW_brF C okX11_inLowestTerms 31 rfl rfl (fun hb53 => ?_) (fun hb53 => ?_)
      · have hm := hmt53 hb53
        obtain ⟨hg67, hm⟩ := of_guard hm
        refine MW_run C okX11_inLowestTerms 32 5 (gs := [¬ x3 = 0]) (cf' := (67, [some (.int x0), some (.int x1), some (.int x2), some (.int x3), none, none, none], [.long (((x0 / x3) : Int32).toInt64)], [], 0, 0)) rfl hg67 ?_
        obtain rfl := Option.some.inj hm
        exact MW_lret C okX11_inLowestTerms hq 41 rfl hp
      · have hm := hmf53 hb53
        obtain ⟨hg67, hm⟩ := of_guard hm
        refine MW_run C okX11_inLowestTerms 37 4 (gs := [¬ x3 = 0]) (cf' := (67, [some (.int x0), some (.int x1), some (.int x2), some (.int x3), none, none, none], [.long (((x1 / x3) : Int32).toInt64)], [], 0, 0)) rfl hg67 ?_
        obtain rfl := Option.some.inj hm
        exact MW_lret C okX11_inLowestTerms hq 41 rfl hp
def so_inLowestTerms (x0 : Int32) (x1 : Int32) (x2 : Int32) : Option (Int64) :=
  (so_inLowestTerms_L8 N0 x0 x1 x2 x0 x1 0).bind fun q8 =>
    so_inLowestTerms_J39 x0 x1 x2 q8
set_option maxRecDepth 100000 in
set_option maxHeartbeats 1000000 in
theorem t_so_inLowestTerms {X : CTX} {K : Option Value → AH → Prop} (C : CX X cX11_inLowestTerms yX11_inLowestTerms.cls (decide (yX11_inLowestTerms.name = "<init>")) 0 0) (hq : RQ X (some .long) K) (x0 : Int32) (x1 : Int32) (x2 : Int32) (out : Int64) (hm : so_inLowestTerms x0 x1 x2 = some out) (hp : K (some (.long out)) []) : MW X (0, [some (.int x0), some (.int x1), some (.int x2), none, none, none, none], [], [], 0, 0) := by
  unfold so_inLowestTerms at hm
  refine MW_run C okX11_inLowestTerms 0 6 (gs := []) (cf' := (8, [some (.int x0), some (.int x1), some (.int x2), some (.int x0), some (.int x1), some (.int 0), none], [], [], 0, 0)) rfl trivial ?_
  obtain ⟨q8, hc8, hm⟩ := of_bind hm
  refine l_so_inLowestTerms_8 C hq N0 x0 x1 x2 x0 x1 0 q8 hc8 ?_
  exact j_so_inLowestTerms_39 C hq x0 x1 x2 q8 _ hm hp
theorem c_so_inLowestTerms (x0 : Int32) (x1 : Int32) (x2 : Int32) (out : Int64) (hm : so_inLowestTerms x0 x1 x2 = some out) : CT yX11_inLowestTerms cX11_inLowestTerms 7 (some .long) 0 0 0 0 [.int x0, .int x1, .int x2] [] (fun v h => v = (some (.long out)) ∧ h = []) :=
  CT_of (by decide +kernel) (vs0 := [some (.int x0), some (.int x1), some (.int x2), none, none, none, none]) rfl rfl (fun X C hq => t_so_inLowestTerms C hq x0 x1 x2 out hm ⟨rfl, rfl⟩)
/-! C: so_mean -/
def so_mean_L37 : Nat → SoS → Nat → Int32 → Int32 → Int32 → Int32 → Int32 → Int32 → Option (SoS × Int32 × Int32)
  | 0, _, _, _, _, _, _, _, _ => none
  | n + 1, s, yr, x1, x2, x3, x4, x5, x6 =>
    if x6 < x3 then
      (rw_ofRank x6 x1).bind fun q51 =>
        (so_leastSorted_y s yr q51 x1).bind fun q55 =>
          if (0 : Int32) < q55.1 then
            so_mean_L37 n q55.2 yr x1 x2 x3 (x4 + 1) (x5 + q55.1) (x6 + 1)
          else
            so_mean_L37 n q55.2 yr x1 x2 x3 x4 x5 (x6 + 1)
    else
      some (s, x4, x5)
set_option maxRecDepth 100000 in
set_option maxHeartbeats 1000000 in
theorem l_so_mean_37 {X : CTX} {K : Option Value → AH → Prop} (C : CX X cX11_mean yX11_mean.cls (decide (yX11_mean.name = "<init>")) 7 166) (hq : RQ X (some .long) K) : ∀ (n : Nat) (s : SoS) (yr : Nat) (x1 : Int32) (x2 : Int32) (x3 : Int32) (x4 : Int32) (x5 : Int32) (x6 : Int32) (out : SoS × Int32 × Int32) (hm : so_mean_L37 n s yr x1 x2 x3 x4 x5 x6 = some out) (hp : MW X (81, [none, none, some (.int x2), none, some (.int out.2.1), some (.int out.2.2), none, none], [], (hSo yr out.1), 0, 0)), MW X (37, [some (.ref 0), some (.int x1), some (.int x2), some (.int x3), some (.int x4), some (.int x5), some (.int x6), none], [], (hSo yr s), 0, 0) := by
  intro n
  induction n with
  | zero => intro s yr x1 x2 x3 x4 x5 x6 out hm hp; rw [so_mean_L37] at hm; cases hm
  | succ n ih =>
    intro s yr x1 x2 x3 x4 x5 x6 out hm hp
    rw [so_mean_L37] at hm
    refine MW_run C okX11_mean 22 2 (gs := []) (cf' := (40, [some (.ref 0), some (.int x1), some (.int x2), some (.int x3), some (.int x4), some (.int x5), some (.int x6), none], [.int x3, .int x6], (hSo yr s), 0, 0)) rfl trivial ?_
    obtain ⟨hmt40, hmf40⟩ := of_if hm
    refine MW_brF C okX11_mean 24 rfl rfl (fun hb40 => ?_) (fun hb40 => ?_)
    · have hm := hmt40 hb40
      refine MW_run C okX11_mean 25 5 (gs := []) (cf' := (51, [some (.ref 0), some (.int x1), some (.int x2), some (.int x3), some (.int x4), some (.int x5), some (.int x6), none], [.int x1, .int x6, .ref 3, .ref 0], (hSo yr s), 0, 0)) rfl trivial ?_
      obtain ⟨q51, hc51, hm⟩ := of_bind hm
      refine MW_callS0 C okX11_mean 30 rfl (v0 := some (.int q51)) (c_rw_ofRank x6 x1 q51 hc51) lkX11_166 2 dpX6_ofRank (by decide) (rest := [.ref 3, .ref 0]) rfl rfl rfl rfl rfl ?_
      refine MW_run C okX11_mean 31 1 (gs := []) (cf' := (55, [some (.ref 0), some (.int x1), some (.int x2), some (.int x3), some (.int x4), some (.int x5), some (.int x6), none], [.int x1, .int q51, .ref 3, .ref 0], (hSo yr s), 0, 0)) rfl trivial ?_
      obtain ⟨q55, hc55, hm⟩ := of_bind hm
      refine MW_callV0 C okX11_mean 32 rfl (v0 := some (.int q55.1)) (h0 := (hSo yr q55.2)) (c_so_leastSorted_y s yr q51 x1 q55 hc55) lkX11_173 3 dpX11_leastSorted (by decide) (rest := []) rfl rfl rfl rfl rfl rfl rfl rfl ?_
      refine MW_run C okX11_mean 33 2 (gs := []) (cf' := (62, [some (.ref 0), some (.int x1), some (.int x2), some (.int x3), some (.int x4), some (.int x5), some (.int x6), some (.int q55.1)], [.int q55.1], (hSo yr q55.2), 0, 0)) rfl trivial ?_
      obtain ⟨hmt62, hmf62⟩ := of_if hm
      refine MW_brF C okX11_mean 35 rfl rfl (fun hb62 => ?_) (fun hb62 => ?_)
      · have hm := hmt62 hb62
        refine MW_run C okX11_mean 36 5 (gs := []) (cf' := (75, [some (.ref 0), some (.int x1), some (.int x2), some (.int x3), some (.int (x4 + 1)), some (.int (x5 + q55.1)), some (.int x6), some (.int q55.1)], [], (hSo yr q55.2), 0, 0)) rfl trivial ?_
        refine MW_run C okX11_mean 41 2 (gs := []) (cf' := (37, [some (.ref 0), some (.int x1), some (.int x2), some (.int x3), some (.int (x4 + 1)), some (.int (x5 + q55.1)), some (.int (x6 + 1)), some (.int q55.1)], [], (hSo yr q55.2), 0, 0)) rfl trivial ?_
        refine MW_pick [true, true, true, true, true, true, true, false] rfl (vs' := [some (.ref 0), some (.int x1), some (.int x2), some (.int x3), some (.int (x4 + 1)), some (.int (x5 + q55.1)), some (.int (x6 + 1)), none]) rfl ?_
        exact ih q55.2 yr x1 x2 x3 (x4 + 1) (x5 + q55.1) (x6 + 1) _ hm hp
      · have hm := hmf62 hb62
        refine MW_run C okX11_mean 41 2 (gs := []) (cf' := (37, [some (.ref 0), some (.int x1), some (.int x2), some (.int x3), some (.int x4), some (.int x5), some (.int (x6 + 1)), some (.int q55.1)], [], (hSo yr q55.2), 0, 0)) rfl trivial ?_
        refine MW_pick [true, true, true, true, true, true, true, false] rfl (vs' := [some (.ref 0), some (.int x1), some (.int x2), some (.int x3), some (.int x4), some (.int x5), some (.int (x6 + 1)), none]) rfl ?_
        exact ih q55.2 yr x1 x2 x3 x4 x5 (x6 + 1) _ hm hp
    · have hm := hmf40 hb40
      obtain rfl := Option.some.inj hm
      refine MW_pick [false, false, true, false, true, true, false, true] rfl (vs' := [none, none, some (.int x2), none, some (.int x4), some (.int x5), none, none]) rfl ?_
      exact hp
def so_mean (s : SoS) (yr : Nat) (x1 : Int32) (x2 : Int32) : Option (Int64 × SoS) :=
  if x1 < 1 then
    some ((-1000000000000000002), s)
  else
    if (5 : Int32) < x1 then
      some ((-1000000000000000002), s)
    else
      if x2 < 0 then
        some ((-1000000000000000002), s)
      else
        if (1 : Int32) < x2 then
          some ((-1000000000000000002), s)
        else
          (rw_factorial x1).bind fun q24 =>
            (so_mean_L37 N0 s yr x1 x2 q24 0 0 0).bind fun q37 =>
              (so_inLowestTerms q37.2.2 q37.2.1 x2).bind fun q86 =>
                some (q86, q37.1)
set_option maxRecDepth 100000 in
set_option maxHeartbeats 1000000 in
theorem t_so_mean {X : CTX} {K : Option Value → AH → Prop} (C : CX X cX11_mean yX11_mean.cls (decide (yX11_mean.name = "<init>")) 7 166) (hq : RQ X (some .long) K) (s : SoS) (yr : Nat) (x1 : Int32) (x2 : Int32) (out : Int64 × SoS) (hm : so_mean s yr x1 x2 = some out) (hp : K (some (.long out.1)) (hSo yr out.2)) : MW X (0, [some (.ref 0), some (.int x1), some (.int x2), none, none, none, none, none], [], (hSo yr s), 0, 0) := by
  unfold so_mean at hm
  refine MW_run C okX11_mean 0 2 (gs := []) (cf' := (2, [some (.ref 0), some (.int x1), some (.int x2), none, none, none, none, none], [.int 1, .int x1], (hSo yr s), 0, 0)) rfl trivial ?_
  obtain ⟨hmt2, hmf2⟩ := of_if hm
  refine MW_brT C okX11_mean 2 rfl rfl (fun hb2 => ?_) (fun hb2 => ?_)
  · have hm := hmt2 hb2
    refine MW_run C okX11_mean 11 1 (gs := []) (cf' := (22, [some (.ref 0), some (.int x1), some (.int x2), none, none, none, none, none], [.long (-1000000000000000002)], (hSo yr s), 0, 0)) rfl trivial ?_
    obtain rfl := Option.some.inj hm
    exact MW_lret C okX11_mean hq 12 rfl hp
  · have hm := hmf2 hb2
    refine MW_run C okX11_mean 3 2 (gs := []) (cf' := (7, [some (.ref 0), some (.int x1), some (.int x2), none, none, none, none, none], [.int 5, .int x1], (hSo yr s), 0, 0)) rfl trivial ?_
    obtain ⟨hmt7, hmf7⟩ := of_if hm
    refine MW_brT C okX11_mean 5 rfl rfl (fun hb7 => ?_) (fun hb7 => ?_)
    · have hm := hmt7 hb7
      refine MW_run C okX11_mean 11 1 (gs := []) (cf' := (22, [some (.ref 0), some (.int x1), some (.int x2), none, none, none, none, none], [.long (-1000000000000000002)], (hSo yr s), 0, 0)) rfl trivial ?_
      obtain rfl := Option.some.inj hm
      exact MW_lret C okX11_mean hq 12 rfl hp
    · have hm := hmf7 hb7
      refine MW_run C okX11_mean 6 1 (gs := []) (cf' := (11, [some (.ref 0), some (.int x1), some (.int x2), none, none, none, none, none], [.int x2], (hSo yr s), 0, 0)) rfl trivial ?_
      obtain ⟨hmt11, hmf11⟩ := of_if hm
      refine MW_brT C okX11_mean 7 rfl rfl (fun hb11 => ?_) (fun hb11 => ?_)
      · have hm := hmt11 hb11
        refine MW_run C okX11_mean 11 1 (gs := []) (cf' := (22, [some (.ref 0), some (.int x1), some (.int x2), none, none, none, none, none], [.long (-1000000000000000002)], (hSo yr s), 0, 0)) rfl trivial ?_
        obtain rfl := Option.some.inj hm
        exact MW_lret C okX11_mean hq 12 rfl hp
      · have hm := hmf11 hb11
        refine MW_run C okX11_mean 8 2 (gs := []) (cf' := (16, [some (.ref 0), some (.int x1), some (.int x2), none, none, none, none, none], [.int 1, .int x2], (hSo yr s), 0, 0)) rfl trivial ?_
        obtain ⟨hmt16, hmf16⟩ := of_if hm
        refine MW_brF C okX11_mean 10 rfl rfl (fun hb16 => ?_) (fun hb16 => ?_)
        · have hm := hmt16 hb16
          refine MW_run C okX11_mean 11 1 (gs := []) (cf' := (22, [some (.ref 0), some (.int x1), some (.int x2), none, none, none, none, none], [.long (-1000000000000000002)], (hSo yr s), 0, 0)) rfl trivial ?_
          obtain rfl := Option.some.inj hm
          exact MW_lret C okX11_mean hq 12 rfl hp
        · have hm := hmf16 hb16
          refine MW_run C okX11_mean 13 1 (gs := []) (cf' := (24, [some (.ref 0), some (.int x1), some (.int x2), none, none, none, none, none], [.int x1], (hSo yr s), 0, 0)) rfl trivial ?_
          obtain ⟨q24, hc24, hm⟩ := of_bind hm
          refine MW_callS0 C okX11_mean 14 rfl (v0 := some (.int q24)) (c_rw_factorial x1 q24 hc24) lkX11_163 1 dpX6_factorial (by decide) (rest := []) rfl rfl rfl rfl rfl ?_
          refine MW_run C okX11_mean 15 7 (gs := []) (cf' := (37, [some (.ref 0), some (.int x1), some (.int x2), some (.int q24), some (.int 0), some (.int 0), some (.int 0), none], [], (hSo yr s), 0, 0)) rfl trivial ?_
          obtain ⟨q37, hc37, hm⟩ := of_bind hm
          refine l_so_mean_37 C hq N0 s yr x1 x2 q24 0 0 0 q37 hc37 ?_
          refine MW_run C okX11_mean 43 3 (gs := []) (cf' := (86, [none, none, some (.int x2), none, some (.int q37.2.1), some (.int q37.2.2), none, none], [.int x2, .int q37.2.1, .int q37.2.2], (hSo yr q37.1), 0, 0)) rfl trivial ?_
          obtain ⟨q86, hc86, hm⟩ := of_bind hm
          refine MW_callS0 C okX11_mean 46 rfl (v0 := some (.long q86)) (c_so_inLowestTerms q37.2.2 q37.2.1 x2 q86 hc86) lkX11_179 3 dpX11_inLowestTerms (by decide) (rest := []) rfl rfl rfl rfl rfl ?_
          obtain rfl := Option.some.inj hm
          exact MW_lret C okX11_mean hq 47 rfl hp
theorem c_so_mean (s : SoS) (yr : Nat) (x1 : Int32) (x2 : Int32) (out : Int64 × SoS) (hm : so_mean s yr x1 x2 = some out) : CT yX11_mean cX11_mean 8 (some .long) 7 166 0 0 [.ref 0, .int x1, .int x2] (hSo yr s) (fun v h => v = (some (.long out.1)) ∧ h = (hSo yr out.2)) :=
  CT_of (by decide +kernel) (vs0 := [some (.ref 0), some (.int x1), some (.int x2), none, none, none, none, none]) rfl rfl (fun X C hq => t_so_mean C hq s yr x1 x2 out hm ⟨rfl, rfl⟩)
/-! C: so_need -/
def so_need_J98 (s : SoS) (yr : Nat) (x2 : Int32) : Option (Int32 × SoS × Nat) :=
  if x2 = (-1) then
    some (s.2.2.2.2.2.2.2.2.1.2.1, s, yr)
  else
    (yd_lengthAt s.2.2.2.2.2.2.2.2.1.2.2 x2).bind fun q121 =>
      some (q121, s, yr)
set_option maxRecDepth 100000 in
set_option maxHeartbeats 1000000 in
theorem j_so_need_98 {X : CTX} {K : Option Value → AH → Prop} (C : CX X cX11_need yX11_need.cls (decide (yX11_need.name = "<init>")) 30 789) (hq : RQ X (some .int) K) (s : SoS) (yr : Nat) (x2 : Int32) (out : Int32 × SoS × Nat) (hm : so_need_J98 s yr x2 = some out) (hp : K (some (.int out.1)) (hSo out.2.2 out.2.1)) : MW X (98, [some (.ref 0), none, some (.int x2), none, none], [], (hSo yr s), 0, 0) := by
  unfold so_need_J98 at hm
  refine MW_run C okX11_need 51 2 (gs := []) (cf' := (100, [some (.ref 0), none, some (.int x2), none, none], [.int (-1), .int x2], (hSo yr s), 0, 0)) rfl trivial ?_
  obtain ⟨hmt100, hmf100⟩ := of_if hm
  refine MW_brF C okX11_need 53 rfl rfl (fun hb100 => ?_) (fun hb100 => ?_)
  · have hm := hmt100 hb100
    refine MW_run C okX11_need 54 4 (gs := []) (cf' := (124, [some (.ref 0), none, some (.int x2), none, none], [.int s.2.2.2.2.2.2.2.2.1.2.1], (hSo yr s), 0, 0)) rfl trivial ?_
    obtain rfl := Option.some.inj hm
    exact MW_iret C okX11_need hq 63 rfl hp
  · have hm := hmf100 hb100
    refine MW_run C okX11_need 58 4 (gs := []) (cf' := (121, [some (.ref 0), none, some (.int x2), none, none], [.int x2, .ref 80], (hSo yr s), 0, 0)) rfl trivial ?_
    obtain ⟨q121, hc121, hm⟩ := of_bind hm
    refine MW_callV1 C okX11_need 62 rfl [80, 81, 82, 83, 84, 85, 86, 87] (v0 := some (.int q121)) (h0 := (hYd 0 s.2.2.2.2.2.2.2.2.1.2.2)) (c_yd_lengthAt s.2.2.2.2.2.2.2.2.1.2.2 x2 q121 hc121) lkX11_108 1 dpX10_lengthAt (by decide) (rest := []) rfl rfl rfl rfl rfl rfl rfl rfl rfl rfl rfl (st2 := [.int q121]) (h2 := (hSo yr s)) rfl rfl ?_
    obtain rfl := Option.some.inj hm
    exact MW_iret C okX11_need hq 63 rfl hp
def so_need (s : SoS) (yr : Nat) (x1 : Int32) (x2 : Int32) : Option (Int32 × SoS × Nat) :=
  if x2 < (-1) then
    some ((-1), s, yr)
  else
    if x2 < s.2.1.1 then
      (rw_wagons x1).bind fun q19 =>
        if q19 = 0 then
          some ((-2), s, yr)
        else
          (rw_ofNumber x1).bind fun q31 =>
            (so_leastSorted_y s yr q31 q19).bind fun q44 =>
              if q44.1 = 0 then
                some ((-5), q44.2, yr)
              else
                if q44.2.2.2.2.2.2.2.2.2.1.1 = x1 then
                  so_need_J98 q44.2 yr x2
                else
                  (rw_upTo q19).bind fun q80 =>
                    (rw_relative q31 q80 q19).bind fun q84 =>
                      (nd_find q44.2.2.2.2.2.2.2.2.2.1 q44.2.2.1 q44.2.2.2.2.2.2.2.2.1 22 q19 q84).bind fun q87 =>
                        so_need_J98 (q44.2.1, q44.2.2.1, q44.2.2.2.1, q44.2.2.2.2.1, q44.2.2.2.2.2.1, q44.2.2.2.2.2.2.1, q44.2.2.2.2.2.2.2.1, q87.2.1, (x1, q87.1.2.1, q87.1.2.2), q44.2.2.2.2.2.2.2.2.2.2) (rnF [79, 80, 81, 82, 83, 84, 85, 86, 87, 3, 4, 5, 6, 7, 8, 9, 10, 74, 75, 76, 77, 78, yr] 92 q87.2.2) x2
    else
      some ((-1), s, yr)
set_option maxRecDepth 100000 in
set_option maxHeartbeats 1000000 in
theorem t_so_need {X : CTX} {K : Option Value → AH → Prop} (C : CX X cX11_need yX11_need.cls (decide (yX11_need.name = "<init>")) 30 789) (hq : RQ X (some .int) K) (s : SoS) (yr : Nat) (x1 : Int32) (x2 : Int32) (out : Int32 × SoS × Nat) (hm : so_need s yr x1 x2 = some out) (hp : K (some (.int out.1)) (hSo out.2.2 out.2.1)) : MW X (0, [some (.ref 0), some (.int x1), some (.int x2), none, none], [], (hSo yr s), 0, 0) := by
  unfold so_need at hm
  refine MW_run C okX11_need 0 2 (gs := []) (cf' := (2, [some (.ref 0), some (.int x1), some (.int x2), none, none], [.int (-1), .int x2], (hSo yr s), 0, 0)) rfl trivial ?_
  obtain ⟨hmt2, hmf2⟩ := of_if hm
  refine MW_brT C okX11_need 2 rfl rfl (fun hb2 => ?_) (fun hb2 => ?_)
  · have hm := hmt2 hb2
    refine MW_run C okX11_need 8 1 (gs := []) (cf' := (17, [some (.ref 0), some (.int x1), some (.int x2), none, none], [.int (-1)], (hSo yr s), 0, 0)) rfl trivial ?_
    obtain rfl := Option.some.inj hm
    exact MW_iret C okX11_need hq 9 rfl hp
  · have hm := hmf2 hb2
    refine MW_run C okX11_need 3 4 (gs := []) (cf' := (13, [some (.ref 0), some (.int x1), some (.int x2), none, none], [.int s.2.1.1, .int x2], (hSo yr s), 0, 0)) rfl trivial ?_
    obtain ⟨hmt13, hmf13⟩ := of_if hm
    refine MW_brT C okX11_need 7 rfl rfl (fun hb13 => ?_) (fun hb13 => ?_)
    · have hm := hmt13 hb13
      refine MW_run C okX11_need 10 1 (gs := []) (cf' := (19, [some (.ref 0), some (.int x1), some (.int x2), none, none], [.int x1], (hSo yr s), 0, 0)) rfl trivial ?_
      obtain ⟨q19, hc19, hm⟩ := of_bind hm
      refine MW_callS0 C okX11_need 11 rfl (v0 := some (.int q19)) (c_rw_wagons x1 q19 hc19) lkX11_129 1 dpX6_wagons (by decide) (rest := []) rfl rfl rfl rfl rfl ?_
      refine MW_run C okX11_need 12 2 (gs := []) (cf' := (24, [some (.ref 0), some (.int x1), some (.int x2), some (.int q19), none], [.int q19], (hSo yr s), 0, 0)) rfl trivial ?_
      obtain ⟨hmt24, hmf24⟩ := of_if hm
      refine MW_brF C okX11_need 14 rfl rfl (fun hb24 => ?_) (fun hb24 => ?_)
      · have hm := hmt24 hb24
        refine MW_run C okX11_need 15 1 (gs := []) (cf' := (29, [some (.ref 0), some (.int x1), some (.int x2), some (.int q19), none], [.int (-2)], (hSo yr s), 0, 0)) rfl trivial ?_
        obtain rfl := Option.some.inj hm
        exact MW_iret C okX11_need hq 16 rfl hp
      · have hm := hmf24 hb24
        refine MW_run C okX11_need 17 1 (gs := []) (cf' := (31, [some (.ref 0), some (.int x1), some (.int x2), some (.int q19), none], [.int x1], (hSo yr s), 0, 0)) rfl trivial ?_
        obtain ⟨q31, hc31, hm⟩ := of_bind hm
        refine MW_callS0 C okX11_need 18 rfl (v0 := some (.int q31)) (c_rw_ofNumber x1 q31 hc31) lkX11_124 1 dpX6_ofNumber (by decide) (rest := []) rfl rfl rfl rfl rfl ?_
        refine MW_run C okX11_need 19 6 (gs := []) (cf' := (44, [some (.ref 0), some (.int x1), some (.int x2), some (.int q19), some (.int q31)], [.int q19, .int q31, .ref 3, .ref 0], (hSo yr s), 0, 0)) rfl trivial ?_
        obtain ⟨q44, hc44, hm⟩ := of_bind hm
        refine MW_callV0 C okX11_need 25 rfl (v0 := some (.int q44.1)) (h0 := (hSo yr q44.2)) (c_so_leastSorted_y s yr q31 q19 q44 hc44) lkX11_173 3 dpX11_leastSorted (by decide) (rest := []) rfl rfl rfl rfl rfl rfl rfl rfl ?_
        obtain ⟨hmt47, hmf47⟩ := of_if hm
        refine MW_brF C okX11_need 26 rfl rfl (fun hb47 => ?_) (fun hb47 => ?_)
        · have hm := hmt47 hb47
          refine MW_run C okX11_need 27 1 (gs := []) (cf' := (52, [some (.ref 0), some (.int x1), some (.int x2), some (.int q19), some (.int q31)], [.int (-5)], (hSo yr q44.2), 0, 0)) rfl trivial ?_
          obtain rfl := Option.some.inj hm
          exact MW_iret C okX11_need hq 28 rfl hp
        · have hm := hmf47 hb47
          refine MW_run C okX11_need 29 4 (gs := []) (cf' := (61, [some (.ref 0), some (.int x1), some (.int x2), some (.int q19), some (.int q31)], [.int x1, .int q44.2.2.2.2.2.2.2.2.2.1.1], (hSo yr q44.2), 0, 0)) rfl trivial ?_
          obtain ⟨hmt61, hmf61⟩ := of_if hm
          refine MW_brT C okX11_need 33 rfl rfl (fun hb61 => ?_) (fun hb61 => ?_)
          · have hm := hmt61 hb61
            refine MW_pick [true, false, true, false, false] rfl (vs' := [some (.ref 0), none, some (.int x2), none, none]) rfl ?_
            exact j_so_need_98 C hq q44.2 yr x2 _ hm hp
          · have hm := hmf61 hb61
            refine MW_run C okX11_need 34 9 (gs := []) (cf' := (80, [some (.ref 0), some (.int x1), some (.int x2), some (.int q19), some (.int q31)], [.int q19, .int q31, .int q19, .ref 74, .ref 3, .ref 79], (hSo yr q44.2), 0, 0)) rfl trivial ?_
            obtain ⟨q80, hc80, hm⟩ := of_bind hm
            refine MW_callS0 C okX11_need 43 rfl (v0 := some (.int q80)) (c_rw_upTo q19 q80 hc80) lkX11_186 1 dpX6_upTo (by decide) (rest := [.int q31, .int q19, .ref 74, .ref 3, .ref 79]) rfl rfl rfl rfl rfl ?_
            refine MW_run C okX11_need 44 1 (gs := []) (cf' := (84, [some (.ref 0), some (.int x1), some (.int x2), some (.int q19), some (.int q31)], [.int q19, .int q80, .int q31, .int q19, .ref 74, .ref 3, .ref 79], (hSo yr q44.2), 0, 0)) rfl trivial ?_
            obtain ⟨q84, hc84, hm⟩ := of_bind hm
            refine MW_callS0 C okX11_need 45 rfl (v0 := some (.int q84)) (c_rw_relative q31 q80 q19 q84 hc84) lkX11_146 3 dpX6_relative (by decide) (rest := [.int q19, .ref 74, .ref 3, .ref 79]) rfl rfl rfl rfl rfl ?_
            obtain ⟨q87, hc87, hm⟩ := of_bind hm
            refine MW_callV1 C okX11_need 46 rfl [79, 80, 81, 82, 83, 84, 85, 86, 87, 3, 4, 5, 6, 7, 8, 9, 10, 74, 75, 76, 77, 78, yr] (v0 := none) (h0 := (hNd 0 q87.1 ++ (hYd 9 q44.2.2.1 ++ (hSe 17 q87.2.2 q87.2.1)))) (c_nd_find q44.2.2.2.2.2.2.2.2.2.1 q44.2.2.1 q44.2.2.2.2.2.2.2.2.1 22 q19 q84 q87 hc87) lkX11_189 4 dpX1_find (by decide) (rest := []) rfl rfl rfl rfl rfl rfl rfl rfl rfl rfl rfl (st2 := []) (h2 := (hSo (rnF [79, 80, 81, 82, 83, 84, 85, 86, 87, 3, 4, 5, 6, 7, 8, 9, 10, 74, 75, 76, 77, 78, yr] 92 q87.2.2) (q44.2.1, q44.2.2.1, q44.2.2.2.1, q44.2.2.2.2.1, q44.2.2.2.2.2.1, q44.2.2.2.2.2.2.1, q44.2.2.2.2.2.2.2.1, q87.2.1, q87.1, q44.2.2.2.2.2.2.2.2.2.2))) rfl rfl ?_
            refine MW_run C okX11_need 47 4 (gs := []) (cf' := (98, [some (.ref 0), some (.int x1), some (.int x2), some (.int q19), some (.int q31)], [], (hSo (rnF [79, 80, 81, 82, 83, 84, 85, 86, 87, 3, 4, 5, 6, 7, 8, 9, 10, 74, 75, 76, 77, 78, yr] 92 q87.2.2) (q44.2.1, q44.2.2.1, q44.2.2.2.1, q44.2.2.2.2.1, q44.2.2.2.2.2.1, q44.2.2.2.2.2.2.1, q44.2.2.2.2.2.2.2.1, q87.2.1, (x1, q87.1.2.1, q87.1.2.2), q44.2.2.2.2.2.2.2.2.2.2)), 0, 0)) rfl trivial ?_
            refine MW_pick [true, false, true, false, false] rfl (vs' := [some (.ref 0), none, some (.int x2), none, none]) rfl ?_
            exact j_so_need_98 C hq (q44.2.1, q44.2.2.1, q44.2.2.2.1, q44.2.2.2.2.1, q44.2.2.2.2.2.1, q44.2.2.2.2.2.2.1, q44.2.2.2.2.2.2.2.1, q87.2.1, (x1, q87.1.2.1, q87.1.2.2), q44.2.2.2.2.2.2.2.2.2.2) (rnF [79, 80, 81, 82, 83, 84, 85, 86, 87, 3, 4, 5, 6, 7, 8, 9, 10, 74, 75, 76, 77, 78, yr] 92 q87.2.2) x2 _ hm hp
    · have hm := hmf13 hb13
      refine MW_run C okX11_need 8 1 (gs := []) (cf' := (17, [some (.ref 0), some (.int x1), some (.int x2), none, none], [.int (-1)], (hSo yr s), 0, 0)) rfl trivial ?_
      obtain rfl := Option.some.inj hm
      exact MW_iret C okX11_need hq 9 rfl hp
theorem c_so_need (s : SoS) (yr : Nat) (x1 : Int32) (x2 : Int32) (out : Int32 × SoS × Nat) (hm : so_need s yr x1 x2 = some out) : CT yX11_need cX11_need 5 (some .int) 30 789 0 0 [.ref 0, .int x1, .int x2] (hSo yr s) (fun v h => v = (some (.int out.1)) ∧ h = (hSo out.2.2 out.2.1)) :=
  CT_of (by decide +kernel) (vs0 := [some (.ref 0), some (.int x1), some (.int x2), none, none]) rfl rfl (fun X C hq => t_so_need C hq s yr x1 x2 out hm ⟨rfl, rfl⟩)
/-! C: so_keep -/
def so_keep (s : SoS) (yr : Nat) : Option (Int32 × SoS) :=
  (yd_copyFrom s.2.2.1 s.2.1).bind fun q8 =>
    some (q8.1, (s.1, s.2.1, q8, s.2.2.2.1, s.2.2.2.2.1, s.2.2.2.2.2.1, s.2.2.2.2.2.2.1, s.2.2.2.2.2.2.2.1, s.2.2.2.2.2.2.2.2.1, s.2.2.2.2.2.2.2.2.2))
set_option maxRecDepth 100000 in
set_option maxHeartbeats 1000000 in
theorem t_so_keep {X : CTX} {K : Option Value → AH → Prop} (C : CX X cX11_keep yX11_keep.cls (decide (yX11_keep.name = "<init>")) 4 90) (hq : RQ X (some .int) K) (s : SoS) (yr : Nat) (out : Int32 × SoS) (hm : so_keep s yr = some out) (hp : K (some (.int out.1)) (hSo yr out.2)) : MW X (0, [some (.ref 0)], [], (hSo yr s), 0, 0) := by
  unfold so_keep at hm
  refine MW_run C okX11_keep 0 4 (gs := []) (cf' := (8, [some (.ref 0)], [.ref 3, .ref 11], (hSo yr s), 0, 0)) rfl trivial ?_
  obtain ⟨q8, hc8, hm⟩ := of_bind hm
  refine MW_callV1 C okX11_keep 4 rfl [11, 12, 13, 14, 15, 16, 17, 18, 3, 4, 5, 6, 7, 8, 9, 10] (v0 := none) (h0 := (hYd 0 q8 ++ (hYd 8 s.2.1))) (c_yd_copyFrom s.2.2.1 s.2.1 q8 hc8) lkX11_83 1 dpX10_copyFrom (by decide) (rest := []) rfl rfl rfl rfl rfl rfl rfl rfl rfl rfl rfl (st2 := []) (h2 := (hSo yr (s.1, s.2.1, q8, s.2.2.2.1, s.2.2.2.2.1, s.2.2.2.2.2.1, s.2.2.2.2.2.2.1, s.2.2.2.2.2.2.2.1, s.2.2.2.2.2.2.2.2.1, s.2.2.2.2.2.2.2.2.2))) rfl rfl ?_
  refine MW_run C okX11_keep 5 3 (gs := []) (cf' := (18, [some (.ref 0)], [.int q8.1], (hSo yr (s.1, s.2.1, q8, s.2.2.2.1, s.2.2.2.2.1, s.2.2.2.2.2.1, s.2.2.2.2.2.2.1, s.2.2.2.2.2.2.2.1, s.2.2.2.2.2.2.2.2.1, s.2.2.2.2.2.2.2.2.2)), 0, 0)) rfl trivial ?_
  obtain rfl := Option.some.inj hm
  exact MW_iret C okX11_keep hq 8 rfl hp
theorem c_so_keep (s : SoS) (yr : Nat) (out : Int32 × SoS) (hm : so_keep s yr = some out) : CT yX11_keep cX11_keep 1 (some .int) 4 90 0 0 [.ref 0] (hSo yr s) (fun v h => v = (some (.int out.1)) ∧ h = (hSo yr out.2)) :=
  CT_of (by decide +kernel) (vs0 := [some (.ref 0)]) rfl rfl (fun X C hq => t_so_keep C hq s yr out hm ⟨rfl, rfl⟩)
/-! C: so_unlike -/
def so_unlike_J72 (k : SoS → Nat → Int32 → Int32 → Int32 → Option ((SoS) ⊕ (Int32 × SoS))) (s : SoS) (yr : Nat) (x1 : Int32) (x2 : Int32) (x3 : Int32) (x4 : Int32) (x5 : Int32) (w0 : Int32) : Option ((SoS) ⊕ (Int32 × SoS)) :=
  if x5 = w0 then
    k s yr x1 x2 (x3 + 1)
  else
    (rw_toNumber x4).bind fun q83 =>
      some (.inr (q83, s))
set_option maxRecDepth 100000 in
set_option maxHeartbeats 1000000 in
theorem j_so_unlike_72 {X : CTX} {K : Option Value → AH → Prop} (C : CX X cX11_unlike yX11_unlike.cls (decide (yX11_unlike.name = "<init>")) 7 166) (hq : RQ X (some .int) K) (k : SoS → Nat → Int32 → Int32 → Int32 → Option ((SoS) ⊕ (Int32 × SoS))) (hk : ∀ (s : SoS) (yr : Nat) (x1 : Int32) (x2 : Int32) (x3 : Int32) (out : (SoS) ⊕ (Int32 × SoS)), k s yr x1 x2 x3 = some out → Sum.elim (fun e => MW X (93, [none, none, none, none, none, none, none], [], (hSo yr e), 0, 0)) (fun r => K (some (.int r.1)) (hSo yr r.2)) out → MW X (20, [some (.ref 0), some (.int x1), some (.int x2), some (.int x3), none, none, none], [], (hSo yr s), 0, 0)) (s : SoS) (yr : Nat) (x1 : Int32) (x2 : Int32) (x3 : Int32) (x4 : Int32) (x5 : Int32) (w0 : Int32) (out : (SoS) ⊕ (Int32 × SoS)) (hm : so_unlike_J72 k s yr x1 x2 x3 x4 x5 w0 = some out) (hp : Sum.elim (fun e => MW X (93, [none, none, none, none, none, none, none], [], (hSo yr e), 0, 0)) (fun r => K (some (.int r.1)) (hSo yr r.2)) out) : MW X (72, [some (.ref 0), some (.int x1), some (.int x2), some (.int x3), some (.int x4), some (.int x5), none], [.int w0], (hSo yr s), 0, 0) := by
  unfold so_unlike_J72 at hm
  refine MW_run C okX11_unlike 41 3 (gs := []) (cf' := (78, [some (.ref 0), some (.int x1), some (.int x2), some (.int x3), some (.int x4), some (.int x5), some (.int w0)], [.int w0, .int x5], (hSo yr s), 0, 0)) rfl trivial ?_
  obtain ⟨hmt78, hmf78⟩ := of_if hm
  refine MW_brT C okX11_unlike 44 rfl rfl (fun hb78 => ?_) (fun hb78 => ?_)
  · have hm := hmt78 hb78
    refine MW_run C okX11_unlike 48 2 (gs := []) (cf' := (20, [some (.ref 0), some (.int x1), some (.int x2), some (.int (x3 + 1)), some (.int x4), some (.int x5), some (.int w0)], [], (hSo yr s), 0, 0)) rfl trivial ?_
    refine MW_pick [true, true, true, true, false, false, false] rfl (vs' := [some (.ref 0), some (.int x1), some (.int x2), some (.int (x3 + 1)), none, none, none]) rfl ?_
    exact hk s yr x1 x2 (x3 + 1) _ hm hp
  · have hm := hmf78 hb78
    refine MW_run C okX11_unlike 45 1 (gs := []) (cf' := (83, [some (.ref 0), some (.int x1), some (.int x2), some (.int x3), some (.int x4), some (.int x5), some (.int w0)], [.int x4], (hSo yr s), 0, 0)) rfl trivial ?_
    obtain ⟨q83, hc83, hm⟩ := of_bind hm
    refine MW_callS0 C okX11_unlike 46 rfl (v0 := some (.int q83)) (c_rw_toNumber x4 q83 hc83) lkX11_170 1 dpX6_toNumber (by decide) (rest := []) rfl rfl rfl rfl rfl ?_
    obtain rfl := Option.some.inj hm
    exact MW_iret C okX11_unlike hq 47 rfl hp
def so_unlike_J51 (k : SoS → Nat → Int32 → Int32 → Int32 → Option ((SoS) ⊕ (Int32 × SoS))) (s : SoS) (yr : Nat) (x1 : Int32) (x2 : Int32) (x3 : Int32) (x4 : Int32) (w0 : Int32) : Option ((SoS) ⊕ (Int32 × SoS)) :=
  (so_leastSorted_o s yr x4 x1).bind fun q61 =>
    if (0 : Int32) < q61.1 then
      so_unlike_J72 (k) q61.2 yr x1 x2 x3 x4 w0 1
    else
      so_unlike_J72 (k) q61.2 yr x1 x2 x3 x4 w0 0
set_option maxRecDepth 100000 in
set_option maxHeartbeats 1000000 in
theorem j_so_unlike_51 {X : CTX} {K : Option Value → AH → Prop} (C : CX X cX11_unlike yX11_unlike.cls (decide (yX11_unlike.name = "<init>")) 7 166) (hq : RQ X (some .int) K) (k : SoS → Nat → Int32 → Int32 → Int32 → Option ((SoS) ⊕ (Int32 × SoS))) (hk : ∀ (s : SoS) (yr : Nat) (x1 : Int32) (x2 : Int32) (x3 : Int32) (out : (SoS) ⊕ (Int32 × SoS)), k s yr x1 x2 x3 = some out → Sum.elim (fun e => MW X (93, [none, none, none, none, none, none, none], [], (hSo yr e), 0, 0)) (fun r => K (some (.int r.1)) (hSo yr r.2)) out → MW X (20, [some (.ref 0), some (.int x1), some (.int x2), some (.int x3), none, none, none], [], (hSo yr s), 0, 0)) (s : SoS) (yr : Nat) (x1 : Int32) (x2 : Int32) (x3 : Int32) (x4 : Int32) (w0 : Int32) (out : (SoS) ⊕ (Int32 × SoS)) (hm : so_unlike_J51 k s yr x1 x2 x3 x4 w0 = some out) (hp : Sum.elim (fun e => MW X (93, [none, none, none, none, none, none, none], [], (hSo yr e), 0, 0)) (fun r => K (some (.int r.1)) (hSo yr r.2)) out) : MW X (51, [some (.ref 0), some (.int x1), some (.int x2), some (.int x3), some (.int x4), none, none], [.int w0], (hSo yr s), 0, 0) := by
  unfold so_unlike_J51 at hm
  refine MW_run C okX11_unlike 30 6 (gs := []) (cf' := (61, [some (.ref 0), some (.int x1), some (.int x2), some (.int x3), some (.int x4), some (.int w0), none], [.int x1, .int x4, .ref 11, .ref 0], (hSo yr s), 0, 0)) rfl trivial ?_
  obtain ⟨q61, hc61, hm⟩ := of_bind hm
  refine MW_callV0 C okX11_unlike 36 rfl (v0 := some (.int q61.1)) (h0 := (hSo yr q61.2)) (c_so_leastSorted_o s yr x4 x1 q61 hc61) lkX11_173 3 dpX11_leastSorted (by decide) (rest := []) rfl rfl rfl rfl rfl rfl rfl rfl ?_
  obtain ⟨hmt64, hmf64⟩ := of_if hm
  refine MW_brF C okX11_unlike 37 rfl rfl (fun hb64 => ?_) (fun hb64 => ?_)
  · have hm := hmt64 hb64
    refine MW_run C okX11_unlike 38 2 (gs := []) (cf' := (72, [some (.ref 0), some (.int x1), some (.int x2), some (.int x3), some (.int x4), some (.int w0), none], [.int 1], (hSo yr q61.2), 0, 0)) rfl trivial ?_
    exact j_so_unlike_72 C hq (k) hk q61.2 yr x1 x2 x3 x4 w0 1 _ hm hp
  · have hm := hmf64 hb64
    refine MW_run C okX11_unlike 40 1 (gs := []) (cf' := (72, [some (.ref 0), some (.int x1), some (.int x2), some (.int x3), some (.int x4), some (.int w0), none], [.int 0], (hSo yr q61.2), 0, 0)) rfl trivial ?_
    exact j_so_unlike_72 C hq (k) hk q61.2 yr x1 x2 x3 x4 w0 0 _ hm hp
def so_unlike_L20 : Nat → SoS → Nat → Int32 → Int32 → Int32 → Option ((SoS) ⊕ (Int32 × SoS))
  | 0, _, _, _, _, _ => none
  | n + 1, s, yr, x1, x2, x3 =>
    if x3 < x2 then
      (rw_ofRank x3 x1).bind fun q27 =>
        (so_leastSorted_y s yr q27 x1).bind fun q40 =>
          if (0 : Int32) < q40.1 then
            so_unlike_J51 (so_unlike_L20 n) q40.2 yr x1 x2 x3 q27 1
          else
            so_unlike_J51 (so_unlike_L20 n) q40.2 yr x1 x2 x3 q27 0
    else
      some (.inl s)
set_option maxRecDepth 100000 in
set_option maxHeartbeats 1000000 in
theorem l_so_unlike_20 {X : CTX} {K : Option Value → AH → Prop} (C : CX X cX11_unlike yX11_unlike.cls (decide (yX11_unlike.name = "<init>")) 7 166) (hq : RQ X (some .int) K) : ∀ (n : Nat) (s : SoS) (yr : Nat) (x1 : Int32) (x2 : Int32) (x3 : Int32) (out : (SoS) ⊕ (Int32 × SoS)) (hm : so_unlike_L20 n s yr x1 x2 x3 = some out) (hp : Sum.elim (fun e => MW X (93, [none, none, none, none, none, none, none], [], (hSo yr e), 0, 0)) (fun r => K (some (.int r.1)) (hSo yr r.2)) out), MW X (20, [some (.ref 0), some (.int x1), some (.int x2), some (.int x3), none, none, none], [], (hSo yr s), 0, 0) := by
  intro n
  induction n with
  | zero => intro s yr x1 x2 x3 out hm hp; rw [so_unlike_L20] at hm; cases hm
  | succ n ih =>
    intro s yr x1 x2 x3 out hm hp
    rw [so_unlike_L20] at hm
    refine MW_run C okX11_unlike 13 2 (gs := []) (cf' := (22, [some (.ref 0), some (.int x1), some (.int x2), some (.int x3), none, none, none], [.int x2, .int x3], (hSo yr s), 0, 0)) rfl trivial ?_
    obtain ⟨hmt22, hmf22⟩ := of_if hm
    refine MW_brF C okX11_unlike 15 rfl rfl (fun hb22 => ?_) (fun hb22 => ?_)
    · have hm := hmt22 hb22
      refine MW_run C okX11_unlike 16 2 (gs := []) (cf' := (27, [some (.ref 0), some (.int x1), some (.int x2), some (.int x3), none, none, none], [.int x1, .int x3], (hSo yr s), 0, 0)) rfl trivial ?_
      obtain ⟨q27, hc27, hm⟩ := of_bind hm
      refine MW_callS0 C okX11_unlike 18 rfl (v0 := some (.int q27)) (c_rw_ofRank x3 x1 q27 hc27) lkX11_166 2 dpX6_ofRank (by decide) (rest := []) rfl rfl rfl rfl rfl ?_
      refine MW_run C okX11_unlike 19 6 (gs := []) (cf' := (40, [some (.ref 0), some (.int x1), some (.int x2), some (.int x3), some (.int q27), none, none], [.int x1, .int q27, .ref 3, .ref 0], (hSo yr s), 0, 0)) rfl trivial ?_
      obtain ⟨q40, hc40, hm⟩ := of_bind hm
      refine MW_callV0 C okX11_unlike 25 rfl (v0 := some (.int q40.1)) (h0 := (hSo yr q40.2)) (c_so_leastSorted_y s yr q27 x1 q40 hc40) lkX11_173 3 dpX11_leastSorted (by decide) (rest := []) rfl rfl rfl rfl rfl rfl rfl rfl ?_
      obtain ⟨hmt43, hmf43⟩ := of_if hm
      refine MW_brF C okX11_unlike 26 rfl rfl (fun hb43 => ?_) (fun hb43 => ?_)
      · have hm := hmt43 hb43
        refine MW_run C okX11_unlike 27 2 (gs := []) (cf' := (51, [some (.ref 0), some (.int x1), some (.int x2), some (.int x3), some (.int q27), none, none], [.int 1], (hSo yr q40.2), 0, 0)) rfl trivial ?_
        exact j_so_unlike_51 C hq (so_unlike_L20 n) ih q40.2 yr x1 x2 x3 q27 1 _ hm hp
      · have hm := hmf43 hb43
        refine MW_run C okX11_unlike 29 1 (gs := []) (cf' := (51, [some (.ref 0), some (.int x1), some (.int x2), some (.int x3), some (.int q27), none, none], [.int 0], (hSo yr q40.2), 0, 0)) rfl trivial ?_
        exact j_so_unlike_51 C hq (so_unlike_L20 n) ih q40.2 yr x1 x2 x3 q27 0 _ hm hp
    · have hm := hmf22 hb22
      obtain rfl := Option.some.inj hm
      refine MW_pick [false, false, false, false, true, true, true] rfl (vs' := [none, none, none, none, none, none, none]) rfl ?_
      exact hp
def so_unlike (s : SoS) (yr : Nat) (x1 : Int32) : Option (Int32 × SoS) :=
  if x1 < 1 then
    some ((-2), s)
  else
    if (5 : Int32) < x1 then
      some ((-2), s)
    else
      (rw_factorial x1).bind fun q14 =>
        (so_unlike_L20 N0 s yr x1 q14 0).bind fun q20 =>
          match q20 with
          | .inr r20 => some r20
          | .inl e20 =>
            some ((-6), e20)
set_option maxRecDepth 100000 in
set_option maxHeartbeats 1000000 in
theorem t_so_unlike {X : CTX} {K : Option Value → AH → Prop} (C : CX X cX11_unlike yX11_unlike.cls (decide (yX11_unlike.name = "<init>")) 7 166) (hq : RQ X (some .int) K) (s : SoS) (yr : Nat) (x1 : Int32) (out : Int32 × SoS) (hm : so_unlike s yr x1 = some out) (hp : K (some (.int out.1)) (hSo yr out.2)) : MW X (0, [some (.ref 0), some (.int x1), none, none, none, none, none], [], (hSo yr s), 0, 0) := by
  unfold so_unlike at hm
  refine MW_run C okX11_unlike 0 2 (gs := []) (cf' := (2, [some (.ref 0), some (.int x1), none, none, none, none, none], [.int 1, .int x1], (hSo yr s), 0, 0)) rfl trivial ?_
  obtain ⟨hmt2, hmf2⟩ := of_if hm
  refine MW_brT C okX11_unlike 2 rfl rfl (fun hb2 => ?_) (fun hb2 => ?_)
  · have hm := hmt2 hb2
    refine MW_run C okX11_unlike 6 1 (gs := []) (cf' := (12, [some (.ref 0), some (.int x1), none, none, none, none, none], [.int (-2)], (hSo yr s), 0, 0)) rfl trivial ?_
    obtain rfl := Option.some.inj hm
    exact MW_iret C okX11_unlike hq 7 rfl hp
  · have hm := hmf2 hb2
    refine MW_run C okX11_unlike 3 2 (gs := []) (cf' := (7, [some (.ref 0), some (.int x1), none, none, none, none, none], [.int 5, .int x1], (hSo yr s), 0, 0)) rfl trivial ?_
    obtain ⟨hmt7, hmf7⟩ := of_if hm
    refine MW_brF C okX11_unlike 5 rfl rfl (fun hb7 => ?_) (fun hb7 => ?_)
    · have hm := hmt7 hb7
      refine MW_run C okX11_unlike 6 1 (gs := []) (cf' := (12, [some (.ref 0), some (.int x1), none, none, none, none, none], [.int (-2)], (hSo yr s), 0, 0)) rfl trivial ?_
      obtain rfl := Option.some.inj hm
      exact MW_iret C okX11_unlike hq 7 rfl hp
    · have hm := hmf7 hb7
      refine MW_run C okX11_unlike 8 1 (gs := []) (cf' := (14, [some (.ref 0), some (.int x1), none, none, none, none, none], [.int x1], (hSo yr s), 0, 0)) rfl trivial ?_
      obtain ⟨q14, hc14, hm⟩ := of_bind hm
      refine MW_callS0 C okX11_unlike 9 rfl (v0 := some (.int q14)) (c_rw_factorial x1 q14 hc14) lkX11_163 1 dpX6_factorial (by decide) (rest := []) rfl rfl rfl rfl rfl ?_
      refine MW_run C okX11_unlike 10 3 (gs := []) (cf' := (20, [some (.ref 0), some (.int x1), some (.int q14), some (.int 0), none, none, none], [], (hSo yr s), 0, 0)) rfl trivial ?_
      obtain ⟨q20, hc20, hm⟩ := of_bind hm
      refine l_so_unlike_20 C hq N0 s yr x1 q14 0 q20 hc20 ?_
      cases q20 with
      | inr r20 =>
        obtain rfl := Option.some.inj hm
        exact hp
      | inl e20 =>
        show MW X (93, [none, none, none, none, none, none, none], [], (hSo yr e20), 0, 0)
        refine MW_run C okX11_unlike 50 1 (gs := []) (cf' := (95, [none, none, none, none, none, none, none], [.int (-6)], (hSo yr e20), 0, 0)) rfl trivial ?_
        obtain rfl := Option.some.inj hm
        exact MW_iret C okX11_unlike hq 51 rfl hp
theorem c_so_unlike (s : SoS) (yr : Nat) (x1 : Int32) (out : Int32 × SoS) (hm : so_unlike s yr x1 = some out) : CT yX11_unlike cX11_unlike 7 (some .int) 7 166 0 0 [.ref 0, .int x1] (hSo yr s) (fun v h => v = (some (.int out.1)) ∧ h = (hSo yr out.2)) :=
  CT_of (by decide +kernel) (vs0 := [some (.ref 0), some (.int x1), none, none, none, none, none]) rfl rfl (fun X C hq => t_so_unlike C hq s yr x1 out hm ⟨rfl, rfl⟩)
/-! C: so_play -/
def so_play (s : SoS) (yr : Nat) (x1 : Int32) (x2 : Int32) : Option (Int32 × SoS) :=
  (so_arePair x1 x2).bind fun q2 =>
    if q2 = 0 then
      some ((-2), s)
    else
      (rw_wagons x1).bind fun q12 =>
        (rw_ofNumber x1).bind fun q21 =>
          (rw_ofNumber x2).bind fun q25 =>
            (py_begin s.2.2.2.1 q21 q25 q12).bind fun q29 =>
              (so_leastOf_y (s.1, s.2.1, s.2.2.1, q29, s.2.2.2.2.1, s.2.2.2.2.2.1, s.2.2.2.2.2.2.1, s.2.2.2.2.2.2.2.1, s.2.2.2.2.2.2.2.2.1, s.2.2.2.2.2.2.2.2.2) yr q29.2.1 q29.2.2.1 q12).bind fun q52 =>
                if (0 : Int32) < q52.1 then
                  some (q52.1, q52.2)
                else
                  some ((-6), q52.2)
set_option maxRecDepth 100000 in
set_option maxHeartbeats 1000000 in
theorem t_so_play {X : CTX} {K : Option Value → AH → Prop} (C : CX X cX11_play yX11_play.cls (decide (yX11_play.name = "<init>")) 6 143) (hq : RQ X (some .int) K) (s : SoS) (yr : Nat) (x1 : Int32) (x2 : Int32) (out : Int32 × SoS) (hm : so_play s yr x1 x2 = some out) (hp : K (some (.int out.1)) (hSo yr out.2)) : MW X (0, [some (.ref 0), some (.int x1), some (.int x2), none, none], [], (hSo yr s), 0, 0) := by
  unfold so_play at hm
  refine MW_run C okX11_play 0 2 (gs := []) (cf' := (2, [some (.ref 0), some (.int x1), some (.int x2), none, none], [.int x2, .int x1], (hSo yr s), 0, 0)) rfl trivial ?_
  obtain ⟨q2, hc2, hm⟩ := of_bind hm
  refine MW_callS0 C okX11_play 2 rfl (v0 := some (.int q2)) (c_so_arePair x1 x2 q2 hc2) lkX11_121 2 dpX11_arePair (by decide) (rest := []) rfl rfl rfl rfl rfl ?_
  obtain ⟨hmt5, hmf5⟩ := of_if hm
  refine MW_brF C okX11_play 3 rfl rfl (fun hb5 => ?_) (fun hb5 => ?_)
  · have hm := hmt5 hb5
    refine MW_run C okX11_play 4 1 (gs := []) (cf' := (10, [some (.ref 0), some (.int x1), some (.int x2), none, none], [.int (-2)], (hSo yr s), 0, 0)) rfl trivial ?_
    obtain rfl := Option.some.inj hm
    exact MW_iret C okX11_play hq 5 rfl hp
  · have hm := hmf5 hb5
    refine MW_run C okX11_play 6 1 (gs := []) (cf' := (12, [some (.ref 0), some (.int x1), some (.int x2), none, none], [.int x1], (hSo yr s), 0, 0)) rfl trivial ?_
    obtain ⟨q12, hc12, hm⟩ := of_bind hm
    refine MW_callS0 C okX11_play 7 rfl (v0 := some (.int q12)) (c_rw_wagons x1 q12 hc12) lkX11_129 1 dpX6_wagons (by decide) (rest := []) rfl rfl rfl rfl rfl ?_
    refine MW_run C okX11_play 8 4 (gs := []) (cf' := (21, [some (.ref 0), some (.int x1), some (.int x2), some (.int q12), none], [.int x1, .ref 19], (hSo yr s), 0, 0)) rfl trivial ?_
    obtain ⟨q21, hc21, hm⟩ := of_bind hm
    refine MW_callS0 C okX11_play 12 rfl (v0 := some (.int q21)) (c_rw_ofNumber x1 q21 hc21) lkX11_124 1 dpX6_ofNumber (by decide) (rest := [.ref 19]) rfl rfl rfl rfl rfl ?_
    refine MW_run C okX11_play 13 1 (gs := []) (cf' := (25, [some (.ref 0), some (.int x1), some (.int x2), some (.int q12), none], [.int x2, .int q21, .ref 19], (hSo yr s), 0, 0)) rfl trivial ?_
    obtain ⟨q25, hc25, hm⟩ := of_bind hm
    refine MW_callS0 C okX11_play 14 rfl (v0 := some (.int q25)) (c_rw_ofNumber x2 q25 hc25) lkX11_124 1 dpX6_ofNumber (by decide) (rest := [.int q21, .ref 19]) rfl rfl rfl rfl rfl ?_
    refine MW_run C okX11_play 15 1 (gs := []) (cf' := (29, [some (.ref 0), some (.int x1), some (.int x2), some (.int q12), none], [.int q12, .int q25, .int q21, .ref 19], (hSo yr s), 0, 0)) rfl trivial ?_
    obtain ⟨q29, hc29, hm⟩ := of_bind hm
    refine MW_callV1 C okX11_play 16 rfl [19, 20, 21, 22, 23] (v0 := none) (h0 := (hPy 0 q29)) (c_py_begin s.2.2.2.1 q21 q25 q12 q29 hc29) lkX11_199 3 dpX5_begin (by decide) (rest := []) rfl rfl rfl rfl rfl rfl rfl rfl rfl rfl rfl (st2 := []) (h2 := (hSo yr (s.1, s.2.1, s.2.2.1, q29, s.2.2.2.2.1, s.2.2.2.2.2.1, s.2.2.2.2.2.2.1, s.2.2.2.2.2.2.2.1, s.2.2.2.2.2.2.2.2.1, s.2.2.2.2.2.2.2.2.2))) rfl rfl ?_
    refine MW_run C okX11_play 17 10 (gs := []) (cf' := (52, [some (.ref 0), some (.int x1), some (.int x2), some (.int q12), none], [.int q12, .int q29.2.2.1, .int q29.2.1, .ref 3, .ref 0], (hSo yr (s.1, s.2.1, s.2.2.1, q29, s.2.2.2.2.1, s.2.2.2.2.2.1, s.2.2.2.2.2.2.1, s.2.2.2.2.2.2.2.1, s.2.2.2.2.2.2.2.2.1, s.2.2.2.2.2.2.2.2.2)), 0, 0)) rfl trivial ?_
    obtain ⟨q52, hc52, hm⟩ := of_bind hm
    refine MW_callV0 C okX11_play 27 rfl (v0 := some (.int q52.1)) (h0 := (hSo yr q52.2)) (c_so_leastOf_y (s.1, s.2.1, s.2.2.1, q29, s.2.2.2.2.1, s.2.2.2.2.2.1, s.2.2.2.2.2.2.1, s.2.2.2.2.2.2.2.1, s.2.2.2.2.2.2.2.2.1, s.2.2.2.2.2.2.2.2.2) yr q29.2.1 q29.2.2.1 q12 q52 hc52) lkX11_132 4 dpX11_leastOf (by decide) (rest := []) rfl rfl rfl rfl rfl rfl rfl rfl ?_
    refine MW_run C okX11_play 28 2 (gs := []) (cf' := (59, [some (.ref 0), some (.int x1), some (.int x2), some (.int q12), some (.int q52.1)], [.int q52.1], (hSo yr q52.2), 0, 0)) rfl trivial ?_
    obtain ⟨hmt59, hmf59⟩ := of_if hm
    refine MW_brF C okX11_play 30 rfl rfl (fun hb59 => ?_) (fun hb59 => ?_)
    · have hm := hmt59 hb59
      refine MW_run C okX11_play 31 2 (gs := []) (cf' := (69, [some (.ref 0), some (.int x1), some (.int x2), some (.int q12), some (.int q52.1)], [.int q52.1], (hSo yr q52.2), 0, 0)) rfl trivial ?_
      obtain rfl := Option.some.inj hm
      exact MW_iret C okX11_play hq 34 rfl hp
    · have hm := hmf59 hb59
      refine MW_run C okX11_play 33 1 (gs := []) (cf' := (69, [some (.ref 0), some (.int x1), some (.int x2), some (.int q12), some (.int q52.1)], [.int (-6)], (hSo yr q52.2), 0, 0)) rfl trivial ?_
      obtain rfl := Option.some.inj hm
      exact MW_iret C okX11_play hq 34 rfl hp
theorem c_so_play (s : SoS) (yr : Nat) (x1 : Int32) (x2 : Int32) (out : Int32 × SoS) (hm : so_play s yr x1 x2 = some out) : CT yX11_play cX11_play 5 (some .int) 6 143 0 0 [.ref 0, .int x1, .int x2] (hSo yr s) (fun v h => v = (some (.int out.1)) ∧ h = (hSo yr out.2)) :=
  CT_of (by decide +kernel) (vs0 := [some (.ref 0), some (.int x1), some (.int x2), none, none]) rfl rfl (fun X C hq => t_so_play C hq s yr x1 x2 out hm ⟨rfl, rfl⟩)
/-! C: so_move -/
def so_move (s : SoS) (yr : Nat) (x1 : Int32) : Option (Int32 × SoS) :=
  if s.2.2.2.1.1 = 0 then
    some ((-3), s)
  else
    (yd_hasMove s.2.1 x1).bind fun q18 =>
      if q18 = 0 then
        some ((-5), s)
      else
        (pl_allows s.2.2.2.1.2.2.2.2.2.2 s.2.1 x1).bind fun q36 =>
          if q36 = 0 then
            some ((-5), s)
          else
            (py_add s.2.2.2.1 x1).bind fun q47 =>
              if q47.1 = 0 then
                some ((-5), (s.1, s.2.1, s.2.2.1, q47.2, s.2.2.2.2.1, s.2.2.2.2.2.1, s.2.2.2.2.2.2.1, s.2.2.2.2.2.2.2.1, s.2.2.2.2.2.2.2.2.1, s.2.2.2.2.2.2.2.2.2))
              else
                some (q47.2.2.2.2.2.1, (s.1, s.2.1, s.2.2.1, q47.2, s.2.2.2.2.1, s.2.2.2.2.2.1, s.2.2.2.2.2.2.1, s.2.2.2.2.2.2.2.1, s.2.2.2.2.2.2.2.2.1, s.2.2.2.2.2.2.2.2.2))
set_option maxRecDepth 100000 in
set_option maxHeartbeats 1000000 in
theorem t_so_move {X : CTX} {K : Option Value → AH → Prop} (C : CX X cX11_move yX11_move.cls (decide (yX11_move.name = "<init>")) 3 66) (hq : RQ X (some .int) K) (s : SoS) (yr : Nat) (x1 : Int32) (out : Int32 × SoS) (hm : so_move s yr x1 = some out) (hp : K (some (.int out.1)) (hSo yr out.2)) : MW X (0, [some (.ref 0), some (.int x1)], [], (hSo yr s), 0, 0) := by
  unfold so_move at hm
  refine MW_run C okX11_move 0 3 (gs := []) (cf' := (7, [some (.ref 0), some (.int x1)], [.int s.2.2.2.1.1], (hSo yr s), 0, 0)) rfl trivial ?_
  obtain ⟨hmt7, hmf7⟩ := of_if hm
  refine MW_brF C okX11_move 3 rfl rfl (fun hb7 => ?_) (fun hb7 => ?_)
  · have hm := hmt7 hb7
    refine MW_run C okX11_move 4 1 (gs := []) (cf' := (12, [some (.ref 0), some (.int x1)], [.int (-3)], (hSo yr s), 0, 0)) rfl trivial ?_
    obtain rfl := Option.some.inj hm
    exact MW_iret C okX11_move hq 5 rfl hp
  · have hm := hmf7 hb7
    refine MW_run C okX11_move 6 3 (gs := []) (cf' := (18, [some (.ref 0), some (.int x1)], [.int x1, .ref 3], (hSo yr s), 0, 0)) rfl trivial ?_
    obtain ⟨q18, hc18, hm⟩ := of_bind hm
    refine MW_callV1 C okX11_move 9 rfl [3, 4, 5, 6, 7, 8, 9, 10] (v0 := some (.int q18)) (h0 := (hYd 0 s.2.1)) (c_yd_hasMove s.2.1 x1 q18 hc18) lkX11_207 1 dpX10_hasMove (by decide) (rest := []) rfl rfl rfl rfl rfl rfl rfl rfl rfl rfl rfl (st2 := [.int q18]) (h2 := (hSo yr s)) rfl rfl ?_
    obtain ⟨hmt21, hmf21⟩ := of_if hm
    refine MW_brT C okX11_move 10 rfl rfl (fun hb21 => ?_) (fun hb21 => ?_)
    · have hm := hmt21 hb21
      refine MW_run C okX11_move 28 1 (gs := []) (cf' := (65, [some (.ref 0), some (.int x1)], [.int (-5)], (hSo yr s), 0, 0)) rfl trivial ?_
      obtain rfl := Option.some.inj hm
      exact MW_iret C okX11_move hq 29 rfl hp
    · have hm := hmf21 hb21
      refine MW_run C okX11_move 11 6 (gs := []) (cf' := (36, [some (.ref 0), some (.int x1)], [.int x1, .ref 3, .ref 21], (hSo yr s), 0, 0)) rfl trivial ?_
      obtain ⟨q36, hc36, hm⟩ := of_bind hm
      refine MW_callV1 C okX11_move 17 rfl [21, 22, 23, 3, 4, 5, 6, 7, 8, 9, 10] (v0 := some (.int q36)) (h0 := (hPl 0 s.2.2.2.1.2.2.2.2.2.2 ++ (hYd 3 s.2.1))) (c_pl_allows s.2.2.2.1.2.2.2.2.2.2 s.2.1 x1 q36 hc36) lkX11_214 2 dpX4_allows (by decide) (rest := []) rfl rfl rfl rfl rfl rfl rfl rfl rfl rfl rfl (st2 := [.int q36]) (h2 := (hSo yr s)) rfl rfl ?_
      obtain ⟨hmt39, hmf39⟩ := of_if hm
      refine MW_brT C okX11_move 18 rfl rfl (fun hb39 => ?_) (fun hb39 => ?_)
      · have hm := hmt39 hb39
        refine MW_run C okX11_move 28 1 (gs := []) (cf' := (65, [some (.ref 0), some (.int x1)], [.int (-5)], (hSo yr s), 0, 0)) rfl trivial ?_
        obtain rfl := Option.some.inj hm
        exact MW_iret C okX11_move hq 29 rfl hp
      · have hm := hmf39 hb39
        refine MW_run C okX11_move 19 3 (gs := []) (cf' := (47, [some (.ref 0), some (.int x1)], [.int x1, .ref 19], (hSo yr s), 0, 0)) rfl trivial ?_
        obtain ⟨q47, hc47, hm⟩ := of_bind hm
        refine MW_callV1 C okX11_move 22 rfl [19, 20, 21, 22, 23] (v0 := some (.int q47.1)) (h0 := (hPy 0 q47.2)) (c_py_add s.2.2.2.1 x1 q47 hc47) lkX11_220 1 dpX5_add (by decide) (rest := []) rfl rfl rfl rfl rfl rfl rfl rfl rfl rfl rfl (st2 := [.int q47.1]) (h2 := (hSo yr (s.1, s.2.1, s.2.2.1, q47.2, s.2.2.2.2.1, s.2.2.2.2.2.1, s.2.2.2.2.2.2.1, s.2.2.2.2.2.2.2.1, s.2.2.2.2.2.2.2.2.1, s.2.2.2.2.2.2.2.2.2))) rfl rfl ?_
        obtain ⟨hmt50, hmf50⟩ := of_if hm
        refine MW_brT C okX11_move 23 rfl rfl (fun hb50 => ?_) (fun hb50 => ?_)
        · have hm := hmt50 hb50
          refine MW_run C okX11_move 28 1 (gs := []) (cf' := (65, [some (.ref 0), some (.int x1)], [.int (-5)], (hSo yr (s.1, s.2.1, s.2.2.1, q47.2, s.2.2.2.2.1, s.2.2.2.2.2.1, s.2.2.2.2.2.2.1, s.2.2.2.2.2.2.2.1, s.2.2.2.2.2.2.2.2.1, s.2.2.2.2.2.2.2.2.2)), 0, 0)) rfl trivial ?_
          obtain rfl := Option.some.inj hm
          exact MW_iret C okX11_move hq 29 rfl hp
        · have hm := hmf50 hb50
          refine MW_run C okX11_move 24 4 (gs := []) (cf' := (65, [some (.ref 0), some (.int x1)], [.int q47.2.2.2.2.2.1], (hSo yr (s.1, s.2.1, s.2.2.1, q47.2, s.2.2.2.2.1, s.2.2.2.2.2.1, s.2.2.2.2.2.2.1, s.2.2.2.2.2.2.2.1, s.2.2.2.2.2.2.2.2.1, s.2.2.2.2.2.2.2.2.2)), 0, 0)) rfl trivial ?_
          obtain rfl := Option.some.inj hm
          exact MW_iret C okX11_move hq 29 rfl hp
theorem c_so_move (s : SoS) (yr : Nat) (x1 : Int32) (out : Int32 × SoS) (hm : so_move s yr x1 = some out) : CT yX11_move cX11_move 2 (some .int) 3 66 0 0 [.ref 0, .int x1] (hSo yr s) (fun v h => v = (some (.int out.1)) ∧ h = (hSo yr out.2)) :=
  CT_of (by decide +kernel) (vs0 := [some (.ref 0), some (.int x1)]) rfl rfl (fun X C hq => t_so_move C hq s yr x1 out hm ⟨rfl, rfl⟩)
/-! C: so_back -/
def so_back (s : SoS) (yr : Nat) : Option (Int32 × SoS) :=
  if s.2.2.2.1.1 = 0 then
    some ((-3), s)
  else
    (py_takeBack s.2.2.2.1).bind fun q17 =>
      if q17.1 = 0 then
        some ((-5), (s.1, s.2.1, s.2.2.1, q17.2, s.2.2.2.2.1, s.2.2.2.2.2.1, s.2.2.2.2.2.2.1, s.2.2.2.2.2.2.2.1, s.2.2.2.2.2.2.2.2.1, s.2.2.2.2.2.2.2.2.2))
      else
        some (q17.2.2.2.2.2.1, (s.1, s.2.1, s.2.2.1, q17.2, s.2.2.2.2.1, s.2.2.2.2.2.1, s.2.2.2.2.2.2.1, s.2.2.2.2.2.2.2.1, s.2.2.2.2.2.2.2.2.1, s.2.2.2.2.2.2.2.2.2))
set_option maxRecDepth 100000 in
set_option maxHeartbeats 1000000 in
theorem t_so_back {X : CTX} {K : Option Value → AH → Prop} (C : CX X cX11_back yX11_back.cls (decide (yX11_back.name = "<init>")) 3 65) (hq : RQ X (some .int) K) (s : SoS) (yr : Nat) (out : Int32 × SoS) (hm : so_back s yr = some out) (hp : K (some (.int out.1)) (hSo yr out.2)) : MW X (0, [some (.ref 0)], [], (hSo yr s), 0, 0) := by
  unfold so_back at hm
  refine MW_run C okX11_back 0 3 (gs := []) (cf' := (7, [some (.ref 0)], [.int s.2.2.2.1.1], (hSo yr s), 0, 0)) rfl trivial ?_
  obtain ⟨hmt7, hmf7⟩ := of_if hm
  refine MW_brF C okX11_back 3 rfl rfl (fun hb7 => ?_) (fun hb7 => ?_)
  · have hm := hmt7 hb7
    refine MW_run C okX11_back 4 1 (gs := []) (cf' := (12, [some (.ref 0)], [.int (-3)], (hSo yr s), 0, 0)) rfl trivial ?_
    obtain rfl := Option.some.inj hm
    exact MW_iret C okX11_back hq 5 rfl hp
  · have hm := hmf7 hb7
    refine MW_run C okX11_back 6 2 (gs := []) (cf' := (17, [some (.ref 0)], [.ref 19], (hSo yr s), 0, 0)) rfl trivial ?_
    obtain ⟨q17, hc17, hm⟩ := of_bind hm
    refine MW_callV1 C okX11_back 8 rfl [19, 20, 21, 22, 23] (v0 := some (.int q17.1)) (h0 := (hPy 0 q17.2)) (c_py_takeBack s.2.2.2.1 q17 hc17) lkX11_224 0 dpX5_takeBack (by decide) (rest := []) rfl rfl rfl rfl rfl rfl rfl rfl rfl rfl rfl (st2 := [.int q17.1]) (h2 := (hSo yr (s.1, s.2.1, s.2.2.1, q17.2, s.2.2.2.2.1, s.2.2.2.2.2.1, s.2.2.2.2.2.2.1, s.2.2.2.2.2.2.2.1, s.2.2.2.2.2.2.2.2.1, s.2.2.2.2.2.2.2.2.2))) rfl rfl ?_
    obtain ⟨hmt20, hmf20⟩ := of_if hm
    refine MW_brT C okX11_back 9 rfl rfl (fun hb20 => ?_) (fun hb20 => ?_)
    · have hm := hmt20 hb20
      refine MW_run C okX11_back 14 1 (gs := []) (cf' := (35, [some (.ref 0)], [.int (-5)], (hSo yr (s.1, s.2.1, s.2.2.1, q17.2, s.2.2.2.2.1, s.2.2.2.2.2.1, s.2.2.2.2.2.2.1, s.2.2.2.2.2.2.2.1, s.2.2.2.2.2.2.2.2.1, s.2.2.2.2.2.2.2.2.2)), 0, 0)) rfl trivial ?_
      obtain rfl := Option.some.inj hm
      exact MW_iret C okX11_back hq 15 rfl hp
    · have hm := hmf20 hb20
      refine MW_run C okX11_back 10 4 (gs := []) (cf' := (35, [some (.ref 0)], [.int q17.2.2.2.2.2.1], (hSo yr (s.1, s.2.1, s.2.2.1, q17.2, s.2.2.2.2.1, s.2.2.2.2.2.1, s.2.2.2.2.2.2.1, s.2.2.2.2.2.2.2.1, s.2.2.2.2.2.2.2.2.1, s.2.2.2.2.2.2.2.2.2)), 0, 0)) rfl trivial ?_
      obtain rfl := Option.some.inj hm
      exact MW_iret C okX11_back hq 15 rfl hp
theorem c_so_back (s : SoS) (yr : Nat) (out : Int32 × SoS) (hm : so_back s yr = some out) : CT yX11_back cX11_back 1 (some .int) 3 65 0 0 [.ref 0] (hSo yr s) (fun v h => v = (some (.int out.1)) ∧ h = (hSo yr out.2)) :=
  CT_of (by decide +kernel) (vs0 := [some (.ref 0)]) rfl rfl (fun X C hq => t_so_back C hq s yr out hm ⟨rfl, rfl⟩)
/-! C: so_aimAtPlay -/
def so_aimAtPlay (s : SoS) (yr : Nat) : Option (SoS × Nat) :=
  (rw_relative s.2.2.2.1.2.1 s.2.2.2.1.2.2.1 s.2.2.2.1.2.2.2.1).bind fun q36 =>
    (se_aim s.2.2.2.2.2.2.2.1 s.2.2.2.1.2.2.2.1 q36).bind fun q39 =>
      some ((s.1, s.2.1, s.2.2.1, s.2.2.2.1, s.2.2.2.2.1, s.2.2.2.2.2.1, s.2.2.2.2.2.2.1, q39, s.2.2.2.2.2.2.2.2.1, s.2.2.2.2.2.2.2.2.2), 3)
set_option maxRecDepth 100000 in
set_option maxHeartbeats 1000000 in
theorem t_so_aimAtPlay {X : CTX} {K : Option Value → AH → Prop} (C : CX X cX11_aimAtPlay yX11_aimAtPlay.cls (decide (yX11_aimAtPlay.name = "<init>")) 3 67) (hq : RQ X none K) (s : SoS) (yr : Nat) (out : SoS × Nat) (hm : so_aimAtPlay s yr = some out) (hp : K none (hSo 3 out.1)) : MW X (0, [some (.ref 0)], [], (hSo yr s), 0, 0) := by
  unfold so_aimAtPlay at hm
  refine MW_run C okX11_aimAtPlay 0 16 (gs := []) (cf' := (36, [some (.ref 0)], [.int s.2.2.2.1.2.2.2.1, .int s.2.2.2.1.2.2.1, .int s.2.2.2.1.2.1, .int s.2.2.2.1.2.2.2.1, .ref 3, .ref 74], (hSo yr s), 0, 0)) rfl trivial ?_
  obtain ⟨q36, hc36, hm⟩ := of_bind hm
  refine MW_callS0 C okX11_aimAtPlay 16 rfl (v0 := some (.int q36)) (c_rw_relative s.2.2.2.1.2.1 s.2.2.2.1.2.2.1 s.2.2.2.1.2.2.2.1 q36 hc36) lkX11_146 3 dpX6_relative (by decide) (rest := [.int s.2.2.2.1.2.2.2.1, .ref 3, .ref 74]) rfl rfl rfl rfl rfl ?_
  obtain ⟨q39, hc39, hm⟩ := of_bind hm
  refine MW_callV1 C okX11_aimAtPlay 17 rfl [74, 75, 76, 77, 78, yr, 3] (v0 := none) (h0 := (hSe 0 6 q39)) (c_se_aim s.2.2.2.2.2.2.2.1 s.2.2.2.1.2.2.2.1 q36 q39 hc39) lkX11_156 3 dpX7_aim (by decide) (rest := []) rfl rfl rfl rfl rfl rfl rfl rfl rfl rfl rfl (st2 := []) (h2 := (hSo 3 (s.1, s.2.1, s.2.2.1, s.2.2.2.1, s.2.2.2.2.1, s.2.2.2.2.2.1, s.2.2.2.2.2.2.1, q39, s.2.2.2.2.2.2.2.2.1, s.2.2.2.2.2.2.2.2.2))) rfl rfl ?_
  obtain rfl := Option.some.inj hm
  exact MW_vret C okX11_aimAtPlay hq 18 rfl hp
theorem c_so_aimAtPlay (s : SoS) (yr : Nat) (out : SoS × Nat) (hm : so_aimAtPlay s yr = some out) : CT yX11_aimAtPlay cX11_aimAtPlay 1 none 3 67 0 0 [.ref 0] (hSo yr s) (fun v h => v = none ∧ h = (hSo 3 out.1)) :=
  CT_of (by decide +kernel) (vs0 := [some (.ref 0)]) rfl rfl (fun X C hq => t_so_aimAtPlay C hq s yr out hm ⟨rfl, rfl⟩)
/-! C: so_rest -/
def so_rest (s : SoS) (yr : Nat) : Option (Int32 × SoS × Nat) :=
  if s.2.2.2.1.1 = 0 then
    some ((-3), s, yr)
  else
    (so_aimAtPlay s yr).bind fun q14 =>
      (se_restFrom q14.1.2.2.2.2.2.2.2.1 q14.1.2.1 q14.1.2.2.2.1.2.2.2.2.2.2).bind fun q28 =>
        if q28.1 < 0 then
          some ((-6), (q14.1.1, q14.1.2.1, q14.1.2.2.1, q14.1.2.2.2.1, q14.1.2.2.2.2.1, q14.1.2.2.2.2.2.1, q14.1.2.2.2.2.2.2.1, q28.2, q14.1.2.2.2.2.2.2.2.2.1, q14.1.2.2.2.2.2.2.2.2.2), 3)
        else
          some (q28.1, (q14.1.1, q14.1.2.1, q14.1.2.2.1, q14.1.2.2.2.1, q14.1.2.2.2.2.1, q14.1.2.2.2.2.2.1, q14.1.2.2.2.2.2.2.1, q28.2, q14.1.2.2.2.2.2.2.2.2.1, q14.1.2.2.2.2.2.2.2.2.2), 3)
set_option maxRecDepth 100000 in
set_option maxHeartbeats 1000000 in
theorem t_so_rest {X : CTX} {K : Option Value → AH → Prop} (C : CX X cX11_rest yX11_rest.cls (decide (yX11_rest.name = "<init>")) 29 761) (hq : RQ X (some .int) K) (s : SoS) (yr : Nat) (out : Int32 × SoS × Nat) (hm : so_rest s yr = some out) (hp : K (some (.int out.1)) (hSo out.2.2 out.2.1)) : MW X (0, [some (.ref 0), none], [], (hSo yr s), 0, 0) := by
  unfold so_rest at hm
  refine MW_run C okX11_rest 0 3 (gs := []) (cf' := (7, [some (.ref 0), none], [.int s.2.2.2.1.1], (hSo yr s), 0, 0)) rfl trivial ?_
  obtain ⟨hmt7, hmf7⟩ := of_if hm
  refine MW_brF C okX11_rest 3 rfl rfl (fun hb7 => ?_) (fun hb7 => ?_)
  · have hm := hmt7 hb7
    refine MW_run C okX11_rest 4 1 (gs := []) (cf' := (12, [some (.ref 0), none], [.int (-3)], (hSo yr s), 0, 0)) rfl trivial ?_
    obtain rfl := Option.some.inj hm
    exact MW_iret C okX11_rest hq 5 rfl hp
  · have hm := hmf7 hb7
    refine MW_run C okX11_rest 6 1 (gs := []) (cf' := (14, [some (.ref 0), none], [.ref 0], (hSo yr s), 0, 0)) rfl trivial ?_
    obtain ⟨q14, hc14, hm⟩ := of_bind hm
    refine MW_callV0 C okX11_rest 7 rfl (v0 := none) (h0 := (hSo 3 q14.1)) (c_so_aimAtPlay s yr q14 hc14) lkX11_228 0 dpX11_aimAtPlay (by decide) (rest := []) rfl rfl rfl rfl rfl rfl rfl rfl ?_
    refine MW_run C okX11_rest 8 5 (gs := []) (cf' := (28, [some (.ref 0), none], [.ref 21, .ref 74], (hSo 3 q14.1), 0, 0)) rfl trivial ?_
    obtain ⟨q28, hc28, hm⟩ := of_bind hm
    refine MW_callV1 C okX11_rest 13 rfl [74, 75, 76, 77, 78, 3, 4, 5, 6, 7, 8, 9, 10, 21, 22, 23] (v0 := some (.int q28.1)) (h0 := (hSe 0 5 q28.2 ++ (hYd 5 q14.1.2.1 ++ (hPl 13 q14.1.2.2.2.1.2.2.2.2.2.2)))) (c_se_restFrom q14.1.2.2.2.2.2.2.2.1 q14.1.2.1 q14.1.2.2.2.1.2.2.2.2.2.2 q28 hc28) lkX11_231 1 dpX7_restFrom (by decide) (rest := []) rfl rfl rfl rfl rfl rfl rfl rfl rfl rfl rfl (st2 := [.int q28.1]) (h2 := (hSo 3 (q14.1.1, q14.1.2.1, q14.1.2.2.1, q14.1.2.2.2.1, q14.1.2.2.2.2.1, q14.1.2.2.2.2.2.1, q14.1.2.2.2.2.2.2.1, q28.2, q14.1.2.2.2.2.2.2.2.2.1, q14.1.2.2.2.2.2.2.2.2.2))) rfl rfl ?_
    refine MW_run C okX11_rest 14 2 (gs := []) (cf' := (33, [some (.ref 0), some (.int q28.1)], [.int q28.1], (hSo 3 (q14.1.1, q14.1.2.1, q14.1.2.2.1, q14.1.2.2.2.1, q14.1.2.2.2.2.1, q14.1.2.2.2.2.2.1, q14.1.2.2.2.2.2.2.1, q28.2, q14.1.2.2.2.2.2.2.2.2.1, q14.1.2.2.2.2.2.2.2.2.2)), 0, 0)) rfl trivial ?_
    obtain ⟨hmt33, hmf33⟩ := of_if hm
    refine MW_brF C okX11_rest 16 rfl rfl (fun hb33 => ?_) (fun hb33 => ?_)
    · have hm := hmt33 hb33
      refine MW_run C okX11_rest 17 2 (gs := []) (cf' := (42, [some (.ref 0), some (.int q28.1)], [.int (-6)], (hSo 3 (q14.1.1, q14.1.2.1, q14.1.2.2.1, q14.1.2.2.2.1, q14.1.2.2.2.2.1, q14.1.2.2.2.2.2.1, q14.1.2.2.2.2.2.2.1, q28.2, q14.1.2.2.2.2.2.2.2.2.1, q14.1.2.2.2.2.2.2.2.2.2)), 0, 0)) rfl trivial ?_
      obtain rfl := Option.some.inj hm
      exact MW_iret C okX11_rest hq 20 rfl hp
    · have hm := hmf33 hb33
      refine MW_run C okX11_rest 19 1 (gs := []) (cf' := (42, [some (.ref 0), some (.int q28.1)], [.int q28.1], (hSo 3 (q14.1.1, q14.1.2.1, q14.1.2.2.1, q14.1.2.2.2.1, q14.1.2.2.2.2.1, q14.1.2.2.2.2.2.1, q14.1.2.2.2.2.2.2.1, q28.2, q14.1.2.2.2.2.2.2.2.2.1, q14.1.2.2.2.2.2.2.2.2.2)), 0, 0)) rfl trivial ?_
      obtain rfl := Option.some.inj hm
      exact MW_iret C okX11_rest hq 20 rfl hp
theorem c_so_rest (s : SoS) (yr : Nat) (out : Int32 × SoS × Nat) (hm : so_rest s yr = some out) : CT yX11_rest cX11_rest 2 (some .int) 29 761 0 0 [.ref 0] (hSo yr s) (fun v h => v = (some (.int out.1)) ∧ h = (hSo out.2.2 out.2.1)) :=
  CT_of (by decide +kernel) (vs0 := [some (.ref 0), none]) rfl rfl (fun X C hq => t_so_rest C hq s yr out hm ⟨rfl, rfl⟩)
/-! C: so_next -/
def so_next (s : SoS) (yr : Nat) : Option (Int32 × SoS × Nat) :=
  if s.2.2.2.1.1 = 0 then
    some ((-3), s, yr)
  else
    (so_aimAtPlay s yr).bind fun q14 =>
      (se_nextFrom q14.1.2.2.2.2.2.2.2.1 q14.1.2.1 q14.1.2.2.2.1.2.2.2.2.2.2).bind fun q28 =>
        some (q28.1, (q14.1.1, q14.1.2.1, q14.1.2.2.1, q14.1.2.2.2.1, q14.1.2.2.2.2.1, q14.1.2.2.2.2.2.1, q14.1.2.2.2.2.2.2.1, q28.2, q14.1.2.2.2.2.2.2.2.2.1, q14.1.2.2.2.2.2.2.2.2.2), 3)
set_option maxRecDepth 100000 in
set_option maxHeartbeats 1000000 in
theorem t_so_next {X : CTX} {K : Option Value → AH → Prop} (C : CX X cX11_next yX11_next.cls (decide (yX11_next.name = "<init>")) 30 785) (hq : RQ X (some .int) K) (s : SoS) (yr : Nat) (out : Int32 × SoS × Nat) (hm : so_next s yr = some out) (hp : K (some (.int out.1)) (hSo out.2.2 out.2.1)) : MW X (0, [some (.ref 0)], [], (hSo yr s), 0, 0) := by
  unfold so_next at hm
  refine MW_run C okX11_next 0 3 (gs := []) (cf' := (7, [some (.ref 0)], [.int s.2.2.2.1.1], (hSo yr s), 0, 0)) rfl trivial ?_
  obtain ⟨hmt7, hmf7⟩ := of_if hm
  refine MW_brF C okX11_next 3 rfl rfl (fun hb7 => ?_) (fun hb7 => ?_)
  · have hm := hmt7 hb7
    refine MW_run C okX11_next 4 1 (gs := []) (cf' := (12, [some (.ref 0)], [.int (-3)], (hSo yr s), 0, 0)) rfl trivial ?_
    obtain rfl := Option.some.inj hm
    exact MW_iret C okX11_next hq 5 rfl hp
  · have hm := hmf7 hb7
    refine MW_run C okX11_next 6 1 (gs := []) (cf' := (14, [some (.ref 0)], [.ref 0], (hSo yr s), 0, 0)) rfl trivial ?_
    obtain ⟨q14, hc14, hm⟩ := of_bind hm
    refine MW_callV0 C okX11_next 7 rfl (v0 := none) (h0 := (hSo 3 q14.1)) (c_so_aimAtPlay s yr q14 hc14) lkX11_228 0 dpX11_aimAtPlay (by decide) (rest := []) rfl rfl rfl rfl rfl rfl rfl rfl ?_
    refine MW_run C okX11_next 8 5 (gs := []) (cf' := (28, [some (.ref 0)], [.ref 21, .ref 74], (hSo 3 q14.1), 0, 0)) rfl trivial ?_
    obtain ⟨q28, hc28, hm⟩ := of_bind hm
    refine MW_callV1 C okX11_next 13 rfl [74, 75, 76, 77, 78, 3, 4, 5, 6, 7, 8, 9, 10, 21, 22, 23] (v0 := some (.int q28.1)) (h0 := (hSe 0 5 q28.2 ++ (hYd 5 q14.1.2.1 ++ (hPl 13 q14.1.2.2.2.1.2.2.2.2.2.2)))) (c_se_nextFrom q14.1.2.2.2.2.2.2.2.1 q14.1.2.1 q14.1.2.2.2.1.2.2.2.2.2.2 q28 hc28) lkX11_235 1 dpX7_nextFrom (by decide) (rest := []) rfl rfl rfl rfl rfl rfl rfl rfl rfl rfl rfl (st2 := [.int q28.1]) (h2 := (hSo 3 (q14.1.1, q14.1.2.1, q14.1.2.2.1, q14.1.2.2.2.1, q14.1.2.2.2.2.1, q14.1.2.2.2.2.2.1, q14.1.2.2.2.2.2.2.1, q28.2, q14.1.2.2.2.2.2.2.2.2.1, q14.1.2.2.2.2.2.2.2.2.2))) rfl rfl ?_
    obtain rfl := Option.some.inj hm
    exact MW_iret C okX11_next hq 14 rfl hp
theorem c_so_next (s : SoS) (yr : Nat) (out : Int32 × SoS × Nat) (hm : so_next s yr = some out) : CT yX11_next cX11_next 1 (some .int) 30 785 0 0 [.ref 0] (hSo yr s) (fun v h => v = (some (.int out.1)) ∧ h = (hSo out.2.2 out.2.1)) :=
  CT_of (by decide +kernel) (vs0 := [some (.ref 0)]) rfl rfl (fun X C hq => t_so_next C hq s yr out hm ⟨rfl, rfl⟩)
/-! C: so_moves -/
def so_moves_L17 : Nat → SoS → Nat → Int32 → Int32 → Int32 → Option ((Int32) ⊕ (Int32))
  | 0, _, _, _, _, _ => none
  | n + 1, s, yr, x1, x2, x3 =>
    if x3 < s.2.1.2.2.1 then
      (yd_moveAt s.2.1 x3).bind fun q33 =>
        (pl_allows s.2.2.2.1.2.2.2.2.2.2 s.2.1 q33).bind fun q51 =>
          if q51 = 0 then
            so_moves_L17 n s yr x1 x2 (x3 + 1)
          else
            if x2 = x1 then
              some (.inr q33)
            else
              so_moves_L17 n s yr x1 (x2 + 1) (x3 + 1)
    else
      some (.inl x2)
set_option maxRecDepth 100000 in
set_option maxHeartbeats 1000000 in
theorem l_so_moves_17 {X : CTX} {K : Option Value → AH → Prop} (C : CX X cX11_moves yX11_moves.cls (decide (yX11_moves.name = "<init>")) 2 44) (hq : RQ X (some .int) K) : ∀ (n : Nat) (s : SoS) (yr : Nat) (x1 : Int32) (x2 : Int32) (x3 : Int32) (out : (Int32) ⊕ (Int32)) (hm : so_moves_L17 n s yr x1 x2 x3 = some out) (hp : Sum.elim (fun e => MW X (74, [none, some (.int x1), some (.int e), none, none], [], (hSo yr s), 0, 0)) (fun r => K (some (.int r)) (hSo yr s)) out), MW X (17, [some (.ref 0), some (.int x1), some (.int x2), some (.int x3), none], [], (hSo yr s), 0, 0) := by
  intro n
  induction n with
  | zero => intro s yr x1 x2 x3 out hm hp; rw [so_moves_L17] at hm; cases hm
  | succ n ih =>
    intro s yr x1 x2 x3 out hm hp
    rw [so_moves_L17] at hm
    refine MW_run C okX11_moves 10 4 (gs := []) (cf' := (25, [some (.ref 0), some (.int x1), some (.int x2), some (.int x3), none], [.int s.2.1.2.2.1, .int x3], (hSo yr s), 0, 0)) rfl trivial ?_
    obtain ⟨hmt25, hmf25⟩ := of_if hm
    refine MW_brF C okX11_moves 14 rfl rfl (fun hb25 => ?_) (fun hb25 => ?_)
    · have hm := hmt25 hb25
      refine MW_run C okX11_moves 15 3 (gs := []) (cf' := (33, [some (.ref 0), some (.int x1), some (.int x2), some (.int x3), none], [.int x3, .ref 3], (hSo yr s), 0, 0)) rfl trivial ?_
      obtain ⟨q33, hc33, hm⟩ := of_bind hm
      refine MW_callV1 C okX11_moves 18 rfl [3, 4, 5, 6, 7, 8, 9, 10] (v0 := some (.int q33)) (h0 := (hYd 0 s.2.1)) (c_yd_moveAt s.2.1 x3 q33 hc33) lkX11_241 1 dpX10_moveAt (by decide) (rest := []) rfl rfl rfl rfl rfl rfl rfl rfl rfl rfl rfl (st2 := [.int q33]) (h2 := (hSo yr s)) rfl rfl ?_
      refine MW_run C okX11_moves 19 7 (gs := []) (cf' := (51, [some (.ref 0), some (.int x1), some (.int x2), some (.int x3), some (.int q33)], [.int q33, .ref 3, .ref 21], (hSo yr s), 0, 0)) rfl trivial ?_
      obtain ⟨q51, hc51, hm⟩ := of_bind hm
      refine MW_callV1 C okX11_moves 26 rfl [21, 22, 23, 3, 4, 5, 6, 7, 8, 9, 10] (v0 := some (.int q51)) (h0 := (hPl 0 s.2.2.2.1.2.2.2.2.2.2 ++ (hYd 3 s.2.1))) (c_pl_allows s.2.2.2.1.2.2.2.2.2.2 s.2.1 q33 q51 hc51) lkX11_214 2 dpX4_allows (by decide) (rest := []) rfl rfl rfl rfl rfl rfl rfl rfl rfl rfl rfl (st2 := [.int q51]) (h2 := (hSo yr s)) rfl rfl ?_
      obtain ⟨hmt54, hmf54⟩ := of_if hm
      refine MW_brT C okX11_moves 27 rfl rfl (fun hb54 => ?_) (fun hb54 => ?_)
      · have hm := hmt54 hb54
        refine MW_run C okX11_moves 34 2 (gs := []) (cf' := (17, [some (.ref 0), some (.int x1), some (.int x2), some (.int (x3 + 1)), some (.int q33)], [], (hSo yr s), 0, 0)) rfl trivial ?_
        refine MW_pick [true, true, true, true, false] rfl (vs' := [some (.ref 0), some (.int x1), some (.int x2), some (.int (x3 + 1)), none]) rfl ?_
        exact ih s yr x1 x2 (x3 + 1) _ hm hp
      · have hm := hmf54 hb54
        refine MW_run C okX11_moves 28 2 (gs := []) (cf' := (59, [some (.ref 0), some (.int x1), some (.int x2), some (.int x3), some (.int q33)], [.int x1, .int x2], (hSo yr s), 0, 0)) rfl trivial ?_
        obtain ⟨hmt59, hmf59⟩ := of_if hm
        refine MW_brF C okX11_moves 30 rfl rfl (fun hb59 => ?_) (fun hb59 => ?_)
        · have hm := hmt59 hb59
          refine MW_run C okX11_moves 31 1 (gs := []) (cf' := (64, [some (.ref 0), some (.int x1), some (.int x2), some (.int x3), some (.int q33)], [.int q33], (hSo yr s), 0, 0)) rfl trivial ?_
          obtain rfl := Option.some.inj hm
          exact MW_iret C okX11_moves hq 32 rfl hp
        · have hm := hmf59 hb59
          refine MW_run C okX11_moves 33 1 (gs := []) (cf' := (68, [some (.ref 0), some (.int x1), some (.int (x2 + 1)), some (.int x3), some (.int q33)], [], (hSo yr s), 0, 0)) rfl trivial ?_
          refine MW_run C okX11_moves 34 2 (gs := []) (cf' := (17, [some (.ref 0), some (.int x1), some (.int (x2 + 1)), some (.int (x3 + 1)), some (.int q33)], [], (hSo yr s), 0, 0)) rfl trivial ?_
          refine MW_pick [true, true, true, true, false] rfl (vs' := [some (.ref 0), some (.int x1), some (.int (x2 + 1)), some (.int (x3 + 1)), none]) rfl ?_
          exact ih s yr x1 (x2 + 1) (x3 + 1) _ hm hp
    · have hm := hmf25 hb25
      obtain rfl := Option.some.inj hm
      refine MW_pick [false, true, true, false, true] rfl (vs' := [none, some (.int x1), some (.int x2), none, none]) rfl ?_
      exact hp
def so_moves (s : SoS) (yr : Nat) (x1 : Int32) : Option (Int32) :=
  if s.2.2.2.1.1 = 0 then
    some (-3)
  else
    (so_moves_L17 N0 s yr x1 0 0).bind fun q17 =>
      match q17 with
      | .inr r17 => some r17
      | .inl e17 =>
        if x1 = (-1) then
          some e17
        else
          some (-6)
set_option maxRecDepth 100000 in
set_option maxHeartbeats 1000000 in
theorem t_so_moves {X : CTX} {K : Option Value → AH → Prop} (C : CX X cX11_moves yX11_moves.cls (decide (yX11_moves.name = "<init>")) 2 44) (hq : RQ X (some .int) K) (s : SoS) (yr : Nat) (x1 : Int32) (out : Int32) (hm : so_moves s yr x1 = some out) (hp : K (some (.int out)) (hSo yr s)) : MW X (0, [some (.ref 0), some (.int x1), none, none, none], [], (hSo yr s), 0, 0) := by
  unfold so_moves at hm
  refine MW_run C okX11_moves 0 3 (gs := []) (cf' := (7, [some (.ref 0), some (.int x1), none, none, none], [.int s.2.2.2.1.1], (hSo yr s), 0, 0)) rfl trivial ?_
  obtain ⟨hmt7, hmf7⟩ := of_if hm
  refine MW_brF C okX11_moves 3 rfl rfl (fun hb7 => ?_) (fun hb7 => ?_)
  · have hm := hmt7 hb7
    refine MW_run C okX11_moves 4 1 (gs := []) (cf' := (12, [some (.ref 0), some (.int x1), none, none, none], [.int (-3)], (hSo yr s), 0, 0)) rfl trivial ?_
    obtain rfl := Option.some.inj hm
    exact MW_iret C okX11_moves hq 5 rfl hp
  · have hm := hmf7 hb7
    refine MW_run C okX11_moves 6 4 (gs := []) (cf' := (17, [some (.ref 0), some (.int x1), some (.int 0), some (.int 0), none], [], (hSo yr s), 0, 0)) rfl trivial ?_
    obtain ⟨q17, hc17, hm⟩ := of_bind hm
    refine l_so_moves_17 C hq N0 s yr x1 0 0 q17 hc17 ?_
    cases q17 with
    | inr r17 =>
      obtain rfl := Option.some.inj hm
      exact hp
    | inl e17 =>
      show MW X (74, [none, some (.int x1), some (.int e17), none, none], [], (hSo yr s), 0, 0)
      refine MW_run C okX11_moves 36 2 (gs := []) (cf' := (76, [none, some (.int x1), some (.int e17), none, none], [.int (-1), .int x1], (hSo yr s), 0, 0)) rfl trivial ?_
      obtain ⟨hmt76, hmf76⟩ := of_if hm
      refine MW_brF C okX11_moves 38 rfl rfl (fun hb76 => ?_) (fun hb76 => ?_)
      · have hm := hmt76 hb76
        refine MW_run C okX11_moves 39 2 (gs := []) (cf' := (85, [none, some (.int x1), some (.int e17), none, none], [.int e17], (hSo yr s), 0, 0)) rfl trivial ?_
        obtain rfl := Option.some.inj hm
        exact MW_iret C okX11_moves hq 42 rfl hp
      · have hm := hmf76 hb76
        refine MW_run C okX11_moves 41 1 (gs := []) (cf' := (85, [none, some (.int x1), some (.int e17), none, none], [.int (-6)], (hSo yr s), 0, 0)) rfl trivial ?_
        obtain rfl := Option.some.inj hm
        exact MW_iret C okX11_moves hq 42 rfl hp
theorem c_so_moves (s : SoS) (yr : Nat) (x1 : Int32) (out : Int32) (hm : so_moves s yr x1 = some out) : CT yX11_moves cX11_moves 5 (some .int) 2 44 0 0 [.ref 0, .int x1] (hSo yr s) (fun v h => v = (some (.int out)) ∧ h = (hSo yr s)) :=
  CT_of (by decide +kernel) (vs0 := [some (.ref 0), some (.int x1), none, none, none]) rfl rfl (fun X C hq => t_so_moves C hq s yr x1 out hm ⟨rfl, rfl⟩)
/-! C: so_stand -/
def so_stand (s : SoS) (yr : Nat) (x1 : Int32) : Option (Int32) :=
  (so_isMissing s yr x1).bind fun q2 =>
    if q2 = 0 then
      if x1 < 0 then
        some (-2)
      else
        if (5 : Int32) < x1 then
          some (-2)
        else
          if s.2.2.2.1.1 = 0 then
            some (-3)
          else
            (pl_rowAt s.2.2.2.1.2.2.2.2.2.2 x1).bind fun q43 =>
              (rw_named q43 s.2.2.2.1.2.1).bind fun q53 =>
                (rw_toNumber q53).bind fun q56 =>
                  some q56
    else
      some (-1)
set_option maxRecDepth 100000 in
set_option maxHeartbeats 1000000 in
theorem t_so_stand {X : CTX} {K : Option Value → AH → Prop} (C : CX X cX11_stand yX11_stand.cls (decide (yX11_stand.name = "<init>")) 2 44) (hq : RQ X (some .int) K) (s : SoS) (yr : Nat) (x1 : Int32) (out : Int32) (hm : so_stand s yr x1 = some out) (hp : K (some (.int out)) (hSo yr s)) : MW X (0, [some (.ref 0), some (.int x1)], [], (hSo yr s), 0, 0) := by
  unfold so_stand at hm
  refine MW_run C okX11_stand 0 2 (gs := []) (cf' := (2, [some (.ref 0), some (.int x1)], [.int x1, .ref 0], (hSo yr s), 0, 0)) rfl trivial ?_
  obtain ⟨q2, hc2, hm⟩ := of_bind hm
  refine MW_callV0 C okX11_stand 2 rfl (v0 := some (.int q2)) (h0 := (hSo yr s)) (c_so_isMissing s yr x1 q2 hc2) lkX11_114 1 dpX11_isMissing (by decide) (rest := []) rfl rfl rfl rfl rfl rfl rfl rfl ?_
  obtain ⟨hmt5, hmf5⟩ := of_if hm
  refine MW_brT C okX11_stand 3 rfl rfl (fun hb5 => ?_) (fun hb5 => ?_)
  · have hm := hmt5 hb5
    refine MW_run C okX11_stand 6 1 (gs := []) (cf' := (11, [some (.ref 0), some (.int x1)], [.int x1], (hSo yr s), 0, 0)) rfl trivial ?_
    obtain ⟨hmt11, hmf11⟩ := of_if hm
    refine MW_brT C okX11_stand 7 rfl rfl (fun hb11 => ?_) (fun hb11 => ?_)
    · have hm := hmt11 hb11
      refine MW_run C okX11_stand 11 1 (gs := []) (cf' := (21, [some (.ref 0), some (.int x1)], [.int (-2)], (hSo yr s), 0, 0)) rfl trivial ?_
      obtain rfl := Option.some.inj hm
      exact MW_iret C okX11_stand hq 12 rfl hp
    · have hm := hmf11 hb11
      refine MW_run C okX11_stand 8 2 (gs := []) (cf' := (16, [some (.ref 0), some (.int x1)], [.int 5, .int x1], (hSo yr s), 0, 0)) rfl trivial ?_
      obtain ⟨hmt16, hmf16⟩ := of_if hm
      refine MW_brF C okX11_stand 10 rfl rfl (fun hb16 => ?_) (fun hb16 => ?_)
      · have hm := hmt16 hb16
        refine MW_run C okX11_stand 11 1 (gs := []) (cf' := (21, [some (.ref 0), some (.int x1)], [.int (-2)], (hSo yr s), 0, 0)) rfl trivial ?_
        obtain rfl := Option.some.inj hm
        exact MW_iret C okX11_stand hq 12 rfl hp
      · have hm := hmf16 hb16
        refine MW_run C okX11_stand 13 3 (gs := []) (cf' := (29, [some (.ref 0), some (.int x1)], [.int s.2.2.2.1.1], (hSo yr s), 0, 0)) rfl trivial ?_
        obtain ⟨hmt29, hmf29⟩ := of_if hm
        refine MW_brF C okX11_stand 16 rfl rfl (fun hb29 => ?_) (fun hb29 => ?_)
        · have hm := hmt29 hb29
          refine MW_run C okX11_stand 17 1 (gs := []) (cf' := (34, [some (.ref 0), some (.int x1)], [.int (-3)], (hSo yr s), 0, 0)) rfl trivial ?_
          obtain rfl := Option.some.inj hm
          exact MW_iret C okX11_stand hq 18 rfl hp
        · have hm := hmf29 hb29
          refine MW_run C okX11_stand 19 4 (gs := []) (cf' := (43, [some (.ref 0), some (.int x1)], [.int x1, .ref 21], (hSo yr s), 0, 0)) rfl trivial ?_
          obtain ⟨q43, hc43, hm⟩ := of_bind hm
          refine MW_callV1 C okX11_stand 23 rfl [21, 22, 23] (v0 := some (.int q43)) (h0 := (hPl 0 s.2.2.2.1.2.2.2.2.2.2)) (c_pl_rowAt s.2.2.2.1.2.2.2.2.2.2 x1 q43 hc43) lkX11_244 1 dpX4_rowAt (by decide) (rest := []) rfl rfl rfl rfl rfl rfl rfl rfl rfl rfl rfl (st2 := [.int q43]) (h2 := (hSo yr s)) rfl rfl ?_
          refine MW_run C okX11_stand 24 3 (gs := []) (cf' := (53, [some (.ref 0), some (.int x1)], [.int s.2.2.2.1.2.1, .int q43], (hSo yr s), 0, 0)) rfl trivial ?_
          obtain ⟨q53, hc53, hm⟩ := of_bind hm
          refine MW_callS0 C okX11_stand 27 rfl (v0 := some (.int q53)) (c_rw_named q43 s.2.2.2.1.2.1 q53 hc53) lkX11_247 2 dpX6_named (by decide) (rest := []) rfl rfl rfl rfl rfl ?_
          obtain ⟨q56, hc56, hm⟩ := of_bind hm
          refine MW_callS0 C okX11_stand 28 rfl (v0 := some (.int q56)) (c_rw_toNumber q53 q56 hc56) lkX11_170 1 dpX6_toNumber (by decide) (rest := []) rfl rfl rfl rfl rfl ?_
          obtain rfl := Option.some.inj hm
          exact MW_iret C okX11_stand hq 29 rfl hp
  · have hm := hmf5 hb5
    refine MW_run C okX11_stand 4 1 (gs := []) (cf' := (9, [some (.ref 0), some (.int x1)], [.int (-1)], (hSo yr s), 0, 0)) rfl trivial ?_
    obtain rfl := Option.some.inj hm
    exact MW_iret C okX11_stand hq 5 rfl hp
theorem c_so_stand (s : SoS) (yr : Nat) (x1 : Int32) (out : Int32) (hm : so_stand s yr x1 = some out) : CT yX11_stand cX11_stand 2 (some .int) 2 44 0 0 [.ref 0, .int x1] (hSo yr s) (fun v h => v = (some (.int out)) ∧ h = (hSo yr s)) :=
  CT_of (by decide +kernel) (vs0 := [some (.ref 0), some (.int x1)]) rfl rfl (fun X C hq => t_so_stand C hq s yr x1 out hm ⟨rfl, rfl⟩)
