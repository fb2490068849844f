/-! C: pd_isLetter -/
def pd_isLetter (x0 : Int32) : Option (Int32) :=
  if x0 = 115 then
    some 1
  else
    if x0 = 113 then
      some 1
    else
      if x0 = 100 then
        some 1
      else
        some 0
set_option maxRecDepth 100000 in
set_option maxHeartbeats 1000000 in
theorem t_pd_isLetter {X : CTX} {K : Option Value → AH → Prop} (C : CX X cX3_isLetter yX3_isLetter.cls (decide (yX3_isLetter.name = "<init>")) 0 0) (hq : RQ X (some .boolean) K) (x0 : Int32) (out : Int32) (hm : pd_isLetter x0 = some out) (hp : K (some (.int out)) []) : MW X (0, [some (.int x0)], [], [], 0, 0) := by
  unfold pd_isLetter at hm
  refine MW_run C okX3_isLetter 0 2 (gs := []) (cf' := (3, [some (.int x0)], [.int 115, .int x0], [], 0, 0)) rfl trivial ?_
  obtain ⟨hmt3, hmf3⟩ := of_if hm
  refine MW_brT C okX3_isLetter 2 rfl rfl (fun hb3 => ?_) (fun hb3 => ?_)
  · have hm := hmt3 hb3
    refine MW_run C okX3_isLetter 9 2 (gs := []) (cf' := (23, [some (.int x0)], [.int 1], [], 0, 0)) rfl trivial ?_
    obtain rfl := Option.some.inj hm
    exact MW_zret C okX3_isLetter hq 12 rfl (by decide) hp
  · have hm := hmf3 hb3
    refine MW_run C okX3_isLetter 3 2 (gs := []) (cf' := (9, [some (.int x0)], [.int 113, .int x0], [], 0, 0)) rfl trivial ?_
    obtain ⟨hmt9, hmf9⟩ := of_if hm
    refine MW_brT C okX3_isLetter 5 rfl rfl (fun hb9 => ?_) (fun hb9 => ?_)
    · have hm := hmt9 hb9
      refine MW_run C okX3_isLetter 9 2 (gs := []) (cf' := (23, [some (.int x0)], [.int 1], [], 0, 0)) rfl trivial ?_
      obtain rfl := Option.some.inj hm
      exact MW_zret C okX3_isLetter hq 12 rfl (by decide) hp
    · have hm := hmf9 hb9
      refine MW_run C okX3_isLetter 6 2 (gs := []) (cf' := (15, [some (.int x0)], [.int 100, .int x0], [], 0, 0)) rfl trivial ?_
      obtain ⟨hmt15, hmf15⟩ := of_if hm
      refine MW_brF C okX3_isLetter 8 rfl rfl (fun hb15 => ?_) (fun hb15 => ?_)
      · have hm := hmt15 hb15
        refine MW_run C okX3_isLetter 9 2 (gs := []) (cf' := (23, [some (.int x0)], [.int 1], [], 0, 0)) rfl trivial ?_
        obtain rfl := Option.some.inj hm
        exact MW_zret C okX3_isLetter hq 12 rfl (by decide) hp
      · have hm := hmf15 hb15
        refine MW_run C okX3_isLetter 11 1 (gs := []) (cf' := (23, [some (.int x0)], [.int 0], [], 0, 0)) rfl trivial ?_
        obtain rfl := Option.some.inj hm
        exact MW_zret C okX3_isLetter hq 12 rfl (by decide) hp
theorem c_pd_isLetter (x0 : Int32) (out : Int32) (hm : pd_isLetter x0 = some out) : CT yX3_isLetter cX3_isLetter 1 (some .boolean) 0 0 0 0 [.int x0] [] (fun v h => v = (some (.int out)) ∧ h = []) :=
  CT_of (by decide +kernel) (vs0 := [some (.int x0)]) rfl rfl (fun X C hq => t_pd_isLetter C hq x0 out hm ⟨rfl, rfl⟩)
/-! C: pd_faultAt -/
def pd_faultAt_J89 (k : PdS → Int32 → Int32 → Int32 → Int32 → Int32 → Option ((Int32 × Int32) ⊕ (Int32))) (d : PdS) (x1 : Int32) (x2 : Int32) (x5 : Int32) (w0 : Int32) : Option ((Int32 × Int32) ⊕ (Int32)) :=
  if w0 = 0 then
    some (.inr x5)
  else
    k d x1 (x2 + 1) 0 1 (x5 + 1)
set_option maxRecDepth 100000 in
set_option maxHeartbeats 1000000 in
theorem j_pd_faultAt_89 {X : CTX} {K : Option Value → AH → Prop} (C : CX X cX3_faultAt yX3_faultAt.cls (decide (yX3_faultAt.name = "<init>")) 1 21) (hq : RQ X (some .int) K) (k : PdS → Int32 → Int32 → Int32 → Int32 → Int32 → Option ((Int32 × Int32) ⊕ (Int32))) (hk : ∀ (d : PdS) (x1 : Int32) (x2 : Int32) (x3 : Int32) (x4 : Int32) (x5 : Int32) (out : (Int32 × Int32) ⊕ (Int32)), k d x1 x2 x3 x4 x5 = some out → Sum.elim (fun e => MW X (168, [some (.ref 0), some (.int e.1), none, none, some (.int e.2), none, none, none], [], (hPd 0 d), 0, 0)) (fun r => K (some (.int r)) (hPd 0 d)) out → MW X (12, [some (.ref 0), some (.int x1), some (.int x2), some (.int x3), some (.int x4), some (.int x5), none, none], [], (hPd 0 d), 0, 0)) (d : PdS) (x1 : Int32) (x2 : Int32) (x5 : Int32) (w0 : Int32) (out : (Int32 × Int32) ⊕ (Int32)) (hm : pd_faultAt_J89 k d x1 x2 x5 w0 = some out) (hp : Sum.elim (fun e => MW X (168, [some (.ref 0), some (.int e.1), none, none, some (.int e.2), none, none, none], [], (hPd 0 d), 0, 0)) (fun r => K (some (.int r)) (hPd 0 d)) out) : MW X (89, [some (.ref 0), some (.int x1), some (.int x2), none, none, some (.int x5), none, none], [.int w0], (hPd 0 d), 0, 0) := by
  unfold pd_faultAt_J89 at hm
  refine MW_run C okX3_faultAt 47 7 (gs := []) (cf' := (154, [some (.ref 0), some (.int x1), some (.int (x2 + 1)), some (.int 0), some (.int 1), some (.int x5), none, some (.int w0)], [], (hPd 0 d), 0, 0)) rfl trivial ?_
  refine MW_run C okX3_faultAt 81 1 (gs := []) (cf' := (156, [some (.ref 0), some (.int x1), some (.int (x2 + 1)), some (.int 0), some (.int 1), some (.int x5), none, some (.int w0)], [.int w0], (hPd 0 d), 0, 0)) rfl trivial ?_
  obtain ⟨hmt156, hmf156⟩ := of_if hm
  refine MW_brF C okX3_faultAt 82 rfl rfl (fun hb156 => ?_) (fun hb156 => ?_)
  · have hm := hmt156 hb156
    refine MW_run C okX3_faultAt 83 1 (gs := []) (cf' := (161, [some (.ref 0), some (.int x1), some (.int (x2 + 1)), some (.int 0), some (.int 1), some (.int x5), none, some (.int w0)], [.int x5], (hPd 0 d), 0, 0)) rfl trivial ?_
    obtain rfl := Option.some.inj hm
    exact MW_iret C okX3_faultAt hq 84 rfl hp
  · have hm := hmf156 hb156
    refine MW_run C okX3_faultAt 85 2 (gs := []) (cf' := (12, [some (.ref 0), some (.int x1), some (.int (x2 + 1)), some (.int 0), some (.int 1), some (.int (x5 + 1)), none, some (.int w0)], [], (hPd 0 d), 0, 0)) rfl trivial ?_
    refine MW_pick [true, true, true, true, true, true, true, false] rfl (vs' := [some (.ref 0), some (.int x1), some (.int (x2 + 1)), some (.int 0), some (.int 1), some (.int (x5 + 1)), none, none]) rfl ?_
    exact hk d x1 (x2 + 1) 0 1 (x5 + 1) _ hm hp
def pd_faultAt_J118 (k : PdS → Int32 → Int32 → Int32 → Int32 → Int32 → Option ((Int32 × Int32) ⊕ (Int32))) (d : PdS) (x1 : Int32) (x2 : Int32) (x5 : Int32) (w0 : Int32) : Option ((Int32 × Int32) ⊕ (Int32)) :=
  if w0 = 0 then
    some (.inr x5)
  else
    k d x1 x2 1 0 (x5 + 1)
set_option maxRecDepth 100000 in
set_option maxHeartbeats 1000000 in
theorem j_pd_faultAt_118 {X : CTX} {K : Option Value → AH → Prop} (C : CX X cX3_faultAt yX3_faultAt.cls (decide (yX3_faultAt.name = "<init>")) 1 21) (hq : RQ X (some .int) K) (k : PdS → Int32 → Int32 → Int32 → Int32 → Int32 → Option ((Int32 × Int32) ⊕ (Int32))) (hk : ∀ (d : PdS) (x1 : Int32) (x2 : Int32) (x3 : Int32) (x4 : Int32) (x5 : Int32) (out : (Int32 × Int32) ⊕ (Int32)), k d x1 x2 x3 x4 x5 = some out → Sum.elim (fun e => MW X (168, [some (.ref 0), some (.int e.1), none, none, some (.int e.2), none, none, none], [], (hPd 0 d), 0, 0)) (fun r => K (some (.int r)) (hPd 0 d)) out → MW X (12, [some (.ref 0), some (.int x1), some (.int x2), some (.int x3), some (.int x4), some (.int x5), none, none], [], (hPd 0 d), 0, 0)) (d : PdS) (x1 : Int32) (x2 : Int32) (x5 : Int32) (w0 : Int32) (out : (Int32 × Int32) ⊕ (Int32)) (hm : pd_faultAt_J118 k d x1 x2 x5 w0 = some out) (hp : Sum.elim (fun e => MW X (168, [some (.ref 0), some (.int e.1), none, none, some (.int e.2), none, none, none], [], (hPd 0 d), 0, 0)) (fun r => K (some (.int r)) (hPd 0 d)) out) : MW X (118, [some (.ref 0), some (.int x1), some (.int x2), none, none, some (.int x5), none, none], [.int w0], (hPd 0 d), 0, 0) := by
  unfold pd_faultAt_J118 at hm
  refine MW_run C okX3_faultAt 62 6 (gs := []) (cf' := (154, [some (.ref 0), some (.int x1), some (.int x2), some (.int 1), some (.int 0), some (.int x5), none, some (.int w0)], [], (hPd 0 d), 0, 0)) rfl trivial ?_
  refine MW_run C okX3_faultAt 81 1 (gs := []) (cf' := (156, [some (.ref 0), some (.int x1), some (.int x2), some (.int 1), some (.int 0), some (.int x5), none, some (.int w0)], [.int w0], (hPd 0 d), 0, 0)) rfl trivial ?_
  obtain ⟨hmt156, hmf156⟩ := of_if hm
  refine MW_brF C okX3_faultAt 82 rfl rfl (fun hb156 => ?_) (fun hb156 => ?_)
  · have hm := hmt156 hb156
    refine MW_run C okX3_faultAt 83 1 (gs := []) (cf' := (161, [some (.ref 0), some (.int x1), some (.int x2), some (.int 1), some (.int 0), some (.int x5), none, some (.int w0)], [.int x5], (hPd 0 d), 0, 0)) rfl trivial ?_
    obtain rfl := Option.some.inj hm
    exact MW_iret C okX3_faultAt hq 84 rfl hp
  · have hm := hmf156 hb156
    refine MW_run C okX3_faultAt 85 2 (gs := []) (cf' := (12, [some (.ref 0), some (.int x1), some (.int x2), some (.int 1), some (.int 0), some (.int (x5 + 1)), none, some (.int w0)], [], (hPd 0 d), 0, 0)) rfl trivial ?_
    refine MW_pick [true, true, true, true, true, true, true, false] rfl (vs' := [some (.ref 0), some (.int x1), some (.int x2), some (.int 1), some (.int 0), some (.int (x5 + 1)), none, none]) rfl ?_
    exact hk d x1 x2 1 0 (x5 + 1) _ hm hp
def pd_faultAt_J146 (k : PdS → Int32 → Int32 → Int32 → Int32 → Int32 → Option ((Int32 × Int32) ⊕ (Int32))) (d : PdS) (x1 : Int32) (x2 : Int32) (x3 : Int32) (x5 : Int32) (w0 : Int32) : Option ((Int32 × Int32) ⊕ (Int32)) :=
  if w0 = 0 then
    some (.inr x5)
  else
    k d (x1 + 1) x2 x3 0 (x5 + 1)
set_option maxRecDepth 100000 in
set_option maxHeartbeats 1000000 in
theorem j_pd_faultAt_146 {X : CTX} {K : Option Value → AH → Prop} (C : CX X cX3_faultAt yX3_faultAt.cls (decide (yX3_faultAt.name = "<init>")) 1 21) (hq : RQ X (some .int) K) (k : PdS → Int32 → Int32 → Int32 → Int32 → Int32 → Option ((Int32 × Int32) ⊕ (Int32))) (hk : ∀ (d : PdS) (x1 : Int32) (x2 : Int32) (x3 : Int32) (x4 : Int32) (x5 : Int32) (out : (Int32 × Int32) ⊕ (Int32)), k d x1 x2 x3 x4 x5 = some out → Sum.elim (fun e => MW X (168, [some (.ref 0), some (.int e.1), none, none, some (.int e.2), none, none, none], [], (hPd 0 d), 0, 0)) (fun r => K (some (.int r)) (hPd 0 d)) out → MW X (12, [some (.ref 0), some (.int x1), some (.int x2), some (.int x3), some (.int x4), some (.int x5), none, none], [], (hPd 0 d), 0, 0)) (d : PdS) (x1 : Int32) (x2 : Int32) (x3 : Int32) (x5 : Int32) (w0 : Int32) (out : (Int32 × Int32) ⊕ (Int32)) (hm : pd_faultAt_J146 k d x1 x2 x3 x5 w0 = some out) (hp : Sum.elim (fun e => MW X (168, [some (.ref 0), some (.int e.1), none, none, some (.int e.2), none, none, none], [], (hPd 0 d), 0, 0)) (fun r => K (some (.int r)) (hPd 0 d)) out) : MW X (146, [some (.ref 0), some (.int x1), some (.int x2), some (.int x3), none, some (.int x5), none, none], [.int w0], (hPd 0 d), 0, 0) := by
  unfold pd_faultAt_J146 at hm
  refine MW_run C okX3_faultAt 77 4 (gs := []) (cf' := (154, [some (.ref 0), some (.int (x1 + 1)), some (.int x2), some (.int x3), some (.int 0), some (.int x5), none, some (.int w0)], [], (hPd 0 d), 0, 0)) rfl trivial ?_
  refine MW_run C okX3_faultAt 81 1 (gs := []) (cf' := (156, [some (.ref 0), some (.int (x1 + 1)), some (.int x2), some (.int x3), some (.int 0), some (.int x5), none, some (.int w0)], [.int w0], (hPd 0 d), 0, 0)) rfl trivial ?_
  obtain ⟨hmt156, hmf156⟩ := of_if hm
  refine MW_brF C okX3_faultAt 82 rfl rfl (fun hb156 => ?_) (fun hb156 => ?_)
  · have hm := hmt156 hb156
    refine MW_run C okX3_faultAt 83 1 (gs := []) (cf' := (161, [some (.ref 0), some (.int (x1 + 1)), some (.int x2), some (.int x3), some (.int 0), some (.int x5), none, some (.int w0)], [.int x5], (hPd 0 d), 0, 0)) rfl trivial ?_
    obtain rfl := Option.some.inj hm
    exact MW_iret C okX3_faultAt hq 84 rfl hp
  · have hm := hmf156 hb156
    refine MW_run C okX3_faultAt 85 2 (gs := []) (cf' := (12, [some (.ref 0), some (.int (x1 + 1)), some (.int x2), some (.int x3), some (.int 0), some (.int (x5 + 1)), none, some (.int w0)], [], (hPd 0 d), 0, 0)) rfl trivial ?_
    refine MW_pick [true, true, true, true, true, true, true, false] rfl (vs' := [some (.ref 0), some (.int (x1 + 1)), some (.int x2), some (.int x3), some (.int 0), some (.int (x5 + 1)), none, none]) rfl ?_
    exact hk d (x1 + 1) x2 x3 0 (x5 + 1) _ hm hp
def pd_faultAt_L12 : Nat → PdS → Int32 → Int32 → Int32 → Int32 → Int32 → Option ((Int32 × Int32) ⊕ (Int32))
  | 0, _, _, _, _, _, _ => none
  | n + 1, d, x1, x2, x3, x4, x5 =>
    if x5 < d.2 then
      (pd_signAt d x5).bind fun q24 =>
        (pd_signAt d (x5 - 1)).bind fun q34 =>
          (pd_isLetter q34).bind fun q37 =>
            if q37 = 0 then
              if q24 = 59 then
                if x4 = 0 then
                  if x2 < 3 then
                    pd_faultAt_J89 (pd_faultAt_L12 n) d x1 x2 x5 1
                  else
                    pd_faultAt_J89 (pd_faultAt_L12 n) d x1 x2 x5 0
                else
                  pd_faultAt_J89 (pd_faultAt_L12 n) d x1 x2 x5 0
              else
                if q24 = 45 then
                  if x3 = 0 then
                    pd_faultAt_J118 (pd_faultAt_L12 n) d x1 x2 x5 1
                  else
                    pd_faultAt_J118 (pd_faultAt_L12 n) d x1 x2 x5 0
                else
                  (pd_isLetter q24).bind fun q130 =>
                    if q130 = 0 then
                      pd_faultAt_J146 (pd_faultAt_L12 n) d x1 x2 x3 x5 0
                    else
                      if x1 < 4 then
                        pd_faultAt_J146 (pd_faultAt_L12 n) d x1 x2 x3 x5 1
                      else
                        pd_faultAt_J146 (pd_faultAt_L12 n) d x1 x2 x3 x5 0
            else
              if q24 < 49 then
                if (0 : Int32) = 0 then
                  some (.inr x5)
                else
                  pd_faultAt_L12 n d x1 x2 x3 x4 (x5 + 1)
              else
                if q24 < 54 then
                  if (1 : Int32) = 0 then
                    some (.inr x5)
                  else
                    pd_faultAt_L12 n d x1 x2 x3 x4 (x5 + 1)
                else
                  if (0 : Int32) = 0 then
                    some (.inr x5)
                  else
                    pd_faultAt_L12 n d x1 x2 x3 x4 (x5 + 1)
    else
      some (.inl (x1, x4))
set_option maxRecDepth 100000 in
set_option maxHeartbeats 1000000 in
theorem l_pd_faultAt_12 {X : CTX} {K : Option Value → AH → Prop} (C : CX X cX3_faultAt yX3_faultAt.cls (decide (yX3_faultAt.name = "<init>")) 1 21) (hq : RQ X (some .int) K) : ∀ (n : Nat) (d : PdS) (x1 : Int32) (x2 : Int32) (x3 : Int32) (x4 : Int32) (x5 : Int32) (out : (Int32 × Int32) ⊕ (Int32)) (hm : pd_faultAt_L12 n d x1 x2 x3 x4 x5 = some out) (hp : Sum.elim (fun e => MW X (168, [some (.ref 0), some (.int e.1), none, none, some (.int e.2), none, none, none], [], (hPd 0 d), 0, 0)) (fun r => K (some (.int r)) (hPd 0 d)) out), MW X (12, [some (.ref 0), some (.int x1), some (.int x2), some (.int x3), some (.int x4), some (.int x5), none, none], [], (hPd 0 d), 0, 0) := by
  intro n
  induction n with
  | zero => intro d x1 x2 x3 x4 x5 out hm hp; rw [pd_faultAt_L12] at hm; cases hm
  | succ n ih =>
    intro d x1 x2 x3 x4 x5 out hm hp
    rw [pd_faultAt_L12] at hm
    refine MW_run C okX3_faultAt 10 3 (gs := []) (cf' := (18, [some (.ref 0), some (.int x1), some (.int x2), some (.int x3), some (.int x4), some (.int x5), none, none], [.int d.2, .int x5], (hPd 0 d), 0, 0)) rfl trivial ?_
    obtain ⟨hmt18, hmf18⟩ := of_if hm
    refine MW_brF C okX3_faultAt 13 rfl rfl (fun hb18 => ?_) (fun hb18 => ?_)
    · have hm := hmt18 hb18
      refine MW_run C okX3_faultAt 14 2 (gs := []) (cf' := (24, [some (.ref 0), some (.int x1), some (.int x2), some (.int x3), some (.int x4), some (.int x5), none, none], [.int x5, .ref 0], (hPd 0 d), 0, 0)) rfl trivial ?_
      obtain ⟨q24, hc24, hm⟩ := of_bind hm
      refine MW_callV0 C okX3_faultAt 16 rfl (v0 := some (.int q24)) (h0 := (hPd 0 d)) (c_pd_signAt d x5 q24 hc24) lkX3_19 1 dpX3_signAt (by decide) (rest := []) rfl rfl rfl rfl rfl rfl rfl rfl ?_
      refine MW_run C okX3_faultAt 17 5 (gs := []) (cf' := (34, [some (.ref 0), some (.int x1), some (.int x2), some (.int x3), some (.int x4), some (.int x5), some (.int q24), none], [.int (x5 - 1), .ref 0], (hPd 0 d), 0, 0)) rfl trivial ?_
      obtain ⟨q34, hc34, hm⟩ := of_bind hm
      refine MW_callV0 C okX3_faultAt 22 rfl (v0 := some (.int q34)) (h0 := (hPd 0 d)) (c_pd_signAt d (x5 - 1) q34 hc34) lkX3_19 1 dpX3_signAt (by decide) (rest := []) rfl rfl rfl rfl rfl rfl rfl rfl ?_
      obtain ⟨q37, hc37, hm⟩ := of_bind hm
      refine MW_callS0 C okX3_faultAt 23 rfl (v0 := some (.int q37)) (c_pd_isLetter q34 q37 hc37) lkX3_23 1 dpX3_isLetter (by decide) (rest := []) rfl rfl rfl rfl rfl ?_
      obtain ⟨hmt40, hmf40⟩ := of_if hm
      refine MW_brT C okX3_faultAt 24 rfl rfl (fun hb40 => ?_) (fun hb40 => ?_)
      · have hm := hmt40 hb40
        refine MW_run C okX3_faultAt 36 2 (gs := []) (cf' := (71, [some (.ref 0), some (.int x1), some (.int x2), some (.int x3), some (.int x4), some (.int x5), some (.int q24), none], [.int 59, .int q24], (hPd 0 d), 0, 0)) rfl trivial ?_
        obtain ⟨hmt71, hmf71⟩ := of_if hm
        refine MW_brF C okX3_faultAt 38 rfl rfl (fun hb71 => ?_) (fun hb71 => ?_)
        · have hm := hmt71 hb71
          refine MW_run C okX3_faultAt 39 1 (gs := []) (cf' := (76, [some (.ref 0), some (.int x1), some (.int x2), some (.int x3), some (.int x4), some (.int x5), some (.int q24), none], [.int x4], (hPd 0 d), 0, 0)) rfl trivial ?_
          obtain ⟨hmt76, hmf76⟩ := of_if hm
          refine MW_brF C okX3_faultAt 40 rfl rfl (fun hb76 => ?_) (fun hb76 => ?_)
          · have hm := hmt76 hb76
            refine MW_run C okX3_faultAt 41 2 (gs := []) (cf' := (81, [some (.ref 0), some (.int x1), some (.int x2), some (.int x3), some (.int x4), some (.int x5), some (.int q24), none], [.int 3, .int x2], (hPd 0 d), 0, 0)) rfl trivial ?_
            obtain ⟨hmt81, hmf81⟩ := of_if hm
            refine MW_brF C okX3_faultAt 43 rfl rfl (fun hb81 => ?_) (fun hb81 => ?_)
            · have hm := hmt81 hb81
              refine MW_run C okX3_faultAt 44 2 (gs := []) (cf' := (89, [some (.ref 0), some (.int x1), some (.int x2), some (.int x3), some (.int x4), some (.int x5), some (.int q24), none], [.int 1], (hPd 0 d), 0, 0)) rfl trivial ?_
              refine MW_pick [true, true, true, false, false, true, false, true] rfl (vs' := [some (.ref 0), some (.int x1), some (.int x2), none, none, some (.int x5), none, none]) rfl ?_
              exact j_pd_faultAt_89 C hq (pd_faultAt_L12 n) ih d x1 x2 x5 1 _ hm hp
            · have hm := hmf81 hb81
              refine MW_run C okX3_faultAt 46 1 (gs := []) (cf' := (89, [some (.ref 0), some (.int x1), some (.int x2), some (.int x3), some (.int x4), some (.int x5), some (.int q24), none], [.int 0], (hPd 0 d), 0, 0)) rfl trivial ?_
              refine MW_pick [true, true, true, false, false, true, false, true] rfl (vs' := [some (.ref 0), some (.int x1), some (.int x2), none, none, some (.int x5), none, none]) rfl ?_
              exact j_pd_faultAt_89 C hq (pd_faultAt_L12 n) ih d x1 x2 x5 0 _ hm hp
          · have hm := hmf76 hb76
            refine MW_run C okX3_faultAt 46 1 (gs := []) (cf' := (89, [some (.ref 0), some (.int x1), some (.int x2), some (.int x3), some (.int x4), some (.int x5), some (.int q24), none], [.int 0], (hPd 0 d), 0, 0)) rfl trivial ?_
            refine MW_pick [true, true, true, false, false, true, false, true] rfl (vs' := [some (.ref 0), some (.int x1), some (.int x2), none, none, some (.int x5), none, none]) rfl ?_
            exact j_pd_faultAt_89 C hq (pd_faultAt_L12 n) ih d x1 x2 x5 0 _ hm hp
        · have hm := hmf71 hb71
          refine MW_run C okX3_faultAt 54 2 (gs := []) (cf' := (106, [some (.ref 0), some (.int x1), some (.int x2), some (.int x3), some (.int x4), some (.int x5), some (.int q24), none], [.int 45, .int q24], (hPd 0 d), 0, 0)) rfl trivial ?_
          obtain ⟨hmt106, hmf106⟩ := of_if hm
          refine MW_brF C okX3_faultAt 56 rfl rfl (fun hb106 => ?_) (fun hb106 => ?_)
          · have hm := hmt106 hb106
            refine MW_run C okX3_faultAt 57 1 (gs := []) (cf' := (110, [some (.ref 0), some (.int x1), some (.int x2), some (.int x3), some (.int x4), some (.int x5), some (.int q24), none], [.int x3], (hPd 0 d), 0, 0)) rfl trivial ?_
            obtain ⟨hmt110, hmf110⟩ := of_if hm
            refine MW_brF C okX3_faultAt 58 rfl rfl (fun hb110 => ?_) (fun hb110 => ?_)
            · have hm := hmt110 hb110
              refine MW_run C okX3_faultAt 59 2 (gs := []) (cf' := (118, [some (.ref 0), some (.int x1), some (.int x2), some (.int x3), some (.int x4), some (.int x5), some (.int q24), none], [.int 1], (hPd 0 d), 0, 0)) rfl trivial ?_
              refine MW_pick [true, true, true, false, false, true, false, true] rfl (vs' := [some (.ref 0), some (.int x1), some (.int x2), none, none, some (.int x5), none, none]) rfl ?_
              exact j_pd_faultAt_118 C hq (pd_faultAt_L12 n) ih d x1 x2 x5 1 _ hm hp
            · have hm := hmf110 hb110
              refine MW_run C okX3_faultAt 61 1 (gs := []) (cf' := (118, [some (.ref 0), some (.int x1), some (.int x2), some (.int x3), some (.int x4), some (.int x5), some (.int q24), none], [.int 0], (hPd 0 d), 0, 0)) rfl trivial ?_
              refine MW_pick [true, true, true, false, false, true, false, true] rfl (vs' := [some (.ref 0), some (.int x1), some (.int x2), none, none, some (.int x5), none, none]) rfl ?_
              exact j_pd_faultAt_118 C hq (pd_faultAt_L12 n) ih d x1 x2 x5 0 _ hm hp
          · have hm := hmf106 hb106
            refine MW_run C okX3_faultAt 68 1 (gs := []) (cf' := (130, [some (.ref 0), some (.int x1), some (.int x2), some (.int x3), some (.int x4), some (.int x5), some (.int q24), none], [.int q24], (hPd 0 d), 0, 0)) rfl trivial ?_
            obtain ⟨q130, hc130, hm⟩ := of_bind hm
            refine MW_callS0 C okX3_faultAt 69 rfl (v0 := some (.int q130)) (c_pd_isLetter q24 q130 hc130) lkX3_23 1 dpX3_isLetter (by decide) (rest := []) rfl rfl rfl rfl rfl ?_
            obtain ⟨hmt133, hmf133⟩ := of_if hm
            refine MW_brT C okX3_faultAt 70 rfl rfl (fun hb133 => ?_) (fun hb133 => ?_)
            · have hm := hmt133 hb133
              refine MW_run C okX3_faultAt 76 1 (gs := []) (cf' := (146, [some (.ref 0), some (.int x1), some (.int x2), some (.int x3), some (.int x4), some (.int x5), some (.int q24), none], [.int 0], (hPd 0 d), 0, 0)) rfl trivial ?_
              refine MW_pick [true, true, true, true, false, true, false, true] rfl (vs' := [some (.ref 0), some (.int x1), some (.int x2), some (.int x3), none, some (.int x5), none, none]) rfl ?_
              exact j_pd_faultAt_146 C hq (pd_faultAt_L12 n) ih d x1 x2 x3 x5 0 _ hm hp
            · have hm := hmf133 hb133
              refine MW_run C okX3_faultAt 71 2 (gs := []) (cf' := (138, [some (.ref 0), some (.int x1), some (.int x2), some (.int x3), some (.int x4), some (.int x5), some (.int q24), none], [.int 4, .int x1], (hPd 0 d), 0, 0)) rfl trivial ?_
              obtain ⟨hmt138, hmf138⟩ := of_if hm
              refine MW_brF C okX3_faultAt 73 rfl rfl (fun hb138 => ?_) (fun hb138 => ?_)
              · have hm := hmt138 hb138
                refine MW_run C okX3_faultAt 74 2 (gs := []) (cf' := (146, [some (.ref 0), some (.int x1), some (.int x2), some (.int x3), some (.int x4), some (.int x5), some (.int q24), none], [.int 1], (hPd 0 d), 0, 0)) rfl trivial ?_
                refine MW_pick [true, true, true, true, false, true, false, true] rfl (vs' := [some (.ref 0), some (.int x1), some (.int x2), some (.int x3), none, some (.int x5), none, none]) rfl ?_
                exact j_pd_faultAt_146 C hq (pd_faultAt_L12 n) ih d x1 x2 x3 x5 1 _ hm hp
              · have hm := hmf138 hb138
                refine MW_run C okX3_faultAt 76 1 (gs := []) (cf' := (146, [some (.ref 0), some (.int x1), some (.int x2), some (.int x3), some (.int x4), some (.int x5), some (.int q24), none], [.int 0], (hPd 0 d), 0, 0)) rfl trivial ?_
                refine MW_pick [true, true, true, true, false, true, false, true] rfl (vs' := [some (.ref 0), some (.int x1), some (.int x2), some (.int x3), none, some (.int x5), none, none]) rfl ?_
                exact j_pd_faultAt_146 C hq (pd_faultAt_L12 n) ih d x1 x2 x3 x5 0 _ hm hp
      · have hm := hmf40 hb40
        refine MW_run C okX3_faultAt 25 2 (gs := []) (cf' := (47, [some (.ref 0), some (.int x1), some (.int x2), some (.int x3), some (.int x4), some (.int x5), some (.int q24), none], [.int 49, .int q24], (hPd 0 d), 0, 0)) rfl trivial ?_
        obtain ⟨hmt47, hmf47⟩ := of_if hm
        refine MW_brT C okX3_faultAt 27 rfl rfl (fun hb47 => ?_) (fun hb47 => ?_)
        · have hm := hmt47 hb47
          refine MW_run C okX3_faultAt 33 1 (gs := []) (cf' := (62, [some (.ref 0), some (.int x1), some (.int x2), some (.int x3), some (.int x4), some (.int x5), some (.int q24), none], [.int 0], (hPd 0 d), 0, 0)) rfl trivial ?_
          refine MW_run C okX3_faultAt 34 2 (gs := []) (cf' := (154, [some (.ref 0), some (.int x1), some (.int x2), some (.int x3), some (.int x4), some (.int x5), some (.int q24), some (.int 0)], [], (hPd 0 d), 0, 0)) rfl trivial ?_
          refine MW_run C okX3_faultAt 81 1 (gs := []) (cf' := (156, [some (.ref 0), some (.int x1), some (.int x2), some (.int x3), some (.int x4), some (.int x5), some (.int q24), some (.int 0)], [.int 0], (hPd 0 d), 0, 0)) rfl trivial ?_
          obtain ⟨hmt156, hmf156⟩ := of_if hm
          refine MW_brF C okX3_faultAt 82 rfl rfl (fun hb156 => ?_) (fun hb156 => ?_)
          · have hm := hmt156 hb156
            refine MW_run C okX3_faultAt 83 1 (gs := []) (cf' := (161, [some (.ref 0), some (.int x1), some (.int x2), some (.int x3), some (.int x4), some (.int x5), some (.int q24), some (.int 0)], [.int x5], (hPd 0 d), 0, 0)) rfl trivial ?_
            obtain rfl := Option.some.inj hm
            exact MW_iret C okX3_faultAt hq 84 rfl hp
          · have hm := hmf156 hb156
            refine MW_run C okX3_faultAt 85 2 (gs := []) (cf' := (12, [some (.ref 0), some (.int x1), some (.int x2), some (.int x3), some (.int x4), some (.int (x5 + 1)), some (.int q24), some (.int 0)], [], (hPd 0 d), 0, 0)) rfl trivial ?_
            refine MW_pick [true, true, true, true, true, true, false, false] rfl (vs' := [some (.ref 0), some (.int x1), some (.int x2), some (.int x3), some (.int x4), some (.int (x5 + 1)), none, none]) rfl ?_
            exact ih d x1 x2 x3 x4 (x5 + 1) _ hm hp
        · have hm := hmf47 hb47
          refine MW_run C okX3_faultAt 28 2 (gs := []) (cf' := (54, [some (.ref 0), some (.int x1), some (.int x2), some (.int x3), some (.int x4), some (.int x5), some (.int q24), none], [.int 54, .int q24], (hPd 0 d), 0, 0)) rfl trivial ?_
          obtain ⟨hmt54, hmf54⟩ := of_if hm
          refine MW_brF C okX3_faultAt 30 rfl rfl (fun hb54 => ?_) (fun hb54 => ?_)
          · have hm := hmt54 hb54
            refine MW_run C okX3_faultAt 31 2 (gs := []) (cf' := (62, [some (.ref 0), some (.int x1), some (.int x2), some (.int x3), some (.int x4), some (.int x5), some (.int q24), none], [.int 1], (hPd 0 d), 0, 0)) rfl trivial ?_
            refine MW_run C okX3_faultAt 34 2 (gs := []) (cf' := (154, [some (.ref 0), some (.int x1), some (.int x2), some (.int x3), some (.int x4), some (.int x5), some (.int q24), some (.int 1)], [], (hPd 0 d), 0, 0)) rfl trivial ?_
            refine MW_run C okX3_faultAt 81 1 (gs := []) (cf' := (156, [some (.ref 0), some (.int x1), some (.int x2), some (.int x3), some (.int x4), some (.int x5), some (.int q24), some (.int 1)], [.int 1], (hPd 0 d), 0, 0)) rfl trivial ?_
            obtain ⟨hmt156, hmf156⟩ := of_if hm
            refine MW_brF C okX3_faultAt 82 rfl rfl (fun hb156 => ?_) (fun hb156 => ?_)
            · have hm := hmt156 hb156
              refine MW_run C okX3_faultAt 83 1 (gs := []) (cf' := (161, [some (.ref 0), some (.int x1), some (.int x2), some (.int x3), some (.int x4), some (.int x5), some (.int q24), some (.int 1)], [.int x5], (hPd 0 d), 0, 0)) rfl trivial ?_
              obtain rfl := Option.some.inj hm
              exact MW_iret C okX3_faultAt hq 84 rfl hp
            · have hm := hmf156 hb156
              refine MW_run C okX3_faultAt 85 2 (gs := []) (cf' := (12, [some (.ref 0), some (.int x1), some (.int x2), some (.int x3), some (.int x4), some (.int (x5 + 1)), some (.int q24), some (.int 1)], [], (hPd 0 d), 0, 0)) rfl trivial ?_
              refine MW_pick [true, true, true, true, true, true, false, false] rfl (vs' := [some (.ref 0), some (.int x1), some (.int x2), some (.int x3), some (.int x4), some (.int (x5 + 1)), none, none]) rfl ?_
              exact ih d x1 x2 x3 x4 (x5 + 1) _ hm hp
          · have hm := hmf54 hb54
            refine MW_run C okX3_faultAt 33 1 (gs := []) (cf' := (62, [some (.ref 0), some (.int x1), some (.int x2), some (.int x3), some (.int x4), some (.int x5), some (.int q24), none], [.int 0], (hPd 0 d), 0, 0)) rfl trivial ?_
            refine MW_run C okX3_faultAt 34 2 (gs := []) (cf' := (154, [some (.ref 0), some (.int x1), some (.int x2), some (.int x3), some (.int x4), some (.int x5), some (.int q24), some (.int 0)], [], (hPd 0 d), 0, 0)) rfl trivial ?_
            refine MW_run C okX3_faultAt 81 1 (gs := []) (cf' := (156, [some (.ref 0), some (.int x1), some (.int x2), some (.int x3), some (.int x4), some (.int x5), some (.int q24), some (.int 0)], [.int 0], (hPd 0 d), 0, 0)) rfl trivial ?_
            obtain ⟨hmt156, hmf156⟩ := of_if hm
            refine MW_brF C okX3_faultAt 82 rfl rfl (fun hb156 => ?_) (fun hb156 => ?_)
            · have hm := hmt156 hb156
              refine MW_run C okX3_faultAt 83 1 (gs := []) (cf' := (161, [some (.ref 0), some (.int x1), some (.int x2), some (.int x3), some (.int x4), some (.int x5), some (.int q24), some (.int 0)], [.int x5], (hPd 0 d), 0, 0)) rfl trivial ?_
              obtain rfl := Option.some.inj hm
              exact MW_iret C okX3_faultAt hq 84 rfl hp
            · have hm := hmf156 hb156
              refine MW_run C okX3_faultAt 85 2 (gs := []) (cf' := (12, [some (.ref 0), some (.int x1), some (.int x2), some (.int x3), some (.int x4), some (.int (x5 + 1)), some (.int q24), some (.int 0)], [], (hPd 0 d), 0, 0)) rfl trivial ?_
              refine MW_pick [true, true, true, true, true, true, false, false] rfl (vs' := [some (.ref 0), some (.int x1), some (.int x2), some (.int x3), some (.int x4), some (.int (x5 + 1)), none, none]) rfl ?_
              exact ih d x1 x2 x3 x4 (x5 + 1) _ hm hp
    · have hm := hmf18 hb18
      obtain rfl := Option.some.inj hm
      refine MW_pick [true, true, false, false, true, false, true, true] rfl (vs' := [some (.ref 0), some (.int x1), none, none, some (.int x4), none, none, none]) rfl ?_
      exact hp
def pd_faultAt (d : PdS) : Option (Int32) :=
  (pd_faultAt_L12 N0 d 0 1 0 1 0).bind fun q12 =>
    match q12 with
    | .inr r12 => some r12
    | .inl e12 =>
      if e12.2 = 0 then
        if e12.1 = 0 then
          some d.2
        else
          (pd_signAt d (d.2 - 1)).bind fun q184 =>
            (pd_isLetter q184).bind fun q187 =>
              if q187 = 0 then
                some (-6)
              else
                some d.2
      else
        some d.2
set_option maxRecDepth 100000 in
set_option maxHeartbeats 1000000 in
theorem t_pd_faultAt {X : CTX} {K : Option Value → AH → Prop} (C : CX X cX3_faultAt yX3_faultAt.cls (decide (yX3_faultAt.name = "<init>")) 1 21) (hq : RQ X (some .int) K) (d : PdS) (out : Int32) (hm : pd_faultAt d = some out) (hp : K (some (.int out)) (hPd 0 d)) : MW X (0, [some (.ref 0), none, none, none, none, none, none, none], [], (hPd 0 d), 0, 0) := by
  unfold pd_faultAt at hm
  refine MW_run C okX3_faultAt 0 10 (gs := []) (cf' := (12, [some (.ref 0), some (.int 0), some (.int 1), some (.int 0), some (.int 1), some (.int 0), none, none], [], (hPd 0 d), 0, 0)) rfl trivial ?_
  obtain ⟨q12, hc12, hm⟩ := of_bind hm
  refine l_pd_faultAt_12 C hq N0 d 0 1 0 1 0 q12 hc12 ?_
  cases q12 with
  | inr r12 =>
    obtain rfl := Option.some.inj hm
    exact hp
  | inl e12 =>
    show MW X (168, [some (.ref 0), some (.int e12.1), none, none, some (.int e12.2), none, none, none], [], (hPd 0 d), 0, 0)
    refine MW_run C okX3_faultAt 87 1 (gs := []) (cf' := (170, [some (.ref 0), some (.int e12.1), none, none, some (.int e12.2), none, none, none], [.int e12.2], (hPd 0 d), 0, 0)) rfl trivial ?_
    obtain ⟨hmt170, hmf170⟩ := of_if hm
    refine MW_brF C okX3_faultAt 88 rfl rfl (fun hb170 => ?_) (fun hb170 => ?_)
    · have hm := hmt170 hb170
      refine MW_run C okX3_faultAt 89 1 (gs := []) (cf' := (174, [some (.ref 0), some (.int e12.1), none, none, some (.int e12.2), none, none, none], [.int e12.1], (hPd 0 d), 0, 0)) rfl trivial ?_
      obtain ⟨hmt174, hmf174⟩ := of_if hm
      refine MW_brT C okX3_faultAt 90 rfl rfl (fun hb174 => ?_) (fun hb174 => ?_)
      · have hm := hmt174 hb174
        refine MW_run C okX3_faultAt 99 3 (gs := []) (cf' := (202, [some (.ref 0), some (.int e12.1), none, none, some (.int e12.2), none, none, none], [.int d.2], (hPd 0 d), 0, 0)) rfl trivial ?_
        obtain rfl := Option.some.inj hm
        exact MW_iret C okX3_faultAt hq 103 rfl hp
      · have hm := hmf174 hb174
        refine MW_run C okX3_faultAt 91 5 (gs := []) (cf' := (184, [some (.ref 0), some (.int e12.1), none, none, some (.int e12.2), none, none, none], [.int (d.2 - 1), .ref 0], (hPd 0 d), 0, 0)) rfl trivial ?_
        obtain ⟨q184, hc184, hm⟩ := of_bind hm
        refine MW_callV0 C okX3_faultAt 96 rfl (v0 := some (.int q184)) (h0 := (hPd 0 d)) (c_pd_signAt d (d.2 - 1) q184 hc184) lkX3_19 1 dpX3_signAt (by decide) (rest := []) rfl rfl rfl rfl rfl rfl rfl rfl ?_
        obtain ⟨q187, hc187, hm⟩ := of_bind hm
        refine MW_callS0 C okX3_faultAt 97 rfl (v0 := some (.int q187)) (c_pd_isLetter q184 q187 hc187) lkX3_23 1 dpX3_isLetter (by decide) (rest := []) rfl rfl rfl rfl rfl ?_
        obtain ⟨hmt190, hmf190⟩ := of_if hm
        refine MW_brT C okX3_faultAt 98 rfl rfl (fun hb190 => ?_) (fun hb190 => ?_)
        · have hm := hmt190 hb190
          refine MW_run C okX3_faultAt 102 1 (gs := []) (cf' := (202, [some (.ref 0), some (.int e12.1), none, none, some (.int e12.2), none, none, none], [.int (-6)], (hPd 0 d), 0, 0)) rfl trivial ?_
          obtain rfl := Option.some.inj hm
          exact MW_iret C okX3_faultAt hq 103 rfl hp
        · have hm := hmf190 hb190
          refine MW_run C okX3_faultAt 99 3 (gs := []) (cf' := (202, [some (.ref 0), some (.int e12.1), none, none, some (.int e12.2), none, none, none], [.int d.2], (hPd 0 d), 0, 0)) rfl trivial ?_
          obtain rfl := Option.some.inj hm
          exact MW_iret C okX3_faultAt hq 103 rfl hp
    · have hm := hmf170 hb170
      refine MW_run C okX3_faultAt 99 3 (gs := []) (cf' := (202, [some (.ref 0), some (.int e12.1), none, none, some (.int e12.2), none, none, none], [.int d.2], (hPd 0 d), 0, 0)) rfl trivial ?_
      obtain rfl := Option.some.inj hm
      exact MW_iret C okX3_faultAt hq 103 rfl hp
theorem c_pd_faultAt (d : PdS) (out : Int32) (hm : pd_faultAt d = some out) : CT yX3_faultAt cX3_faultAt 8 (some .int) 1 21 0 0 [.ref 0] (hPd 0 d) (fun v h => v = (some (.int out)) ∧ h = (hPd 0 d)) :=
  CT_of (by decide +kernel) (vs0 := [some (.ref 0), none, none, none, none, none, none, none]) rfl rfl (fun X C hq => t_pd_faultAt C hq d out hm ⟨rfl, rfl⟩)
/-! C: yd_clear -/
def yd_clear (y : YdS) : Option (YdS) :=
  (oc_forget y.2.2.2.2.2.2.2.2).bind fun q24 =>
    some (0, 1, 0, 0, y.2.2.2.2.1, y.2.2.2.2.2.1, y.2.2.2.2.2.2.1, y.2.2.2.2.2.2.2.1, q24)
set_option maxRecDepth 100000 in
set_option maxHeartbeats 1000000 in
theorem t_yd_clear {X : CTX} {K : Option Value → AH → Prop} (C : CX X cX10_clear yX10_clear.cls (decide (yX10_clear.name = "<init>")) 1 21) (hq : RQ X none K) (y : YdS) (out : YdS) (hm : yd_clear y = some out) (hp : K none (hYd 0 out)) : MW X (0, [some (.ref 0)], [], (hYd 0 y), 0, 0) := by
  unfold yd_clear at hm
  refine MW_run C okX10_clear 0 14 (gs := []) (cf' := (24, [some (.ref 0)], [.ref 5], (hYd 0 (0, 1, 0, 0, y.2.2.2.2.1, y.2.2.2.2.2.1, y.2.2.2.2.2.2.1, y.2.2.2.2.2.2.2.1, y.2.2.2.2.2.2.2.2)), 0, 0)) rfl trivial ?_
  obtain ⟨q24, hc24, hm⟩ := of_bind hm
  refine MW_callV1 C okX10_clear 14 rfl [5, 6, 7] (v0 := none) (h0 := (hOc 0 q24)) (c_oc_forget y.2.2.2.2.2.2.2.2 q24 hc24) lkX10_44 0 dpX2_forget (by decide) (rest := []) rfl rfl rfl rfl rfl rfl rfl rfl rfl rfl rfl (st2 := []) (h2 := (hYd 0 (0, 1, 0, 0, y.2.2.2.2.1, y.2.2.2.2.2.1, y.2.2.2.2.2.2.1, y.2.2.2.2.2.2.2.1, q24))) rfl rfl ?_
  obtain rfl := Option.some.inj hm
  exact MW_vret C okX10_clear hq 15 rfl hp
theorem c_yd_clear (y : YdS) (out : YdS) (hm : yd_clear y = some out) : CT yX10_clear cX10_clear 1 none 1 21 0 0 [.ref 0] (hYd 0 y) (fun v h => v = none ∧ h = (hYd 0 out)) :=
  CT_of (by decide +kernel) (vs0 := [some (.ref 0)]) rfl rfl (fun X C hq => t_yd_clear C hq y out hm ⟨rfl, rfl⟩)
/-! C: yd_addDash -/
def yd_addDash (y : YdS) : Option (YdS) :=
  some (y.1, y.2.1, y.2.2.1, (y.2.2.2.1 ||| ((1 : Int32) <<< ((y.2.1 - 1) &&& 31))), y.2.2.2.2.1, y.2.2.2.2.2.1, y.2.2.2.2.2.2.1, y.2.2.2.2.2.2.2.1, y.2.2.2.2.2.2.2.2)
set_option maxRecDepth 100000 in
set_option maxHeartbeats 1000000 in
theorem t_yd_addDash {X : CTX} {K : Option Value → AH → Prop} (C : CX X cX10_addDash yX10_addDash.cls (decide (yX10_addDash.name = "<init>")) 0 0) (hq : RQ X none K) (y : YdS) (out : YdS) (hm : yd_addDash y = some out) (hp : K none (hYd 0 out)) : MW X (0, [some (.ref 0)], [], (hYd 0 y), 0, 0) := by
  unfold yd_addDash at hm
  refine MW_run C okX10_addDash 0 11 (gs := []) (cf' := (17, [some (.ref 0)], [], (hYd 0 (y.1, y.2.1, y.2.2.1, (y.2.2.2.1 ||| ((1 : Int32) <<< ((y.2.1 - 1) &&& 31))), y.2.2.2.2.1, y.2.2.2.2.2.1, y.2.2.2.2.2.2.1, y.2.2.2.2.2.2.2.1, y.2.2.2.2.2.2.2.2)), 0, 0)) rfl trivial ?_
  obtain rfl := Option.some.inj hm
  exact MW_vret C okX10_addDash hq 11 rfl hp
theorem c_yd_addDash (y : YdS) (out : YdS) (hm : yd_addDash y = some out) : CT yX10_addDash cX10_addDash 1 none 0 0 0 0 [.ref 0] (hYd 0 y) (fun v h => v = none ∧ h = (hYd 0 out)) :=
  CT_of (by decide +kernel) (vs0 := [some (.ref 0)]) rfl rfl (fun X C hq => t_yd_addDash C hq y out hm ⟨rfl, rfl⟩)
/-! C: yd_addSiding -/
def yd_addSiding (y : YdS) (x1 : Int32) (x2 : Int32) : Option (YdS) :=
  if y.1 < 0 then
    some y
  else
    if y.1 < 4 then
      if inb y.1 4 ∧ inb y.1 4 ∧ inb y.1 4 then
        some ((y.1 + 1), y.2.1, y.2.2.1, y.2.2.2.1, (wr y.2.2.2.2.1 y.1 x1), (wr y.2.2.2.2.2.1 y.1 x2), (wr y.2.2.2.2.2.2.1 y.1 (y.2.1 - 1)), y.2.2.2.2.2.2.2.1, y.2.2.2.2.2.2.2.2)
      else none
    else
      some y
set_option maxRecDepth 100000 in
set_option maxHeartbeats 1000000 in
theorem t_yd_addSiding {X : CTX} {K : Option Value → AH → Prop} (C : CX X cX10_addSiding yX10_addSiding.cls (decide (yX10_addSiding.name = "<init>")) 0 0) (hq : RQ X none K) (y : YdS) (x1 : Int32) (x2 : Int32) (out : YdS) (hm : yd_addSiding y x1 x2 = some out) (hp : K none (hYd 0 out)) : MW X (0, [some (.ref 0), some (.int x1), some (.int x2)], [], (hYd 0 y), 0, 0) := by
  unfold yd_addSiding at hm
  refine MW_run C okX10_addSiding 0 2 (gs := []) (cf' := (4, [some (.ref 0), some (.int x1), some (.int x2)], [.int y.1], (hYd 0 y), 0, 0)) rfl trivial ?_
  obtain ⟨hmt4, hmf4⟩ := of_if hm
  refine MW_brT C okX10_addSiding 2 rfl rfl (fun hb4 => ?_) (fun hb4 => ?_)
  · have hm := hmt4 hb4
    obtain rfl := Option.some.inj hm
    exact MW_vret C okX10_addSiding hq 34 rfl hp
  · have hm := hmf4 hb4
    refine MW_run C okX10_addSiding 3 3 (gs := []) (cf' := (12, [some (.ref 0), some (.int x1), some (.int x2)], [.int 4, .int y.1], (hYd 0 y), 0, 0)) rfl trivial ?_
    obtain ⟨hmt12, hmf12⟩ := of_if hm
    refine MW_brF C okX10_addSiding 6 rfl rfl (fun hb12 => ?_) (fun hb12 => ?_)
    · have hm := hmt12 hb12
      obtain ⟨hg60, hm⟩ := of_guard hm
      refine MW_run C okX10_addSiding 7 27 (gs := [inb y.1 4, inb y.1 4, inb y.1 4]) (cf' := (60, [some (.ref 0), some (.int x1), some (.int x2)], [], (hYd 0 ((y.1 + 1), y.2.1, y.2.2.1, y.2.2.2.1, (wr y.2.2.2.2.1 y.1 x1), (wr y.2.2.2.2.2.1 y.1 x2), (wr y.2.2.2.2.2.2.1 y.1 (y.2.1 - 1)), y.2.2.2.2.2.2.2.1, y.2.2.2.2.2.2.2.2)), 0, 0)) rfl ⟨hg60.1, hg60.2.1, hg60.2.2⟩ ?_
      obtain rfl := Option.some.inj hm
      exact MW_vret C okX10_addSiding hq 34 rfl hp
    · have hm := hmf12 hb12
      obtain rfl := Option.some.inj hm
      exact MW_vret C okX10_addSiding hq 34 rfl hp
theorem c_yd_addSiding (y : YdS) (x1 : Int32) (x2 : Int32) (out : YdS) (hm : yd_addSiding y x1 x2 = some out) : CT yX10_addSiding cX10_addSiding 3 none 0 0 0 0 [.ref 0, .int x1, .int x2] (hYd 0 y) (fun v h => v = none ∧ h = (hYd 0 out)) :=
  CT_of (by decide +kernel) (vs0 := [some (.ref 0), some (.int x1), some (.int x2)]) rfl rfl (fun X C hq => t_yd_addSiding C hq y x1 x2 out hm ⟨rfl, rfl⟩)
/-! C: yd_letterAt -/
def yd_letterAt (y : YdS) (x1 : Int32) : Option (Int32) :=
  if x1 < 0 then
    some 0
  else
    if x1 < (nI 4) then
      if inb x1 4 then
        some (rd y.2.2.2.2.1 x1)
      else none
    else
      some 0
set_option maxRecDepth 100000 in
set_option maxHeartbeats 1000000 in
theorem t_yd_letterAt {X : CTX} {K : Option Value → AH → Prop} (C : CX X cX10_letterAt yX10_letterAt.cls (decide (yX10_letterAt.name = "<init>")) 0 0) (hq : RQ X (some .int) K) (y : YdS) (x1 : Int32) (out : Int32) (hm : yd_letterAt y x1 = some out) (hp : K (some (.int out)) (hYd 0 y)) : MW X (0, [some (.ref 0), some (.int x1)], [], (hYd 0 y), 0, 0) := by
  unfold yd_letterAt at hm
  refine MW_run C okX10_letterAt 0 1 (gs := []) (cf' := (1, [some (.ref 0), some (.int x1)], [.int x1], (hYd 0 y), 0, 0)) rfl trivial ?_
  obtain ⟨hmt1, hmf1⟩ := of_if hm
  refine MW_brT C okX10_letterAt 1 rfl rfl (fun hb1 => ?_) (fun hb1 => ?_)
  · have hm := hmt1 hb1
    refine MW_run C okX10_letterAt 12 1 (gs := []) (cf' := (23, [some (.ref 0), some (.int x1)], [.int 0], (hYd 0 y), 0, 0)) rfl trivial ?_
    obtain rfl := Option.some.inj hm
    exact MW_iret C okX10_letterAt hq 13 rfl hp
  · have hm := hmf1 hb1
    refine MW_run C okX10_letterAt 2 4 (gs := []) (cf' := (10, [some (.ref 0), some (.int x1)], [.int (nI 4), .int x1], (hYd 0 y), 0, 0)) rfl trivial ?_
    obtain ⟨hmt10, hmf10⟩ := of_if hm
    refine MW_brF C okX10_letterAt 6 rfl rfl (fun hb10 => ?_) (fun hb10 => ?_)
    · have hm := hmt10 hb10
      obtain ⟨hg23, hm⟩ := of_guard hm
      refine MW_run C okX10_letterAt 7 5 (gs := [inb x1 4]) (cf' := (23, [some (.ref 0), some (.int x1)], [.int (rd y.2.2.2.2.1 x1)], (hYd 0 y), 0, 0)) rfl hg23 ?_
      obtain rfl := Option.some.inj hm
      exact MW_iret C okX10_letterAt hq 13 rfl hp
    · have hm := hmf10 hb10
      refine MW_run C okX10_letterAt 12 1 (gs := []) (cf' := (23, [some (.ref 0), some (.int x1)], [.int 0], (hYd 0 y), 0, 0)) rfl trivial ?_
      obtain rfl := Option.some.inj hm
      exact MW_iret C okX10_letterAt hq 13 rfl hp
theorem c_yd_letterAt (y : YdS) (x1 : Int32) (out : Int32) (hm : yd_letterAt y x1 = some out) : CT yX10_letterAt cX10_letterAt 2 (some .int) 0 0 0 0 [.ref 0, .int x1] (hYd 0 y) (fun v h => v = (some (.int out)) ∧ h = (hYd 0 y)) :=
  CT_of (by decide +kernel) (vs0 := [some (.ref 0), some (.int x1)]) rfl rfl (fun X C hq => t_yd_letterAt C hq y x1 out hm ⟨rfl, rfl⟩)
/-! C: yd_takesOutAt -/
def yd_takesOutAt_J16 (y : YdS) (x2 : Int32) (w0 : Int32) : Option (Int32) :=
  if w0 = 100 then
    some 1
  else
    if w0 = 113 then
      if x2 = 1 then
        some 1
      else
        some 0
    else
      if x2 = 0 then
        some 1
      else
        some 0
set_option maxRecDepth 100000 in
set_option maxHeartbeats 1000000 in
theorem j_yd_takesOutAt_16 {X : CTX} {K : Option Value → AH → Prop} (C : CX X cX10_takesOutAt yX10_takesOutAt.cls (decide (yX10_takesOutAt.name = "<init>")) 1 21) (hq : RQ X (some .boolean) K) (y : YdS) (x2 : Int32) (w0 : Int32) (out : Int32) (hm : yd_takesOutAt_J16 y x2 w0 = some out) (hp : K (some (.int out)) (hYd 0 y)) : MW X (16, [none, none, some (.int x2), none], [.int w0], (hYd 0 y), 0, 0) := by
  unfold yd_takesOutAt_J16 at hm
  refine MW_run C okX10_takesOutAt 9 3 (gs := []) (cf' := (20, [none, none, some (.int x2), some (.int w0)], [.int 100, .int w0], (hYd 0 y), 0, 0)) rfl trivial ?_
  obtain ⟨hmt20, hmf20⟩ := of_if hm
  refine MW_brT C okX10_takesOutAt 12 rfl rfl (fun hb20 => ?_) (fun hb20 => ?_)
  · have hm := hmt20 hb20
    refine MW_run C okX10_takesOutAt 22 2 (gs := []) (cf' := (46, [none, none, some (.int x2), some (.int w0)], [.int 1], (hYd 0 y), 0, 0)) rfl trivial ?_
    obtain rfl := Option.some.inj hm
    exact MW_zret C okX10_takesOutAt hq 25 rfl (by decide) hp
  · have hm := hmf20 hb20
    refine MW_run C okX10_takesOutAt 13 2 (gs := []) (cf' := (26, [none, none, some (.int x2), some (.int w0)], [.int 113, .int w0], (hYd 0 y), 0, 0)) rfl trivial ?_
    obtain ⟨hmt26, hmf26⟩ := of_if hm
    refine MW_brF C okX10_takesOutAt 15 rfl rfl (fun hb26 => ?_) (fun hb26 => ?_)
    · have hm := hmt26 hb26
      refine MW_run C okX10_takesOutAt 16 2 (gs := []) (cf' := (31, [none, none, some (.int x2), some (.int w0)], [.int 1, .int x2], (hYd 0 y), 0, 0)) rfl trivial ?_
      obtain ⟨hmt31, hmf31⟩ := of_if hm
      refine MW_brF C okX10_takesOutAt 18 rfl rfl (fun hb31 => ?_) (fun hb31 => ?_)
      · have hm := hmt31 hb31
        refine MW_run C okX10_takesOutAt 19 1 (gs := []) (cf' := (41, [none, none, some (.int x2), some (.int w0)], [], (hYd 0 y), 0, 0)) rfl trivial ?_
        refine MW_run C okX10_takesOutAt 22 2 (gs := []) (cf' := (46, [none, none, some (.int x2), some (.int w0)], [.int 1], (hYd 0 y), 0, 0)) rfl trivial ?_
        obtain rfl := Option.some.inj hm
        exact MW_zret C okX10_takesOutAt hq 25 rfl (by decide) hp
      · have hm := hmf31 hb31
        refine MW_run C okX10_takesOutAt 24 1 (gs := []) (cf' := (46, [none, none, some (.int x2), some (.int w0)], [.int 0], (hYd 0 y), 0, 0)) rfl trivial ?_
        obtain rfl := Option.some.inj hm
        exact MW_zret C okX10_takesOutAt hq 25 rfl (by decide) hp
    · have hm := hmf26 hb26
      refine MW_run C okX10_takesOutAt 20 1 (gs := []) (cf' := (38, [none, none, some (.int x2), some (.int w0)], [.int x2], (hYd 0 y), 0, 0)) rfl trivial ?_
      obtain ⟨hmt38, hmf38⟩ := of_if hm
      refine MW_brF C okX10_takesOutAt 21 rfl rfl (fun hb38 => ?_) (fun hb38 => ?_)
      · have hm := hmt38 hb38
        refine MW_run C okX10_takesOutAt 22 2 (gs := []) (cf' := (46, [none, none, some (.int x2), some (.int w0)], [.int 1], (hYd 0 y), 0, 0)) rfl trivial ?_
        obtain rfl := Option.some.inj hm
        exact MW_zret C okX10_takesOutAt hq 25 rfl (by decide) hp
      · have hm := hmf38 hb38
        refine MW_run C okX10_takesOutAt 24 1 (gs := []) (cf' := (46, [none, none, some (.int x2), some (.int w0)], [.int 0], (hYd 0 y), 0, 0)) rfl trivial ?_
        obtain rfl := Option.some.inj hm
        exact MW_zret C okX10_takesOutAt hq 25 rfl (by decide) hp
def yd_takesOutAt (y : YdS) (x1 : Int32) (x2 : Int32) : Option (Int32) :=
  if x1 = 0 then
    yd_takesOutAt_J16 y x2 115
  else
    (yd_letterAt y (x1 - 1)).bind fun q13 =>
      yd_takesOutAt_J16 y x2 q13
set_option maxRecDepth 100000 in
set_option maxHeartbeats 1000000 in
theorem t_yd_takesOutAt {X : CTX} {K : Option Value → AH → Prop} (C : CX X cX10_takesOutAt yX10_takesOutAt.cls (decide (yX10_takesOutAt.name = "<init>")) 1 21) (hq : RQ X (some .boolean) K) (y : YdS) (x1 : Int32) (x2 : Int32) (out : Int32) (hm : yd_takesOutAt y x1 x2 = some out) (hp : K (some (.int out)) (hYd 0 y)) : MW X (0, [some (.ref 0), some (.int x1), some (.int x2), none], [], (hYd 0 y), 0, 0) := by
  unfold yd_takesOutAt at hm
  refine MW_run C okX10_takesOutAt 0 1 (gs := []) (cf' := (1, [some (.ref 0), some (.int x1), some (.int x2), none], [.int x1], (hYd 0 y), 0, 0)) rfl trivial ?_
  obtain ⟨hmt1, hmf1⟩ := of_if hm
  refine MW_brF C okX10_takesOutAt 1 rfl rfl (fun hb1 => ?_) (fun hb1 => ?_)
  · have hm := hmt1 hb1
    refine MW_run C okX10_takesOutAt 2 2 (gs := []) (cf' := (16, [some (.ref 0), some (.int x1), some (.int x2), none], [.int 115], (hYd 0 y), 0, 0)) rfl trivial ?_
    refine MW_pick [false, false, true, true] rfl (vs' := [none, none, some (.int x2), none]) rfl ?_
    exact j_yd_takesOutAt_16 C hq y x2 115 _ hm hp
  · have hm := hmf1 hb1
    refine MW_run C okX10_takesOutAt 4 4 (gs := []) (cf' := (13, [some (.ref 0), some (.int x1), some (.int x2), none], [.int (x1 - 1), .ref 0], (hYd 0 y), 0, 0)) rfl trivial ?_
    obtain ⟨q13, hc13, hm⟩ := of_bind hm
    refine MW_callV0 C okX10_takesOutAt 8 rfl (v0 := some (.int q13)) (h0 := (hYd 0 y)) (c_yd_letterAt y (x1 - 1) q13 hc13) lkX10_62 1 dpX10_letterAt (by decide) (rest := []) rfl rfl rfl rfl rfl rfl rfl rfl ?_
    refine MW_pick [false, false, true, true] rfl (vs' := [none, none, some (.int x2), none]) rfl ?_
    exact j_yd_takesOutAt_16 C hq y x2 q13 _ hm hp
theorem c_yd_takesOutAt (y : YdS) (x1 : Int32) (x2 : Int32) (out : Int32) (hm : yd_takesOutAt y x1 x2 = some out) : CT yX10_takesOutAt cX10_takesOutAt 4 (some .boolean) 1 21 0 0 [.ref 0, .int x1, .int x2] (hYd 0 y) (fun v h => v = (some (.int out)) ∧ h = (hYd 0 y)) :=
  CT_of (by decide +kernel) (vs0 := [some (.ref 0), some (.int x1), some (.int x2), none]) rfl rfl (fun X C hq => t_yd_takesOutAt C hq y x1 x2 out hm ⟨rfl, rfl⟩)
/-! C: yd_stageAt -/
def yd_stageAt (y : YdS) (x1 : Int32) : Option (Int32) :=
  if x1 < 0 then
    some 0
  else
    if x1 < (nI 4) then
      if inb x1 4 then
        some (rd y.2.2.2.2.2.2.1 x1)
      else none
    else
      some 0
set_option maxRecDepth 100000 in
set_option maxHeartbeats 1000000 in
theorem t_yd_stageAt {X : CTX} {K : Option Value → AH → Prop} (C : CX X cX10_stageAt yX10_stageAt.cls (decide (yX10_stageAt.name = "<init>")) 0 0) (hq : RQ X (some .int) K) (y : YdS) (x1 : Int32) (out : Int32) (hm : yd_stageAt y x1 = some out) (hp : K (some (.int out)) (hYd 0 y)) : MW X (0, [some (.ref 0), some (.int x1)], [], (hYd 0 y), 0, 0) := by
  unfold yd_stageAt at hm
  refine MW_run C okX10_stageAt 0 1 (gs := []) (cf' := (1, [some (.ref 0), some (.int x1)], [.int x1], (hYd 0 y), 0, 0)) rfl trivial ?_
  obtain ⟨hmt1, hmf1⟩ := of_if hm
  refine MW_brT C okX10_stageAt 1 rfl rfl (fun hb1 => ?_) (fun hb1 => ?_)
  · have hm := hmt1 hb1
    refine MW_run C okX10_stageAt 12 1 (gs := []) (cf' := (23, [some (.ref 0), some (.int x1)], [.int 0], (hYd 0 y), 0, 0)) rfl trivial ?_
    obtain rfl := Option.some.inj hm
    exact MW_iret C okX10_stageAt hq 13 rfl hp
  · have hm := hmf1 hb1
    refine MW_run C okX10_stageAt 2 4 (gs := []) (cf' := (10, [some (.ref 0), some (.int x1)], [.int (nI 4), .int x1], (hYd 0 y), 0, 0)) rfl trivial ?_
    obtain ⟨hmt10, hmf10⟩ := of_if hm
    refine MW_brF C okX10_stageAt 6 rfl rfl (fun hb10 => ?_) (fun hb10 => ?_)
    · have hm := hmt10 hb10
      obtain ⟨hg23, hm⟩ := of_guard hm
      refine MW_run C okX10_stageAt 7 5 (gs := [inb x1 4]) (cf' := (23, [some (.ref 0), some (.int x1)], [.int (rd y.2.2.2.2.2.2.1 x1)], (hYd 0 y), 0, 0)) rfl hg23 ?_
      obtain rfl := Option.some.inj hm
      exact MW_iret C okX10_stageAt hq 13 rfl hp
    · have hm := hmf10 hb10
      refine MW_run C okX10_stageAt 12 1 (gs := []) (cf' := (23, [some (.ref 0), some (.int x1)], [.int 0], (hYd 0 y), 0, 0)) rfl trivial ?_
      obtain rfl := Option.some.inj hm
      exact MW_iret C okX10_stageAt hq 13 rfl hp
theorem c_yd_stageAt (y : YdS) (x1 : Int32) (out : Int32) (hm : yd_stageAt y x1 = some out) : CT yX10_stageAt cX10_stageAt 2 (some .int) 0 0 0 0 [.ref 0, .int x1] (hYd 0 y) (fun v h => v = (some (.int out)) ∧ h = (hYd 0 y)) :=
  CT_of (by decide +kernel) (vs0 := [some (.ref 0), some (.int x1)]) rfl rfl (fun X C hq => t_yd_stageAt C hq y x1 out hm ⟨rfl, rfl⟩)
/-! C: yd_stageOf -/
def yd_stageOf (y : YdS) (x1 : Int32) : Option (Int32) :=
  if x1 = 0 then
    some (-1)
  else
    if x1 = 5 then
      some y.2.1
    else
      (yd_stageAt y (x1 - 1)).bind fun q22 =>
        some q22
set_option maxRecDepth 100000 in
set_option maxHeartbeats 1000000 in
theorem t_yd_stageOf {X : CTX} {K : Option Value → AH → Prop} (C : CX X cX10_stageOf yX10_stageOf.cls (decide (yX10_stageOf.name = "<init>")) 1 21) (hq : RQ X (some .int) K) (y : YdS) (x1 : Int32) (out : Int32) (hm : yd_stageOf y x1 = some out) (hp : K (some (.int out)) (hYd 0 y)) : MW X (0, [some (.ref 0), some (.int x1)], [], (hYd 0 y), 0, 0) := by
  unfold yd_stageOf at hm
  refine MW_run C okX10_stageOf 0 1 (gs := []) (cf' := (1, [some (.ref 0), some (.int x1)], [.int x1], (hYd 0 y), 0, 0)) rfl trivial ?_
  obtain ⟨hmt1, hmf1⟩ := of_if hm
  refine MW_brF C okX10_stageOf 1 rfl rfl (fun hb1 => ?_) (fun hb1 => ?_)
  · have hm := hmt1 hb1
    refine MW_run C okX10_stageOf 2 1 (gs := []) (cf' := (5, [some (.ref 0), some (.int x1)], [.int (-1)], (hYd 0 y), 0, 0)) rfl trivial ?_
    obtain rfl := Option.some.inj hm
    exact MW_iret C okX10_stageOf hq 3 rfl hp
  · have hm := hmf1 hb1
    refine MW_run C okX10_stageOf 4 2 (gs := []) (cf' := (8, [some (.ref 0), some (.int x1)], [.int 5, .int x1], (hYd 0 y), 0, 0)) rfl trivial ?_
    obtain ⟨hmt8, hmf8⟩ := of_if hm
    refine MW_brF C okX10_stageOf 6 rfl rfl (fun hb8 => ?_) (fun hb8 => ?_)
    · have hm := hmt8 hb8
      refine MW_run C okX10_stageOf 7 3 (gs := []) (cf' := (25, [some (.ref 0), some (.int x1)], [.int y.2.1], (hYd 0 y), 0, 0)) rfl trivial ?_
      obtain rfl := Option.some.inj hm
      exact MW_iret C okX10_stageOf hq 15 rfl hp
    · have hm := hmf8 hb8
      refine MW_run C okX10_stageOf 10 4 (gs := []) (cf' := (22, [some (.ref 0), some (.int x1)], [.int (x1 - 1), .ref 0], (hYd 0 y), 0, 0)) rfl trivial ?_
      obtain ⟨q22, hc22, hm⟩ := of_bind hm
      refine MW_callV0 C okX10_stageOf 14 rfl (v0 := some (.int q22)) (h0 := (hYd 0 y)) (c_yd_stageAt y (x1 - 1) q22 hc22) lkX10_55 1 dpX10_stageAt (by decide) (rest := []) rfl rfl rfl rfl rfl rfl rfl rfl ?_
      obtain rfl := Option.some.inj hm
      exact MW_iret C okX10_stageOf hq 15 rfl hp
theorem c_yd_stageOf (y : YdS) (x1 : Int32) (out : Int32) (hm : yd_stageOf y x1 = some out) : CT yX10_stageOf cX10_stageOf 2 (some .int) 1 21 0 0 [.ref 0, .int x1] (hYd 0 y) (fun v h => v = (some (.int out)) ∧ h = (hYd 0 y)) :=
  CT_of (by decide +kernel) (vs0 := [some (.ref 0), some (.int x1)]) rfl rfl (fun X C hq => t_yd_stageOf C hq y x1 out hm ⟨rfl, rfl⟩)
/-! C: yd_reaches -/
def yd_reaches_L32 : Nat → YdS → Int32 → Int32 → Int32 → Option (Int32)
  | 0, _, _, _, _ => none
  | n + 1, y, x3, x5, x6 =>
    if x6 < x3 then
      if x5 = 0 then
        yd_reaches_L32 n y x3 0 (x6 + 1)
      else
        if ((y.2.2.2.1 >>> (x6 &&& 31)) &&& 1) = 1 then
          yd_reaches_L32 n y x3 1 (x6 + 1)
        else
          yd_reaches_L32 n y x3 0 (x6 + 1)
    else
      some x5
set_option maxRecDepth 100000 in
set_option maxHeartbeats 1000000 in
theorem l_yd_reaches_32 {X : CTX} {K : Option Value → AH → Prop} (C : CX X cX10_reaches yX10_reaches.cls (decide (yX10_reaches.name = "<init>")) 2 42) (hq : RQ X (some .boolean) K) : ∀ (n : Nat) (y : YdS) (x3 : Int32) (x5 : Int32) (x6 : Int32) (out : Int32) (hm : yd_reaches_L32 n y x3 x5 x6 = some out) (hp : MW X (69, [none, none, none, none, none, some (.int out), none], [], (hYd 0 y), 0, 0)), MW X (32, [some (.ref 0), none, none, some (.int x3), none, some (.int x5), some (.int x6)], [], (hYd 0 y), 0, 0) := by
  intro n
  induction n with
  | zero => intro y x3 x5 x6 out hm hp; rw [yd_reaches_L32] at hm; cases hm
  | succ n ih =>
    intro y x3 x5 x6 out hm hp
    rw [yd_reaches_L32] at hm
    refine MW_run C okX10_reaches 19 2 (gs := []) (cf' := (35, [some (.ref 0), none, none, some (.int x3), none, some (.int x5), some (.int x6)], [.int x3, .int x6], (hYd 0 y), 0, 0)) rfl trivial ?_
    obtain ⟨hmt35, hmf35⟩ := of_if hm
    refine MW_brF C okX10_reaches 21 rfl rfl (fun hb35 => ?_) (fun hb35 => ?_)
    · have hm := hmt35 hb35
      refine MW_run C okX10_reaches 22 1 (gs := []) (cf' := (40, [some (.ref 0), none, none, some (.int x3), none, some (.int x5), some (.int x6)], [.int x5], (hYd 0 y), 0, 0)) rfl trivial ?_
      obtain ⟨hmt40, hmf40⟩ := of_if hm
      refine MW_brT C okX10_reaches 23 rfl rfl (fun hb40 => ?_) (fun hb40 => ?_)
      · have hm := hmt40 hb40
        refine MW_run C okX10_reaches 34 1 (gs := []) (cf' := (61, [some (.ref 0), none, none, some (.int x3), none, some (.int x5), some (.int x6)], [.int 0], (hYd 0 y), 0, 0)) rfl trivial ?_
        refine MW_run C okX10_reaches 35 3 (gs := []) (cf' := (32, [some (.ref 0), none, none, some (.int x3), none, some (.int 0), some (.int (x6 + 1))], [], (hYd 0 y), 0, 0)) rfl trivial ?_
        exact ih y x3 0 (x6 + 1) _ hm hp
      · have hm := hmf40 hb40
        refine MW_run C okX10_reaches 24 7 (gs := []) (cf' := (53, [some (.ref 0), none, none, some (.int x3), none, some (.int x5), some (.int x6)], [.int 1, .int ((y.2.2.2.1 >>> (x6 &&& 31)) &&& 1)], (hYd 0 y), 0, 0)) rfl trivial ?_
        obtain ⟨hmt53, hmf53⟩ := of_if hm
        refine MW_brF C okX10_reaches 31 rfl rfl (fun hb53 => ?_) (fun hb53 => ?_)
        · have hm := hmt53 hb53
          refine MW_run C okX10_reaches 32 2 (gs := []) (cf' := (61, [some (.ref 0), none, none, some (.int x3), none, some (.int x5), some (.int x6)], [.int 1], (hYd 0 y), 0, 0)) rfl trivial ?_
          refine MW_run C okX10_reaches 35 3 (gs := []) (cf' := (32, [some (.ref 0), none, none, some (.int x3), none, some (.int 1), some (.int (x6 + 1))], [], (hYd 0 y), 0, 0)) rfl trivial ?_
          exact ih y x3 1 (x6 + 1) _ hm hp
        · have hm := hmf53 hb53
          refine MW_run C okX10_reaches 34 1 (gs := []) (cf' := (61, [some (.ref 0), none, none, some (.int x3), none, some (.int x5), some (.int x6)], [.int 0], (hYd 0 y), 0, 0)) rfl trivial ?_
          refine MW_run C okX10_reaches 35 3 (gs := []) (cf' := (32, [some (.ref 0), none, none, some (.int x3), none, some (.int 0), some (.int (x6 + 1))], [], (hYd 0 y), 0, 0)) rfl trivial ?_
          exact ih y x3 0 (x6 + 1) _ hm hp
    · have hm := hmf35 hb35
      obtain rfl := Option.some.inj hm
      refine MW_pick [false, true, true, false, true, true, false] rfl (vs' := [none, none, none, none, none, some (.int x5), none]) rfl ?_
      exact hp
def yd_reaches (y : YdS) (x1 : Int32) (x2 : Int32) : Option (Int32) :=
  (yd_stageOf y x2).bind fun q2 =>
    (yd_stageOf y x1).bind fun q8 =>
      if q8 < q2 then
        (yd_reaches_L32 N0 y q2 1 (q8 + 1)).bind fun q32 =>
          if isZ q32 then some q32 else none
      else
        (yd_reaches_L32 N0 y q2 0 (q8 + 1)).bind fun q32 =>
          if isZ q32 then some q32 else none
set_option maxRecDepth 100000 in
set_option maxHeartbeats 1000000 in
theorem t_yd_reaches {X : CTX} {K : Option Value → AH → Prop} (C : CX X cX10_reaches yX10_reaches.cls (decide (yX10_reaches.name = "<init>")) 2 42) (hq : RQ X (some .boolean) K) (y : YdS) (x1 : Int32) (x2 : Int32) (out : Int32) (hm : yd_reaches y x1 x2 = some out) (hp : K (some (.int out)) (hYd 0 y)) : MW X (0, [some (.ref 0), some (.int x1), some (.int x2), none, none, none, none], [], (hYd 0 y), 0, 0) := by
  unfold yd_reaches at hm
  refine MW_run C okX10_reaches 0 2 (gs := []) (cf' := (2, [some (.ref 0), some (.int x1), some (.int x2), none, none, none, none], [.int x2, .ref 0], (hYd 0 y), 0, 0)) rfl trivial ?_
  obtain ⟨q2, hc2, hm⟩ := of_bind hm
  refine MW_callV0 C okX10_reaches 2 rfl (v0 := some (.int q2)) (h0 := (hYd 0 y)) (c_yd_stageOf y x2 q2 hc2) lkX10_59 1 dpX10_stageOf (by decide) (rest := []) rfl rfl rfl rfl rfl rfl rfl rfl ?_
  refine MW_run C okX10_reaches 3 3 (gs := []) (cf' := (8, [some (.ref 0), some (.int x1), some (.int x2), some (.int q2), none, none, none], [.int x1, .ref 0], (hYd 0 y), 0, 0)) rfl trivial ?_
  obtain ⟨q8, hc8, hm⟩ := of_bind hm
  refine MW_callV0 C okX10_reaches 6 rfl (v0 := some (.int q8)) (h0 := (hYd 0 y)) (c_yd_stageOf y x1 q8 hc8) lkX10_59 1 dpX10_stageOf (by decide) (rest := []) rfl rfl rfl rfl rfl rfl rfl rfl ?_
  refine MW_run C okX10_reaches 7 3 (gs := []) (cf' := (16, [some (.ref 0), some (.int x1), some (.int x2), some (.int q2), some (.int q8), none, none], [.int q2, .int q8], (hYd 0 y), 0, 0)) rfl trivial ?_
  obtain ⟨hmt16, hmf16⟩ := of_if hm
  refine MW_brF C okX10_reaches 10 rfl rfl (fun hb16 => ?_) (fun hb16 => ?_)
  · have hm := hmt16 hb16
    refine MW_run C okX10_reaches 11 2 (gs := []) (cf' := (24, [some (.ref 0), some (.int x1), some (.int x2), some (.int q2), some (.int q8), none, none], [.int 1], (hYd 0 y), 0, 0)) rfl trivial ?_
    refine MW_run C okX10_reaches 14 5 (gs := []) (cf' := (32, [some (.ref 0), some (.int x1), some (.int x2), some (.int q2), some (.int q8), some (.int 1), some (.int (q8 + 1))], [], (hYd 0 y), 0, 0)) rfl trivial ?_
    obtain ⟨q32, hc32, hm⟩ := of_bind hm
    refine MW_pick [true, false, false, true, false, true, true] rfl (vs' := [some (.ref 0), none, none, some (.int q2), none, some (.int 1), some (.int (q8 + 1))]) rfl ?_
    refine l_yd_reaches_32 C hq N0 y q2 1 (q8 + 1) q32 hc32 ?_
    refine MW_run C okX10_reaches 38 1 (gs := []) (cf' := (71, [none, none, none, none, none, some (.int q32), none], [.int q32], (hYd 0 y), 0, 0)) rfl trivial ?_
    obtain ⟨hz, hm⟩ := of_guard hm
    obtain rfl := Option.some.inj hm
    exact MW_zret C okX10_reaches hq 39 rfl hz hp
  · have hm := hmf16 hb16
    refine MW_run C okX10_reaches 13 1 (gs := []) (cf' := (24, [some (.ref 0), some (.int x1), some (.int x2), some (.int q2), some (.int q8), none, none], [.int 0], (hYd 0 y), 0, 0)) rfl trivial ?_
    refine MW_run C okX10_reaches 14 5 (gs := []) (cf' := (32, [some (.ref 0), some (.int x1), some (.int x2), some (.int q2), some (.int q8), some (.int 0), some (.int (q8 + 1))], [], (hYd 0 y), 0, 0)) rfl trivial ?_
    obtain ⟨q32, hc32, hm⟩ := of_bind hm
    refine MW_pick [true, false, false, true, false, true, true] rfl (vs' := [some (.ref 0), none, none, some (.int q2), none, some (.int 0), some (.int (q8 + 1))]) rfl ?_
    refine l_yd_reaches_32 C hq N0 y q2 0 (q8 + 1) q32 hc32 ?_
    refine MW_run C okX10_reaches 38 1 (gs := []) (cf' := (71, [none, none, none, none, none, some (.int q32), none], [.int q32], (hYd 0 y), 0, 0)) rfl trivial ?_
    obtain ⟨hz, hm⟩ := of_guard hm
    obtain rfl := Option.some.inj hm
    exact MW_zret C okX10_reaches hq 39 rfl hz hp
theorem c_yd_reaches (y : YdS) (x1 : Int32) (x2 : Int32) (out : Int32) (hm : yd_reaches y x1 x2 = some out) : CT yX10_reaches cX10_reaches 7 (some .boolean) 2 42 0 0 [.ref 0, .int x1, .int x2] (hYd 0 y) (fun v h => v = (some (.int out)) ∧ h = (hYd 0 y)) :=
  CT_of (by decide +kernel) (vs0 := [some (.ref 0), some (.int x1), some (.int x2), none, none, none, none]) rfl rfl (fun X C hq => t_yd_reaches C hq y x1 x2 out hm ⟨rfl, rfl⟩)
/-! C: yd_putsInAt -/
def yd_putsInAt (y : YdS) (x1 : Int32) (x2 : Int32) : Option (Int32) :=
  if x2 = 0 then
    some 1
  else
    if x1 = 5 then
      some 0
    else
      (yd_letterAt y (x1 - 1)).bind fun q13 =>
        if q13 = 100 then
          some 1
        else
          some 0
set_option maxRecDepth 100000 in
set_option maxHeartbeats 1000000 in
theorem t_yd_putsInAt {X : CTX} {K : Option Value → AH → Prop} (C : CX X cX10_putsInAt yX10_putsInAt.cls (decide (yX10_putsInAt.name = "<init>")) 1 21) (hq : RQ X (some .boolean) K) (y : YdS) (x1 : Int32) (x2 : Int32) (out : Int32) (hm : yd_putsInAt y x1 x2 = some out) (hp : K (some (.int out)) (hYd 0 y)) : MW X (0, [some (.ref 0), some (.int x1), some (.int x2)], [], (hYd 0 y), 0, 0) := by
  unfold yd_putsInAt at hm
  refine MW_run C okX10_putsInAt 0 1 (gs := []) (cf' := (1, [some (.ref 0), some (.int x1), some (.int x2)], [.int x2], (hYd 0 y), 0, 0)) rfl trivial ?_
  obtain ⟨hmt1, hmf1⟩ := of_if hm
  refine MW_brT C okX10_putsInAt 1 rfl rfl (fun hb1 => ?_) (fun hb1 => ?_)
  · have hm := hmt1 hb1
    refine MW_run C okX10_putsInAt 12 2 (gs := []) (cf' := (26, [some (.ref 0), some (.int x1), some (.int x2)], [.int 1], (hYd 0 y), 0, 0)) rfl trivial ?_
    obtain rfl := Option.some.inj hm
    exact MW_zret C okX10_putsInAt hq 15 rfl (by decide) hp
  · have hm := hmf1 hb1
    refine MW_run C okX10_putsInAt 2 2 (gs := []) (cf' := (6, [some (.ref 0), some (.int x1), some (.int x2)], [.int 5, .int x1], (hYd 0 y), 0, 0)) rfl trivial ?_
    obtain ⟨hmt6, hmf6⟩ := of_if hm
    refine MW_brT C okX10_putsInAt 4 rfl rfl (fun hb6 => ?_) (fun hb6 => ?_)
    · have hm := hmt6 hb6
      refine MW_run C okX10_putsInAt 14 1 (gs := []) (cf' := (26, [some (.ref 0), some (.int x1), some (.int x2)], [.int 0], (hYd 0 y), 0, 0)) rfl trivial ?_
      obtain rfl := Option.some.inj hm
      exact MW_zret C okX10_putsInAt hq 15 rfl (by decide) hp
    · have hm := hmf6 hb6
      refine MW_run C okX10_putsInAt 5 4 (gs := []) (cf' := (13, [some (.ref 0), some (.int x1), some (.int x2)], [.int (x1 - 1), .ref 0], (hYd 0 y), 0, 0)) rfl trivial ?_
      obtain ⟨q13, hc13, hm⟩ := of_bind hm
      refine MW_callV0 C okX10_putsInAt 9 rfl (v0 := some (.int q13)) (h0 := (hYd 0 y)) (c_yd_letterAt y (x1 - 1) q13 hc13) lkX10_62 1 dpX10_letterAt (by decide) (rest := []) rfl rfl rfl rfl rfl rfl rfl rfl ?_
      refine MW_run C okX10_putsInAt 10 1 (gs := []) (cf' := (18, [some (.ref 0), some (.int x1), some (.int x2)], [.int 100, .int q13], (hYd 0 y), 0, 0)) rfl trivial ?_
      obtain ⟨hmt18, hmf18⟩ := of_if hm
      refine MW_brF C okX10_putsInAt 11 rfl rfl (fun hb18 => ?_) (fun hb18 => ?_)
      · have hm := hmt18 hb18
        refine MW_run C okX10_putsInAt 12 2 (gs := []) (cf' := (26, [some (.ref 0), some (.int x1), some (.int x2)], [.int 1], (hYd 0 y), 0, 0)) rfl trivial ?_
        obtain rfl := Option.some.inj hm
        exact MW_zret C okX10_putsInAt hq 15 rfl (by decide) hp
      · have hm := hmf18 hb18
        refine MW_run C okX10_putsInAt 14 1 (gs := []) (cf' := (26, [some (.ref 0), some (.int x1), some (.int x2)], [.int 0], (hYd 0 y), 0, 0)) rfl trivial ?_
        obtain rfl := Option.some.inj hm
        exact MW_zret C okX10_putsInAt hq 15 rfl (by decide) hp
theorem c_yd_putsInAt (y : YdS) (x1 : Int32) (x2 : Int32) (out : Int32) (hm : yd_putsInAt y x1 x2 = some out) : CT yX10_putsInAt cX10_putsInAt 3 (some .boolean) 1 21 0 0 [.ref 0, .int x1, .int x2] (hYd 0 y) (fun v h => v = (some (.int out)) ∧ h = (hYd 0 y)) :=
  CT_of (by decide +kernel) (vs0 := [some (.ref 0), some (.int x1), some (.int x2)]) rfl rfl (fun X C hq => t_yd_putsInAt C hq y x1 x2 out hm ⟨rfl, rfl⟩)
/-! C: yd_addMove -/
def yd_addMove (y : YdS) (x1 : Int32) : Option (YdS) :=
  if y.2.2.1 < 0 then
    some y
  else
    if y.2.2.1 < (nI 64) then
      if inb y.2.2.1 64 then
        some (y.1, y.2.1, (y.2.2.1 + 1), y.2.2.2.1, y.2.2.2.2.1, y.2.2.2.2.2.1, y.2.2.2.2.2.2.1, (wr y.2.2.2.2.2.2.2.1 y.2.2.1 x1), y.2.2.2.2.2.2.2.2)
      else none
    else
      some y
set_option maxRecDepth 100000 in
set_option maxHeartbeats 1000000 in
theorem t_yd_addMove {X : CTX} {K : Option Value → AH → Prop} (C : CX X cX10_addMove yX10_addMove.cls (decide (yX10_addMove.name = "<init>")) 0 0) (hq : RQ X none K) (y : YdS) (x1 : Int32) (out : YdS) (hm : yd_addMove y x1 = some out) (hp : K none (hYd 0 out)) : MW X (0, [some (.ref 0), some (.int x1)], [], (hYd 0 y), 0, 0) := by
  unfold yd_addMove at hm
  refine MW_run C okX10_addMove 0 2 (gs := []) (cf' := (4, [some (.ref 0), some (.int x1)], [.int y.2.2.1], (hYd 0 y), 0, 0)) rfl trivial ?_
  obtain ⟨hmt4, hmf4⟩ := of_if hm
  refine MW_brT C okX10_addMove 2 rfl rfl (fun hb4 => ?_) (fun hb4 => ?_)
  · have hm := hmt4 hb4
    obtain rfl := Option.some.inj hm
    exact MW_vret C okX10_addMove hq 21 rfl hp
  · have hm := hmf4 hb4
    refine MW_run C okX10_addMove 3 5 (gs := []) (cf' := (16, [some (.ref 0), some (.int x1)], [.int (nI 64), .int y.2.2.1], (hYd 0 y), 0, 0)) rfl trivial ?_
    obtain ⟨hmt16, hmf16⟩ := of_if hm
    refine MW_brF C okX10_addMove 8 rfl rfl (fun hb16 => ?_) (fun hb16 => ?_)
    · have hm := hmt16 hb16
      obtain ⟨hg39, hm⟩ := of_guard hm
      refine MW_run C okX10_addMove 9 12 (gs := [inb y.2.2.1 64]) (cf' := (39, [some (.ref 0), some (.int x1)], [], (hYd 0 (y.1, y.2.1, (y.2.2.1 + 1), y.2.2.2.1, y.2.2.2.2.1, y.2.2.2.2.2.1, y.2.2.2.2.2.2.1, (wr y.2.2.2.2.2.2.2.1 y.2.2.1 x1), y.2.2.2.2.2.2.2.2)), 0, 0)) rfl hg39 ?_
      obtain rfl := Option.some.inj hm
      exact MW_vret C okX10_addMove hq 21 rfl hp
    · have hm := hmf16 hb16
      obtain rfl := Option.some.inj hm
      exact MW_vret C okX10_addMove hq 21 rfl hp
theorem c_yd_addMove (y : YdS) (x1 : Int32) (out : YdS) (hm : yd_addMove y x1 = some out) : CT yX10_addMove cX10_addMove 2 none 0 0 0 0 [.ref 0, .int x1] (hYd 0 y) (fun v h => v = none ∧ h = (hYd 0 out)) :=
  CT_of (by decide +kernel) (vs0 := [some (.ref 0), some (.int x1)]) rfl rfl (fun X C hq => t_yd_addMove C hq y x1 out hm ⟨rfl, rfl⟩)
/-! C: yd_listMovesFrom -/
def yd_listMovesFrom_L30 : Nat → YdS → Int32 → Int32 → Int32 → Int32 → Int32 → Option (YdS)
  | 0, _, _, _, _, _, _ => none
  | n + 1, y, x1, x2, x3, x4, x5 =>
    if (1 : Int32) < x5 then
      some y
    else
      if x4 = 0 then
        yd_listMovesFrom_L30 n y x1 x2 x3 x4 (x5 + 1)
      else
        (yd_reaches y x1 x3).bind fun q44 =>
          if q44 = 0 then
            yd_listMovesFrom_L30 n y x1 x2 x3 x4 (x5 + 1)
          else
            (yd_putsInAt y x3 x5).bind fun q54 =>
              if q54 = 0 then
                yd_listMovesFrom_L30 n y x1 x2 x3 x4 (x5 + 1)
              else
                (yd_addMove y (((((1000 : Int32) * x1) + ((100 : Int32) * x2)) + ((10 : Int32) * x3)) + x5)).bind fun q79 =>
                  yd_listMovesFrom_L30 n q79 x1 x2 x3 x4 (x5 + 1)
set_option maxRecDepth 100000 in
set_option maxHeartbeats 1000000 in
theorem l_yd_listMovesFrom_30 {X : CTX} {K : Option Value → AH → Prop} (C : CX X cX10_listMovesFrom yX10_listMovesFrom.cls (decide (yX10_listMovesFrom.name = "<init>")) 3 68) (hq : RQ X none K) : ∀ (n : Nat) (y : YdS) (x1 : Int32) (x2 : Int32) (x3 : Int32) (x4 : Int32) (x5 : Int32) (out : YdS) (hm : yd_listMovesFrom_L30 n y x1 x2 x3 x4 x5 = some out) (hp : MW X (88, [some (.ref 0), some (.int x1), some (.int x2), some (.int x3), none, none], [], (hYd 0 out), 0, 0)), MW X (30, [some (.ref 0), some (.int x1), some (.int x2), some (.int x3), some (.int x4), some (.int x5)], [], (hYd 0 y), 0, 0) := by
  intro n
  induction n with
  | zero => intro y x1 x2 x3 x4 x5 out hm hp; rw [yd_listMovesFrom_L30] at hm; cases hm
  | succ n ih =>
    intro y x1 x2 x3 x4 x5 out hm hp
    rw [yd_listMovesFrom_L30] at hm
    refine MW_run C okX10_listMovesFrom 18 2 (gs := []) (cf' := (33, [some (.ref 0), some (.int x1), some (.int x2), some (.int x3), some (.int x4), some (.int x5)], [.int 1, .int x5], (hYd 0 y), 0, 0)) rfl trivial ?_
    obtain ⟨hmt33, hmf33⟩ := of_if hm
    refine MW_brT C okX10_listMovesFrom 20 rfl rfl (fun hb33 => ?_) (fun hb33 => ?_)
    · have hm := hmt33 hb33
      obtain rfl := Option.some.inj hm
      refine MW_pick [true, true, true, true, false, false] rfl (vs' := [some (.ref 0), some (.int x1), some (.int x2), some (.int x3), none, none]) rfl ?_
      exact hp
    · have hm := hmf33 hb33
      refine MW_run C okX10_listMovesFrom 21 1 (gs := []) (cf' := (38, [some (.ref 0), some (.int x1), some (.int x2), some (.int x3), some (.int x4), some (.int x5)], [.int x4], (hYd 0 y), 0, 0)) rfl trivial ?_
      obtain ⟨hmt38, hmf38⟩ := of_if hm
      refine MW_brT C okX10_listMovesFrom 22 rfl rfl (fun hb38 => ?_) (fun hb38 => ?_)
      · have hm := hmt38 hb38
        refine MW_run C okX10_listMovesFrom 48 2 (gs := []) (cf' := (30, [some (.ref 0), some (.int x1), some (.int x2), some (.int x3), some (.int x4), some (.int (x5 + 1))], [], (hYd 0 y), 0, 0)) rfl trivial ?_
        exact ih y x1 x2 x3 x4 (x5 + 1) _ hm hp
      · have hm := hmf38 hb38
        refine MW_run C okX10_listMovesFrom 23 3 (gs := []) (cf' := (44, [some (.ref 0), some (.int x1), some (.int x2), some (.int x3), some (.int x4), some (.int x5)], [.int x3, .int x1, .ref 0], (hYd 0 y), 0, 0)) rfl trivial ?_
        obtain ⟨q44, hc44, hm⟩ := of_bind hm
        refine MW_callV0 C okX10_listMovesFrom 26 rfl (v0 := some (.int q44)) (h0 := (hYd 0 y)) (c_yd_reaches y x1 x3 q44 hc44) lkX10_73 2 dpX10_reaches (by decide) (rest := []) rfl rfl rfl rfl rfl rfl rfl rfl ?_
        obtain ⟨hmt47, hmf47⟩ := of_if hm
        refine MW_brT C okX10_listMovesFrom 27 rfl rfl (fun hb47 => ?_) (fun hb47 => ?_)
        · have hm := hmt47 hb47
          refine MW_run C okX10_listMovesFrom 48 2 (gs := []) (cf' := (30, [some (.ref 0), some (.int x1), some (.int x2), some (.int x3), some (.int x4), some (.int (x5 + 1))], [], (hYd 0 y), 0, 0)) rfl trivial ?_
          exact ih y x1 x2 x3 x4 (x5 + 1) _ hm hp
        · have hm := hmf47 hb47
          refine MW_run C okX10_listMovesFrom 28 3 (gs := []) (cf' := (54, [some (.ref 0), some (.int x1), some (.int x2), some (.int x3), some (.int x4), some (.int x5)], [.int x5, .int x3, .ref 0], (hYd 0 y), 0, 0)) rfl trivial ?_
          obtain ⟨q54, hc54, hm⟩ := of_bind hm
          refine MW_callV0 C okX10_listMovesFrom 31 rfl (v0 := some (.int q54)) (h0 := (hYd 0 y)) (c_yd_putsInAt y x3 x5 q54 hc54) lkX10_76 2 dpX10_putsInAt (by decide) (rest := []) rfl rfl rfl rfl rfl rfl rfl rfl ?_
          obtain ⟨hmt57, hmf57⟩ := of_if hm
          refine MW_brT C okX10_listMovesFrom 32 rfl rfl (fun hb57 => ?_) (fun hb57 => ?_)
          · have hm := hmt57 hb57
            refine MW_run C okX10_listMovesFrom 48 2 (gs := []) (cf' := (30, [some (.ref 0), some (.int x1), some (.int x2), some (.int x3), some (.int x4), some (.int (x5 + 1))], [], (hYd 0 y), 0, 0)) rfl trivial ?_
            exact ih y x1 x2 x3 x4 (x5 + 1) _ hm hp
          · have hm := hmf57 hb57
            refine MW_run C okX10_listMovesFrom 33 14 (gs := []) (cf' := (79, [some (.ref 0), some (.int x1), some (.int x2), some (.int x3), some (.int x4), some (.int x5)], [.int (((((1000 : Int32) * x1) + ((100 : Int32) * x2)) + ((10 : Int32) * x3)) + x5), .ref 0], (hYd 0 y), 0, 0)) rfl trivial ?_
            obtain ⟨q79, hc79, hm⟩ := of_bind hm
            refine MW_callV0 C okX10_listMovesFrom 47 rfl (v0 := none) (h0 := (hYd 0 q79)) (c_yd_addMove y (((((1000 : Int32) * x1) + ((100 : Int32) * x2)) + ((10 : Int32) * x3)) + x5) q79 hc79) lkX10_79 1 dpX10_addMove (by decide) (rest := []) rfl rfl rfl rfl rfl rfl rfl rfl ?_
            refine MW_run C okX10_listMovesFrom 48 2 (gs := []) (cf' := (30, [some (.ref 0), some (.int x1), some (.int x2), some (.int x3), some (.int x4), some (.int (x5 + 1))], [], (hYd 0 q79), 0, 0)) rfl trivial ?_
            exact ih q79 x1 x2 x3 x4 (x5 + 1) _ hm hp
def yd_listMovesFrom_L2 : Nat → YdS → Int32 → Int32 → Int32 → Option (YdS)
  | 0, _, _, _, _ => none
  | n + 1, y, x1, x2, x3 =>
    if (5 : Int32) < x3 then
      some y
    else
      if y.1 < x3 then
        if x3 = 5 then
          (yd_listMovesFrom_L30 N0 y x1 x2 x3 1 0).bind fun q30 =>
            yd_listMovesFrom_L2 n q30 x1 x2 (x3 + 1)
        else
          (yd_listMovesFrom_L30 N0 y x1 x2 x3 0 0).bind fun q30 =>
            yd_listMovesFrom_L2 n q30 x1 x2 (x3 + 1)
      else
        (yd_listMovesFrom_L30 N0 y x1 x2 x3 1 0).bind fun q30 =>
          yd_listMovesFrom_L2 n q30 x1 x2 (x3 + 1)
set_option maxRecDepth 100000 in
set_option maxHeartbeats 1000000 in
theorem l_yd_listMovesFrom_2 {X : CTX} {K : Option Value → AH → Prop} (C : CX X cX10_listMovesFrom yX10_listMovesFrom.cls (decide (yX10_listMovesFrom.name = "<init>")) 3 68) (hq : RQ X none K) : ∀ (n : Nat) (y : YdS) (x1 : Int32) (x2 : Int32) (x3 : Int32) (out : YdS) (hm : yd_listMovesFrom_L2 n y x1 x2 x3 = some out) (hp : MW X (94, [none, none, none, none, none, none], [], (hYd 0 out), 0, 0)), MW X (2, [some (.ref 0), some (.int x1), some (.int x2), some (.int x3), none, none], [], (hYd 0 y), 0, 0) := by
  intro n
  induction n with
  | zero => intro y x1 x2 x3 out hm hp; rw [yd_listMovesFrom_L2] at hm; cases hm
  | succ n ih =>
    intro y x1 x2 x3 out hm hp
    rw [yd_listMovesFrom_L2] at hm
    refine MW_run C okX10_listMovesFrom 2 2 (gs := []) (cf' := (4, [some (.ref 0), some (.int x1), some (.int x2), some (.int x3), none, none], [.int 5, .int x3], (hYd 0 y), 0, 0)) rfl trivial ?_
    obtain ⟨hmt4, hmf4⟩ := of_if hm
    refine MW_brT C okX10_listMovesFrom 4 rfl rfl (fun hb4 => ?_) (fun hb4 => ?_)
    · have hm := hmt4 hb4
      obtain rfl := Option.some.inj hm
      refine MW_pick [false, false, false, false, true, true] rfl (vs' := [none, none, none, none, none, none]) rfl ?_
      exact hp
    · have hm := hmf4 hb4
      refine MW_run C okX10_listMovesFrom 5 3 (gs := []) (cf' := (12, [some (.ref 0), some (.int x1), some (.int x2), some (.int x3), none, none], [.int y.1, .int x3], (hYd 0 y), 0, 0)) rfl trivial ?_
      obtain ⟨hmt12, hmf12⟩ := of_if hm
      refine MW_brF C okX10_listMovesFrom 8 rfl rfl (fun hb12 => ?_) (fun hb12 => ?_)
      · have hm := hmt12 hb12
        refine MW_run C okX10_listMovesFrom 9 2 (gs := []) (cf' := (17, [some (.ref 0), some (.int x1), some (.int x2), some (.int x3), none, none], [.int 5, .int x3], (hYd 0 y), 0, 0)) rfl trivial ?_
        obtain ⟨hmt17, hmf17⟩ := of_if hm
        refine MW_brF C okX10_listMovesFrom 11 rfl rfl (fun hb17 => ?_) (fun hb17 => ?_)
        · have hm := hmt17 hb17
          refine MW_run C okX10_listMovesFrom 12 2 (gs := []) (cf' := (25, [some (.ref 0), some (.int x1), some (.int x2), some (.int x3), none, none], [.int 1], (hYd 0 y), 0, 0)) rfl trivial ?_
          refine MW_run C okX10_listMovesFrom 15 3 (gs := []) (cf' := (30, [some (.ref 0), some (.int x1), some (.int x2), some (.int x3), some (.int 1), some (.int 0)], [], (hYd 0 y), 0, 0)) rfl trivial ?_
          obtain ⟨q30, hc30, hm⟩ := of_bind hm
          refine l_yd_listMovesFrom_30 C hq N0 y x1 x2 x3 1 0 q30 hc30 ?_
          refine MW_run C okX10_listMovesFrom 50 2 (gs := []) (cf' := (2, [some (.ref 0), some (.int x1), some (.int x2), some (.int (x3 + 1)), none, none], [], (hYd 0 q30), 0, 0)) rfl trivial ?_
          exact ih q30 x1 x2 (x3 + 1) _ hm hp
        · have hm := hmf17 hb17
          refine MW_run C okX10_listMovesFrom 14 1 (gs := []) (cf' := (25, [some (.ref 0), some (.int x1), some (.int x2), some (.int x3), none, none], [.int 0], (hYd 0 y), 0, 0)) rfl trivial ?_
          refine MW_run C okX10_listMovesFrom 15 3 (gs := []) (cf' := (30, [some (.ref 0), some (.int x1), some (.int x2), some (.int x3), some (.int 0), some (.int 0)], [], (hYd 0 y), 0, 0)) rfl trivial ?_
          obtain ⟨q30, hc30, hm⟩ := of_bind hm
          refine l_yd_listMovesFrom_30 C hq N0 y x1 x2 x3 0 0 q30 hc30 ?_
          refine MW_run C okX10_listMovesFrom 50 2 (gs := []) (cf' := (2, [some (.ref 0), some (.int x1), some (.int x2), some (.int (x3 + 1)), none, none], [], (hYd 0 q30), 0, 0)) rfl trivial ?_
          exact ih q30 x1 x2 (x3 + 1) _ hm hp
      · have hm := hmf12 hb12
        refine MW_run C okX10_listMovesFrom 12 2 (gs := []) (cf' := (25, [some (.ref 0), some (.int x1), some (.int x2), some (.int x3), none, none], [.int 1], (hYd 0 y), 0, 0)) rfl trivial ?_
        refine MW_run C okX10_listMovesFrom 15 3 (gs := []) (cf' := (30, [some (.ref 0), some (.int x1), some (.int x2), some (.int x3), some (.int 1), some (.int 0)], [], (hYd 0 y), 0, 0)) rfl trivial ?_
        obtain ⟨q30, hc30, hm⟩ := of_bind hm
        refine l_yd_listMovesFrom_30 C hq N0 y x1 x2 x3 1 0 q30 hc30 ?_
        refine MW_run C okX10_listMovesFrom 50 2 (gs := []) (cf' := (2, [some (.ref 0), some (.int x1), some (.int x2), some (.int (x3 + 1)), none, none], [], (hYd 0 q30), 0, 0)) rfl trivial ?_
        exact ih q30 x1 x2 (x3 + 1) _ hm hp
def yd_listMovesFrom (y : YdS) (x1 : Int32) (x2 : Int32) : Option (YdS) :=
  (yd_listMovesFrom_L2 N0 y x1 x2 1).bind fun q2 =>
    some q2
set_option maxRecDepth 100000 in
set_option maxHeartbeats 1000000 in
theorem t_yd_listMovesFrom {X : CTX} {K : Option Value → AH → Prop} (C : CX X cX10_listMovesFrom yX10_listMovesFrom.cls (decide (yX10_listMovesFrom.name = "<init>")) 3 68) (hq : RQ X none K) (y : YdS) (x1 : Int32) (x2 : Int32) (out : YdS) (hm : yd_listMovesFrom y x1 x2 = some out) (hp : K none (hYd 0 out)) : MW X (0, [some (.ref 0), some (.int x1), some (.int x2), none, none, none], [], (hYd 0 y), 0, 0) := by
  unfold yd_listMovesFrom at hm
  refine MW_run C okX10_listMovesFrom 0 2 (gs := []) (cf' := (2, [some (.ref 0), some (.int x1), some (.int x2), some (.int 1), none, none], [], (hYd 0 y), 0, 0)) rfl trivial ?_
  obtain ⟨q2, hc2, hm⟩ := of_bind hm
  refine l_yd_listMovesFrom_2 C hq N0 y x1 x2 1 q2 hc2 ?_
  obtain rfl := Option.some.inj hm
  exact MW_vret C okX10_listMovesFrom hq 52 rfl hp
theorem c_yd_listMovesFrom (y : YdS) (x1 : Int32) (x2 : Int32) (out : YdS) (hm : yd_listMovesFrom y x1 x2 = some out) : CT yX10_listMovesFrom cX10_listMovesFrom 6 none 3 68 0 0 [.ref 0, .int x1, .int x2] (hYd 0 y) (fun v h => v = none ∧ h = (hYd 0 out)) :=
  CT_of (by decide +kernel) (vs0 := [some (.ref 0), some (.int x1), some (.int x2), none, none, none]) rfl rfl (fun X C hq => t_yd_listMovesFrom C hq y x1 x2 out hm ⟨rfl, rfl⟩)
/-! C: yd_listMoves -/
def yd_listMoves_L17 : Nat → YdS → Int32 → Int32 → Option (YdS)
  | 0, _, _, _ => none
  | n + 1, y, x1, x2 =>
    if (1 : Int32) < x2 then
      some y
    else
      (yd_takesOutAt y x1 x2).bind fun q25 =>
        if q25 = 0 then
          yd_listMoves_L17 n y x1 (x2 + 1)
        else
          (yd_listMovesFrom y x1 x2).bind fun q34 =>
            yd_listMoves_L17 n q34 x1 (x2 + 1)
set_option maxRecDepth 100000 in
set_option maxHeartbeats 1000000 in
theorem l_yd_listMoves_17 {X : CTX} {K : Option Value → AH → Prop} (C : CX X cX10_listMoves yX10_listMoves.cls (decide (yX10_listMoves.name = "<init>")) 4 93) (hq : RQ X none K) : ∀ (n : Nat) (y : YdS) (x1 : Int32) (x2 : Int32) (out : YdS) (hm : yd_listMoves_L17 n y x1 x2 = some out) (hp : MW X (43, [some (.ref 0), some (.int x1), none], [], (hYd 0 out), 0, 0)), MW X (17, [some (.ref 0), some (.int x1), some (.int x2)], [], (hYd 0 y), 0, 0) := by
  intro n
  induction n with
  | zero => intro y x1 x2 out hm hp; rw [yd_listMoves_L17] at hm; cases hm
  | succ n ih =>
    intro y x1 x2 out hm hp
    rw [yd_listMoves_L17] at hm
    refine MW_run C okX10_listMoves 11 2 (gs := []) (cf' := (19, [some (.ref 0), some (.int x1), some (.int x2)], [.int 1, .int x2], (hYd 0 y), 0, 0)) rfl trivial ?_
    obtain ⟨hmt19, hmf19⟩ := of_if hm
    refine MW_brT C okX10_listMoves 13 rfl rfl (fun hb19 => ?_) (fun hb19 => ?_)
    · have hm := hmt19 hb19
      obtain rfl := Option.some.inj hm
      refine MW_pick [true, true, false] rfl (vs' := [some (.ref 0), some (.int x1), none]) rfl ?_
      exact hp
    · have hm := hmf19 hb19
      refine MW_run C okX10_listMoves 14 3 (gs := []) (cf' := (25, [some (.ref 0), some (.int x1), some (.int x2)], [.int x2, .int x1, .ref 0], (hYd 0 y), 0, 0)) rfl trivial ?_
      obtain ⟨q25, hc25, hm⟩ := of_bind hm
      refine MW_callV0 C okX10_listMoves 17 rfl (v0 := some (.int q25)) (h0 := (hYd 0 y)) (c_yd_takesOutAt y x1 x2 q25 hc25) lkX10_65 2 dpX10_takesOutAt (by decide) (rest := []) rfl rfl rfl rfl rfl rfl rfl rfl ?_
      obtain ⟨hmt28, hmf28⟩ := of_if hm
      refine MW_brT C okX10_listMoves 18 rfl rfl (fun hb28 => ?_) (fun hb28 => ?_)
      · have hm := hmt28 hb28
        refine MW_run C okX10_listMoves 23 2 (gs := []) (cf' := (17, [some (.ref 0), some (.int x1), some (.int (x2 + 1))], [], (hYd 0 y), 0, 0)) rfl trivial ?_
        exact ih y x1 (x2 + 1) _ hm hp
      · have hm := hmf28 hb28
        refine MW_run C okX10_listMoves 19 3 (gs := []) (cf' := (34, [some (.ref 0), some (.int x1), some (.int x2)], [.int x2, .int x1, .ref 0], (hYd 0 y), 0, 0)) rfl trivial ?_
        obtain ⟨q34, hc34, hm⟩ := of_bind hm
        refine MW_callV0 C okX10_listMoves 22 rfl (v0 := none) (h0 := (hYd 0 q34)) (c_yd_listMovesFrom y x1 x2 q34 hc34) lkX10_69 2 dpX10_listMovesFrom (by decide) (rest := []) rfl rfl rfl rfl rfl rfl rfl rfl ?_
        refine MW_run C okX10_listMoves 23 2 (gs := []) (cf' := (17, [some (.ref 0), some (.int x1), some (.int (x2 + 1))], [], (hYd 0 q34), 0, 0)) rfl trivial ?_
        exact ih q34 x1 (x2 + 1) _ hm hp
def yd_listMoves_L7 : Nat → YdS → Int32 → Option (YdS)
  | 0, _, _ => none
  | n + 1, y, x1 =>
    if y.1 < x1 then
      some y
    else
      (yd_listMoves_L17 N0 y x1 0).bind fun q17 =>
        yd_listMoves_L7 n q17 (x1 + 1)
set_option maxRecDepth 100000 in
set_option maxHeartbeats 1000000 in
theorem l_yd_listMoves_7 {X : CTX} {K : Option Value → AH → Prop} (C : CX X cX10_listMoves yX10_listMoves.cls (decide (yX10_listMoves.name = "<init>")) 4 93) (hq : RQ X none K) : ∀ (n : Nat) (y : YdS) (x1 : Int32) (out : YdS) (hm : yd_listMoves_L7 n y x1 = some out) (hp : MW X (49, [none, none, none], [], (hYd 0 out), 0, 0)), MW X (7, [some (.ref 0), some (.int x1), none], [], (hYd 0 y), 0, 0) := by
  intro n
  induction n with
  | zero => intro y x1 out hm hp; rw [yd_listMoves_L7] at hm; cases hm
  | succ n ih =>
    intro y x1 out hm hp
    rw [yd_listMoves_L7] at hm
    refine MW_run C okX10_listMoves 5 3 (gs := []) (cf' := (12, [some (.ref 0), some (.int x1), none], [.int y.1, .int x1], (hYd 0 y), 0, 0)) rfl trivial ?_
    obtain ⟨hmt12, hmf12⟩ := of_if hm
    refine MW_brT C okX10_listMoves 8 rfl rfl (fun hb12 => ?_) (fun hb12 => ?_)
    · have hm := hmt12 hb12
      obtain rfl := Option.some.inj hm
      refine MW_pick [false, false, true] rfl (vs' := [none, none, none]) rfl ?_
      exact hp
    · have hm := hmf12 hb12
      refine MW_run C okX10_listMoves 9 2 (gs := []) (cf' := (17, [some (.ref 0), some (.int x1), some (.int 0)], [], (hYd 0 y), 0, 0)) rfl trivial ?_
      obtain ⟨q17, hc17, hm⟩ := of_bind hm
      refine l_yd_listMoves_17 C hq N0 y x1 0 q17 hc17 ?_
      refine MW_run C okX10_listMoves 25 2 (gs := []) (cf' := (7, [some (.ref 0), some (.int (x1 + 1)), none], [], (hYd 0 q17), 0, 0)) rfl trivial ?_
      exact ih q17 (x1 + 1) _ hm hp
def yd_listMoves (y : YdS) : Option (YdS) :=
  (yd_listMoves_L7 N0 (y.1, y.2.1, 0, y.2.2.2.1, y.2.2.2.2.1, y.2.2.2.2.2.1, y.2.2.2.2.2.2.1, y.2.2.2.2.2.2.2.1, y.2.2.2.2.2.2.2.2) 0).bind fun q7 =>
    some q7
set_option maxRecDepth 100000 in
set_option maxHeartbeats 1000000 in
theorem t_yd_listMoves {X : CTX} {K : Option Value → AH → Prop} (C : CX X cX10_listMoves yX10_listMoves.cls (decide (yX10_listMoves.name = "<init>")) 4 93) (hq : RQ X none K) (y : YdS) (out : YdS) (hm : yd_listMoves y = some out) (hp : K none (hYd 0 out)) : MW X (0, [some (.ref 0), none, none], [], (hYd 0 y), 0, 0) := by
  unfold yd_listMoves at hm
  refine MW_run C okX10_listMoves 0 5 (gs := []) (cf' := (7, [some (.ref 0), some (.int 0), none], [], (hYd 0 (y.1, y.2.1, 0, y.2.2.2.1, y.2.2.2.2.1, y.2.2.2.2.2.1, y.2.2.2.2.2.2.1, y.2.2.2.2.2.2.2.1, y.2.2.2.2.2.2.2.2)), 0, 0)) rfl trivial ?_
  obtain ⟨q7, hc7, hm⟩ := of_bind hm
  refine l_yd_listMoves_7 C hq N0 (y.1, y.2.1, 0, y.2.2.2.1, y.2.2.2.2.1, y.2.2.2.2.2.1, y.2.2.2.2.2.2.1, y.2.2.2.2.2.2.2.1, y.2.2.2.2.2.2.2.2) 0 q7 hc7 ?_
  obtain rfl := Option.some.inj hm
  exact MW_vret C okX10_listMoves hq 27 rfl hp
theorem c_yd_listMoves (y : YdS) (out : YdS) (hm : yd_listMoves y = some out) : CT yX10_listMoves cX10_listMoves 3 none 4 93 0 0 [.ref 0] (hYd 0 y) (fun v h => v = none ∧ h = (hYd 0 out)) :=
  CT_of (by decide +kernel) (vs0 := [some (.ref 0), none, none]) rfl rfl (fun X C hq => t_yd_listMoves C hq y out hm ⟨rfl, rfl⟩)
/-! C: pd_layOut -/
def pd_layOut_L6 : Nat → PdS → YdS → Int32 → Option (YdS)
  | 0, _, _, _ => none
  | n + 1, d, y, x2 =>
    if x2 < d.2 then
      (pd_signAt d x2).bind fun q16 =>
        if q16 = 59 then
          pd_layOut_L6 n d (y.1, (y.2.1 + 1), y.2.2.1, y.2.2.2.1, y.2.2.2.2.1, y.2.2.2.2.2.1, y.2.2.2.2.2.2.1, y.2.2.2.2.2.2.2.1, y.2.2.2.2.2.2.2.2) (x2 + 1)
        else
          if q16 = 45 then
            (yd_addDash y).bind fun q46 =>
              pd_layOut_L6 n d q46 (x2 + 1)
          else
            (pd_isLetter q16).bind fun q53 =>
              if q53 = 0 then
                pd_layOut_L6 n d y (x2 + 1)
              else
                (pd_signAt d (x2 + 1)).bind fun q65 =>
                  (yd_addSiding y q16 (q65 - 48)).bind fun q71 =>
                    pd_layOut_L6 n d q71 (x2 + 1)
    else
      some y
set_option maxRecDepth 100000 in
set_option maxHeartbeats 1000000 in
theorem l_pd_layOut_6 {X : CTX} {K : Option Value → AH → Prop} (C : CX X cX3_layOut yX3_layOut.cls (decide (yX3_layOut.name = "<init>")) 5 115) (hq : RQ X none K) : ∀ (n : Nat) (d : PdS) (y : YdS) (x2 : Int32) (out : YdS) (hm : pd_layOut_L6 n d y x2 = some out) (hp : MW X (80, [none, some (.ref 2), none, none], [], (hPd 0 d ++ (hYd 2 out)), 0, 0)), MW X (6, [some (.ref 0), some (.ref 2), some (.int x2), none], [], (hPd 0 d ++ (hYd 2 y)), 0, 0) := by
  intro n
  induction n with
  | zero => intro d y x2 out hm hp; rw [pd_layOut_L6] at hm; cases hm
  | succ n ih =>
    intro d y x2 out hm hp
    rw [pd_layOut_L6] at hm
    refine MW_run C okX3_layOut 4 3 (gs := []) (cf' := (11, [some (.ref 0), some (.ref 2), some (.int x2), none], [.int d.2, .int x2], (hPd 0 d ++ (hYd 2 y)), 0, 0)) rfl trivial ?_
    obtain ⟨hmt11, hmf11⟩ := of_if hm
    refine MW_brF C okX3_layOut 7 rfl rfl (fun hb11 => ?_) (fun hb11 => ?_)
    · have hm := hmt11 hb11
      refine MW_run C okX3_layOut 8 2 (gs := []) (cf' := (16, [some (.ref 0), some (.ref 2), some (.int x2), none], [.int x2, .ref 0], (hPd 0 d ++ (hYd 2 y)), 0, 0)) rfl trivial ?_
      obtain ⟨q16, hc16, hm⟩ := of_bind hm
      refine MW_callV1 C okX3_layOut 10 rfl [0, 1] (v0 := some (.int q16)) (h0 := (hPd 0 d)) (c_pd_signAt d x2 q16 hc16) lkX3_19 1 dpX3_signAt (by decide) (rest := []) rfl rfl rfl rfl rfl rfl rfl rfl rfl rfl rfl (st2 := [.int q16]) (h2 := (hPd 0 d ++ (hYd 2 y))) rfl rfl ?_
      refine MW_run C okX3_layOut 11 3 (gs := []) (cf' := (23, [some (.ref 0), some (.ref 2), some (.int x2), some (.int q16)], [.int 59, .int q16], (hPd 0 d ++ (hYd 2 y)), 0, 0)) rfl trivial ?_
      obtain ⟨hmt23, hmf23⟩ := of_if hm
      refine MW_brF C okX3_layOut 14 rfl rfl (fun hb23 => ?_) (fun hb23 => ?_)
      · have hm := hmt23 hb23
        refine MW_run C okX3_layOut 15 7 (gs := []) (cf' := (74, [some (.ref 0), some (.ref 2), some (.int x2), some (.int q16)], [], (hPd 0 d ++ (hYd 2 (y.1, (y.2.1 + 1), y.2.2.1, y.2.2.2.1, y.2.2.2.2.1, y.2.2.2.2.2.1, y.2.2.2.2.2.2.1, y.2.2.2.2.2.2.2.1, y.2.2.2.2.2.2.2.2))), 0, 0)) rfl trivial ?_
        refine MW_run C okX3_layOut 41 2 (gs := []) (cf' := (6, [some (.ref 0), some (.ref 2), some (.int (x2 + 1)), some (.int q16)], [], (hPd 0 d ++ (hYd 2 (y.1, (y.2.1 + 1), y.2.2.1, y.2.2.2.1, y.2.2.2.2.1, y.2.2.2.2.2.1, y.2.2.2.2.2.2.1, y.2.2.2.2.2.2.2.1, y.2.2.2.2.2.2.2.2))), 0, 0)) rfl trivial ?_
        refine MW_pick [true, true, true, false] rfl (vs' := [some (.ref 0), some (.ref 2), some (.int (x2 + 1)), none]) rfl ?_
        exact ih d (y.1, (y.2.1 + 1), y.2.2.1, y.2.2.2.1, y.2.2.2.2.1, y.2.2.2.2.2.1, y.2.2.2.2.2.2.1, y.2.2.2.2.2.2.2.1, y.2.2.2.2.2.2.2.2) (x2 + 1) _ hm hp
      · have hm := hmf23 hb23
        refine MW_run C okX3_layOut 22 2 (gs := []) (cf' := (42, [some (.ref 0), some (.ref 2), some (.int x2), some (.int q16)], [.int 45, .int q16], (hPd 0 d ++ (hYd 2 y)), 0, 0)) rfl trivial ?_
        obtain ⟨hmt42, hmf42⟩ := of_if hm
        refine MW_brF C okX3_layOut 24 rfl rfl (fun hb42 => ?_) (fun hb42 => ?_)
        · have hm := hmt42 hb42
          refine MW_run C okX3_layOut 25 1 (gs := []) (cf' := (46, [some (.ref 0), some (.ref 2), some (.int x2), some (.int q16)], [.ref 2], (hPd 0 d ++ (hYd 2 y)), 0, 0)) rfl trivial ?_
          obtain ⟨q46, hc46, hm⟩ := of_bind hm
          refine MW_callV1 C okX3_layOut 26 rfl [2, 3, 4, 5, 6, 7, 8, 9] (v0 := none) (h0 := (hYd 0 q46)) (c_yd_addDash y q46 hc46) lkX3_35 0 dpX10_addDash (by decide) (rest := []) rfl rfl rfl rfl rfl rfl rfl rfl rfl rfl rfl (st2 := []) (h2 := (hPd 0 d ++ (hYd 2 q46))) rfl rfl ?_
          refine MW_run C okX3_layOut 27 1 (gs := []) (cf' := (74, [some (.ref 0), some (.ref 2), some (.int x2), some (.int q16)], [], (hPd 0 d ++ (hYd 2 q46)), 0, 0)) rfl trivial ?_
          refine MW_run C okX3_layOut 41 2 (gs := []) (cf' := (6, [some (.ref 0), some (.ref 2), some (.int (x2 + 1)), some (.int q16)], [], (hPd 0 d ++ (hYd 2 q46)), 0, 0)) rfl trivial ?_
          refine MW_pick [true, true, true, false] rfl (vs' := [some (.ref 0), some (.ref 2), some (.int (x2 + 1)), none]) rfl ?_
          exact ih d q46 (x2 + 1) _ hm hp
        · have hm := hmf42 hb42
          refine MW_run C okX3_layOut 28 1 (gs := []) (cf' := (53, [some (.ref 0), some (.ref 2), some (.int x2), some (.int q16)], [.int q16], (hPd 0 d ++ (hYd 2 y)), 0, 0)) rfl trivial ?_
          obtain ⟨q53, hc53, hm⟩ := of_bind hm
          refine MW_callS0 C okX3_layOut 29 rfl (v0 := some (.int q53)) (c_pd_isLetter q16 q53 hc53) lkX3_23 1 dpX3_isLetter (by decide) (rest := []) rfl rfl rfl rfl rfl ?_
          obtain ⟨hmt56, hmf56⟩ := of_if hm
          refine MW_brT C okX3_layOut 30 rfl rfl (fun hb56 => ?_) (fun hb56 => ?_)
          · have hm := hmt56 hb56
            refine MW_run C okX3_layOut 41 2 (gs := []) (cf' := (6, [some (.ref 0), some (.ref 2), some (.int (x2 + 1)), some (.int q16)], [], (hPd 0 d ++ (hYd 2 y)), 0, 0)) rfl trivial ?_
            refine MW_pick [true, true, true, false] rfl (vs' := [some (.ref 0), some (.ref 2), some (.int (x2 + 1)), none]) rfl ?_
            exact ih d y (x2 + 1) _ hm hp
          · have hm := hmf56 hb56
            refine MW_run C okX3_layOut 31 6 (gs := []) (cf' := (65, [some (.ref 0), some (.ref 2), some (.int x2), some (.int q16)], [.int (x2 + 1), .ref 0, .int q16, .ref 2], (hPd 0 d ++ (hYd 2 y)), 0, 0)) rfl trivial ?_
            obtain ⟨q65, hc65, hm⟩ := of_bind hm
            refine MW_callV1 C okX3_layOut 37 rfl [0, 1] (v0 := some (.int q65)) (h0 := (hPd 0 d)) (c_pd_signAt d (x2 + 1) q65 hc65) lkX3_19 1 dpX3_signAt (by decide) (rest := [.int q16, .ref 2]) rfl rfl rfl rfl rfl rfl rfl rfl rfl rfl rfl (st2 := [.int q65, .int q16, .ref 2]) (h2 := (hPd 0 d ++ (hYd 2 y))) rfl rfl ?_
            refine MW_run C okX3_layOut 38 2 (gs := []) (cf' := (71, [some (.ref 0), some (.ref 2), some (.int x2), some (.int q16)], [.int (q65 - 48), .int q16, .ref 2], (hPd 0 d ++ (hYd 2 y)), 0, 0)) rfl trivial ?_
            obtain ⟨q71, hc71, hm⟩ := of_bind hm
            refine MW_callV1 C okX3_layOut 40 rfl [2, 3, 4, 5, 6, 7, 8, 9] (v0 := none) (h0 := (hYd 0 q71)) (c_yd_addSiding y q16 (q65 - 48) q71 hc71) lkX3_38 2 dpX10_addSiding (by decide) (rest := []) rfl rfl rfl rfl rfl rfl rfl rfl rfl rfl rfl (st2 := []) (h2 := (hPd 0 d ++ (hYd 2 q71))) rfl rfl ?_
            refine MW_run C okX3_layOut 41 2 (gs := []) (cf' := (6, [some (.ref 0), some (.ref 2), some (.int (x2 + 1)), some (.int q16)], [], (hPd 0 d ++ (hYd 2 q71)), 0, 0)) rfl trivial ?_
            refine MW_pick [true, true, true, false] rfl (vs' := [some (.ref 0), some (.ref 2), some (.int (x2 + 1)), none]) rfl ?_
            exact ih d q71 (x2 + 1) _ hm hp
    · have hm := hmf11 hb11
      obtain rfl := Option.some.inj hm
      refine MW_pick [false, true, false, true] rfl (vs' := [none, some (.ref 2), none, none]) rfl ?_
      exact hp
def pd_layOut (d : PdS) (y : YdS) : Option (YdS) :=
  (yd_clear y).bind fun q1 =>
    (pd_layOut_L6 N0 d q1 0).bind fun q6 =>
      (yd_listMoves q6).bind fun q81 =>
        some q81
set_option maxRecDepth 100000 in
set_option maxHeartbeats 1000000 in
theorem t_pd_layOut {X : CTX} {K : Option Value → AH → Prop} (C : CX X cX3_layOut yX3_layOut.cls (decide (yX3_layOut.name = "<init>")) 5 115) (hq : RQ X none K) (d : PdS) (y : YdS) (out : YdS) (hm : pd_layOut d y = some out) (hp : K none (hPd 0 d ++ (hYd 2 out))) : MW X (0, [some (.ref 0), some (.ref 2), none, none], [], (hPd 0 d ++ (hYd 2 y)), 0, 0) := by
  unfold pd_layOut at hm
  refine MW_run C okX3_layOut 0 1 (gs := []) (cf' := (1, [some (.ref 0), some (.ref 2), none, none], [.ref 2], (hPd 0 d ++ (hYd 2 y)), 0, 0)) rfl trivial ?_
  obtain ⟨q1, hc1, hm⟩ := of_bind hm
  refine MW_callV1 C okX3_layOut 1 rfl [2, 3, 4, 5, 6, 7, 8, 9] (v0 := none) (h0 := (hYd 0 q1)) (c_yd_clear y q1 hc1) lkX3_27 0 dpX10_clear (by decide) (rest := []) rfl rfl rfl rfl rfl rfl rfl rfl rfl rfl rfl (st2 := []) (h2 := (hPd 0 d ++ (hYd 2 q1))) rfl rfl ?_
  refine MW_run C okX3_layOut 2 2 (gs := []) (cf' := (6, [some (.ref 0), some (.ref 2), some (.int 0), none], [], (hPd 0 d ++ (hYd 2 q1)), 0, 0)) rfl trivial ?_
  obtain ⟨q6, hc6, hm⟩ := of_bind hm
  refine l_pd_layOut_6 C hq N0 d q1 0 q6 hc6 ?_
  refine MW_run C okX3_layOut 43 1 (gs := []) (cf' := (81, [none, some (.ref 2), none, none], [.ref 2], (hPd 0 d ++ (hYd 2 q6)), 0, 0)) rfl trivial ?_
  obtain ⟨q81, hc81, hm⟩ := of_bind hm
  refine MW_callV1 C okX3_layOut 44 rfl [2, 3, 4, 5, 6, 7, 8, 9] (v0 := none) (h0 := (hYd 0 q81)) (c_yd_listMoves q6 q81 hc81) lkX3_42 0 dpX10_listMoves (by decide) (rest := []) rfl rfl rfl rfl rfl rfl rfl rfl rfl rfl rfl (st2 := []) (h2 := (hPd 0 d ++ (hYd 2 q81))) rfl rfl ?_
  obtain rfl := Option.some.inj hm
  exact MW_vret C okX3_layOut hq 45 rfl hp
theorem c_pd_layOut (d : PdS) (y : YdS) (out : YdS) (hm : pd_layOut d y = some out) : CT yX3_layOut cX3_layOut 4 none 5 115 0 0 [.ref 0, .ref 2] (hPd 0 d ++ (hYd 2 y)) (fun v h => v = none ∧ h = (hPd 0 d ++ (hYd 2 out))) :=
  CT_of (by decide +kernel) (vs0 := [some (.ref 0), some (.ref 2), none, none]) rfl rfl (fun X C hq => t_pd_layOut C hq d y out hm ⟨rfl, rfl⟩)
