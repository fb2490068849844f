/-! WALKS, REST, LEAST and WAYS -/
theorem mem_oks {Y : Yd} (hY : VY Y) {P : Ps} {m : Nat} : m ∈ oks Y P ↔ gm Y m = true ∧ can Y P m = true := by
  unfold oks
  rw [List.mem_filter, mem_mvs hY]
def wk (Y : Yd) : Nat → Ps → Ps → Prop
  | 0, P, T => P = T
  | k + 1, P, T => ∃ m, m ∈ oks Y P ∧ wk Y k (mv P m) T
theorem wk_VP {Y : Yd} (hY : VY Y) {n : Nat} : ∀ (k : Nat) (P T : Ps), VP Y n P → wk Y k P T → VP Y n T := by
  intro k
  induction k with
  | zero => intro P T h e; cases e; exact h
  | succ k ih =>
    intro P T h ⟨m, hm, hw⟩
    rw [mem_oks hY] at hm
    exact ih _ _ (VP_mv hY h hm.1 hm.2) hw
theorem wk_lv {Y : Yd} (hY : VY Y) {n : Nat} : ∀ (k : Nat) (P T : Ps), VP Y n P → wk Y k P T → lv Y P + k ≤ lv Y T := by
  intro k
  induction k with
  | zero => intro P T h e; cases e; omega
  | succ k ih =>
    intro P T h ⟨m, hm, hw⟩
    rw [mem_oks hY] at hm
    have h1 := ih _ _ (VP_mv hY h hm.1 hm.2) hw
    have h2 := lv_mv hY hm.1 hm.2
    omega
theorem wk_snoc {Y : Yd} : ∀ (k : Nat) (P T : Ps), wk Y (k + 1) P T ↔ ∃ H m, wk Y k P H ∧ m ∈ oks Y H ∧ mv H m = T := by
  intro k
  induction k with
  | zero =>
    intro P T
    constructor
    · rintro ⟨m, hm, hw⟩; exact ⟨P, m, rfl, hm, hw⟩
    · rintro ⟨H, m, hw, hm, he⟩; cases hw; exact ⟨m, hm, he⟩
  | succ k ih =>
    intro P T
    constructor
    · rintro ⟨m, hm, hw⟩
      obtain ⟨H, m2, h1, h2, h3⟩ := (ih _ _).mp hw
      exact ⟨H, m2, ⟨m, hm, h1⟩, h2, h3⟩
    · rintro ⟨H, m2, ⟨m, hm, h1⟩, h2, h3⟩
      exact ⟨m, hm, (ih _ _).mpr ⟨H, m2, h1, h2, h3⟩⟩
/-- the EXIT's list only grows, at its end -/
theorem mv_exit {Y : Yd} (hY : VY Y) {P : Ps} {m : Nat} (hm : gm Y m = true) : mv P m 5 = if mt m = 5 then P 5 ++ [wg P m] else P 5 := by
  have h6 := gm_t6 hY hm
  by_cases h : mt m = 5
  · rw [if_pos h]
    have := mv_t P m
    rw [h] at this
    rw [this]
    simp [fP, h, pt]
  · rw [if_neg h, mv_o (by omega) (by omega)]
theorem wk_exit {Y : Yd} (hY : VY Y) : ∀ (k : Nat) (P T : Ps), wk Y k P T → (P 5) <+: (T 5) := by
  intro k
  induction k with
  | zero => intro P T e; cases e; exact List.prefix_refl _
  | succ k ih =>
    intro P T ⟨m, hm, hw⟩
    have h1 := ih _ _ hw
    rw [mem_oks hY] at hm
    rw [mv_exit hY hm.1] at h1
    by_cases h : mt m = 5
    · rw [if_pos h] at h1
      exact (List.prefix_append _ _).trans h1
    · rw [if_neg h] at h1
      exact h1
/-- the end: all are out -/
def fin (l : List Nat) : Ps := fun p => if p = 5 then l else []
theorem VP_fin {Y : Yd} (hY : VY Y) {n : Nat} {P : Ps} (h : VP Y n P) (hl : (P 5).length = n) : P = fin (P 5) := by
  have h1 := VP_len h
  have h2 := hY.2.1
  funext p
  unfold fin
  by_cases e : p = 5
  · rw [if_pos e, e]
  · rw [if_neg e]
    by_cases h9 : p < 5
    · apply List.eq_nil_of_length_eq_zero
      rcases (show p = 0 ∨ p = 1 ∨ p = 2 ∨ p = 3 ∨ p = 4 by omega) with rfl | rfl | rfl | rfl | rfl <;> omega
    · exact h.2.2.1 p (by omega) e
theorem oks_fin {Y : Yd} (hY : VY Y) {n : Nat} {P : Ps} (h : VP Y n P) (hl : (P 5).length = n) : oks Y P = [] := by
  rw [VP_fin hY h hl]
  rw [List.eq_nil_iff_forall_not_mem]
  intro m hm
  rw [mem_oks hY] at hm
  have h6 := gm_t6 hY hm.1
  have := (can_parts hm.2).1
  apply this
  simp only [fin]
  rw [if_neg (by omega)]
/-- the least of what there is -/
def om (a b : Option Nat) : Option Nat := match a, b with
  | some x, some y => some (if y < x then y else x)
  | some x, none => some x
  | none, b => b
def rs (Y : Yd) (n : Nat) (W : List Nat) : Nat → Ps → Option Nat
  | 0, _ => none
  | f + 1, P => if (P 5).isPrefixOf W then if (P 5).length = n then some 0 else (oks Y P).foldl (fun a m => om a ((rs Y n W f (mv P m)).map (· + 1))) none else none
theorem om_fold {β : Type} (g : β → Option Nat) : ∀ (l : List β) (a : Option Nat) (r : Nat), l.foldl (fun a m => om a (g m)) a = some r → (a = some r ∨ ∃ m ∈ l, g m = some r) := by
  intro l
  induction l with
  | nil => intro a r h; exact Or.inl h
  | cons x t ih =>
    intro a r h
    rcases ih _ _ h with h1 | ⟨m, hm, hg⟩
    · cases ha : a with
      | none =>
        rw [ha] at h1
        exact Or.inr ⟨x, List.mem_cons_self, h1⟩
      | some u =>
        rw [ha] at h1
        cases hx : g x with
        | none =>
          have h1 : om (some u) (g x) = some r := h1
          rw [hx] at h1; exact Or.inl h1
        | some v =>
          have h1 : om (some u) (g x) = some r := h1
          rw [hx] at h1
          simp only [om] at h1
          split at h1
          · exact Or.inr ⟨x, List.mem_cons_self, by rw [hx, h1]⟩
          · exact Or.inl h1
    · exact Or.inr ⟨m, List.mem_cons_of_mem _ hm, hg⟩
theorem om_fold_le {β : Type} (g : β → Option Nat) : ∀ (l : List β) (a : Option Nat), (∀ u, a = some u → ∃ r, r ≤ u ∧ l.foldl (fun a m => om a (g m)) a = some r) ∧ (∀ m ∈ l, ∀ v, g m = some v → ∃ r, r ≤ v ∧ l.foldl (fun a m => om a (g m)) a = some r) := by
  intro l
  induction l with
  | nil => intro a; exact ⟨fun u h => ⟨u, Nat.le_refl _, h⟩, fun m h => by cases h⟩
  | cons x t ih =>
    intro a
    obtain ⟨i1, i2⟩ := ih (om a (g x))
    refine ⟨fun u hu => ?_, fun m hm v hv => ?_⟩
    · subst hu
      cases hx : g x with
      | none =>
        rw [hx] at i1
        obtain ⟨r, h1, h2⟩ := i1 u rfl
        exact ⟨r, h1, by rw [List.foldl_cons, hx]; exact h2⟩
      | some w =>
        rw [hx] at i1
        obtain ⟨r, h1, h2⟩ := i1 _ rfl
        refine ⟨r, ?_, by rw [List.foldl_cons, hx]; exact h2⟩
        split at h1 <;> omega
    · rcases List.mem_cons.mp hm with rfl | hm
      · cases ha : a with
        | none =>
          rw [ha, hv] at i1
          obtain ⟨r, h1, h2⟩ := i1 v rfl
          exact ⟨r, h1, by rw [List.foldl_cons, hv]; exact h2⟩
        | some w =>
          rw [ha, hv] at i1
          obtain ⟨r, h1, h2⟩ := i1 _ rfl
          refine ⟨r, ?_, by rw [List.foldl_cons, hv]; exact h2⟩
          split at h1 <;> omega
      · obtain ⟨r, h1, h2⟩ := i2 m hm v hv
        exact ⟨r, h1, by rw [List.foldl_cons]; exact h2⟩
theorem rs_walk {Y : Yd} {n : Nat} {W : List Nat} : ∀ (f : Nat) (P : Ps) (r : Nat), rs Y n W f P = some r → ∃ T, wk Y r P T ∧ (T 5).length = n ∧ (T 5) <+: W := by
  intro f
  induction f with
  | zero => intro P r h; cases h
  | succ f ih =>
    intro P r h
    rw [rs] at h
    split at h
    · rename_i hp
      split at h
      · rename_i hl
        cases h
        exact ⟨P, rfl, hl, List.isPrefixOf_iff_prefix.mp hp⟩
      · rcases om_fold _ _ _ _ h with h1 | ⟨m, hm, hg⟩
        · cases h1
        · obtain ⟨q, hq, he⟩ := Option.map_eq_some_iff.mp hg
          obtain ⟨T, h1, h2, h3⟩ := ih _ _ hq
          subst he
          exact ⟨T, ⟨m, hm, h1⟩, h2, h3⟩
    · cases h
theorem rs_of {Y : Yd} (hY : VY Y) {n : Nat} (hn : n ≤ 5) {W : List Nat} : ∀ (f k : Nat) (P T : Ps), VP Y n P → wk Y k P T → (T 5).length = n → (T 5) <+: W → k < f → ∃ r, r ≤ k ∧ rs Y n W f P = some r := by
  intro f
  induction f with
  | zero => intro k P T hv hw h1 h2 h3; omega
  | succ f ih =>
    intro k P T hv hw h1 h2 h3
    rw [rs, if_pos (List.isPrefixOf_iff_prefix.mpr ((wk_exit hY _ _ _ hw).trans h2))]
    by_cases hl : (P 5).length = n
    · rw [if_pos hl]
      exact ⟨0, Nat.zero_le _, rfl⟩
    · rw [if_neg hl]
      cases k with
      | zero => cases hw; exact absurd h1 hl
      | succ k =>
        obtain ⟨m, hm, hw⟩ := hw
        have hm2 := (mem_oks hY).mp hm
        obtain ⟨r, h4, h5⟩ := ih k (mv P m) T (VP_mv hY hv hm2.1 hm2.2) hw h1 h2 (by omega)
        obtain ⟨q, h6, h7⟩ := (om_fold_le (fun m => (rs Y n W f (mv P m)).map (· + 1)) (oks Y P) none).2 m hm (r + 1) (by rw [h5]; rfl)
        exact ⟨q, by omega, h7⟩
/-- REST is the fewest: as far as fuel is enough -/
theorem rs_least {Y : Yd} (hY : VY Y) {n : Nat} (hn : n ≤ 5) {W : List Nat} {f : Nat} {P : Ps} (hv : VP Y n P) (hf : 21 ≤ f + lv Y P) (r : Nat) :
    rs Y n W f P = some r ↔ ((∃ T, wk Y r P T ∧ (T 5).length = n ∧ (T 5) <+: W) ∧ ∀ k T, wk Y k P T → (T 5).length = n → (T 5) <+: W → r ≤ k) := by
  have hk : ∀ k T, wk Y k P T → k < f := by
    intro k T hw
    have h1 := wk_lv hY _ _ _ hv hw
    have h2 := lv_le hY hn (wk_VP hY _ _ _ hv hw)
    omega
  constructor
  · intro h
    refine ⟨rs_walk _ _ _ h, fun k T h1 h2 h3 => ?_⟩
    obtain ⟨q, h4, h5⟩ := rs_of hY hn f k P T hv h1 h2 h3 (hk _ _ h1)
    rw [h] at h5
    cases h5
    exact h4
  · rintro ⟨⟨T, h1, h2, h3⟩, h4⟩
    obtain ⟨q, h5, h6⟩ := rs_of hY hn f r P T hv h1 h2 h3 (hk _ _ h1)
    obtain ⟨T2, g1, g2, g3⟩ := rs_walk _ _ _ h6
    have := h4 q T2 g1 g2 g3
    rw [h6, show q = r by omega]
theorem rs_none {Y : Yd} (hY : VY Y) {n : Nat} (hn : n ≤ 5) {W : List Nat} {f : Nat} {P : Ps} (hv : VP Y n P) (hf : 21 ≤ f + lv Y P) :
    rs Y n W f P = none ↔ ∀ k T, wk Y k P T → (T 5).length = n → ¬ (T 5) <+: W := by
  constructor
  · intro h k T h1 h2 h3
    have hk : k < f := by
      have h1 := wk_lv hY _ _ _ hv h1
      have h2 := lv_le hY hn (wk_VP hY _ _ _ hv (by assumption))
      omega
    obtain ⟨q, h4, h5⟩ := rs_of hY hn f k P T hv h1 h2 h3 hk
    rw [h] at h5
    cases h5
  · intro h
    cases hr : rs Y n W f P with
    | none => rfl
    | some r =>
      obtain ⟨T, h1, h2, h3⟩ := rs_walk _ _ _ hr
      exact absurd h3 (h r T h1 h2)
theorem rs_fuel {Y : Yd} (hY : VY Y) {n : Nat} (hn : n ≤ 5) {W : List Nat} {f g : Nat} {P : Ps} (hv : VP Y n P) (hf : 21 ≤ f + lv Y P) (hg : 21 ≤ g + lv Y P) : rs Y n W f P = rs Y n W g P := by
  cases h : rs Y n W f P with
  | none => exact ((rs_none hY hn hv hg).mpr ((rs_none hY hn hv hf).mp h)).symm
  | some r => exact ((rs_least hY hn hv hg r).mpr ((rs_least hY hn hv hf r).mp h)).symm
/-- REST -/
def rest (Y : Yd) (n : Nat) (W : List Nat) (P : Ps) : Option Nat := rs Y n W 21 P
theorem rs_step {Y : Yd} (hY : VY Y) {n : Nat} (hn : n ≤ 5) {W : List Nat} {P : Ps} (hv : VP Y n P) (f g : Nat) (hf : 21 ≤ f + 1) (hg : 21 ≤ g) : rs Y n W (f + 1) P = if (P 5).isPrefixOf W then if (P 5).length = n then some 0 else (oks Y P).foldl (fun a m => om a ((rs Y n W g (mv P m)).map (· + 1))) none else none := by
  rw [rs]
  have : ∀ (l : List Nat) (a : Option Nat), (∀ m ∈ l, m ∈ oks Y P) → l.foldl (fun a m => om a ((rs Y n W f (mv P m)).map (· + 1))) a = l.foldl (fun a m => om a ((rs Y n W g (mv P m)).map (· + 1))) a := by
    intro l
    induction l with
    | nil => intro a _; rw [List.foldl_nil, List.foldl_nil]
    | cons x t ih =>
      intro a h
      have hx := (mem_oks hY).mp (h x List.mem_cons_self)
      have := lv_mv hY hx.1 hx.2
      rw [List.foldl_cons, List.foldl_cons, rs_fuel (f := f) (g := g) hY hn (VP_mv hY hv hx.1 hx.2) (by omega) (by omega)]
      exact ih _ (fun m hm => h m (List.mem_cons_of_mem _ hm))
  rw [this _ _ (fun m h => h)]
theorem rest_eq {Y : Yd} (hY : VY Y) {n : Nat} (hn : n ≤ 5) {W : List Nat} {P : Ps} (hv : VP Y n P) : rest Y n W P = if (P 5).isPrefixOf W then if (P 5).length = n then some 0 else (oks Y P).foldl (fun a m => om a ((rest Y n W (mv P m)).map (· + 1))) none else none := rs_step hY hn hv 20 21 (Nat.le_refl _) (Nat.le_refl _)
/-! LEAST and WAYS of all ways to stand: what any table of them obeys -/
def sumL (l : List Nat) (g : Nat → Int64) : Int64 := l.foldr (fun m a => g m + a) 0
theorem sumL_cons (x : Nat) (l : List Nat) (g : Nat → Int64) : sumL (x :: l) g = g x + sumL l g := rfl
theorem sumL_congr {l : List Nat} {g h : Nat → Int64} (e : ∀ m ∈ l, g m = h m) : sumL l g = sumL l h := by
  induction l with
  | nil => rfl
  | cons x t ih => rw [sumL_cons, sumL_cons, e x List.mem_cons_self, ih (fun m hm => e m (List.mem_cons_of_mem _ hm))]
theorem sumL_upd {l : List Nat} (hn : l.Nodup) {g h : Nat → Int64} {m : Nat} (hm : m ∈ l) {w : Int64} (h0 : h m = g m + w) (he : ∀ k, k ≠ m → h k = g k) : sumL l h = sumL l g + w := by
  induction l with
  | nil => cases hm
  | cons x t ih =>
    rw [sumL_cons, sumL_cons]
    rcases List.mem_cons.mp hm with rfl | hm
    · rw [h0, sumL_congr (g := h) (h := g) (fun k hk => he k (fun e => by subst e; exact (List.nodup_cons.mp hn).1 hk))]
      rw [Int64.add_assoc, Int64.add_assoc, Int64.add_comm w]
    · rw [ih (List.nodup_cons.mp hn).2 hm, he x (fun e => by subst e; exact (List.nodup_cons.mp hn).1 hm), Int64.add_assoc]
abbrev Sl : Type := (Ps → Prop) × (Ps → Nat) × (Ps → Int64)
def isP (Y : Yd) (T : Ps) (m : Nat) : Prop := m ∈ oks Y (un T m) ∧ mv (un T m) m = T
noncomputable def isB (p : Prop) : Bool := @decide p (Classical.propDecidable p)
theorem isB_t {p : Prop} : isB p = true ↔ p := by unfold isB; exact @decide_eq_true_iff p (Classical.propDecidable p)
noncomputable def wS (Y : Yd) (s : Sl) (T : Ps) : Int64 := sumL (mvs Y) (fun m => if isB (s.1 (un T m) ∧ isP Y T m ∧ s.2.1 (un T m) + 1 = s.2.1 T) then s.2.2 (un T m) else 0)
def Sol (Y : Yd) (n : Nat) (s : Sl) : Prop :=
  s.1 (st n) ∧ s.2.1 (st n) = 0 ∧ s.2.2 (st n) = 1 ∧
  (∀ T, s.1 T → VP Y n T) ∧
  (∀ T, s.1 T → T ≠ st n → ∃ H m, s.1 H ∧ m ∈ oks Y H ∧ mv H m = T ∧ s.2.1 T = s.2.1 H + 1) ∧
  (∀ H m, s.1 H → m ∈ oks Y H → s.1 (mv H m) ∧ s.2.1 (mv H m) ≤ s.2.1 H + 1) ∧
  (∀ T, s.1 T → T ≠ st n → s.2.2 T = wS Y s T)
theorem isP_of {Y : Yd} (hY : VY Y) {H : Ps} {m : Nat} (hm : m ∈ oks Y H) : un (mv H m) m = H ∧ isP Y (mv H m) m := by
  have h := (mem_oks hY).mp hm
  have e := un_mv (can_parts h.2).1 (Nat.ne_of_lt (gm_ft hY h.1))
  refine ⟨e, ?_⟩
  unfold isP
  rw [e]
  exact ⟨hm, rfl⟩
theorem Sol_dom {Y : Yd} (hY : VY Y) {n : Nat} {s t : Sl} (hs : Sol Y n s) (ht : Sol Y n t) : ∀ (k : Nat) (T : Ps), lv Y T ≤ k → s.1 T → t.1 T ∧ t.2.1 T ≤ s.2.1 T := by
  obtain ⟨s1, s2, s3, s4, s5, s6, s7⟩ := hs
  obtain ⟨t1, t2, t3, t4, t5, t6, t7⟩ := ht
  intro k
  induction k with
  | zero =>
    intro T hk hT
    by_cases e : T = st n
    · subst e; exact ⟨t1, by omega⟩
    · obtain ⟨H, m, h1, h2, h3, h4⟩ := s5 T hT e
      have h5 := (mem_oks hY).mp h2
      have := lv_mv hY h5.1 h5.2
      rw [h3] at this
      omega
  | succ k ih =>
    intro T hk hT
    by_cases e : T = st n
    · subst e; exact ⟨t1, by omega⟩
    · obtain ⟨H, m, h1, h2, h3, h4⟩ := s5 T hT e
      have h5 := (mem_oks hY).mp h2
      have h6 := lv_mv hY h5.1 h5.2
      rw [h3] at h6
      obtain ⟨i1, i2⟩ := ih H (by omega) h1
      obtain ⟨j1, j2⟩ := t6 H m i1 h2
      rw [h3] at j1 j2
      exact ⟨j1, by omega⟩
theorem Sol_far {Y : Yd} (hY : VY Y) {n : Nat} {s t : Sl} (hs : Sol Y n s) (ht : Sol Y n t) (T : Ps) : (s.1 T ↔ t.1 T) ∧ (s.1 T → s.2.1 T = t.2.1 T) := by
  refine ⟨⟨fun h => (Sol_dom hY hs ht _ T (Nat.le_refl _) h).1, fun h => (Sol_dom hY ht hs _ T (Nat.le_refl _) h).1⟩, fun h => ?_⟩
  obtain ⟨h1, h2⟩ := Sol_dom hY hs ht _ T (Nat.le_refl _) h
  have h3 := (Sol_dom hY ht hs _ T (Nat.le_refl _) h1).2
  omega
theorem Sol_ways {Y : Yd} (hY : VY Y) {n : Nat} {s t : Sl} (hs : Sol Y n s) (ht : Sol Y n t) : ∀ (k : Nat) (T : Ps), lv Y T ≤ k → s.1 T → s.2.2 T = t.2.2 T := by
  intro k
  induction k with
  | zero =>
    intro T hk hT
    by_cases e : T = st n
    · subst e; rw [hs.2.2.1, ht.2.2.1]
    · obtain ⟨H, m, h1, h2, h3, h4⟩ := hs.2.2.2.2.1 T hT e
      have h5 := (mem_oks hY).mp h2
      have := lv_mv hY h5.1 h5.2
      rw [h3] at this
      omega
  | succ k ih =>
    intro T hk hT
    by_cases e : T = st n
    · subst e; rw [hs.2.2.1, ht.2.2.1]
    · have f1 := Sol_far hY hs ht T
      rw [hs.2.2.2.2.2.2 T hT e, ht.2.2.2.2.2.2 T (f1.1.mp hT) e]
      unfold wS
      apply sumL_congr
      intro m hm
      have f2 := Sol_far hY hs ht (un T m)
      by_cases hp : isP Y T m
      · by_cases hH : s.1 (un T m)
        · have h5 := (mem_oks hY).mp hp.1
          have h6 := lv_mv hY h5.1 h5.2
          rw [hp.2] at h6
          have h7 := ih (un T m) (by omega) hH
          have h8 : (s.1 (un T m) ∧ isP Y T m ∧ s.2.1 (un T m) + 1 = s.2.1 T) = (t.1 (un T m) ∧ isP Y T m ∧ t.2.1 (un T m) + 1 = t.2.1 T) := by
            rw [f2.2 hH, f1.2 hT]
            apply propext
            rw [f2.1]
          rw [h8, h7]
        · have : ¬ t.1 (un T m) := fun h => hH (f2.1.mpr h)
          rw [if_neg (fun h => hH (isB_t.mp h).1), if_neg (fun h => this (isB_t.mp h).1)]
      · rw [if_neg (fun h => hp (isB_t.mp h).2.1), if_neg (fun h => hp (isB_t.mp h).2.1)]
noncomputable def sol (Y : Yd) (n : Nat) : Sl := @Classical.epsilon Sl ⟨(fun _ => True, fun _ => 0, fun _ => 0)⟩ (Sol Y n)
theorem sol_is {Y : Yd} {n : Nat} {s : Sl} (h : Sol Y n s) : Sol Y n (sol Y n) := Classical.epsilon_spec_aux ⟨(fun _ => True, fun _ => 0, fun _ => 0)⟩ (Sol Y n) ⟨s, h⟩
/-- LEAST of an order (as places in the train), and WAYS -/
noncomputable def lf (Y : Yd) (n : Nat) (l : List Nat) : Option Nat := if isB ((sol Y n).1 (fin l)) then some ((sol Y n).2.1 (fin l)) else none
noncomputable def lw (Y : Yd) (n : Nat) (l : List Nat) : Int64 := if isB ((sol Y n).1 (fin l)) then (sol Y n).2.2 (fin l) else 0
theorem lf_of {Y : Yd} (hY : VY Y) {n : Nat} {s : Sl} (h : Sol Y n s) (l : List Nat) : (s.1 (fin l) → lf Y n l = some (s.2.1 (fin l)) ∧ lw Y n l = s.2.2 (fin l)) ∧ (¬ s.1 (fin l) → lf Y n l = none ∧ lw Y n l = 0) := by
  have h2 := sol_is h
  have f := Sol_far hY h h2 (fin l)
  refine ⟨fun hs => ?_, fun hs => ?_⟩
  · have := f.1.mp hs
    unfold lf lw
    rw [if_pos (isB_t.mpr this), if_pos (isB_t.mpr this), ← f.2 hs, Sol_ways hY h h2 _ _ (Nat.le_refl _) hs]
    exact ⟨rfl, rfl⟩
  · have : ¬ (sol Y n).1 (fin l) := fun h9 => hs (f.1.mpr h9)
    unfold lf lw
    rw [if_neg (fun h9 => this (isB_t.mp h9)), if_neg (fun h9 => this (isB_t.mp h9))]
    exact ⟨rfl, rfl⟩
/-- a table's LEAST is a walk's, and no walk is shorter -/
theorem Sol_walk {Y : Yd} (hY : VY Y) {n : Nat} {s : Sl} (hs : Sol Y n s) : ∀ (k : Nat) (T : Ps), s.2.1 T = k → s.1 T → wk Y k (st n) T := by
  obtain ⟨s1, s2, s3, s4, s5, s6, s7⟩ := hs
  intro k
  induction k with
  | zero =>
    intro T hk hT
    by_cases e : T = st n
    · exact e.symm
    · obtain ⟨H, m, h1, h2, h3, h4⟩ := s5 T hT e
      omega
  | succ k ih =>
    intro T hk hT
    by_cases e : T = st n
    · subst e; omega
    · obtain ⟨H, m, h1, h2, h3, h4⟩ := s5 T hT e
      exact (wk_snoc _ _ _).mpr ⟨H, m, ih H (by omega) h1, h2, h3⟩
theorem Sol_le {Y : Yd} {n : Nat} {s : Sl} (hs : Sol Y n s) : ∀ (k : Nat) (T : Ps), wk Y k (st n) T → s.1 T ∧ s.2.1 T ≤ k := by
  obtain ⟨s1, s2, s3, s4, s5, s6, s7⟩ := hs
  intro k
  induction k with
  | zero => intro T h; cases h; exact ⟨s1, by omega⟩
  | succ k ih =>
    intro T h
    obtain ⟨H, m, h1, h2, h3⟩ := (wk_snoc _ _ _).mp h
    obtain ⟨i1, i2⟩ := ih H h1
    obtain ⟨j1, j2⟩ := s6 H m i1 h2
    rw [h3] at j1 j2
    exact ⟨j1, by omega⟩
theorem fin_5 (l : List Nat) : fin l 5 = l := by simp [fin]
/-- LEAST is REST at the beginning -/
theorem lf_rest {Y : Yd} (hY : VY Y) {n : Nat} (hn : n ≤ 5) {s : Sl} (h : Sol Y n s) {l : List Nat} (hl : l.length = n) : lf Y n l = rest Y n l (st n) := by
  have f := lf_of hY h l
  have hv := VP_st Y n
  have key : ∀ k T, wk Y k (st n) T → (T 5).length = n → (T 5) <+: l → T = fin l := by
    intro k T h1 h2 h3
    have h4 := VP_fin hY (wk_VP hY _ _ _ hv h1) h2
    rw [h4, h3.eq_of_length (by omega)]
  by_cases hs : s.1 (fin l)
  · rw [(f.1 hs).1]
    symm
    unfold rest
    rw [rs_least hY hn hv (by omega)]
    refine ⟨⟨fin l, Sol_walk hY h _ _ rfl hs, by rw [fin_5]; exact hl, by rw [fin_5]; exact List.prefix_refl _⟩, fun k T h1 h2 h3 => ?_⟩
    have e := key k T h1 h2 h3
    subst e
    exact (Sol_le h _ _ h1).2
  · rw [(f.2 hs).1]
    symm
    unfold rest
    rw [rs_none hY hn hv (by omega)]
    intro k T h1 h2 h3
    have e := key k T h1 h2 h3
    subst e
    exact hs (Sol_le h _ _ h1).1
