/-! THE STATE AS A PICTURE, and what calls answer -/
abbrev PlA : Type := Nat × List Nat × List Nat × List Nat
abbrev ImA : Type := Yd × Yd × PlA
abbrev AS : Type := List Nat × Yd × Yd × PlA × (Nat → Option ImA)
def aP (A : AS) : List Nat := A.1
def aY (A : AS) : Yd := A.2.1
def aO (A : AS) : Yd := A.2.2.1
def aG (A : AS) : PlA := A.2.2.2.1
def aI (A : AS) : Nat → Option ImA := A.2.2.2.2
def posn (n : Nat) (ms : List Nat) : Ps := ms.foldl mv (st n)
def mvok (Y : Yd) : Ps → List Nat → Prop
  | _, [] => True
  | P, m :: r => m ∈ oks Y P ∧ mvok Y (mv P m) r
def VPl (Y : Yd) (G : PlA) : Prop := G.1 = 0 ∨ (1 ≤ G.1 ∧ G.1 ≤ 5 ∧ G.2.1 ∈ pm G.1 ∧ G.2.2.1 ∈ pm G.1 ∧ mvok Y (st G.1) G.2.2.2)
def VA (A : AS) : Prop := ((aP A).length ≤ 16 ∧ ∀ d ∈ aP A, 33 ≤ d ∧ d ≤ 126) ∧ VY (aY A) ∧ VY (aO A) ∧ VPl (aY A) (aG A) ∧ ∀ i im, aI A i = some im → VY im.1 ∧ VY im.2.1 ∧ VPl im.1 im.2.2
theorem mvok_wk {Y : Yd} : ∀ (ms : List Nat) (P : Ps), mvok Y P ms → wk Y ms.length P (ms.foldl mv P) := by
  intro ms
  induction ms with
  | nil => intro P _; rfl
  | cons m r ih => intro P h; exact ⟨m, h.1, ih _ h.2⟩
theorem mvok_VP {Y : Yd} (hY : VY Y) {n : Nat} {ms : List Nat} (h : mvok Y (st n) ms) : VP Y n (posn n ms) := wk_VP hY _ _ _ (VP_st Y n) (mvok_wk ms _ h)
theorem mvok_len {Y : Yd} (hY : VY Y) {n : Nat} (hn : n ≤ 5) {ms : List Nat} (h : mvok Y (st n) ms) : ms.length ≤ lv Y (posn n ms) ∧ ms.length ≤ 20 := by
  have h1 := wk_lv hY _ _ _ (VP_st Y n) (mvok_wk ms _ h)
  have h2 := lv_le hY hn (mvok_VP hY h)
  unfold posn at *
  omega
theorem mvok_take {Y : Yd} : ∀ (ms : List Nat) (P : Ps) (k : Nat), mvok Y P ms → mvok Y P (ms.take k) := by
  intro ms
  induction ms with
  | nil => intro P k _; simp [mvok]
  | cons m r ih =>
    intro P k h
    cases k with
    | zero => simp [mvok]
    | succ k => rw [List.take_succ_cons]; exact ⟨h.1, ih _ k h.2⟩
theorem mvok_snoc {Y : Yd} : ∀ (ms : List Nat) (P : Ps) (m : Nat), mvok Y P ms → m ∈ oks Y (ms.foldl mv P) → mvok Y P (ms ++ [m]) := by
  intro ms
  induction ms with
  | nil => intro P m _ h; exact ⟨h, trivial⟩
  | cons x r ih => intro P m h hm; exact ⟨h.1, ih _ m h.2 hm⟩
theorem posn_snoc (n : Nat) (ms : List Nat) (m : Nat) : posn n (ms ++ [m]) = mv (posn n ms) m := by
  unfold posn
  rw [List.foldl_append]
  rfl
def pr2 (x y : Int32) : Option (Nat × List Nat × List Nat) := if 0 < tw x ∧ tw y = tw x then some (tw x, (tn x).getD [], (tn y).getD []) else none
theorem pr2_some {x y : Int32} {n : Nat} {t o : List Nat} (h : pr2 x y = some (n, t, o)) : 1 ≤ n ∧ n ≤ 5 ∧ t ∈ pm n ∧ o ∈ pm n ∧ x = iN (num t) ∧ y = iN (num o) ∧ tw x = n ∧ tw y = n ∧ decide (0 < tw x ∧ tw y = tw x) = true := by
  unfold pr2 at h
  by_cases c : 0 < tw x ∧ tw y = tw x
  · rw [if_pos c] at h
    obtain ⟨l, k, a1, a2, a3, a4, a5, a6, a7⟩ := tw_some c.1
    obtain ⟨l', k', b1, b2, b3, b4, b5, b6, b7⟩ := tw_some (show 0 < tw y by omega)
    rw [a1, b1] at h
    simp only [Option.getD_some, Option.some.injEq, Prod.mk.injEq] at h
    obtain ⟨h1, h2, h3⟩ := h
    subst h2
    subst h3
    have hk : k = n := by omega
    have hk2 : k' = n := by omega
    subst hk
    rw [hk2] at b5
    exact ⟨a3, a4, a5, b5, a6, b6, a2, by omega, decide_eq_true c⟩
  · rw [if_neg c] at h; cases h
theorem pr2_none {x y : Int32} (h : pr2 x y = none) : decide (0 < tw x ∧ tw y = tw x) = false := by
  unfold pr2 at h
  by_cases c : 0 < tw x ∧ tw y = tw x
  · rw [if_pos c] at h; cases h
  · exact decide_eq_false c
/-- the train that a number tells -/
def pr1 (x : Int32) : Option (Nat × List Nat) := if 0 < tw x then some (tw x, (tn x).getD []) else none
theorem pr1_some {x : Int32} {n : Nat} {t : List Nat} (h : pr1 x = some (n, t)) : 1 ≤ n ∧ n ≤ 5 ∧ t ∈ pm n ∧ x = iN (num t) ∧ tw x = n := by
  unfold pr1 at h
  by_cases c : 0 < tw x
  · rw [if_pos c] at h
    obtain ⟨l, k, a1, a2, a3, a4, a5, a6, a7⟩ := tw_some c
    rw [a1] at h
    simp only [Option.getD_some, Option.some.injEq, Prod.mk.injEq] at h
    obtain ⟨h1, h2⟩ := h
    subst h2
    have hk : k = n := by omega
    subst hk
    exact ⟨a3, a4, a5, a6, a2⟩
  · rw [if_neg c] at h; cases h
theorem pr1_none {x : Int32} (h : pr1 x = none) : tw x = 0 := by
  unfold pr1 at h
  by_cases c : 0 < tw x
  · rw [if_pos c] at h; cases h
  · omega
/-! MOVES in the order of their numbers -/
def og (l : List Nat) (m : Nat) : List Nat := l.filter (fun k => decide (m ≤ k))
theorem og_step {l : List Nat} (h : l.Pairwise (· < ·)) (m : Nat) : og l m = if m ∈ l then m :: og l (m + 1) else og l (m + 1) := by
  induction l with
  | nil => rfl
  | cons x t ih =>
    have h1 := List.pairwise_cons.mp h
    have ih := ih h1.2
    unfold og at ih ⊢
    by_cases c : x = m
    · subst c
      rw [if_pos List.mem_cons_self, List.filter_cons_of_pos (by simp), List.filter_cons_of_neg (by simp)]
      congr 1
      apply List.filter_congr
      intro y hy
      have := h1.1 y hy
      exact decide_eq_decide.mpr (by omega)
    · by_cases c2 : m < x
      · have hn : m ∉ t := fun h9 => by have := h1.1 m h9; omega
        rw [if_neg (by simp; exact ⟨fun e => c e.symm, hn⟩), List.filter_cons_of_pos (by simp; omega), List.filter_cons_of_pos (by simp; omega)]
        congr 1
        rw [if_neg hn] at ih
        exact ih
      · rw [List.filter_cons_of_neg (by simp; omega), List.filter_cons_of_neg (by simp; omega), ih]
        by_cases c3 : m ∈ t
        · rw [if_pos c3, if_pos (List.mem_cons_of_mem _ c3)]
        · rw [if_neg c3, if_neg (by simp; exact ⟨fun e => c e.symm, c3⟩)]
theorem og_0 (l : List Nat) : og l 0 = l := by
  unfold og
  rw [List.filter_eq_self]
  intro x _
  simp
theorem og_end {l : List Nat} {m : Nat} (h : ∀ x ∈ l, x < m) : og l m = [] := by
  unfold og
  rw [List.filter_eq_nil_iff]
  intro x hx
  have := h x hx
  simp; omega
theorem oks_srt (Y : Yd) (P : Ps) : (oks Y P).Pairwise (· < ·) := (mvs_srt Y).filter _
theorem oks_len (Y : Yd) (P : Ps) : (oks Y P).length ≤ 41 := Nat.le_trans (List.length_filter_le _ _) (mvs_len Y)
theorem oks_lt {Y : Yd} {P : Ps} {m : Nat} (h : m ∈ oks Y P) : m < 5000 := mvs_lt (List.mem_filter.mp h).1
/-- NEXT -/
def nxt (Y : Yd) (n : Nat) (W : List Nat) (P : Ps) : Option Nat := match rest Y n W P with
  | some (r + 1) => (oks Y P).find? (fun m => decide (rest Y n W (mv P m) = some r))
  | _ => none
theorem nxt_some {Y : Yd} (hY : VY Y) {n : Nat} (hn : n ≤ 5) {W : List Nat} {P : Ps} (hv : VP Y n P) {r : Nat} (h : rest Y n W P = some (r + 1)) : ∃ m, nxt Y n W P = some m ∧ m ∈ oks Y P ∧ rest Y n W (mv P m) = some r := by
  have h1 := h
  rw [rest_eq hY hn hv] at h1
  split at h1
  · split at h1
    · cases h1
    · rcases om_fold (fun m => (rest Y n W (mv P m)).map (· + 1)) _ _ _ h1 with h2 | ⟨m, hm, hg⟩
      · cases h2
      · obtain ⟨q, hq, he⟩ := Option.map_eq_some_iff.mp hg
        have he : q + 1 = r + 1 := he
        have hq : rest Y n W (mv P m) = some r := by rw [hq, show q = r by omega]
        unfold nxt
        rw [h]
        simp only
        cases hf : (oks Y P).find? (fun m => decide (rest Y n W (mv P m) = some r)) with
        | none =>
          rw [List.find?_eq_none] at hf
          exact absurd (decide_eq_true hq) (hf m hm)
        | some k => exact ⟨k, rfl, List.mem_of_find?_eq_some hf, of_decide_eq_true (List.find?_some (p := fun m => decide (rest Y n W (mv P m) = some r)) hf)⟩
  · cases h1
def nI6 : Option Nat → Int32
  | none => -6
  | some r => iN r
theorem nI6_rI : nI6 = rI := rfl
/-- FIRST -/
def frs (Y : Yd) (n : Nat) (W : List Nat) : Nat → Ps → Option Nat
  | 0, P => nxt Y n W P
  | k + 1, P => match nxt Y n W P with
    | some m => frs Y n W k (mv P m)
    | none => none
/-! what calls answer -/
def sdx (Y : Yd) (x : Int32) : Bool := decide (0 ≤ x.toInt ∧ x.toInt < yM Y)
def msg (Y : Yd) (x : Int32) : Bool := decide ((yM Y : Int) < x.toInt ∧ x.toInt ≤ 4)
def s_siding (Y : Yd) (x w : Int32) : Int32 := if sdx Y x then (if w = 0 then iN (yL Y x.toNatClampNeg) else if w = 1 then iN (yN Y x.toNatClampNeg) else if w = 2 then iN (yS Y x.toNatClampNeg) else -2) else -1
def s_leads (Y : Yd) (x y : Int32) : Int32 := if msg Y x || msg Y y then -1 else if 0 ≤ x.toInt ∧ x.toInt ≤ 4 ∧ 1 ≤ y.toInt ∧ y.toInt ≤ 5 then bI (go Y x.toNatClampNeg y.toNatClampNeg) else -2
noncomputable def s_least (Y : Yd) (x y : Int32) : Int32 := match pr2 x y with
  | none => -2
  | some (n, t, o) => rI (lf Y n (rel t o))
noncomputable def s_ways (Y : Yd) (x y : Int32) : Int64 := match pr2 x y with
  | none => -2
  | some (n, t, o) => lw Y n (rel t o)
def s_first (Y : Yd) (x y i : Int32) : Int32 := match pr2 x y with
  | none => -2
  | some (n, t, o) => if 0 ≤ i.toInt then nI6 (frs Y n (rel t o) i.toNatClampNeg (st n)) else -6
def s_moves (l : List Nat) (i : Int32) : Int32 := if i = -1 then iN l.length else if 0 ≤ i.toInt then nI6 l[i.toNatClampNeg]? else -6
def gP (G : PlA) : Ps := posn G.1 G.2.2.2
def gW (G : PlA) : List Nat := rel G.2.1 G.2.2.1
