/-! KEYS and INDICES of ways to stand -/
def plc (M : Nat) : List Nat := (List.range M).map (· + 1) ++ [5]
def lss (M : Nat) (P : Ps) : List (List Nat) := (plc M).map P
def val (a : Nat) (l : List Nat) : Nat := l.reverse.foldr (fun d k => 6 * k + d) a
def keyL : List (List Nat) → Nat → Nat
  | [], k => k
  | l :: r, k => keyL r (val (6 * k) l)
def key (M : Nat) (P : Ps) : Nat := keyL (lss M P) 0
theorem val_nil (a : Nat) : val a [] = a := rfl
theorem val_snoc (a : Nat) (l : List Nat) (d : Nat) : val a (l ++ [d]) = 6 * val a l + d := by
  simp [val]
theorem val_lt : ∀ (l : List Nat) (a e : Nat), a < 6 ^ e → (∀ d ∈ l, d < 6) → l.foldr (fun d k => 6 * k + d) a < 6 ^ (e + l.length) := by
  intro l
  induction l with
  | nil => intro a e h _; exact h
  | cons d r ih =>
    intro a e h hd
    have h1 := ih a e h (fun x hx => hd x (List.mem_cons_of_mem _ hx))
    have h2 := hd d List.mem_cons_self
    rw [List.foldr_cons, List.length_cons, ← Nat.add_assoc, Nat.pow_succ]
    omega
theorem val_bd {l : List Nat} {a e : Nat} (h : a < 6 ^ e) (hd : ∀ d ∈ l, d < 6) : val a l < 6 ^ (e + l.length) := by
  have := val_lt l.reverse a e h (fun d hx => hd d (List.mem_reverse.mp hx))
  rwa [List.length_reverse] at this
theorem val_inj0 : ∀ (u v : List Nat) (a b : Nat), (∀ d ∈ u, 1 ≤ d ∧ d < 6) → (∀ d ∈ v, 1 ≤ d ∧ d < 6) → u.foldr (fun d k => 6 * k + d) (6 * a) = v.foldr (fun d k => 6 * k + d) (6 * b) → u = v ∧ a = b := by
  intro u
  induction u with
  | nil =>
    intro v a b _ hv h
    cases v with
    | nil => simp only [List.foldr_nil] at h; exact ⟨rfl, by omega⟩
    | cons d r =>
      simp only [List.foldr_nil, List.foldr_cons] at h
      have := hv d List.mem_cons_self
      omega
  | cons d r ih =>
    intro v a b hu hv h
    have hd := hu d List.mem_cons_self
    cases v with
    | nil =>
      simp only [List.foldr_nil, List.foldr_cons] at h
      omega
    | cons e t =>
      have he := hv e List.mem_cons_self
      simp only [List.foldr_cons] at h
      have h1 : d = e := by omega
      obtain ⟨h2, h3⟩ := ih t a b (fun x hx => hu x (List.mem_cons_of_mem _ hx)) (fun x hx => hv x (List.mem_cons_of_mem _ hx)) (by omega)
      exact ⟨by rw [h1, h2], h3⟩
theorem val_inj {u v : List Nat} {a b : Nat} (hu : ∀ d ∈ u, 1 ≤ d ∧ d < 6) (hv : ∀ d ∈ v, 1 ≤ d ∧ d < 6) (h : val (6 * a) u = val (6 * b) v) : u = v ∧ a = b := by
  obtain ⟨h1, h2⟩ := val_inj0 u.reverse v.reverse a b (fun d hx => hu d (List.mem_reverse.mp hx)) (fun d hx => hv d (List.mem_reverse.mp hx)) h
  exact ⟨List.reverse_inj.mp h1, h2⟩
theorem keyL_inj : ∀ (u v : List (List Nat)) (a b : Nat), u.length = v.length → (∀ l ∈ u, ∀ d ∈ l, 1 ≤ d ∧ d < 6) → (∀ l ∈ v, ∀ d ∈ l, 1 ≤ d ∧ d < 6) → keyL u a = keyL v b → u = v ∧ a = b := by
  intro u
  induction u with
  | nil =>
    intro v a b hl _ _ h
    cases v with
    | nil => exact ⟨rfl, h⟩
    | cons x t => simp at hl
  | cons x t ih =>
    intro v a b hl hu hv h
    cases v with
    | nil => simp at hl
    | cons y s =>
      simp only [List.length_cons, Nat.add_right_cancel_iff] at hl
      obtain ⟨h1, h2⟩ := ih s _ _ hl (fun l hx => hu l (List.mem_cons_of_mem _ hx)) (fun l hx => hv l (List.mem_cons_of_mem _ hx)) h
      obtain ⟨h3, h4⟩ := val_inj (hu x List.mem_cons_self) (hv y List.mem_cons_self) h2
      exact ⟨by rw [h1, h3], h4⟩
theorem keyL_bd : ∀ (u : List (List Nat)) (a e : Nat), a < 6 ^ e → (∀ l ∈ u, ∀ d ∈ l, d < 6) → keyL u a < 6 ^ (e + (u.map (fun l => l.length + 1)).sum) := by
  intro u
  induction u with
  | nil => intro a e h _; exact h
  | cons x t ih =>
    intro a e h hd
    have h1 : 6 * a < 6 ^ (e + 1) := by rw [Nat.pow_succ]; omega
    have h2 := val_bd h1 (hd x List.mem_cons_self)
    have h3 := ih _ _ h2 (fun l hx => hd l (List.mem_cons_of_mem _ hx))
    simp only [keyL, List.map_cons, List.sum_cons]
    rw [show e + (x.length + 1 + (t.map (fun l => l.length + 1)).sum) = e + 1 + x.length + (t.map (fun l => l.length + 1)).sum by omega]
    exact h3
theorem plc_mem {M p : Nat} : p ∈ plc M ↔ (1 ≤ p ∧ p ≤ M) ∨ p = 5 := by
  unfold plc
  simp only [List.mem_append, List.mem_map, List.mem_range, List.mem_singleton]
  constructor
  · rintro (⟨i, h1, h2⟩ | h)
    · exact Or.inl (by omega)
    · exact Or.inr h
  · rintro (h | h)
    · exact Or.inl ⟨p - 1, by omega, by omega⟩
    · exact Or.inr h
theorem VP_dig {Y : Yd} (hY : VY Y) {n : Nat} (hn : n ≤ 5) {P : Ps} (h : VP Y n P) : ∀ l ∈ lss (yM Y) P, ∀ d ∈ l, 1 ≤ d ∧ d < 6 := by
  intro l hl d hd
  obtain ⟨p, hp, rfl⟩ := List.mem_map.mp hl
  have := hY.2.1
  have h6 := plc_mem.mp hp
  have := VP_mem h (p := p) (by omega) hd
  omega
/-- the wagons at the ENTRY tell how many have left it -/
theorem VP_0 {Y : Yd} {n : Nat} {P : Ps} (h : VP Y n P) : (P 0).length ≤ n ∧ P 0 = List.range' (n - (P 0).length + 1) (P 0).length := by
  obtain ⟨g, hg, e⟩ := h.2.1
  have : (P 0).length = n - g := by rw [e, List.length_range']
  refine ⟨by omega, ?_⟩
  rw [this, e, show n - (n - g) = g by omega]
theorem VP_eq {Y : Yd} {n : Nat} {P T : Ps} (h : VP Y n P) (g : VP Y n T) (he : lss (yM Y) P = lss (yM Y) T) : P = T := by
  have h1 : ∀ p, (1 ≤ p ∧ p ≤ yM Y) ∨ p = 5 → P p = T p := by
    intro p hp
    have := List.map_inj_left.mp he
    exact this p (plc_mem.mpr hp)
  have h2 : ∀ p, 1 ≤ p → P p = T p := by
    intro p hp
    by_cases h5 : p = 5
    · exact h1 p (Or.inr h5)
    · by_cases hM : p ≤ yM Y
      · exact h1 p (Or.inl ⟨hp, hM⟩)
      · rw [h.2.2.1 p (by omega) h5, g.2.2.1 p (by omega) h5]
  have l1 := VP_len h
  have l2 := VP_len g
  funext p
  by_cases h0 : p = 0
  · rw [h0, (VP_0 h).2, (VP_0 g).2]
    have : (P 0).length = (T 0).length := by
      rw [h2 1 (by omega), h2 2 (by omega), h2 3 (by omega), h2 4 (by omega), h2 5 (by omega)] at l1
      omega
    rw [this]
  · exact h2 p (by omega)
theorem key_inj {Y : Yd} (hY : VY Y) {n : Nat} (hn : n ≤ 5) {P T : Ps} (h : VP Y n P) (g : VP Y n T) (he : key (yM Y) P = key (yM Y) T) : P = T :=
  VP_eq h g (keyL_inj _ _ 0 0 (by simp [lss]) (VP_dig hY hn h) (VP_dig hY hn g) he).1
theorem plc_sum (M : Nat) (hM : M ≤ 4) (f : Nat → Nat) : ((plc M).map f).sum ≤ f 1 + f 2 + f 3 + f 4 + f 5 := by
  rcases (show M = 0 ∨ M = 1 ∨ M = 2 ∨ M = 3 ∨ M = 4 by omega) with rfl | rfl | rfl | rfl | rfl <;> simp [plc, List.range_succ] <;> omega
theorem key_bd {Y : Yd} (hY : VY Y) {n : Nat} (hn : n ≤ 5) {P : Ps} (h : VP Y n P) : key (yM Y) P < 60466176 := by
  have h1 := keyL_bd (lss (yM Y) P) 0 0 (by omega) (fun l hl d hd => (VP_dig hY hn h l hl d hd).2)
  have h2 : ((lss (yM Y) P).map (fun l => l.length + 1)).sum ≤ 10 := by
    have h3 : (lss (yM Y) P).map (fun l => l.length + 1) = (plc (yM Y)).map (fun p => (P p).length + 1) := by simp [lss]
    rw [h3]
    have h4 := plc_sum (yM Y) hY.2.1 (fun p => (P p).length + 1)
    have h5 := VP_len h
    omega
  refine Nat.lt_of_lt_of_le h1 ?_
  exact Nat.pow_le_pow_right (by omega) (show 0 + _ ≤ 10 by omega)
/-! slots: in a row of lists, how many ends of lists and lower wagons are ahead of a wagon -/
def lo (v : Nat) (l : List Nat) : Nat := (l.filter (fun x => decide (x < v))).length
def cb (v : Nat) (l : List Nat) : Nat := ((l.takeWhile (fun x => decide (x ≠ v))).filter (fun x => decide (x < v))).length
def sl (v : Nat) : List (List Nat) → Nat
  | [] => 0
  | l :: r => if v ∈ l then cb v l else lo v l + 1 + sl v r
def insA (l : List Nat) (w k : Nat) : List Nat := l.take k ++ w :: l.drop k
def ins (w : Nat) : Nat → List (List Nat) → List (List Nat)
  | _, [] => []
  | s, l :: r => if s ≤ l.length then insA l w s :: r else l :: ins w (s - (l.length + 1)) r
def rst (v : Nat) (ls : List (List Nat)) : List (List Nat) := ls.map (fun l => l.filter (fun x => decide (x ≤ v)))
theorem rst_nomem {w : Nat} {l : List Nat} (h : w + 1 ∉ l) : l.filter (fun x => decide (x ≤ w)) = l.filter (fun x => decide (x ≤ w + 1)) := by
  apply List.filter_congr
  intro x hx
  have : x ≠ w + 1 := fun e => h (e ▸ hx)
  exact decide_eq_decide.mpr (by omega)
theorem filter_lt {w : Nat} (l : List Nat) : l.filter (fun x => decide (x < w + 1)) = l.filter (fun x => decide (x ≤ w)) := by
  apply List.filter_congr
  intro x hx
  exact decide_eq_decide.mpr (by omega)
theorem takeW {w : Nat} {a b : List Nat} (h : w ∉ a) : (a ++ w :: b).takeWhile (fun x => decide (x ≠ w)) = a := by
  rw [List.takeWhile_append_of_pos (fun x hx => by
    have : x ≠ w := fun e => h (e ▸ hx)
    exact decide_eq_true this)]
  simp
def once (w : Nat) : List (List Nat) → Prop
  | [] => False
  | l :: r => (l.count w = 1 ∧ ∀ x ∈ r, w ∉ x) ∨ (w ∉ l ∧ once w r)
theorem sum_zero {w : Nat} : ∀ (r : List (List Nat)), (r.map (fun l => l.count w)).sum = 0 → ∀ x ∈ r, w ∉ x := by
  intro r
  induction r with
  | nil => intro _ x hx; cases hx
  | cons y t ih =>
    intro h x hx
    simp only [List.map_cons, List.sum_cons] at h
    rcases List.mem_cons.mp hx with rfl | hx
    · exact List.count_eq_zero.mp (by omega)
    · exact ih (by omega) x hx
theorem once_of {w : Nat} : ∀ (r : List (List Nat)), (r.map (fun l => l.count w)).sum = 1 → once w r := by
  intro r
  induction r with
  | nil => intro h; simp at h
  | cons y t ih =>
    intro h
    simp only [List.map_cons, List.sum_cons] at h
    by_cases hc : y.count w = 0
    · exact Or.inr ⟨List.count_eq_zero.mp hc, ih (by omega)⟩
    · exact Or.inl ⟨by omega, sum_zero t (by omega)⟩
theorem ins_sl {w : Nat} : ∀ (ls : List (List Nat)), once (w + 1) ls → ins (w + 1) (sl (w + 1) ls) (rst w ls) = rst (w + 1) ls := by
  intro ls
  induction ls with
  | nil => intro h; exact absurd h id
  | cons l r ih =>
    intro h
    rcases h with ⟨h1, h2⟩ | ⟨h1, h2⟩
    · have hm : w + 1 ∈ l := List.count_pos_iff.mp (by omega)
      obtain ⟨a, b, rfl, ha⟩ := List.eq_append_cons_of_mem hm
      have hb : w + 1 ∉ b := by
        rw [List.count_append, List.count_cons_self] at h1
        exact List.count_eq_zero.mp (by omega)
      have e1 : sl (w + 1) ((a ++ (w + 1) :: b) :: r) = (a.filter (fun x => decide (x ≤ w))).length := by
        rw [sl, if_pos hm, cb, takeW ha, filter_lt]
      have e2 : (a ++ (w + 1) :: b).filter (fun x => decide (x ≤ w)) = a.filter (fun x => decide (x ≤ w)) ++ b.filter (fun x => decide (x ≤ w)) := by
        rw [List.filter_append, List.filter_cons_of_neg (by simp)]
      have e3 : (a ++ (w + 1) :: b).filter (fun x => decide (x ≤ w + 1)) = a.filter (fun x => decide (x ≤ w)) ++ (w + 1) :: b.filter (fun x => decide (x ≤ w)) := by
        rw [List.filter_append, List.filter_cons_of_pos (by simp), rst_nomem ha, rst_nomem hb]
      rw [e1]
      simp only [rst, List.map_cons, e2, e3, ins]
      rw [if_pos (by simp), insA, List.take_left, List.drop_left]
      congr 1
      apply List.map_congr_left
      intro x hx
      exact rst_nomem (h2 x hx)
    · have e1 : sl (w + 1) (l :: r) = (l.filter (fun x => decide (x ≤ w))).length + 1 + sl (w + 1) r := by
        rw [sl, if_neg h1, lo, filter_lt]
      rw [e1]
      have ih := ih h2
      simp only [rst, List.map_cons, ins] at ih ⊢
      rw [if_neg (by omega), show (l.filter (fun x => decide (x ≤ w))).length + 1 + sl (w + 1) r - ((l.filter (fun x => decide (x ≤ w))).length + 1) = sl (w + 1) r by omega, ih, rst_nomem h1]
/-- the lists, built up wagon by wagon -/
def bld (s : Nat → Nat) (k : Nat) : Nat → List (List Nat)
  | 0 => List.replicate k []
  | g + 1 => ins (g + 1) (s (g + 1)) (bld s k g)
theorem bld_rst {ls : List (List Nat)} (h0 : ∀ l ∈ ls, ∀ d ∈ l, 1 ≤ d) : ∀ g : Nat, (∀ w, 1 ≤ w → w ≤ g → once w ls) → bld (fun v => sl v ls) ls.length g = rst g ls := by
  intro g
  induction g with
  | zero =>
    intro _
    simp only [bld, rst]
    symm
    rw [List.eq_replicate_iff]
    refine ⟨by simp, fun b hb => ?_⟩
    obtain ⟨l, hl, rfl⟩ := List.mem_map.mp hb
    rw [List.filter_eq_nil_iff]
    intro x hx
    have := h0 l hl x hx
    simp; omega
  | succ g ih =>
    intro h
    rw [bld, ih (fun w h1 h2 => h w h1 (by omega)), ins_sl ls (h (g + 1) (by omega) (Nat.le_refl _))]
theorem rst_all {ls : List (List Nat)} {g : Nat} (h : ∀ l ∈ ls, ∀ d ∈ l, d ≤ g) : rst g ls = ls := by
  unfold rst
  rw [List.map_congr_left (g := id) (fun l hl => by
    rw [List.filter_eq_self.mpr (fun x hx => decide_eq_true (h l hl x hx))]; rfl)]
  simp
/-- how many wagons have left the ENTRY -/
def gn (n : Nat) (P : Ps) : Nat := n - (P 0).length
def bk (M : Nat) : Nat → Nat
  | 0 => 1
  | g + 1 => bk M g * (g + 1 + M)
def bs (M : Nat) : Nat → Nat
  | 0 => 0
  | g + 1 => bs M g + bk M g
def ixm (M : Nat) (s : Nat → Nat) : Nat → Nat
  | 0 => 0
  | g + 1 => ixm M s g * (g + 1 + M) + s (g + 1)
def ix (M n : Nat) (P : Ps) : Nat := bs M (gn n P) + ixm M (fun v => sl v (lss M P)) (gn n P)
theorem plc_sum_eq {M : Nat} (hM : M ≤ 4) {f : Nat → Nat} (h : ∀ p, M < p → p ≠ 5 → f p = 0) : ((plc M).map f).sum = f 1 + f 2 + f 3 + f 4 + f 5 := by
  have h1 := h 1
  have h2 := h 2
  have h3 := h 3
  have h4 := h 4
  rcases (show M = 0 ∨ M = 1 ∨ M = 2 ∨ M = 3 ∨ M = 4 by omega) with rfl | rfl | rfl | rfl | rfl <;> simp [plc, List.range_succ] <;> omega
theorem VP_once {Y : Yd} (hY : VY Y) {n : Nat} {P : Ps} (h : VP Y n P) {w : Nat} (h1 : 1 ≤ w) (h2 : w ≤ gn n P) : once w (lss (yM Y) P) := by
  apply once_of
  have e : (lss (yM Y) P).map (fun l => l.count w) = (plc (yM Y)).map (fun p => (P p).count w) := by simp [lss]
  rw [e, plc_sum_eq hY.2.1 (fun p a b => by rw [h.2.2.1 p a b]; rfl)]
  have h3 := h.1 w
  unfold cnt at h3
  rw [if_pos (by unfold gn at h2; omega)] at h3
  have h4 : (P 0).count w = 0 := by
    rw [(VP_0 h).2, cnt_r, if_neg]
    unfold gn at h2
    omega
  omega
theorem VP_out {Y : Yd} (hY : VY Y) {n : Nat} {P : Ps} (h : VP Y n P) : ∀ l ∈ lss (yM Y) P, ∀ d ∈ l, 1 ≤ d ∧ d ≤ gn n P := by
  intro l hl d hd
  obtain ⟨p, hp, rfl⟩ := List.mem_map.mp hl
  have hM := hY.2.1
  have h6 := plc_mem.mp hp
  have h5 := VP_mem h (p := p) (by omega) hd
  refine ⟨h5.1, ?_⟩
  rcases Nat.lt_or_ge (gn n P) d with h9 | h9
  · have h3 := h.1 d
    unfold cnt at h3
    rw [if_pos h5] at h3
    have h4 : (P 0).count d = 1 := by
      rw [(VP_0 h).2, cnt_r, if_pos]
      have := (VP_0 h).1
      unfold gn at h9
      omega
    have h8 : 1 ≤ (P p).count d := List.count_pos_iff.mpr hd
    rcases (show p = 1 ∨ p = 2 ∨ p = 3 ∨ p = 4 ∨ p = 5 by omega) with rfl | rfl | rfl | rfl | rfl <;> omega
  · exact h9
theorem lss_len (M : Nat) (P : Ps) : (lss M P).length = M + 1 := by simp [lss, plc]
/-- what is built from the slots is how the wagons stand -/
theorem bld_ix {Y : Yd} (hY : VY Y) {n : Nat} {P : Ps} (h : VP Y n P) : bld (fun v => sl v (lss (yM Y) P)) (yM Y + 1) (gn n P) = lss (yM Y) P := by
  rw [← lss_len (yM Y) P, bld_rst (fun l hl d hd => (VP_out hY h l hl d hd).1) _ (fun w h1 h2 => VP_once hY h h1 h2), rst_all (fun l hl d hd => (VP_out hY h l hl d hd).2)]
theorem lo_le {v : Nat} {l : List Nat} : cb v l ≤ lo v l := by
  unfold cb lo
  exact ((List.takeWhile_sublist _).filter _).length_le
theorem sl_bd {v : Nat} : ∀ (ls : List (List Nat)), once v ls → sl v ls + 1 ≤ ls.length + (ls.map (lo v)).sum := by
  intro ls
  induction ls with
  | nil => intro h; exact absurd h id
  | cons l r ih =>
    intro h
    simp only [List.map_cons, List.sum_cons, List.length_cons]
    rcases h with ⟨h1, h2⟩ | ⟨h1, h2⟩
    · have hm : v ∈ l := List.count_pos_iff.mp (by omega)
      rw [sl, if_pos hm]
      have := lo_le (v := v) (l := l)
      omega
    · rw [sl, if_neg h1]
      have := ih h2
      omega
theorem lo_app (v : Nat) (a b : List Nat) : lo v (a ++ b) = lo v a + lo v b := by
  simp [lo]
theorem lo_range (v : Nat) : ∀ n s : Nat, lo v (List.range' s n) ≤ v - s := by
  intro n
  induction n with
  | zero => intro s; simp [lo]
  | succ n ih =>
    intro s
    have := ih (s + 1)
    rw [List.range'_succ]
    unfold lo at this ⊢
    by_cases h : s < v
    · rw [List.filter_cons_of_pos (by simpa using h), List.length_cons]
      omega
    · rw [List.filter_cons_of_neg (by simpa using h)]
      omega
theorem VP_lo {Y : Yd} (hY : VY Y) {n : Nat} {P : Ps} (h : VP Y n P) (v : Nat) : ((lss (yM Y) P).map (lo v)).sum ≤ v - 1 := by
  have e : (lss (yM Y) P).map (lo v) = (plc (yM Y)).map (fun p => lo v (P p)) := by simp [lss]
  rw [e, plc_sum_eq hY.2.1 (fun p a b => by rw [h.2.2.1 p a b]; rfl)]
  have h1 : lo v (tot P) = lo v (List.range' 1 n) := ((VP_perm h).filter _).length_eq
  have h2 := lo_range v n 1
  unfold tot at h1
  simp only [lo_app] at h1
  omega
theorem VP_sl {Y : Yd} (hY : VY Y) {n : Nat} {P : Ps} (h : VP Y n P) {w : Nat} (h1 : 1 ≤ w) (h2 : w ≤ gn n P) : sl w (lss (yM Y) P) < w + yM Y := by
  have h3 := sl_bd _ (VP_once hY h h1 h2)
  have h4 := VP_lo hY h w
  rw [lss_len] at h3
  omega
theorem ixm_lt {M : Nat} {s : Nat → Nat} : ∀ g : Nat, (∀ w, 1 ≤ w → w ≤ g → s w < w + M) → ixm M s g < bk M g := by
  intro g
  induction g with
  | zero => intro _; exact Nat.one_pos
  | succ g ih =>
    intro h
    have h1 := ih (fun w a b => h w a (by omega))
    have h2 := h (g + 1) (by omega) (Nat.le_refl _)
    have h3 := Nat.mul_le_mul_right (g + 1 + M) (show ixm M s g + 1 ≤ bk M g from h1)
    rw [Nat.succ_mul] at h3
    simp only [ixm, bk]
    omega
theorem ix_lt {Y : Yd} (hY : VY Y) {n : Nat} {P : Ps} (h : VP Y n P) : ix (yM Y) n P < bs (yM Y) (gn n P + 1) := by
  have := ixm_lt (M := yM Y) (s := fun v => sl v (lss (yM Y) P)) (gn n P) (fun w a b => VP_sl hY h a b)
  simp only [ix, bs]
  omega
theorem bs_mono (M : Nat) {a b : Nat} (h : a ≤ b) : bs M a ≤ bs M b := by
  induction h with
  | refl => exact Nat.le_refl _
  | step h ih => exact Nat.le_trans ih (Nat.le_add_right _ _)
theorem bs_num : ∀ M, M < 5 → ∀ g, g < 7 → bs M g ≤ 17046 := by decide
theorem ix_bd {Y : Yd} (hY : VY Y) {n : Nat} (hn : n ≤ 5) {P : Ps} (h : VP Y n P) : ix (yM Y) n P < bs (yM Y) (n + 1) ∧ ix (yM Y) n P < 17046 := by
  have h1 := ix_lt hY h
  have h2 : gn n P ≤ n := Nat.sub_le _ _
  have h3 := bs_mono (yM Y) (show gn n P + 1 ≤ n + 1 by omega)
  have h4 := bs_num (yM Y) (by have := hY.2.1; omega) (n + 1) (by omega)
  omega
theorem ixm_inj {M : Nat} {s t : Nat → Nat} : ∀ g : Nat, (∀ w, 1 ≤ w → w ≤ g → s w < w + M) → (∀ w, 1 ≤ w → w ≤ g → t w < w + M) → ixm M s g = ixm M t g → ∀ w, 1 ≤ w → w ≤ g → s w = t w := by
  intro g
  induction g with
  | zero => intro _ _ _ w a b; omega
  | succ g ih =>
    intro hs ht h w a b
    have h1 := hs (g + 1) (by omega) (Nat.le_refl _)
    have h2 := ht (g + 1) (by omega) (Nat.le_refl _)
    simp only [ixm] at h
    have e1 : s (g + 1) = t (g + 1) := by
      have q := congrArg (· % (g + 1 + M)) h
      simp only [Nat.mul_add_mod_self_right, Nat.mul_comm _ (g + 1 + M), Nat.mul_add_mod] at q
      rwa [Nat.mod_eq_of_lt h1, Nat.mod_eq_of_lt h2] at q
    have e2 : ixm M s g = ixm M t g := by
      rw [e1] at h
      exact Nat.eq_of_mul_eq_mul_right (show 0 < g + 1 + M by omega) (Nat.add_right_cancel h)
    by_cases hw : w = g + 1
    · rw [hw, e1]
    · exact ih (fun w a b => hs w a (by omega)) (fun w a b => ht w a (by omega)) e2 w a (by omega)
theorem bld_congr {s t : Nat → Nat} {k : Nat} : ∀ g : Nat, (∀ w, 1 ≤ w → w ≤ g → s w = t w) → bld s k g = bld t k g := by
  intro g
  induction g with
  | zero => intro _; rfl
  | succ g ih => intro h; rw [bld, bld, ih (fun w a b => h w a (by omega)), h (g + 1) (by omega) (Nat.le_refl _)]
theorem ix_inj {Y : Yd} (hY : VY Y) {n : Nat} {P T : Ps} (h : VP Y n P) (g : VP Y n T) (he : ix (yM Y) n P = ix (yM Y) n T) : P = T := by
  have a1 := ix_lt hY h
  have a2 := ix_lt hY g
  have a3 : bs (yM Y) (gn n P) ≤ ix (yM Y) n P := Nat.le_add_right _ _
  have a4 : bs (yM Y) (gn n T) ≤ ix (yM Y) n T := Nat.le_add_right _ _
  have hg : gn n P = gn n T := by
    rcases Nat.lt_trichotomy (gn n P) (gn n T) with h9 | h9 | h9
    · have := bs_mono (yM Y) (show gn n P + 1 ≤ gn n T by omega)
      omega
    · exact h9
    · have := bs_mono (yM Y) (show gn n T + 1 ≤ gn n P by omega)
      omega
  apply VP_eq h g
  rw [← bld_ix hY h, ← bld_ix hY g, hg]
  apply bld_congr
  refine ixm_inj (M := yM Y) _ (fun w a b => VP_sl hY h a (by omega)) (fun w a b => VP_sl hY g a b) ?_
  unfold ix at he
  rw [hg] at he
  exact Nat.add_left_cancel he
/-! a MOVE makes the index more -/
theorem sl_congr {v : Nat} {f g : Ps} : ∀ (r : List Nat), (∀ p ∈ r, (v ∈ f p ↔ v ∈ g p) ∧ cb v (f p) = cb v (g p) ∧ lo v (f p) = lo v (g p)) → sl v (r.map f) = sl v (r.map g) := by
  intro r
  induction r with
  | nil => intro _; rfl
  | cons p t ih =>
    intro h
    obtain ⟨h1, h2, h3⟩ := h p List.mem_cons_self
    have h4 := ih (fun q hq => h q (List.mem_cons_of_mem _ hq))
    simp only [List.map_cons, sl]
    rw [h2, h3, h4]
    by_cases hm : v ∈ f p
    · rw [if_pos hm, if_pos (h1.mp hm)]
    · rw [if_neg hm, if_neg (fun h => hm (h1.mpr h))]
theorem sl_up {w a b : Nat} {f g : Ps} (hwa : w ∈ f a) (hga : w ∉ g a) (hla : lo w (g a) = lo w (f a)) (hab : a < b) : ∀ (r : List Nat), r.Pairwise (· < ·) → a ∈ r → (∀ p ∈ r, p ≠ a → p ≠ b → f p = g p) → (∀ p ∈ r, p ≠ a → w ∉ f p) → sl w (r.map f) < sl w (r.map g) := by
  intro r
  induction r with
  | nil => intro _ h; cases h
  | cons p t ih =>
    intro hp ha h1 h2
    simp only [List.map_cons, sl]
    by_cases e : p = a
    · subst e
      rw [if_pos hwa, if_neg hga, hla]
      have := lo_le (v := w) (l := f p)
      omega
    · have hat : a ∈ t := by
        rcases List.mem_cons.mp ha with h | h
        · exact absurd h.symm e
        · exact h
      have hpa : p < a := (List.pairwise_cons.mp hp).1 a hat
      have hfg := h1 p List.mem_cons_self e (by omega)
      have hw := h2 p List.mem_cons_self e
      rw [if_neg hw, if_neg (by rw [← hfg]; exact hw), ← hfg]
      have := ih (List.pairwise_cons.mp hp).2 hat (fun q hq => h1 q (List.mem_cons_of_mem _ hq)) (fun q hq => h2 q (List.mem_cons_of_mem _ hq))
      omega
theorem plc_srt {M : Nat} (hM : M ≤ 4) : (plc M).Pairwise (· < ·) := by
  rcases (show M = 0 ∨ M = 1 ∨ M = 2 ∨ M = 3 ∨ M = 4 by omega) with rfl | rfl | rfl | rfl | rfl <;> decide
theorem lo_pt {v w : Nat} (h : ¬ w < v) (l : List Nat) (b : Bool) : lo v (pt l w b) = lo v l := by
  cases b <;> simp [lo, pt, h]
theorem cb_pt {v w : Nat} (h : v < w) {l : List Nat} (b : Bool) (hm : v ∈ l) : cb v (pt l w b) = cb v l := by
  obtain ⟨x, y, rfl, hx⟩ := List.eq_append_cons_of_mem hm
  cases b with
  | true =>
    simp only [pt, if_true, cb, List.append_assoc, List.cons_append]
    rw [takeW hx, takeW hx]
  | false =>
    simp only [pt, Bool.false_eq_true, if_false, cb]
    have : v ∉ w :: x := by
      intro h9
      rcases List.mem_cons.mp h9 with h9 | h9
      · omega
      · exact hx h9
    rw [← List.cons_append, takeW hx, takeW this, List.filter_cons_of_neg (by simp; omega)]
theorem mem_pt {v w : Nat} {l : List Nat} {b : Bool} : v ∈ pt l w b ↔ v = w ∨ v ∈ l := by
  cases b <;> simp [pt, or_comm]
theorem pt_same {v w : Nat} (h : v < w) {l : List Nat} (b : Bool) : (v ∈ pt l w b ↔ v ∈ l) ∧ cb v (pt l w b) = cb v l ∧ lo v (pt l w b) = lo v l ∨ v ∉ l ∧ v ∉ pt l w b ∧ lo v (pt l w b) = lo v l := by
  by_cases hm : v ∈ l
  · exact Or.inl ⟨by rw [mem_pt]; exact ⟨fun _ => hm, Or.inr⟩, cb_pt h b hm, lo_pt (by omega) l b⟩
  · exact Or.inr ⟨hm, by rw [mem_pt]; rintro (h9 | h9); omega; exact hm h9, lo_pt (by omega) l b⟩
theorem sl_congr2 {v : Nat} {f g : Ps} : ∀ (r : List Nat), (∀ p ∈ r, ((v ∈ f p ↔ v ∈ g p) ∧ cb v (f p) = cb v (g p) ∧ lo v (f p) = lo v (g p)) ∨ (v ∉ g p ∧ v ∉ f p ∧ lo v (f p) = lo v (g p))) → sl v (r.map f) = sl v (r.map g) := by
  intro r
  induction r with
  | nil => intro _; rfl
  | cons p t ih =>
    intro h
    have h4 := ih (fun q hq => h q (List.mem_cons_of_mem _ hq))
    simp only [List.map_cons, sl]
    rcases h p List.mem_cons_self with ⟨h1, h2, h3⟩ | ⟨h1, h2, h3⟩
    · rw [h2, h3, h4]
      by_cases hm : v ∈ f p
      · rw [if_pos hm, if_pos (h1.mp hm)]
      · rw [if_neg hm, if_neg (fun h => hm (h1.mpr h))]
    · rw [if_neg h2, if_neg h1, h3, h4]
theorem ixm_up {M : Nat} {s t : Nat → Nat} {w : Nat} (hw : 1 ≤ w) (hst : s w < t w) : ∀ g : Nat, w ≤ g → (∀ v, 1 ≤ v → v < w → s v = t v) → (∀ v, 1 ≤ v → v ≤ g → s v < v + M) → ixm M s g < ixm M t g := by
  intro g
  induction g with
  | zero => intro h; omega
  | succ g ih =>
    intro hg h1 h2
    simp only [ixm]
    by_cases e : w = g + 1
    · have : ∀ k, k < w → ixm M s k = ixm M t k := by
        intro k
        induction k with
        | zero => intro _; rfl
        | succ k ih2 => intro hk; simp only [ixm]; rw [ih2 (by omega), h1 (k + 1) (by omega) hk]
      rw [this g (by omega), ← e]
      omega
    · have h3 := ih (by omega) h1 (fun v a b => h2 v a (by omega))
      have h4 := h2 (g + 1) (by omega) (Nat.le_refl _)
      have h5 := Nat.mul_le_mul_right (g + 1 + M) (show ixm M s g + 1 ≤ ixm M t g from h3)
      rw [Nat.succ_mul] at h5
      omega
theorem wg_mem {P : Ps} {m : Nat} (h : P (mf m) ≠ []) : wg P m ∈ P (mf m) := by
  have := pt_tr h (fT m)
  have h1 : wg P m ∈ pt (tr (P (mf m)) (fT m)) (wg P m) (fT m) := mem_pt.mpr (Or.inl rfl)
  rwa [show wg P m = tk (P (mf m)) (fT m) from rfl, this] at h1
theorem ix_mv {Y : Yd} (hY : VY Y) {n : Nat} {P : Ps} (h : VP Y n P) {m : Nat} (hm : gm Y m = true) (hc : can Y P m = true) : ix (yM Y) n P < ix (yM Y) n (mv P m) := by
  have h' := VP_mv hY h hm hc
  obtain ⟨c1, c2⟩ := can_parts hc
  have hft := gm_ft hY hm
  have h6 := gm_t6 hY hm
  have hp := gm_parts hm
  have hM := hY.2.1
  by_cases hf : mf m = 0
  · have e0 : ((mv P m) 0).length + 1 = (P 0).length := by
      have := mv_f (P := P) (m := m) (by omega)
      rw [hf] at this c1
      rw [this, tr_len]
      have := List.length_pos_iff.mpr c1
      omega
    have hg : gn n (mv P m) = gn n P + 1 := by
      have := (VP_0 h).1
      unfold gn
      omega
    have h1 := ix_lt hY h
    have h2 : bs (yM Y) (gn n (mv P m)) ≤ ix (yM Y) n (mv P m) := Nat.le_add_right _ _
    rw [hg] at h2
    omega
  · have hg : gn n (mv P m) = gn n P := by
      unfold gn
      rw [mv_o (by omega) (by omega)]
    unfold ix
    rw [hg]
    apply Nat.add_lt_add_left
    have hw1 := wg_mem c1
    have hfp : mf m ∈ plc (yM Y) := plc_mem.mpr (Or.inl (by omega))
    have hw2 := VP_out hY h _ (List.mem_map_of_mem (f := P) hfp) _ hw1
    have hone : ∀ p, p < 6 → p ≠ mf m → wg P m ∉ P p := by
      intro p hp6 hpf hin
      have a1 := h.1 (wg P m)
      unfold cnt at a1
      have a2 : 1 ≤ (P p).count (wg P m) := List.count_pos_iff.mpr hin
      have a3 : 1 ≤ (P (mf m)).count (wg P m) := List.count_pos_iff.mpr hw1
      have a4 : (if 1 ≤ wg P m ∧ wg P m ≤ n then 1 else 0) ≤ 1 := by split <;> omega
      have hf5 := h6.2.1
      generalize mf m = f at *
      rcases (show p = 0 ∨ p = 1 ∨ p = 2 ∨ p = 3 ∨ p = 4 ∨ p = 5 by omega) with rfl | rfl | rfl | rfl | rfl | rfl <;> rcases (show f = 0 ∨ f = 1 ∨ f = 2 ∨ f = 3 ∨ f = 4 by omega) with rfl | rfl | rfl | rfl | rfl <;> omega
    have hfa : wg P m ∉ tr (P (mf m)) (fT m) := by
      intro hin
      have a1 := tr_cnt c1 (fT m) (wg P m)
      have a2 : 1 ≤ (tr (P (mf m)) (fT m)).count (wg P m) := List.count_pos_iff.mpr hin
      have a3 : tk (P (mf m)) (fT m) = wg P m := rfl
      rw [a3, if_pos rfl] at a1
      have := VP_cle h (p := mf m) (by omega) (wg P m)
      omega
    have hlt : ∀ v, ¬ wg P m < v → lo v (tr (P (mf m)) (fT m)) = lo v (P (mf m)) := by
      intro v hv
      have a1 := lo_pt hv (tr (P (mf m)) (fT m)) (fT m)
      have a2 := pt_tr c1 (fT m)
      rw [show wg P m = tk (P (mf m)) (fT m) from rfl, a2] at a1
      exact a1.symm
    refine ixm_up (w := wg P m) hw2.1 ?_ _ hw2.2 (fun v a b => ?_) (fun v a b => VP_sl hY h a b)
    · refine sl_up (a := mf m) (b := mt m) hw1 (by rw [mv_f (by omega)]; exact hfa) (by rw [mv_f (by omega)]; exact hlt _ (Nat.lt_irrefl _)) hft _ (plc_srt hM) hfp (fun p _ e1 e2 => (mv_o e2 e1).symm) (fun p hp e => hone p (by have := plc_mem.mp hp; omega) e)
    · apply sl_congr2
      intro p hpm
      by_cases e1 : p = mt m
      · rw [e1, mv_t]
        rcases pt_same b (l := P (mt m)) (fP m) with ⟨q1, q2, q3⟩ | ⟨q1, q2, q3⟩
        · exact Or.inl ⟨q1.symm, q2.symm, q3.symm⟩
        · exact Or.inr ⟨q2, q1, q3.symm⟩
      · by_cases e2 : p = mf m
        · rw [e2, mv_f (by omega)]
          have a2 := pt_tr c1 (fT m)
          have q := pt_same b (l := tr (P (mf m)) (fT m)) (fT m)
          rw [show wg P m = tk (P (mf m)) (fT m) from rfl, a2] at q
          rcases q with q | ⟨q1, q2, q3⟩
          · exact Or.inl q
          · exact Or.inr ⟨q1, q2, q3⟩
        · rw [mv_o e1 e2]
          exact Or.inl ⟨Iff.rfl, rfl, rfl⟩
