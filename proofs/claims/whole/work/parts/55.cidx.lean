/-! THE CLASS: the number of a way to stand -/
theorem nib_tb (x v i : Nat) : (x / 16 ^ v % 16).testBit i = (decide (i < 4) && x.testBit (4 * v + i)) := by
  have e : (16 : Nat) ^ v = 2 ^ (4 * v) := by rw [Nat.pow_mul]
  rw [e, show (16 : Nat) = 2 ^ 4 from rfl, Nat.testBit_mod_two_pow, Nat.testBit_div_two_pow, Nat.add_comm i]
theorem or_nib {x s w : Nat} (hs : s < 16) (hx : x / 16 ^ w % 16 = 0) (v : Nat) : (x ||| s * 2 ^ (4 * w)) / 16 ^ v % 16 = if v = w then s else x / 16 ^ v % 16 := by
  apply Nat.eq_of_testBit_eq
  intro i
  have hs4 : ∀ j, 4 ≤ j → s.testBit j = false := fun j hj => Nat.testBit_lt_two_pow (Nat.lt_of_lt_of_le (show s < 2 ^ 4 by omega) (Nat.pow_le_pow_right (by omega) hj))
  rw [nib_tb, Nat.testBit_or, Nat.testBit_mul_two_pow]
  by_cases hi : i < 4
  · by_cases c : v = w
    · have h0 : x.testBit (4 * w + i) = false := by
        have := nib_tb x w i
        rw [hx, Nat.zero_testBit, decide_eq_true hi, Bool.true_and] at this
        exact this.symm
      rw [if_pos c, c, h0, decide_eq_true hi, decide_eq_true (show 4 * w ≤ 4 * w + i by omega), show 4 * w + i - 4 * w = i by omega]
      simp
    · rw [if_neg c, nib_tb]
      by_cases d : 4 * w ≤ 4 * v + i
      · rw [hs4 _ (show 4 ≤ 4 * v + i - 4 * w by omega), Bool.and_false, Bool.or_false]
      · rw [decide_eq_false d, Bool.false_and, Bool.or_false]
  · rw [decide_eq_false hi, Bool.false_and]
    by_cases c : v = w
    · rw [if_pos c, hs4 i (by omega)]
    · rw [if_neg c, nib_tb, decide_eq_false hi, Bool.false_and]
theorem nd_same {l k : List Nat} (h1 : l.Nodup) (h2 : k.Nodup) (h : ∀ x, x ∈ l ↔ x ∈ k) : l.length = k.length :=
  Nat.le_antisymm (nd_le l k h1 (fun x hx => (h x).mp hx)) (nd_le k l h2 (fun x hx => (h x).mpr hx))
theorem pop_lo {D : List Nat} (hD : D.Nodup) (hd : ∀ d ∈ D, d < 6) (w : Nat) (hw : w ≤ 6) : pop6 (orL D &&& (2 ^ w - 1)) = lo w D := by
  unfold pop6 lo
  refine nd_same (List.nodup_range.filter _) (hD.filter _) (fun x => ?_)
  rw [List.mem_filter, List.mem_filter, List.mem_range, Nat.testBit_and, Bool.and_eq_true, orL_tb, Nat.testBit_two_pow_sub_one, decide_eq_true_eq]
  constructor
  · rintro ⟨_, h1, h2⟩; exact ⟨h1, h2⟩
  · rintro ⟨h1, h2⟩; exact ⟨hd x h1, h1, h2⟩
theorem orL_64 {D : List Nat} (hd : ∀ d ∈ D, d < 6) : orL D < 64 := by
  induction D with
  | nil => decide
  | cons d r ih =>
    have h1 := ih (fun x hx => hd x (List.mem_cons_of_mem _ hx))
    have h2 : 2 ^ d < 64 := by
      have := hd d List.mem_cons_self
      have : 2 ^ d ≤ 2 ^ 5 := Nat.pow_le_pow_right (by omega) (by omega)
      omega
    exact Nat.or_lt_two_pow (n := 6) h2 h1
/-- the slots of the wagons D, each in its four bits -/
def IS (D : List Nat) (s : Nat → Nat) (x : Nat) : Prop := D.Nodup ∧ (∀ d ∈ D, 1 ≤ d ∧ d < 6) ∧ x < 2 ^ 24 ∧ ∀ w, w < 6 → x / 16 ^ w % 16 = if w ∈ D then s w else 0
theorem IS_add {D : List Nat} {s : Nat → Nat} {x w : Nat} (h : IS D s x) (hw : 1 ≤ w ∧ w < 6) (hn : w ∉ D) (hs : s w < 16) : IS (D ++ [w]) s (x ||| s w * 2 ^ (4 * w)) := by
  obtain ⟨h1, h2, h3, h4⟩ := h
  have h0 := h4 w hw.2
  rw [if_neg hn] at h0
  refine ⟨?_, fun d hd => ?_, ?_, fun v hv => ?_⟩
  · rw [List.nodup_append]
    refine ⟨h1, by simp, fun a ha b hb => ?_⟩
    rw [List.mem_singleton] at hb
    intro e; rw [e, hb] at ha; exact hn ha
  · rcases List.mem_append.mp hd with hd | hd
    · exact h2 d hd
    · rw [List.mem_singleton] at hd; omega
  · refine Nat.or_lt_two_pow h3 ?_
    have e1 : 2 ^ (4 * w) ≤ 2 ^ 20 := Nat.pow_le_pow_right (by omega) (by omega)
    have e2 : s w * 2 ^ (4 * w) ≤ 15 * 2 ^ 20 := Nat.mul_le_mul (by omega) e1
    omega
  · rw [or_nib hs h0]
    by_cases c : v = w
    · rw [if_pos c, if_pos (by rw [c]; simp), c]
    · rw [if_neg c, h4 v hv]
      by_cases d : v ∈ D
      · rw [if_pos d, if_pos (List.mem_append_left _ d)]
      · rw [if_neg d, if_neg (by simp; exact ⟨d, c⟩)]
theorem index_L34 {p : PlS} {s : Nat → Nat} {k : Nat} (hk : k < 5) (x1 : Int32) : ∀ (r : List Nat) (D : List Nat) (x i f : Nat), r.length < f → i + r.length ≤ 5 → IS D s x → (D ++ r).Nodup → (∀ d ∈ r, 1 ≤ d ∧ d < 6) → (∀ u w v, r = u ++ w :: v → s w = k + lo w (D ++ u) ∧ s w < 16) →
    ∃ y, pl_index_L34 f p x1 (iN (orL D)) (iN x) (iN k) (iN (pk r)) (iN i) = some (iN (orL (D ++ r)), iN y) ∧ IS (D ++ r) s y := by
  intro r
  induction r with
  | nil =>
    intro D x i f hf hi h hn hd hs
    obtain ⟨f, rfl⟩ : ∃ g, f = g + 1 := ⟨f - 1, by omega⟩
    refine ⟨x, ?_, by rw [List.append_nil]; exact h⟩
    rw [pl_index_L34, zl_5, jlt (by simp at hi; omega) (by omega), List.append_nil, show iN (pk []) = 0 from rfl, if_neg (show ¬ (0 : Int32) < 0 by decide)]
    split <;> rfl
  | cons w r ih =>
    intro D x i f hf hi h hn hd hs
    obtain ⟨f, rfl⟩ : ∃ g, f = g + 1 := ⟨f - 1, by omega⟩
    rw [List.length_cons] at hf hi
    have hw := hd w List.mem_cons_self
    have h8 : ∀ d ∈ w :: r, d < 8 := fun d h9 => by have := hd d h9; omega
    have hb := pk8_lt (w :: r) h8
    have hb2 : 8 ^ (w :: r).length ≤ 8 ^ 5 := Nat.pow_le_pow_right (by omega) (by rw [List.length_cons]; omega)
    obtain ⟨s1, s2⟩ := hs [] w r rfl
    rw [List.append_nil] at s1
    have hnw : w ∉ D := by
      intro h9
      rw [List.nodup_append] at hn
      exact hn.2.2 w h9 w List.mem_cons_self rfl
    have hD6 : ∀ d ∈ D, d < 6 := fun d h9 => (h.2.1 d h9).2
    have ho := orL_64 hD6
    have hlo := lo_len w D
    have hIS := IS_add h hw hnw s2
    obtain ⟨y, a1, a2⟩ := ih (D ++ [w]) (x ||| s w * 2 ^ (4 * w)) (i + 1) f (by omega) (by omega) hIS (by rw [List.append_assoc]; exact hn) (fun d h9 => hd d (List.mem_cons_of_mem _ h9)) (fun u v t e => by
      have := hs (w :: u) v t (by rw [e]; rfl)
      rw [List.append_assoc]
      exact this)
    refine ⟨y, ?_, by rw [List.append_assoc] at a2; exact a2⟩
    have epk : pk (w :: r) = w + 8 * pk r := rfl
    have e1 : iN (pk (w :: r)) &&& 7 = iN w := by rw [zl_7, iN_and, and7, epk, show (w + 8 * pk r) % 8 = w by omega]
    have e2 : iN (pk (w :: r)) >>> (3 &&& 31) = iN (pk r) := by
      have := iN_shr (a := pk (w :: r)) (k := 3) (by omega) (by omega)
      rw [← zl_3] at this
      rw [this, epk]
      congr 1
      show (w + 8 * pk r) / 8 = pk r
      omega
    have e3 : (1 : Int32) <<< (iN w &&& 31) = iN (2 ^ w) := by rw [zl_1, iN_shl (by omega), Nat.one_mul]
    have hp2 : 1 ≤ 2 ^ w := Nat.pow_pos (by omega)
    have hand : orL D &&& (2 ^ w - 1) < 64 := Nat.lt_of_le_of_lt Nat.and_le_left ho
    rw [pl_index_L34, zl_5, jlt (by omega) (by omega), if_pos (by omega), jlt0 (by omega), if_pos (by rw [epk]; omega), e1, e2, e3, zl_1, iN_sub hp2, iN_and, t_bit _ hand, pop_lo h.1 hD6 w (by omega)]
    simp only [Option.bind_some]
    have e4 : (4 : Int32) * iN w = iN (4 * w) := by rw [zl_4, iN_mul]
    rw [e4, iN_add, iN_or, ← s1, iN_shl (by omega), iN_or, iN_add, ← orL_app]
    rw [List.append_assoc] at a1
    exact a1
theorem sl_at {x : Nat} : ∀ (A : List (List Nat)) (l : List Nat) (B : List (List Nat)) (u v : List Nat), (∀ k ∈ A, x ∉ k) → l = u ++ x :: v → x ∉ u → sl x (A ++ l :: B) = A.length + lo x A.flatten + lo x u := by
  intro A
  induction A with
  | nil =>
    intro l B u v _ hl hu
    rw [List.nil_append, sl, if_pos (by rw [hl]; simp), cb, hl, takeW hu]
    simp [lo]
  | cons k A ih =>
    intro l B u v hA hl hu
    have h1 := hA k List.mem_cons_self
    rw [List.cons_append, sl, if_neg h1, ih l B u v (fun j hj => hA j (List.mem_cons_of_mem _ hj)) hl hu, List.flatten_cons, lo_app, List.length_cons]
    omega
theorem plc_get {M : Nat} (hM : M ≤ 4) {k : Nat} (hk : k ≤ M) (P : Ps) : (lss M P)[k]? = some (P (lp M k)) := by
  unfold lss plc lp
  rw [List.getElem?_map]
  by_cases c : k = M
  · rw [if_pos c, c, List.getElem?_append_right (by simp), List.length_map, List.length_range, Nat.sub_self]
    rfl
  · rw [if_neg c, List.getElem?_append_left (by simp; omega), List.getElem?_map, List.getElem?_range (by omega)]
    rfl
theorem list_split {α : Type} {l : List α} {k : Nat} {x : α} (h : l[k]? = some x) : l = l.take k ++ x :: l.drop (k + 1) := by
  have hlt := (List.getElem?_eq_some_iff.mp h).1
  have hx := (List.getElem?_eq_some_iff.mp h).2
  conv => lhs; rw [← List.take_append_drop k l, List.drop_eq_getElem_cons hlt, hx]
theorem placeOfList_ok {M k : Nat} (hM : M ≤ 4) (hk : k ≤ M) : pl_placeOfList (iN k) (iN M) = some (iN (lp M k)) := by
  rw [pl_placeOfList, jlt (by omega) (by omega), zl_1, iN_add]
  unfold lp
  by_cases c : k < M
  · rw [if_pos c, if_neg (by omega)]
  · rw [if_neg c, if_pos (by omega)]; rfl
/-- the wagons that stand behind the ENTRY, list after list -/
theorem flat_nd {Y : Yd} (hY : VY Y) {n : Nat} {P : Ps} (h : VP Y n P) : (lss (yM Y) P).flatten.Nodup ∧ (∀ d, d ∈ (lss (yM Y) P).flatten ↔ 1 ≤ d ∧ d ≤ gn n P) := by
  have hmem : ∀ d, d ∈ (lss (yM Y) P).flatten ↔ 1 ≤ d ∧ d ≤ gn n P := by
    intro d
    rw [List.mem_flatten]
    constructor
    · rintro ⟨l, hl, hd⟩
      exact VP_out hY h l hl d hd
    · rintro ⟨h1, h2⟩
      have ho := VP_once hY h h1 h2
      have : ∀ ls : List (List Nat), once d ls → ∃ l, l ∈ ls ∧ d ∈ l := by
        intro ls
        induction ls with
        | nil => intro h9; exact absurd h9 id
        | cons k r ih =>
          intro h9
          rcases h9 with ⟨a, _⟩ | ⟨_, b⟩
          · exact ⟨k, List.mem_cons_self, List.count_pos_iff.mp (by omega)⟩
          · obtain ⟨l, x, y⟩ := ih b
            exact ⟨l, List.mem_cons_of_mem _ x, y⟩
      exact this _ ho
  refine ⟨?_, hmem⟩
  rw [List.nodup_iff_count]
  intro a
  have e : ((lss (yM Y) P).flatten).count a = ((plc (yM Y)).map (fun p => (P p).count a)).sum := by
    rw [List.count_flatten]
    simp [lss]
    rfl
  rw [e, plc_sum_eq hY.2.1 (fun p x y => by rw [h.2.2.1 p x y]; rfl)]
  have h3 := h.1 a
  unfold cnt at h3
  have : (if 1 ≤ a ∧ a ≤ n then 1 else 0) ≤ 1 := by split <;> omega
  omega
theorem index_L7 {Y : Yd} (hY : VY Y) {n : Nat} (hn : n ≤ 5) {P : Ps} (h : VP Y n P) {p : PlS} (hp : CPl p P) : ∀ (d k x f : Nat), d < f → k + d = yM Y + 1 → IS ((lss (yM Y) P).take k).flatten (fun v => sl v (lss (yM Y) P)) x →
    ∃ y, pl_index_L7 f p (iN (yM Y)) (iN (orL ((lss (yM Y) P).take k).flatten)) (iN x) (iN k) = some (iN (orL (lss (yM Y) P).flatten), iN y) ∧ IS (lss (yM Y) P).flatten (fun v => sl v (lss (yM Y) P)) y := by
  have hM := hY.2.1
  have hll := lss_len (yM Y) P
  obtain ⟨hnd, hfm⟩ := flat_nd hY h
  have hgn : gn n P ≤ n := Nat.sub_le _ _
  intro d
  induction d with
  | zero =>
    intro k x f hf hk hI
    obtain ⟨f, rfl⟩ : ∃ g, f = g + 1 := ⟨f - 1, by omega⟩
    rw [List.take_of_length_le (by omega)] at hI ⊢
    refine ⟨x, ?_, hI⟩
    rw [pl_index_L7, jlt (by omega) (by omega), if_pos (by omega)]
  | succ d ih =>
    intro k x f hf hk hI
    obtain ⟨f, rfl⟩ : ∃ g, f = g + 1 := ⟨f - 1, by omega⟩
    have hkM : k ≤ yM Y := by omega
    have hg := plc_get hM hkM P
    have hsp := list_split hg
    have hlp := plc_mem.mp (lp_in hkM)
    have h6 : lp (yM Y) k < 6 := by omega
    have hlen := VP_d8 h hn h6
    have htk : ((lss (yM Y) P).take (k + 1)).flatten = ((lss (yM Y) P).take k).flatten ++ P (lp (yM Y) k) := by
      rw [List.take_succ, hg]
      simp
    have hpre : (((lss (yM Y) P).take k).flatten ++ P (lp (yM Y) k)).Nodup := by
      have h9 := hnd
      rw [hsp, List.flatten_append, List.flatten_cons, ← List.append_assoc] at h9
      exact (List.nodup_append.mp h9).1
    obtain ⟨y, a1, a2⟩ := index_L34 (p := p) (s := fun v => sl v (lss (yM Y) P)) (show k < 5 by omega) (iN (yM Y)) (P (lp (yM Y) k)) ((lss (yM Y) P).take k).flatten x 0 N0 (by rw [N0_eq]; omega) (by omega) hI hpre (fun d hd => by have := VP_mem h h6 hd; omega) (fun u w v e => by
      have hw : w ∈ P (lp (yM Y) k) := by rw [e]; simp
      have hwm := VP_mem h h6 hw
      have hwu : w ∉ u := by
        intro h9
        rw [e, List.nodup_append] at hpre
        have h8 := (List.nodup_append.mp hpre.2.1).2.2 w h9 w List.mem_cons_self
        exact h8 rfl
      have hwA : ∀ q ∈ (lss (yM Y) P).take k, w ∉ q := by
        intro q hq h9
        have hm : w ∈ ((lss (yM Y) P).take k).flatten := List.mem_flatten.mpr ⟨q, hq, h9⟩
        exact (List.nodup_append.mp hpre).2.2 w hm w hw rfl
      have hsl := sl_at ((lss (yM Y) P).take k) (P (lp (yM Y) k)) ((lss (yM Y) P).drop (k + 1)) u v hwA e hwu
      rw [← hsp, List.length_take, Nat.min_eq_left (by omega)] at hsl
      refine ⟨by show sl w (lss (yM Y) P) = _; rw [hsl, lo_app]; omega, ?_⟩
      have hwf : 1 ≤ w ∧ w ≤ gn n P := (hfm w).mp (List.mem_flatten.mpr ⟨_, List.mem_of_getElem? hg, hw⟩)
      have := VP_sl hY h hwf.1 hwf.2
      show sl w (lss (yM Y) P) < 16
      omega)
    rw [← htk] at a1 a2
    obtain ⟨z, b1, b2⟩ := ih (k + 1) y f (by omega) (by omega) a2
    refine ⟨z, ?_, b2⟩
    rw [pl_index_L7, jlt (by omega) (by omega), if_neg (by omega), zl_4, jlt (by omega) (by omega), if_neg (by omega), placeOfList_ok hM hkM]
    simp only [Option.bind_some]
    rw [rowAt_ok hp h6]
    simp only [Option.bind_some]
    rw [z00] at a1
    rw [a1]
    simp only [Option.bind_some]
    rw [zl_1, iN_add]
    exact b1
theorem bk_le : ∀ M, M < 5 → ∀ g, g < 6 → bk M g < 100000 := by decide
theorem index_L117 {p : PlS} {M g x : Nat} {s : Nat → Nat} (hM : M ≤ 4) (hg : g ≤ 5) (hx : x < 2 ^ 24) (hs : ∀ w, 1 ≤ w → w ≤ g → x / 16 ^ w % 16 = s w) : ∀ (d w f : Nat), d < f → w + d = g → pl_index_L117 f p (iN M) (iN x) (iN g) (iN (bs M w)) (iN (bk M w)) (iN (ixm M s w)) (iN (w + 1)) = some (iN (bs M g), iN (ixm M s g)) := by
  intro d
  induction d with
  | zero =>
    intro w f hf hw
    obtain ⟨f, rfl⟩ : ∃ g, f = g + 1 := ⟨f - 1, by omega⟩
    rw [pl_index_L117, jlt (by omega) (by omega), if_pos (by omega), show w = g by omega]
  | succ d ih =>
    intro w f hf hw
    obtain ⟨f, rfl⟩ : ∃ g, f = g + 1 := ⟨f - 1, by omega⟩
    have h9 := hs (w + 1) (by omega) (by omega)
    have e : (iN x >>> ((4 * iN (w + 1)) &&& 31)) &&& 15 = iN (s (w + 1)) := by
      rw [zl_4, iN_mul, iN_shr (by omega) (by omega), zl_15, iN_and]
      congr 1
      have h1 := Nat.and_two_pow_sub_one_eq_mod (x / 2 ^ (4 * (w + 1))) 4
      rw [Nat.pow_mul] at h1 ⊢
      rw [← h9]
      exact h1
    rw [pl_index_L117, jlt (by omega) (by omega), if_neg (by omega), e, iN_add, iN_add, iN_mul, iN_mul, iN_add, zl_1, iN_add]
    exact ih (w + 1) f (by omega) (by omega)
theorem index_ok {Y : Yd} (hY : VY Y) {n : Nat} (hn : n ≤ 5) {P : Ps} (h : VP Y n P) {p : PlS} (hp : CPl p P) : pl_index p (iN (yM Y)) = some (iN (ix (yM Y) n P)) := by
  have hM := hY.2.1
  have hgn : gn n P ≤ n := Nat.sub_le _ _
  obtain ⟨hnd, hfm⟩ := flat_nd hY h
  obtain ⟨y, a1, a2⟩ := index_L7 hY hn h hp (yM Y + 1) 0 0 N0 (by rw [N0_eq]; omega) (by omega) ⟨by simp, fun d hd => by simp at hd, by omega, fun w _ => by simp⟩
  have a1' : pl_index_L7 N0 p (iN (yM Y)) 0 0 0 = some (iN (orL (lss (yM Y) P).flatten), iN y) := a1
  have hd6 : ∀ d ∈ (lss (yM Y) P).flatten, d < 6 := fun d hd => by have := (hfm d).mp hd; omega
  have hpop : pop6 (orL (lss (yM Y) P).flatten) = gn n P := by
    have h1 := pop_lo hnd hd6 6 (Nat.le_refl _)
    have ho := orL_64 hd6
    rw [show (2 : Nat) ^ 6 - 1 = 63 from rfl, show orL (lss (yM Y) P).flatten &&& 63 = orL (lss (yM Y) P).flatten from by
      have := Nat.and_two_pow_sub_one_eq_mod (orL (lss (yM Y) P).flatten) 6
      rw [show (63 : Nat) = 2 ^ 6 - 1 from rfl, this]
      exact Nat.mod_eq_of_lt (by omega)] at h1
    rw [h1]
    unfold lo
    rw [List.filter_eq_self.mpr (fun x hx => decide_eq_true (hd6 x hx))]
    have h2 := nd_same hnd (List.nodup_range' (s := 1) (n := gn n P)) (fun x => by rw [hfm, List.mem_range'_1]; omega)
    rw [h2, List.length_range']
  rw [pl_index, a1']
  simp only [Option.bind_some]
  rw [pl_index_J99, t_bit _ (orL_64 hd6), hpop]
  simp only [Option.bind_some]
  have h117 := index_L117 (p := p) (s := fun v => sl v (lss (yM Y) P)) hM (show gn n P ≤ 5 by omega) a2.2.2.1 (fun w h1 h2 => by
    rw [a2.2.2.2 w (by omega), if_pos ((hfm w).mpr ⟨h1, h2⟩)]) (gn n P) 0 N0 (by rw [N0_eq]; omega) (by omega)
  have h117' : pl_index_L117 N0 p (iN (yM Y)) (iN y) (iN (gn n P)) 0 1 0 1 = some (iN (bs (yM Y) (gn n P)), iN (ixm (yM Y) (fun v => sl v (lss (yM Y) P)) (gn n P))) := h117
  rw [h117']
  simp only [Option.bind_some]
  rw [iN_add]
  rfl
