/-! THE CLASS: to set up a way to stand out of its number -/
theorem pk_cat : ∀ (a b : List Nat), pk (a ++ b) = pk a + pk b * 8 ^ a.length := by
  intro a b
  induction a with
  | nil => simp [pk]
  | cons x r ih =>
    have e1 : pk (x :: r ++ b) = x + 8 * pk (r ++ b) := rfl
    have e2 : pk (x :: r) = x + 8 * pk r := rfl
    rw [e1, e2, ih, List.length_cons, Nat.pow_succ, Nat.mul_add, Nat.add_assoc]
    congr 2
    rw [← Nat.mul_assoc, Nat.mul_comm 8, Nat.mul_assoc, Nat.mul_comm 8, ← Nat.mul_assoc]
def CR (p : PlS) (F : Ps) : Prop := ∀ q, q < 6 → p.1 q = iN (pk (F q)) ∧ p.2 q = iN (F q).length
theorem CR_of {p : PlS} {P : Ps} (h : CPl p P) : CR p P := fun q hq => ⟨(h q hq).2.2.1, (h q hq).2.2.2⟩
theorem CR_congr {p : PlS} {F G : Ps} (h : CR p F) (e : ∀ q, q < 6 → F q = G q) : CR p G := fun q hq => by rw [← e q hq]; exact h q hq
theorem insA_pk {l : List Nat} {w k : Nat} (h5 : l.length ≤ 5) (hd : ∀ d ∈ l, d < 8) (hw : w < 8) (hk : k ≤ l.length) : ((iN (pk l) &&& (((1 : Int32) <<< (((3 : Int32) * iN k) &&& 31)) - 1)) ||| (iN w <<< (((3 : Int32) * iN k) &&& 31))) ||| ((iN (pk l) >>> (((3 : Int32) * iN k) &&& 31)) <<< ((((3 : Int32) * iN k) + 3) &&& 31)) = iN (pk (insA l w k)) := by
  have hb := pk_b hd h5
  have e1 : ((1 : Int32) <<< (((3 : Int32) * iN k) &&& 31)) - 1 = iN (2 ^ (3 * k) - 1) := by
    rw [zl_3, iN_mul, zl_1, iN_shl (by omega), Nat.one_mul, iN_sub (show 1 ≤ 2 ^ (3 * k) from Nat.pow_pos (by omega))]
  have e2 : iN w <<< (((3 : Int32) * iN k) &&& 31) = iN (w * 2 ^ (3 * k)) := by rw [zl_3, iN_mul, iN_shl (by omega)]
  have e3 : iN (pk l) >>> (((3 : Int32) * iN k) &&& 31) = iN (pk (l.drop k)) := by rw [zl_3, iN_mul, iN_shr (by omega) (by omega), p8, pk_drop l hd]
  have e4 : iN (pk (l.drop k)) <<< ((((3 : Int32) * iN k) + 3) &&& 31) = iN (pk (l.drop k) * 2 ^ (3 * (k + 1))) := by rw [zl_3, iN_mul, iN_add, iN_shl (by omega)]; rfl
  have e5 : pk l &&& (2 ^ (3 * k) - 1) = pk (l.take k) := by rw [Nat.and_two_pow_sub_one_eq_mod, p8, pk_take l hd]
  have ht : (l.take k).length = k := by rw [List.length_take]; omega
  have hb1 := pk8_lt (l.take k) (fun d h => hd d (List.mem_of_mem_take h))
  rw [ht] at hb1
  have hb2 := pk8_lt (l.take k ++ [w]) (fun d h => by
    rcases List.mem_append.mp h with h | h
    · exact hd d (List.mem_of_mem_take h)
    · rw [List.mem_singleton] at h; omega)
  rw [List.length_append, ht, List.length_singleton] at hb2
  rw [e1, e2, e3, e4, iN_and, iN_or, iN_or, e5, or_add hb1]
  have e6 : pk (l.take k) + w * 8 ^ k = pk (l.take k ++ [w]) := by rw [pk_app, ht]
  rw [e6, or_add hb2]
  congr 1
  have e7 : insA l w k = (l.take k ++ [w]) ++ l.drop k := by simp [insA]
  rw [e7, pk_cat (l.take k ++ [w]), List.length_append, ht]
  rfl
theorem insA_len {l : List Nat} {w k : Nat} : (insA l w k).length = l.length + 1 := by
  unfold insA
  rw [List.length_append, List.length_cons, List.length_take, List.length_drop]
  omega
theorem insertAt_ok {p : PlS} {F : Ps} (h : CR p F) {q w k : Nat} (hq : q < 6) (h5 : (F q).length ≤ 5) (hd : ∀ d ∈ F q, d < 8) (hw : w < 8) (hk : k ≤ (F q).length) : ∃ p', pl_insertAt p (iN q) (iN w) (iN k) = some p' ∧ CR p' (fun j => if j = q then insA (F q) w k else F j) := by
  have hin : inb (iN q) 6 := by rw [iN_inb (by omega)]; exact hq
  refine ⟨(wr p.1 (iN q) (iN (pk (insA (F q) w k))), wr p.2 (iN q) (iN ((F q).length + 1))), ?_, fun j hj => ?_⟩
  · rw [pl_insertAt, if_neg (iN_nneg (by omega)), zl_6, jlt (by omega) (by omega), if_pos hq, if_pos ⟨hin, hin, hin, hin⟩, rd_iN (by omega), rd_iN (by omega), (h q hq).1, (h q hq).2, insA_pk h5 hd hw hk, zl_1, iN_add]
  · show wr p.1 (iN q) (iN (pk (insA (F q) w k))) j = _ ∧ wr p.2 (iN q) (iN ((F q).length + 1)) j = _
    rw [wr_iN (by omega), wr_iN (by omega)]
    by_cases e : j = q
    · simp only [if_pos e]
      exact ⟨trivial, by rw [insA_len]⟩
    · simp only [if_neg e]
      exact h j hj
/-- lists as places -/
def plQ (M : Nat) (l0 : List Nat) (ls : List (List Nat)) : Ps := fun q => if q = 0 then l0 else if q ≤ M then ls.getD (q - 1) [] else if q = 5 then ls.getD M [] else []
theorem plQ_lp {M k : Nat} (hM : M ≤ 4) (hk : k ≤ M) (l0 : List Nat) (ls : List (List Nat)) : plQ M l0 ls (lp M k) = ls.getD k [] := by
  unfold plQ lp
  by_cases c : k = M
  · rw [if_pos c, if_neg (by omega), if_neg (by omega), if_pos rfl, c]
  · rw [if_neg c, if_neg (by omega), if_pos (by omega)]; rfl
theorem plQ_set {M k : Nat} (hM : M ≤ 4) (hk : k ≤ M) (l0 : List Nat) {ls : List (List Nat)} (hl : ls.length = M + 1) (x : List Nat) (q : Nat) (hq : q < 6) : plQ M l0 (ls.set k x) q = if q = lp M k then x else plQ M l0 ls q := by
  have hg : ∀ j, j ≤ M → (ls.set k x).getD j [] = if j = k then x else ls.getD j [] := by
    intro j hj
    rw [List.getD_eq_getElem?_getD, List.getElem?_set, List.getD_eq_getElem?_getD]
    by_cases c : k = j
    · rw [if_pos c, if_pos c.symm, if_pos (by omega)]; rfl
    · rw [if_neg c, if_neg (fun e => c e.symm)]
  unfold plQ lp
  by_cases h0 : q = 0
  · rw [if_pos h0, if_pos h0, if_neg (by split <;> omega)]
  · rw [if_neg h0, if_neg h0]
    by_cases h1 : q ≤ M
    · rw [if_pos h1, if_pos h1, hg _ (by omega)]
      by_cases c : k = M
      · rw [if_pos c, if_neg (by omega), if_neg (by omega)]
      · rw [if_neg c]
        by_cases d : q - 1 = k
        · rw [if_pos d, if_pos (by omega)]
        · rw [if_neg d, if_neg (by omega)]
    · rw [if_neg h1, if_neg h1]
      by_cases h5 : q = 5
      · rw [if_pos h5, if_pos h5, hg _ (Nat.le_refl _)]
        by_cases c : k = M
        · rw [if_pos c, if_pos c.symm, if_pos h5]
        · rw [if_neg c, if_neg (fun e => c e.symm), if_neg (by omega)]
      · rw [if_neg h5, if_neg h5, if_neg (by split <;> omega)]
def unS (r : PlS ⊕ PlS) : PlS := match r with
  | .inl a => a
  | .inr a => a
theorem insert_L6 {p : PlS} {M w : Nat} (hM : M ≤ 4) (hw : w < 8) {l0 : List Nat} {ls : List (List Nat)} (hl : ls.length = M + 1) (hb : ∀ l ∈ ls, l.length ≤ 5 ∧ ∀ d ∈ l, d < 8) (h : CR p (plQ M l0 ls)) : ∀ (d k f j : Nat), d < f → k + d = M + 1 → j < 1000 → ∃ r, pl_insert_L6 f p (iN w) (iN M) (iN j) (iN k) = some r ∧ CR (unS r) (plQ M l0 (ls.take k ++ ins w j (ls.drop k))) := by
  intro d
  induction d with
  | zero =>
    intro k f j hf hk hj
    obtain ⟨f, rfl⟩ : ∃ g, f = g + 1 := ⟨f - 1, by omega⟩
    refine ⟨.inl p, ?_, ?_⟩
    · rw [pl_insert_L6, jlt (by omega) (by omega), if_pos (by omega)]
    · rw [List.drop_of_length_le (by omega), List.take_of_length_le (by omega)]
      show CR p (plQ M l0 (ls ++ []))
      rw [List.append_nil]; exact h
  | succ d ih =>
    intro k f j hf hk hj
    obtain ⟨f, rfl⟩ : ∃ g, f = g + 1 := ⟨f - 1, by omega⟩
    have hkM : k ≤ M := by omega
    have hkl : k < ls.length := by omega
    have h6 : lp M k < 6 := by unfold lp; split <;> omega
    have hlp := plQ_lp hM hkM l0 ls
    have hge : ls.getD k [] = ls[k] := by rw [List.getD_eq_getElem?_getD, List.getElem?_eq_getElem hkl]; rfl
    have hbk := hb ls[k] (List.getElem_mem hkl)
    have hct : pl_countAt p (iN (lp M k)) = some (iN (ls[k]).length) := by
      rw [pl_countAt, if_neg (iN_nneg (by omega)), zl_6, jlt (by omega) (by omega), if_pos h6, if_pos (by rw [iN_inb (by omega)]; exact h6), rd_iN (by omega), (h _ h6).2, hlp, hge]
    rw [pl_insert_L6, jlt (by omega) (by omega), if_neg (by omega), placeOfList_ok hM hkM]
    simp only [Option.bind_some]
    rw [hct]
    simp only [Option.bind_some]
    rw [jlt (by omega) (by omega), List.drop_eq_getElem_cons hkl, ins]
    by_cases c : (ls[k]).length < j
    · rw [if_pos c, if_neg (by omega), zl_1, iN_add, iN_sub (by omega), iN_add]
      obtain ⟨r, a1, a2⟩ := ih (k + 1) f (j - ((ls[k]).length + 1)) (by omega) (by omega) (by omega)
      refine ⟨r, a1, ?_⟩
      rw [List.take_succ, List.getElem?_eq_getElem hkl] at a2
      simp only [Option.toList_some, List.append_assoc, List.singleton_append] at a2
      exact a2
    · rw [if_neg c, if_pos (by omega)]
      obtain ⟨p', a1, a2⟩ := insertAt_ok h (q := lp M k) (w := w) (k := j) h6 (by rw [hlp, hge]; exact hbk.1) (by rw [hlp, hge]; exact hbk.2) hw (by rw [hlp, hge]; omega)
      rw [a1]
      refine ⟨.inr p', rfl, CR_congr a2 (fun q hq => ?_)⟩
      have es : ls.take k ++ insA ls[k] w j :: ls.drop (k + 1) = ls.set k (insA ls[k] w j) := by rw [List.set_eq_take_append_cons_drop, if_pos hkl]
      show (if q = lp M k then insA (plQ M l0 ls (lp M k)) w j else plQ M l0 ls q) = plQ M l0 (ls.take k ++ insA ls[k] w j :: ls.drop (k + 1)) q
      rw [es, plQ_set hM hkM l0 hl _ q hq, hlp, hge]
theorem insW_ok {p : PlS} {M w : Nat} (hM : M ≤ 4) (hw : w < 8) {l0 : List Nat} {ls : List (List Nat)} (hl : ls.length = M + 1) (hb : ∀ l ∈ ls, l.length ≤ 5 ∧ ∀ d ∈ l, d < 8) (h : CR p (plQ M l0 ls)) {j : Nat} (hj : j < 1000) : ∃ p', pl_insert p (iN w) (iN j) (iN M) = some p' ∧ CR p' (plQ M l0 (ins w j ls)) := by
  obtain ⟨r, a1, a2⟩ := insert_L6 hM hw hl hb h (M + 1) 0 N0 j (by rw [N0_eq]; omega) (by omega) hj
  rw [List.take_zero, List.drop_zero, List.nil_append] at a2
  rw [pl_insert, show (0 : Int32) = iN 0 from rfl, a1]
  rcases r with r | r
  · exact ⟨r, rfl, a2⟩
  · exact ⟨r, rfl, a2⟩
theorem setUp_L9 (p : PlS) {M n g z : Nat} (hM : M ≤ 4) (hg : g ≤ n) (hn : n ≤ 5) (hz : z < bk M g) : ∀ (d m f : Nat), d < f → m + d = g → pl_setUp_L9 f p (iN n) (iN M) (iN m) (iN (bk M m)) (iN (bs M g + z - bs M m)) = some (iN g, iN z) := by
  have hbg := bs_num M (by omega) g (by omega)
  have hkg := bk_le M (by omega) g (by omega)
  intro d
  induction d with
  | zero =>
    intro m f hf hm
    obtain ⟨f, rfl⟩ : ∃ g, f = g + 1 := ⟨f - 1, by omega⟩
    have e : m = g := by omega
    rw [e, show bs M g + z - bs M g = z by omega, pl_setUp_L9, jlt (by omega) (by omega)]
    by_cases c : g < n
    · rw [if_pos c, jlt (by omega) (by omega), if_pos hz]
    · rw [if_neg c]
  | succ d ih =>
    intro m f hf hm
    obtain ⟨f, rfl⟩ : ∃ g, f = g + 1 := ⟨f - 1, by omega⟩
    have hmo := bs_mono M (show m + 1 ≤ g by omega)
    have hbm := bk_le M (by omega) m (by omega)
    have e1 : bs M (m + 1) = bs M m + bk M m := rfl
    rw [pl_setUp_L9, jlt (by omega) (by omega), if_pos (by omega), jlt (by omega) (by omega), if_neg (by omega), zl_1, iN_add, iN_add, iN_mul, iN_sub (by omega), show bs M g + z - bs M m - bk M m = bs M g + z - bs M (m + 1) by omega]
    exact ih (m + 1) f (by omega) (by omega)
theorem setUp_L51 (p : PlS) (n1 : Int32) {M g : Nat} {s : Nat → Nat} (hM : M ≤ 4) (hg : g ≤ 5) (hs : ∀ w, 1 ≤ w → w ≤ g → s w < w + M) : ∀ (w x f : Nat), w < f → w ≤ g → x < 2 ^ 24 → (∀ v, v < 6 → x / 16 ^ v % 16 = if w < v ∧ v ≤ g then s v else 0) → ∃ y, pl_setUp_L51 f p n1 (iN M) (iN g) (iN (ixm M s w)) (iN x) (iN w) = some (iN y) ∧ y < 2 ^ 24 ∧ ∀ v, v < 6 → y / 16 ^ v % 16 = if 0 < v ∧ v ≤ g then s v else 0 := by
  intro w
  induction w with
  | zero =>
    intro x f hf hw hx h
    obtain ⟨f, rfl⟩ : ∃ g, f = g + 1 := ⟨f - 1, by omega⟩
    refine ⟨x, ?_, hx, h⟩
    rw [pl_setUp_L51, jlt0 (by omega), if_neg (by omega)]
  | succ w ih =>
    intro x f hf hw hx h
    obtain ⟨f, rfl⟩ : ∃ g, f = g + 1 := ⟨f - 1, by omega⟩
    have hs1 := hs (w + 1) (by omega) hw
    have hib := ixm_lt w (fun v a b => hs v a (by omega))
    have hib2 := ixm_lt (w + 1) (fun v a b => hs v a (by omega))
    have hk2 := bk_le M (by omega) (w + 1) (by omega)
    have er : imax 1 (iN (w + 1) + iN M) = iN (w + 1 + M) := by
      unfold imax
      rw [iN_add, zl_1, jlt (by omega) (by omega)]
      by_cases c : 1 < w + 1 + M
      · rw [if_pos c]
      · rw [if_neg c, show w + 1 + M = 1 by omega]
    have hnz : ¬ iN (w + 1 + M) = 0 := by
      intro e
      have := iN_inj (b := 0) (by omega) (by omega) e
      omega
    have hx0 := h (w + 1) (by omega)
    rw [if_neg (by omega)] at hx0
    have hlt : x ||| s (w + 1) * 2 ^ (4 * (w + 1)) < 2 ^ 24 := by
      refine Nat.or_lt_two_pow hx ?_
      have e1 : 2 ^ (4 * (w + 1)) ≤ 2 ^ 20 := Nat.pow_le_pow_right (by omega) (by omega)
      have e2 : s (w + 1) * 2 ^ (4 * (w + 1)) ≤ 15 * 2 ^ 20 := Nat.mul_le_mul (by omega) e1
      omega
    obtain ⟨y, a1, a2⟩ := ih (x ||| s (w + 1) * 2 ^ (4 * (w + 1))) f (by omega) (by omega) hlt (fun v hv => by
      rw [or_nib (by omega) hx0]
      by_cases c : v = w + 1
      · rw [if_pos c, if_pos (by omega), c]
      · rw [if_neg c, h v hv]
        by_cases c2 : w + 1 < v ∧ v ≤ g
        · rw [if_pos c2, if_pos (by omega)]
        · rw [if_neg c2, if_neg (by omega)])
    refine ⟨y, ?_, a2⟩
    have ei : ixm M s (w + 1) = ixm M s w * (w + 1 + M) + s (w + 1) := rfl
    have ed : ixm M s (w + 1) / (w + 1 + M) = ixm M s w := by
      rw [ei, Nat.mul_comm, Nat.mul_add_div (by omega), Nat.div_eq_of_lt hs1, Nat.add_zero]
    have em : ixm M s (w + 1) % (w + 1 + M) = s (w + 1) := by
      rw [ei, Nat.mul_comm, Nat.mul_add_mod, Nat.mod_eq_of_lt hs1]
    rw [pl_setUp_L51, jlt0 (by omega), if_pos (by omega), er, if_pos ⟨hnz, hnz⟩, iN_div (by omega) (by omega), iN_irm (by omega) (by omega), ed, em, zl_4, iN_mul, iN_shl (by omega), iN_or, iN_dec (by omega)]
    exact a1
theorem setUp_L114 {M g x : Nat} {s : Nat → Nat} {l0 : List Nat} (hM : M ≤ 4) (hg : g ≤ 5) (hx : x < 2 ^ 24) (hs : ∀ w, 1 ≤ w → w ≤ g → x / 16 ^ w % 16 = s w) (hb : ∀ w, w ≤ g → ∀ l ∈ bld s (M + 1) w, l.length ≤ 5 ∧ ∀ d ∈ l, d < 8) (hlen : ∀ w, w ≤ g → (bld s (M + 1) w).length = M + 1) : ∀ (d w f : Nat) (p : PlS), d < f → w + d = g → CR p (plQ M l0 (bld s (M + 1) w)) → ∃ p', pl_setUp_L114 f p (iN M) (iN g) (iN x) (iN (w + 1)) = some p' ∧ CR p' (plQ M l0 (bld s (M + 1) g)) := by
  intro d
  induction d with
  | zero =>
    intro w f p hf hw h
    obtain ⟨f, rfl⟩ : ∃ g, f = g + 1 := ⟨f - 1, by omega⟩
    refine ⟨p, ?_, by rw [show g = w by omega]; exact h⟩
    rw [pl_setUp_L114, jlt (by omega) (by omega), if_pos (by omega)]
  | succ d ih =>
    intro w f p hf hw h
    obtain ⟨f, rfl⟩ : ∃ g, f = g + 1 := ⟨f - 1, by omega⟩
    have h9 := hs (w + 1) (by omega) (by omega)
    have e : (iN x >>> ((4 * iN (w + 1)) &&& 31)) &&& 15 = iN (s (w + 1)) := by
      rw [zl_4, iN_mul, iN_shr (by omega) (by omega), zl_15, iN_and]
      congr 1
      have h1 := Nat.and_two_pow_sub_one_eq_mod (x / 2 ^ (4 * (w + 1))) 4
      rw [Nat.pow_mul] at h1 ⊢
      rw [← h9]
      exact h1
    have hs16 : s (w + 1) < 16 := by rw [← h9]; exact Nat.mod_lt _ (by omega)
    obtain ⟨p1, a1, a2⟩ := insW_ok (w := w + 1) (j := s (w + 1)) hM (by omega) (hlen w (by omega)) (hb w (by omega)) h (by omega)
    obtain ⟨p2, b1, b2⟩ := ih (w + 1) f p1 (by omega) (by omega) a2
    refine ⟨p2, ?_, b2⟩
    rw [pl_setUp_L114, jlt (by omega) (by omega), if_neg (by omega), e, a1]
    simp only [Option.bind_some]
    rw [zl_1, iN_add]
    exact b1
theorem setUp_ok {Y : Yd} (hY : VY Y) {n : Nat} (hn : n ≤ 5) {P : Ps} (h : VP Y n P) (p : PlS) : ∃ p', pl_setUp p (iN (ix (yM Y) n P)) (iN n) (iN (yM Y)) = some p' ∧ CPl p' P := by
  have hM := hY.2.1
  have hgn : gn n P ≤ n := Nat.sub_le _ _
  have hsl := fun w a b => VP_sl hY h (w := w) a b
  have h9 := setUp_L9 p (z := ixm (yM Y) (fun v => sl v (lss (yM Y) P)) (gn n P)) hM hgn hn (ixm_lt _ hsl) (gn n P) 0 N0 (by rw [N0_eq]; omega) (by omega)
  have h9' : pl_setUp_L9 N0 p (iN n) (iN (yM Y)) 0 1 (iN (ix (yM Y) n P)) = some (iN (gn n P), iN (ixm (yM Y) (fun v => sl v (lss (yM Y) P)) (gn n P))) := h9
  obtain ⟨y, a1, a2, a3⟩ := setUp_L51 p (iN n) (s := fun v => sl v (lss (yM Y) P)) hM (show gn n P ≤ 5 by omega) hsl (gn n P) 0 N0 (by rw [N0_eq]; omega) (Nat.le_refl _) (by omega) (fun v _ => by rw [if_neg (by omega)]; simp)
  have h0 := VP_0 h
  have hdr : (up n).drop (gn n P) = P 0 := by
    unfold up gn
    rw [List.drop_range', h0.2]
    simp only [List.length_range', Nat.one_mul]
    congr 1
    · omega
    · omega
  have hP0 := VP_d8 h hn (q := 0) (by omega)
  have hl0 : n - gn n P = (P 0).length := by unfold gn; omega
  obtain ⟨p1, b1, b2⟩ := begin_ok p (l := P 0) hP0.1 hP0.2
  have hupb : pk (up n) < 2147483648 := by
    have := pk_b (l := up n) (d8 (up_d8 hn)) (by unfold up; rw [List.length_range']; omega)
    omega
  have hsh : iN (pk (up n)) >>> (((3 : Int32) * iN (gn n P)) &&& 31) = iN (pk (P 0)) := by
    rw [zl_3, iN_mul, iN_shr hupb (by omega), p8, pk_drop _ (d8 (up_d8 hn)), hdr]
  have hls := lss_len (yM Y) P
  have hbr := fun w (hw : w ≤ gn n P) => bld_rst (ls := lss (yM Y) P) (fun l hl d hd => (VP_out hY h l hl d hd).1) w (fun v c1 c2 => VP_once hY h c1 (by omega))
  rw [hls] at hbr
  have hmem : ∀ l ∈ lss (yM Y) P, l.length ≤ 5 ∧ ∀ d ∈ l, d < 8 := by
    intro l hl
    obtain ⟨q, hq, rfl⟩ := List.mem_map.mp hl
    have hq6 : q < 6 := by have := plc_mem.mp hq; omega
    have := VP_d8 h hn hq6
    exact ⟨this.1, d8 this.2⟩
  obtain ⟨p2, c1, c2⟩ := setUp_L114 (g := gn n P) (x := y) (s := fun v => sl v (lss (yM Y) P)) (l0 := P 0) hM (by omega) a2 (fun w c1 c2 => by rw [a3 w (by omega), if_pos (by omega)]) (fun w hw l hl => by
    rw [hbr w hw] at hl
    obtain ⟨k, hk, rfl⟩ := List.mem_map.mp hl
    have := hmem k hk
    exact ⟨Nat.le_trans (List.length_filter_le _ _) this.1, fun d hd => this.2 d (List.mem_filter.mp hd).1⟩) (fun w hw => by rw [hbr w hw]; unfold rst; rw [List.length_map, hls]) (gn n P) 0 N0 p1 (by rw [N0_eq]; omega) (by omega) (CR_congr (CR_of b2) (fun q hq => by
      unfold plQ
      by_cases e : q = 0
      · rw [if_pos e, if_pos e]
      · rw [if_neg e, if_neg e]
        have hr : ∀ j, (bld (fun v => sl v (lss (yM Y) P)) (yM Y + 1) 0).getD j [] = [] := fun j => by
          rw [bld, List.getD_eq_getElem?_getD, List.getElem?_replicate]
          split <;> rfl
        rw [hr, hr]
        split
        · rfl
        · split <;> rfl))
  have a1' : pl_setUp_L51 N0 p (iN n) (iN (yM Y)) (iN (gn n P)) (iN (ixm (yM Y) (fun v => sl v (lss (yM Y) P)) (gn n P))) 0 (iN (gn n P)) = some (iN y) := a1
  have c1' : pl_setUp_L114 N0 p1 (iN (yM Y)) (iN (gn n P)) (iN y) 1 = some p2 := c1
  refine ⟨p2, ?_, fun q hq => ?_⟩
  · rw [pl_setUp, h9']
    simp only [Option.bind_some]
    rw [a1']
    simp only [Option.bind_some]
    rw [t_up n (by omega)]
    simp only [Option.bind_some]
    rw [hsh, iN_sub hgn, hl0, b1]
    simp only [Option.bind_some]
    rw [c1']
    rfl
  · have hbd := bld_ix hY h
    have e : plQ (yM Y) (P 0) (bld (fun v => sl v (lss (yM Y) P)) (yM Y + 1) (gn n P)) q = P q := by
      rw [hbd]
      unfold plQ
      by_cases e0 : q = 0
      · rw [if_pos e0, e0]
      · rw [if_neg e0]
        by_cases e1 : q ≤ yM Y
        · rw [if_pos e1, List.getD_eq_getElem?_getD, plc_get hM (by omega)]
          show P (lp (yM Y) (q - 1)) = P q
          unfold lp
          rw [if_neg (by omega), show q - 1 + 1 = q by omega]
        · rw [if_neg e1]
          by_cases e5 : q = 5
          · rw [if_pos e5, List.getD_eq_getElem?_getD, plc_get hM (Nat.le_refl _)]
            show P (lp (yM Y) (yM Y)) = P q
            unfold lp
            rw [if_pos rfl, e5]
          · rw [if_neg e5, h.2.2.1 q (by omega) e5]
    have c3 := c2 q hq
    rw [e] at c3
    have := VP_d8 h hn hq
    exact ⟨this.1, this.2, c3.1, c3.2⟩
theorem indices_L7 {M n : Nat} (hM : M ≤ 4) (hn : n ≤ 5) : ∀ (d w f : Nat), d < f → w + d = n → pl_indices_L7 f (iN n) (iN M) (iN (bk M w)) (iN (bs M (w + 1))) (iN (w + 1)) = some (iN (bs M (n + 1))) := by
  intro d
  induction d with
  | zero =>
    intro w f hf hw
    obtain ⟨f, rfl⟩ : ∃ g, f = g + 1 := ⟨f - 1, by omega⟩
    rw [pl_indices_L7, jlt (by omega) (by omega), if_pos (by omega), show w = n by omega]
  | succ d ih =>
    intro w f hf hw
    obtain ⟨f, rfl⟩ : ∃ g, f = g + 1 := ⟨f - 1, by omega⟩
    rw [pl_indices_L7, jlt (by omega) (by omega), if_neg (by omega), zl_5, jlt (by omega) (by omega), if_neg (by omega), iN_add, iN_mul, iN_add, zl_1, iN_add]
    exact ih (w + 1) f (by omega) (by omega)
theorem indices_ok {M n : Nat} (hM : M ≤ 4) (hn : n ≤ 5) : pl_indices (iN n) (iN M) = some (iN (bs M (n + 1))) := by
  have h := indices_L7 hM hn n 0 N0 (by rw [N0_eq]; omega) (by omega)
  have h' : pl_indices_L7 N0 (iN n) (iN M) 1 1 1 = some (iN (bs M (n + 1))) := h
  rw [pl_indices, h']
  rfl
