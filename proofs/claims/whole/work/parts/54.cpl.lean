/-! THE CLASS: where wagons stand -/
theorem bT : ¬ bI true = 0 := by decide
theorem rd_iN {α : Type} {f : Nat → α} {k : Nat} (h : k < 2147483648) : rd f (iN k) = f k := by unfold rd; rw [iN_nat h]
theorem wr_iN {f : Nat → Int32} {k : Nat} (h : k < 2147483648) (v : Int32) (j : Nat) : wr f (iN k) v j = if j = k then v else f j := by unfold wr; rw [iN_nat h]; rfl
theorem wrL_iN {f : Nat → Int64} {k : Nat} (h : k < 2147483648) (v : Int64) (j : Nat) : wrL f (iN k) v j = if j = k then v else f j := by unfold wrL; rw [iN_nat h]; rfl
def CQ (r c : Int32) (l : List Nat) : Prop := l.length ≤ 5 ∧ (∀ d ∈ l, 1 ≤ d ∧ d < 8) ∧ r = iN (pk l) ∧ c = iN l.length
def CPl (p : PlS) (P : Ps) : Prop := ∀ q, q < 6 → CQ (p.1 q) (p.2 q) (P q)
theorem rowAt_ok {p : PlS} {P : Ps} (h : CPl p P) {q : Nat} (hq : q < 6) : pl_rowAt p (iN q) = some (iN (pk (P q))) := by
  rw [pl_rowAt, if_neg (iN_nneg (by omega)), zl_6, jlt (by omega) (by omega), if_pos hq, if_pos (by rw [iN_inb (by omega)]; exact hq), rd_iN (by omega), (h q hq).2.2.1]
theorem countAt_ok {p : PlS} {P : Ps} (h : CPl p P) {q : Nat} (hq : q < 6) : pl_countAt p (iN q) = some (iN (P q).length) := by
  rw [pl_countAt, if_neg (iN_nneg (by omega)), zl_6, jlt (by omega) (by omega), if_pos hq, if_pos (by rw [iN_inb (by omega)]; exact hq), rd_iN (by omega), (h q hq).2.2.2]
theorem d8 {l : List Nat} (h : ∀ d ∈ l, 1 ≤ d ∧ d < 8) : ∀ d ∈ l, d < 8 := fun d hd => (h d hd).2
theorem tk_last {l : List Nat} : tk l true = l.getD (l.length - 1) 0 := by simp [tk, List.getLastD_eq_getLast?, List.getLast?_eq_getElem?, List.getD_eq_getElem?_getD]
theorem tk_mem {l : List Nat} (h : l ≠ []) (b : Bool) : tk l b ∈ l := by
  have := pt_tr h b
  have h1 : tk l b ∈ pt (tr l b) (tk l b) b := mem_pt.mpr (Or.inl rfl)
  rwa [this] at h1
theorem tr_sub {l : List Nat} {b : Bool} {d : Nat} (h : d ∈ tr l b) : d ∈ l := by
  cases b with
  | false => exact List.mem_of_mem_tail h
  | true => exact List.dropLast_subset l h
theorem take_ok {p : PlS} {P : Ps} (h : CPl p P) {q : Nat} (hq : q < 6) (hne : P q ≠ []) (b : Bool) : ∃ p', pl_take p (iN q) (bI b) = some (iN (tk (P q) b), p') ∧ CPl p' (fun j => if j = q then tr (P q) b else P j) := by
  obtain ⟨h1, h2, h3, h4⟩ := h q hq
  have hl := List.length_pos_iff.mpr hne
  have hb := pk_b (d8 h2) h1
  have hin : inb (iN q) 6 := by rw [iN_inb (by omega)]; exact hq
  have hgen : ∀ (r : Nat), r = pk (tr (P q) b) → CPl (wr p.1 (iN q) (iN r), wr p.2 (iN q) (iN ((P q).length - 1))) (fun j => if j = q then tr (P q) b else P j) := by
    intro r hr j hj
    show CQ (wr p.1 (iN q) (iN r) j) (wr p.2 (iN q) (iN ((P q).length - 1)) j) (if j = q then tr (P q) b else P j)
    rw [wr_iN (by omega), wr_iN (by omega)]
    by_cases e : j = q
    · simp only [if_pos e]
      exact ⟨by rw [tr_len]; omega, fun d hd => h2 d (tr_sub hd), by rw [hr], by rw [tr_len]⟩
    · simp only [if_neg e]
      exact h j hj
  have hst : pl_take p (iN q) (bI b) = if bI b = 0 then some (iN (pk (P q)) &&& 7, (wr p.1 (iN q) (iN (pk (P q)) >>> (3 &&& 31)), wr p.2 (iN q) (iN ((P q).length - 1)))) else some ((iN (pk (P q)) >>> ((3 * iN ((P q).length - 1)) &&& 31)) &&& 7, (wr p.1 (iN q) (iN (pk (P q)) &&& (((1 : Int32) <<< ((3 * iN ((P q).length - 1)) &&& 31)) - 1)), wr p.2 (iN q) (iN ((P q).length - 1)))) := by
    rw [pl_take, if_neg (iN_nneg (by omega)), zl_6, jlt (by omega) (by omega), if_pos hq, if_pos hin, rd_iN (by omega), h4, zl_1, jlt (by omega) (by omega), if_neg (by omega), if_pos ⟨hin, hin, hin⟩, iN_sub (show 1 ≤ (P q).length from hl)]
    cases b with
    | false => rw [if_pos bF, if_pos bF, if_pos hin, rd_iN (by omega), h3]
    | true => rw [if_neg bT, if_neg bT, if_pos ⟨hin, hin⟩, rd_iN (by omega), h3, rd_iN (by omega), wr_iN (by omega), if_pos rfl]
  rw [hst]
  cases b with
  | false =>
    rw [if_pos bF]
    have e1 : iN (pk (P q)) &&& 7 = iN (tk (P q) false) := by
      rw [zl_7, iN_and, and7]
      have := pk_get (P q) (d8 h2) 0
      rw [Nat.pow_zero, Nat.div_one] at this
      rw [this]
      cases hp : P q with
      | nil => exact absurd hp hne
      | cons a r => rfl
    have e2 : iN (pk (P q)) >>> (3 &&& 31) = iN (pk (tr (P q) false)) := by
      have := iN_shr (a := pk (P q)) (k := 3) (by omega) (by omega)
      rw [← zl_3] at this
      rw [this]
      congr 1
      have := pk_drop (P q) (d8 h2) 1
      rw [Nat.pow_one] at this
      rw [show (2 : Nat) ^ 3 = 8 from rfl, this]
      cases P q <;> rfl
    rw [e1, e2]
    exact ⟨_, rfl, hgen _ rfl⟩
  | true =>
    rw [if_neg (by decide)]
    have hs : (1 : Int32) <<< ((3 * iN ((P q).length - 1)) &&& 31) = iN (8 ^ ((P q).length - 1)) := by
      rw [zl_3, iN_mul, zl_1, iN_shl (by omega), Nat.one_mul, p8]
    have hp : 8 ^ ((P q).length - 1) ≤ 8 ^ 4 := Nat.pow_le_pow_right (by omega) (by omega)
    have hp1 : 1 ≤ 8 ^ ((P q).length - 1) := Nat.pow_pos (by omega)
    have e1 : (iN (pk (P q)) >>> ((3 * iN ((P q).length - 1)) &&& 31)) &&& 7 = iN (tk (P q) true) := by
      rw [zl_3, iN_mul, iN_shr (by omega) (by omega), zl_7, iN_and, and7, p8, pk_get (P q) (d8 h2), tk_last]
    have e2 : iN (pk (P q)) &&& (((1 : Int32) <<< ((3 * iN ((P q).length - 1)) &&& 31)) - 1) = iN (pk (tr (P q) true)) := by
      rw [hs, zl_1, iN_sub hp1, iN_and]
      congr 1
      have h9 := Nat.and_two_pow_sub_one_eq_mod (pk (P q)) (3 * ((P q).length - 1))
      rw [p8] at h9
      rw [h9, pk_take (P q) (d8 h2)]
      show _ = pk (P q).dropLast
      rw [List.dropLast_eq_take]
    rw [e1, e2]
    exact ⟨_, rfl, hgen _ rfl⟩
theorem put_ok {p : PlS} {P : Ps} (h : CPl p P) {q w : Nat} (hq : q < 6) (hl : (P q).length < 5) (hw : 1 ≤ w ∧ w < 8) (b : Bool) : ∃ p', pl_put p (iN q) (iN w) (bI b) = some p' ∧ CPl p' (fun j => if j = q then pt (P q) w b else P j) := by
  obtain ⟨h1, h2, h3, h4⟩ := h q hq
  have hb := pk_b (d8 h2) h1
  have hin : inb (iN q) 6 := by rw [iN_inb (by omega)]; exact hq
  have hgen : ∀ (r : Nat), r = pk (pt (P q) w b) → CPl (wr p.1 (iN q) (iN r), wr p.2 (iN q) (iN ((P q).length + 1))) (fun j => if j = q then pt (P q) w b else P j) := by
    intro r hr j hj
    show CQ (wr p.1 (iN q) (iN r) j) (wr p.2 (iN q) (iN ((P q).length + 1)) j) (if j = q then pt (P q) w b else P j)
    rw [wr_iN (by omega), wr_iN (by omega)]
    by_cases e : j = q
    · simp only [if_pos e]
      refine ⟨by rw [pt_len]; omega, fun d hd => ?_, by rw [hr], by rw [pt_len]⟩
      rcases mem_pt.mp hd with e2 | e2
      · rw [e2]; exact hw
      · exact h2 d e2
    · simp only [if_neg e]
      exact h j hj
  have hst : pl_put p (iN q) (iN w) (bI b) = if bI b = 0 then some ((wr p.1 (iN q) ((iN (pk (P q)) <<< (3 &&& 31)) ||| iN w)), (wr p.2 (iN q) (iN ((P q).length + 1)))) else some ((wr p.1 (iN q) (iN (pk (P q)) ||| (iN w <<< ((3 * iN (P q).length) &&& 31)))), (wr p.2 (iN q) (iN ((P q).length + 1)))) := by
    rw [pl_put, if_neg (iN_nneg (by omega)), zl_6, jlt (by omega) (by omega), if_pos hq, jeq0 (by omega), if_neg (by omega)]
    cases b with
    | false => rw [if_pos bF, if_pos bF, if_pos hin, if_pos ⟨hin, hin, hin⟩, rd_iN (by omega), rd_iN (by omega), h3, h4, zl_1, iN_add]
    | true => rw [if_neg bT, if_neg bT, if_pos ⟨hin, hin⟩, if_pos ⟨hin, hin, hin⟩, rd_iN (by omega), rd_iN (by omega), h3, h4, zl_1, iN_add]
  rw [hst]
  cases b with
  | false =>
    rw [if_pos bF]
    have e : (iN (pk (P q)) <<< (3 &&& 31)) ||| iN w = iN (pk (pt (P q) w false)) := by
      have h9 := iN_shl (a := pk (P q)) (k := 3) (by omega)
      rw [← zl_3] at h9
      rw [h9, iN_or]
      congr 1
      have := Nat.two_pow_add_eq_or_of_lt (i := 3) hw.2 (pk (P q))
      rw [show pk (P q) * 2 ^ 3 = 2 ^ 3 * pk (P q) by omega, ← this]
      show _ = w + 8 * pk (P q)
      omega
    rw [e]
    exact ⟨_, rfl, hgen _ rfl⟩
  | true =>
    rw [if_neg (by decide)]
    have e : iN (pk (P q)) ||| (iN w <<< ((3 * iN (P q).length) &&& 31)) = iN (pk (pt (P q) w true)) := by
      rw [zl_3, iN_mul, iN_shl (by omega), iN_or, or_add (pk8_lt (P q) (d8 h2))]
      congr 1
      show _ = pk (P q ++ [w])
      rw [pk_app]
    rw [e]
    exact ⟨_, rfl, hgen _ rfl⟩
theorem farTake_ok {m : Nat} (hm : m < 10000) : pl_isFarTake (iN m) = some (bI (fT m)) := by
  rw [pl_isFarTake, zl_100, zl_10, iN_div (by omega) (by omega), iN_irm (by omega) (by omega), zl_1, jeq (by omega) (by omega)]
  unfold fT me
  by_cases c : m / 100 % 10 = 1
  · rw [if_pos c, decide_eq_true c]; rfl
  · rw [if_neg c, decide_eq_false c]; rfl
theorem farPut_ok {m : Nat} (hm : m < 10000) : pl_isFarPut (iN m) = some (bI (fP m)) := by
  rw [pl_isFarPut, zl_10, iN_div (by omega) (by omega), iN_irm (by omega) (by omega), iN_irm (by omega) (by omega), zl_5, jeq (by omega) (by omega), zl_1, jeq (by omega) (by omega)]
  unfold fP mt mx
  by_cases c : m / 10 % 10 = 5
  · rw [if_pos c, decide_eq_true c]; rfl
  · rw [if_neg c, decide_eq_false c]
    by_cases d : m % 10 = 1
    · rw [if_pos d, decide_eq_true d]; rfl
    · rw [if_neg d, decide_eq_false d]; rfl
theorem shift_ok {p : PlS} {P : Ps} (h : CPl p P) {m : Nat} (hm : m < 5000) (hf : mf m < 6) (ht : mt m < 6) (hft : mf m ≠ mt m) (hne : P (mf m) ≠ []) (hl : (P (mt m)).length < 5) : ∃ p', pl_shift p (iN m) = some p' ∧ CPl p' (mv P m) := by
  obtain ⟨p1, a1, a2⟩ := take_ok h hf hne (fT m)
  have hw := (h (mf m) hf).2.1 _ (tk_mem hne (fT m))
  obtain ⟨p2, b1, b2⟩ := put_ok (w := tk (P (mf m)) (fT m)) a2 ht (by rw [if_neg (fun e => hft e.symm)]; exact hl) hw (fP m)
  refine ⟨p2, ?_, fun j hj => ?_⟩
  · have e1 : iN m / 1000 = iN (mf m) := by rw [zl_1000, iN_div (by omega) (by omega)]; rfl
    have e2 : irm (iN m / 10) 10 = iN (mt m) := by rw [zl_10, iN_div (by omega) (by omega), iN_irm (by omega) (by omega)]; rfl
    rw [pl_shift, farTake_ok (by omega), farPut_ok (by omega), e1, e2]
    simp only [Option.bind_some]
    rw [a1]
    simp only [Option.bind_some]
    rw [b1]
    rfl
  · have := b2 j hj
    have e : (if j = mt m then pt (if mt m = mf m then tr (P (mf m)) (fT m) else P (mt m)) (tk (P (mf m)) (fT m)) (fP m) else if j = mf m then tr (P (mf m)) (fT m) else P j) = mv P m j := by
      unfold mv wg
      by_cases c : j = mt m
      · rw [if_pos c, if_pos c, if_neg (fun e => hft e.symm), c]
      · rw [if_neg c, if_neg c]
        by_cases d : j = mf m
        · rw [if_pos d, if_pos d, d]
        · rw [if_neg d, if_neg d]
    rw [← e]
    exact this
theorem unshift_ok {p : PlS} {P : Ps} {m : Nat} (h : CPl p (mv P m)) (hm : m < 5000) (hf : mf m < 6) (ht : mt m < 6) (hft : mf m ≠ mt m) (hne : P (mf m) ≠ []) (hl : (P (mf m)).length ≤ 5) : ∃ p', pl_unshift p (iN m) = some p' ∧ CPl p' P := by
  have hmt := mv_t P m
  have hmf := mv_f (P := P) (m := m) hft
  have hne2 : mv P m (mt m) ≠ [] := by
    rw [hmt]
    intro h9
    have := congrArg List.length h9
    rw [pt_len] at this
    simp at this
  obtain ⟨p1, a1, a2⟩ := take_ok h ht hne2 (fP m)
  have hw := (h (mt m) ht).2.1 _ (tk_mem hne2 (fP m))
  have hlf := List.length_pos_iff.mpr hne
  obtain ⟨p2, b1, b2⟩ := put_ok (w := tk (mv P m (mt m)) (fP m)) a2 hf (by rw [if_neg hft, hmf, tr_len]; omega) hw (fT m)
  refine ⟨p2, ?_, fun j hj => ?_⟩
  · have e1 : iN m / 1000 = iN (mf m) := by rw [zl_1000, iN_div (by omega) (by omega)]; rfl
    have e2 : irm (iN m / 10) 10 = iN (mt m) := by rw [zl_10, iN_div (by omega) (by omega), iN_irm (by omega) (by omega)]; rfl
    rw [pl_unshift, farPut_ok (by omega), farTake_ok (by omega), e1, e2]
    simp only [Option.bind_some]
    rw [a1]
    simp only [Option.bind_some]
    rw [b1]
    rfl
  · have := b2 j hj
    have hu := congrFun (un_mv hne hft) j
    have e : (if j = mf m then pt (if mf m = mt m then tr (mv P m (mt m)) (fP m) else mv P m (mf m)) (tk (mv P m (mt m)) (fP m)) (fT m) else if j = mt m then tr (mv P m (mt m)) (fP m) else mv P m j) = un (mv P m) m j := by
      unfold un
      by_cases c : j = mf m
      · rw [if_pos c, if_pos c, if_neg hft, c]
      · rw [if_neg c, if_neg c]
        by_cases d : j = mt m
        · rw [if_pos d, if_pos d, d]
        · rw [if_neg d, if_neg d]
    rw [← hu, ← e]
    exact this
theorem wagonOf_ok {p : PlS} {P : Ps} (h : CPl p P) {m : Nat} (hm : m < 5000) (hf : mf m < 6) : pl_wagonOf p (iN m) = some (iN (if P (mf m) = [] then 0 else wg P m)) := by
  obtain ⟨h1, h2, h3, h4⟩ := h (mf m) hf
  have e1 : iN m / 1000 = iN (mf m) := by rw [zl_1000, iN_div (by omega) (by omega)]; rfl
  rw [pl_wagonOf, e1, rowAt_ok h hf, farTake_ok (by omega), countAt_ok h hf]
  simp only [Option.bind_some, bI_0]
  unfold wg
  cases hT : fT m with
  | false =>
    rw [if_pos rfl, zl_0, wagonAt_ok (d8 h2) h1 (by omega)]
    simp only [Option.bind_some]
    cases hp : P (mf m) with
    | nil => rfl
    | cons a r => rw [if_neg (by simp)]; rfl
  | true =>
    rw [if_neg (by decide)]
    by_cases c : P (mf m) = []
    · rw [c, if_pos rfl]
      rfl
    · have hl := List.length_pos_iff.mpr c
      rw [if_neg c, zl_1, iN_sub hl, wagonAt_ok (d8 h2) h1 (by omega), tk_last]
      rfl
theorem begin_L2 (x1 x2 : Int32) : ∀ (d k f : Nat) (p : PlS), d < f → k + d = 6 → ∃ p', pl_begin_L2 f p x1 x2 (iN k) = some p' ∧ ∀ j, (p'.1 j = if k ≤ j ∧ j < 6 then iN 0 else p.1 j) ∧ (p'.2 j = if k ≤ j ∧ j < 6 then iN 0 else p.2 j) := by
  intro d
  induction d with
  | zero =>
    intro k f p hf hk
    obtain ⟨f, rfl⟩ : ∃ g, f = g + 1 := ⟨f - 1, by omega⟩
    refine ⟨p, ?_, fun j => by rw [if_neg (by omega), if_neg (by omega)]; exact ⟨rfl, rfl⟩⟩
    rw [pl_begin_L2, zl_6, jlt (by omega) (by omega), if_neg (by omega)]
  | succ d ih =>
    intro k f p hf hk
    obtain ⟨f, rfl⟩ : ∃ g, f = g + 1 := ⟨f - 1, by omega⟩
    have hin : inb (iN k) 6 := by rw [iN_inb (by omega)]; omega
    obtain ⟨p', h1, h2⟩ := ih (k + 1) f (wr p.1 (iN k) (iN 0), wr p.2 (iN k) (iN 0)) (by omega) (by omega)
    refine ⟨p', ?_, fun j => ?_⟩
    · rw [pl_begin_L2, zl_6, jlt (by omega) (by omega), if_pos (by omega), if_pos ⟨hin, hin⟩, zl_1, iN_add]
      exact h1
    · obtain ⟨a, b⟩ := h2 j
      rw [a, b]
      show (if k + 1 ≤ j ∧ j < 6 then iN 0 else wr p.1 (iN k) (iN 0) j) = _ ∧ (if k + 1 ≤ j ∧ j < 6 then iN 0 else wr p.2 (iN k) (iN 0) j) = _
      rw [wr_iN (by omega), wr_iN (by omega)]
      by_cases e : j = k
      · rw [if_neg (by omega), if_pos e, if_pos (by omega), if_neg (by omega), if_pos e, if_pos (by omega)]; exact ⟨rfl, rfl⟩
      · rw [if_neg e, if_neg e]
        by_cases c : k + 1 ≤ j ∧ j < 6
        · rw [if_pos c, if_pos (by omega), if_pos c, if_pos (by omega)]; exact ⟨rfl, rfl⟩
        · rw [if_neg c, if_neg (by omega), if_neg c, if_neg (by omega)]; exact ⟨rfl, rfl⟩
theorem begin_ok (p : PlS) {l : List Nat} (h5 : l.length ≤ 5) (hd : ∀ d ∈ l, 1 ≤ d ∧ d < 8) : ∃ p', pl_begin p (iN (pk l)) (iN l.length) = some p' ∧ CPl p' (fun q => if q = 0 then l else []) := by
  obtain ⟨p1, h1, h2⟩ := begin_L2 (iN (pk l)) (iN l.length) 6 0 N0 p (by rw [N0_eq]; omega) (by omega)
  rw [z00] at h1
  refine ⟨(wr p1.1 0 (iN (pk l)), wr p1.2 0 (iN l.length)), ?_, fun q hq => ?_⟩
  · rw [pl_begin, h1]; rfl
  · show CQ (wr p1.1 0 (iN (pk l)) q) (wr p1.2 0 (iN l.length) q) (if q = 0 then l else [])
    rw [show (0 : Int32) = iN 0 from rfl, wr_iN (by omega), wr_iN (by omega)]
    by_cases e : q = 0
    · simp only [if_pos e]
      exact ⟨h5, hd, rfl, rfl⟩
    · simp only [if_neg e]
      rw [(h2 q).1, (h2 q).2, if_pos (by omega), if_pos (by omega)]
      exact ⟨by simp, fun d hd => by simp at hd, rfl, rfl⟩
theorem cpy_at {n : Nat} (hn : n < 100) (f g : Nat → Int32) (j : Nat) : cpy n f g j = if j < n then f j else g j := by
  unfold cpy
  simp [va_cpy]
theorem copyPl_ok {f : PlS} {P : Ps} (h : CPl f P) (p : PlS) : ∃ p', pl_copyFrom p f = some p' ∧ CPl p' P := by
  refine ⟨_, rfl, fun q hq => ?_⟩
  show CQ (cpy 6 f.1 p.1 q) (cpy 6 f.2 p.2 q) (P q)
  rw [cpy_at (by omega), cpy_at (by omega), if_pos hq, if_pos hq]
  exact h q hq
theorem up_d8 {n : Nat} (hn : n ≤ 5) : ∀ d ∈ up n, 1 ≤ d ∧ d < 8 := fun d hd => by
  unfold up at hd
  rw [List.mem_range'_1] at hd
  omega
theorem beginUp_ok (p : PlS) {n : Nat} (hn : n ≤ 5) : ∃ p', pl_begin p (iN (pk (up n))) (iN n) = some p' ∧ CPl p' (st n) := by
  have hl : (up n).length = n := by simp [up]
  obtain ⟨p', h1, h2⟩ := begin_ok p (l := up n) (by omega) (up_d8 hn)
  rw [hl] at h1
  exact ⟨p', h1, h2⟩
theorem VP_d8 {Y : Yd} {n : Nat} {P : Ps} (h : VP Y n P) (hn : n ≤ 5) {q : Nat} (hq : q < 6) : (P q).length ≤ 5 ∧ ∀ d ∈ P q, 1 ≤ d ∧ d < 8 :=
  ⟨by have := VP_le h hq; omega, fun d hd => by have := VP_mem h hq hd; omega⟩
