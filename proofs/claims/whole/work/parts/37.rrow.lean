/-! THE REFERENCE: rows, ranks, trains -/
def RW (σ : MS) (l : List Nat) : Prop := l.length ≤ 5 ∧ (∀ d ∈ l, d < 100) ∧ ∀ k, k < l.length → av σ 21 k = iN (l.getD k 0)
def TW (σ : MS) (l : List Nat) : Prop := ∀ k, k < l.length → av σ 22 k = iN (l.getD k 0)
theorem TW_fr {ks as ls : List Nat} {σ τ : MS} {l : List Nat} (h : TW σ l) (f : FR ks as ls σ τ) (h1 : as.contains 22 = false) : TW τ l := by
  simp only [List.contains_eq_mem, decide_eq_false_iff_not] at h1
  exact fun k hk => by rw [f.2.1 22 h1]; exact h k hk
theorem lo_cons (v a : Nat) (r : List Nat) : lo v (a :: r) = (if a < v then 1 else 0) + lo v r := by
  unfold lo
  by_cases c : a < v
  · rw [List.filter_cons_of_pos (by simpa using c), List.length_cons, if_pos c]; omega
  · rw [List.filter_cons_of_neg (by simpa using c), if_neg c]; omega
theorem lo_len (v : Nat) (l : List Nat) : lo v l ≤ l.length := List.length_filter_le _ _
theorem rankOf_L17 {σ : MS} {l : List Nat} (h : RW σ l) {i : Nat} (hi : i < l.length) (x : Int32) : ∀ (d j f c : Nat), d < f → j + d = l.length → c + d < 1000 → m_rankOf_L17 f σ (iN l.length) x (iN i) (iN c) (iN j) = some (iN (c + lo (l.getD i 0) (l.drop j))) := by
  obtain ⟨h1, h2, h3⟩ := h
  intro d
  induction d with
  | zero =>
    intro j f c hf hj hc
    obtain ⟨f, rfl⟩ : ∃ g, f = g + 1 := ⟨f - 1, by omega⟩
    rw [m_rankOf_L17, jlt (by omega) (by omega), if_neg (by omega), List.drop_eq_nil_of_le (by omega)]
    rfl
  | succ d ih =>
    intro j f c hf hj hc
    obtain ⟨f, rfl⟩ : ∃ g, f = g + 1 := ⟨f - 1, by omega⟩
    have b1 := getD_lt h2 (by omega) i
    have b2 := getD_lt h2 (by omega) j
    rw [m_rankOf_L17, jlt (by omega) (by omega), if_pos (by omega), if_pos ⟨by rw [iN_inb (by omega)]; omega, by rw [iN_inb (by omega)]; omega⟩, gA_av (by omega), gA_av (by omega), h3 i hi, h3 j (by omega), jlt (by omega) (by omega), drop_cons (show j < l.length by omega), lo_cons]
    simp (disch := omega) only [zl_0, zl_1, zl_2, zl_3, zl_4, zl_5, zl_6, zl_7, zl_8, zl_9, zl_10, zl_11, zl_12, zl_15, zl_16, zl_20, zl_24, zl_25, zl_31, zl_32, zl_33, zl_40, zl_45, zl_48, zl_49, zl_50, zl_53, zl_57, zl_59, zl_62, zl_63, zl_64, zl_74, zl_75, zl_99, zl_100, zl_113, zl_115, zl_120, zl_126, zl_153, zl_160, zl_200, zl_255, zl_720, zl_1000, zl_4999, zl_5000, zl_17046, zl_32768, zl_54321, zl_65535, zl_65536, zl_65537, zl_9999, iN_add, iN_mul, iN_sub, iN_dec, iN_dec2, iN_div, iN_irm, iN_lt, iN_le, iN_eq, iN_inb, iN_nat, iN_and, iN_or, iN_shl, iN_shr, iN_shl2, iN_shr2]
    by_cases c1 : l.getD j 0 < l.getD i 0
    · rw [if_pos c1, if_pos c1, ih (j + 1) f (c + 1) (by omega) (by omega) (by omega), Nat.add_assoc]
    · rw [if_neg c1, if_neg c1, ih (j + 1) f (c + 0) (by omega) (by omega) (by omega), Nat.add_assoc]
theorem rankOf_L4 {σ : MS} {l : List Nat} (h : RW σ l) : ∀ (d i f x : Nat), d < f → i + d = l.length → m_rankOf_L4 f σ (iN l.length) (iN x) (iN i) = some (iN (x * fac d + rk (l.drop i))) := by
  have h1 := h.1
  intro d
  induction d with
  | zero =>
    intro i f x hf hi
    obtain ⟨f, rfl⟩ : ∃ g, f = g + 1 := ⟨f - 1, by omega⟩
    rw [m_rankOf_L4, jlt (by omega) (by omega), if_neg (by omega), List.drop_eq_nil_of_le (by omega)]
    simp [fac, rk]
  | succ d ih =>
    intro i f x hf hi
    obtain ⟨f, rfl⟩ : ∃ g, f = g + 1 := ⟨f - 1, by omega⟩
    have h17 := rankOf_L17 h (show i < l.length by omega) (iN x) d (i + 1) N0 0 (by rw [N0_eq]; omega) (by omega) (by omega)
    rw [m_rankOf_L4, jlt (by omega) (by omega), if_pos (by omega)]
    simp (disch := omega) only [zl_0, zl_1, zl_2, zl_3, zl_4, zl_5, zl_6, zl_7, zl_8, zl_9, zl_10, zl_11, zl_12, zl_15, zl_16, zl_20, zl_24, zl_25, zl_31, zl_32, zl_33, zl_40, zl_45, zl_48, zl_49, zl_50, zl_53, zl_57, zl_59, zl_62, zl_63, zl_64, zl_74, zl_75, zl_99, zl_100, zl_113, zl_115, zl_120, zl_126, zl_153, zl_160, zl_200, zl_255, zl_720, zl_1000, zl_4999, zl_5000, zl_17046, zl_32768, zl_54321, zl_65535, zl_65536, zl_65537, zl_9999, iN_add, iN_mul, iN_sub, iN_dec, iN_dec2, iN_div, iN_irm, iN_lt, iN_le, iN_eq, iN_inb, iN_nat, iN_and, iN_or, iN_shl, iN_shr, iN_shl2, iN_shr2]
    rw [h17]
    simp only [Option.bind_some]
    simp (disch := omega) only [zl_0, zl_1, zl_2, zl_3, zl_4, zl_5, zl_6, zl_7, zl_8, zl_9, zl_10, zl_11, zl_12, zl_15, zl_16, zl_20, zl_24, zl_25, zl_31, zl_32, zl_33, zl_40, zl_45, zl_48, zl_49, zl_50, zl_53, zl_57, zl_59, zl_62, zl_63, zl_64, zl_74, zl_75, zl_99, zl_100, zl_113, zl_115, zl_120, zl_126, zl_153, zl_160, zl_200, zl_255, zl_720, zl_1000, zl_4999, zl_5000, zl_17046, zl_32768, zl_54321, zl_65535, zl_65536, zl_65537, zl_9999, iN_add, iN_mul, iN_sub, iN_dec, iN_dec2, iN_div, iN_irm, iN_lt, iN_le, iN_eq, iN_inb, iN_nat, iN_and, iN_or, iN_shl, iN_shr, iN_shl2, iN_shr2]
    rw [ih (i + 1) f _ (by omega) (by omega), drop_cons (show i < l.length by omega), rk, fac, List.length_drop, show l.length - (i + 1) = d by omega, show l.length - i = d + 1 by omega]
    congr 2
    rw [Nat.zero_add, Nat.add_mul, Nat.mul_assoc, Nat.add_assoc]
theorem rankOf_ok {σ : MS} {l : List Nat} (h : RW σ l) : m_rankOf σ (iN l.length) = some (iN (rk l)) := by
  have := rankOf_L4 h l.length 0 N0 0 (by rw [N0_eq]; have := h.1; omega) (by omega)
  rw [Nat.zero_mul, Nat.zero_add, List.drop_zero, z00] at this
  rw [m_rankOf, this]
  rfl
theorem layTrain_L2 {t : List Nat} {n : Nat} (hn : n < 6) (ht : t ∈ pm n) : ∀ (d k f : Nat) (σ : MS), d < f → k + d = n → ∃ τ, m_layTrain_L2 f σ (iN (num t)) (iN n) (iN k) = some τ ∧ FR [] [22] [] σ τ ∧ ∀ j, av τ 22 j = if k ≤ j ∧ j < n then iN (t.getD j 0) else av σ 22 j := by
  intro d
  induction d with
  | zero =>
    intro k f σ hf hk
    obtain ⟨f, rfl⟩ : ∃ g, f = g + 1 := ⟨f - 1, by omega⟩
    refine ⟨σ, ?_, FR_rf, fun j => by rw [if_neg (by omega)]⟩
    rw [m_layTrain_L2, jlt (by omega) (by omega), if_neg (by omega)]
  | succ d ih =>
    intro k f σ hf hk
    obtain ⟨f, rfl⟩ : ∃ g, f = g + 1 := ⟨f - 1, by omega⟩
    obtain ⟨τ, h1, h2, h3⟩ := ih (k + 1) f (sA σ 22 (iN k) (iN (t.getD k 0))) (by omega) (by omega)
    refine ⟨τ, ?_, FR_tr (FR_sA (by decide)) h2, fun j => ?_⟩
    · rw [m_layTrain_L2, jlt (by omega) (by omega), if_pos (by omega), t_dig n hn t ht k (by omega)]
      simp only [Option.bind_some]
      rw [if_pos (by rw [iN_inb (by omega)]; omega), zl_1, iN_add]
      exact h1
    · rw [h3]
      simp (disch := omega) only [av_sA, if_true]
      by_cases c : j = k
      · rw [if_neg (by omega), if_pos c, if_pos (by omega), c]
      · rw [if_neg c]
        by_cases c2 : k + 1 ≤ j ∧ j < n
        · rw [if_pos c2, if_pos (by omega)]
        · rw [if_neg c2, if_neg (by omega)]
theorem layTrain_ok {t : List Nat} {n : Nat} (hn : n < 6) (ht : t ∈ pm n) (σ : MS) : ∃ τ, m_layTrain σ (iN (num t)) (iN n) = some τ ∧ TW τ t ∧ FR [] [22] [] σ τ := by
  obtain ⟨τ, h1, h2, h3⟩ := layTrain_L2 hn ht n 0 N0 σ (by rw [N0_eq]; omega) (by omega)
  refine ⟨τ, ?_, fun k hk => ?_, h2⟩
  · rw [m_layTrain]
    rw [z00] at h1
    rw [h1]; rfl
  · rw [h3, if_pos (by rw [pm_len ht] at hk; omega)]
theorem idx_at {t : List Nat} {n : Nat} (ht : t ∈ pm n) {w k : Nat} (hw : w ∈ t) (hk : k < n) : t.getD k 0 = w ↔ k = t.idxOf w := by
  have hl := pm_len ht
  have hlt := List.idxOf_lt_length_iff.mpr hw
  have he := List.getElem_idxOf hlt
  rw [List.getD_eq_getElem?_getD, List.getElem?_eq_getElem (by omega)]
  simp only [Option.getD_some]
  constructor
  · intro h
    have hnd := pm_nd ht
    exact (List.getElem_inj hnd).mp (h.trans he.symm)
  · intro h
    subst h
    exact he
theorem placeOf_L5 {σ : MS} {t : List Nat} {n : Nat} (hn : n < 6) (ht : t ∈ pm n) (hT : TW σ t) {w : Nat} (hw : w ∈ t) : ∀ (d k f a : Nat), d < f → k + d = n → m_placeOf_L5 f σ (iN w) (iN n) (iN a) (iN k) = some (iN (if k ≤ t.idxOf w then po t w else a)) := by
  have hl := pm_len ht
  have hlt := List.idxOf_lt_length_iff.mpr hw
  have hwn := (pm_mem ht).mp hw
  intro d
  induction d with
  | zero =>
    intro k f a hf hk
    obtain ⟨f, rfl⟩ : ∃ g, f = g + 1 := ⟨f - 1, by omega⟩
    rw [m_placeOf_L5, jlt (by omega) (by omega), if_neg (by omega), if_neg (by omega)]
  | succ d ih =>
    intro k f a hf hk
    obtain ⟨f, rfl⟩ : ∃ g, f = g + 1 := ⟨f - 1, by omega⟩
    have hb := getD_lt (b := 6) (fun x hx => by have := (pm_mem ht).mp hx; omega) (by omega) k
    have hi := idx_at ht hw (show k < n by omega)
    rw [m_placeOf_L5, jlt (by omega) (by omega), if_pos (by omega), if_pos (by rw [iN_inb (by omega)]; omega), gA_av (by omega), hT k (by omega), jeq (by omega) (by omega), zl_1, iN_add, ih (k + 1) f _ (by omega) (by omega), ih (k + 1) f _ (by omega) (by omega)]
    by_cases c : t.getD k 0 = w
    · have := hi.mp c
      rw [if_pos c, if_neg (by omega), if_pos (by omega)]
      unfold po
      rw [this]
    · rw [if_neg c]
      have : k ≠ t.idxOf w := fun h => c (hi.mpr h)
      by_cases c2 : k + 1 ≤ t.idxOf w
      · rw [if_pos c2, if_pos (by omega)]
      · rw [if_neg c2, if_neg (by omega)]
theorem placeOf_okM {σ : MS} {t : List Nat} {n : Nat} (hn : n < 6) (ht : t ∈ pm n) (hT : TW σ t) {w : Nat} (hw : w ∈ t) : m_placeOf σ (iN w) (iN n) = some (iN (po t w)) := by
  have := placeOf_L5 hn ht hT hw n 0 N0 0 (by rw [N0_eq]; omega) (by omega)
  rw [if_pos (Nat.zero_le _), z00] at this
  rw [m_placeOf, this]
  rfl
theorem layOrder_L2 {t o : List Nat} {n : Nat} (hn : n < 6) (ht : t ∈ pm n) (ho : o ∈ pm n) : ∀ (d k f : Nat) (σ : MS), d < f → k + d = n → TW σ t → ∃ τ, m_layOrder_L2 f σ (iN (num o)) (iN n) (iN k) = some τ ∧ FR [] [21] [] σ τ ∧ ∀ j, av τ 21 j = if k ≤ j ∧ j < n then iN ((rel t o).getD j 0) else av σ 21 j := by
  intro d
  induction d with
  | zero =>
    intro k f σ hf hk _
    obtain ⟨f, rfl⟩ : ∃ g, f = g + 1 := ⟨f - 1, by omega⟩
    refine ⟨σ, ?_, FR_rf, fun j => by rw [if_neg (by omega)]⟩
    rw [m_layOrder_L2, jlt (by omega) (by omega), if_neg (by omega)]
  | succ d ih =>
    intro k f σ hf hk hT
    obtain ⟨f, rfl⟩ : ∃ g, f = g + 1 := ⟨f - 1, by omega⟩
    have hol := pm_len ho
    have hw : o.getD k 0 ∈ t := by
      rw [List.getD_eq_getElem?_getD, List.getElem?_eq_getElem (by omega)]
      exact (pm_mem ht).mpr ((pm_mem ho).mp (List.getElem_mem (show k < o.length by omega)))
    have e : (rel t o).getD k 0 = po t (o.getD k 0) := by
      unfold rel
      rw [List.getD_eq_getElem?_getD, List.getElem?_map, List.getD_eq_getElem?_getD, List.getElem?_eq_getElem (show k < o.length by omega)]
      rfl
    obtain ⟨τ, h1, h2, h3⟩ := ih (k + 1) f (sA σ 21 (iN k) (iN ((rel t o).getD k 0))) (by omega) (by omega) (TW_fr (ks := []) (as := [21]) (ls := []) hT (FR_sA (by decide)) rfl)
    refine ⟨τ, ?_, FR_tr (FR_sA (by decide)) h2, fun j => ?_⟩
    · rw [m_layOrder_L2, jlt (by omega) (by omega), if_pos (by omega), t_dig n hn o ho k (by omega)]
      simp only [Option.bind_some]
      rw [placeOf_okM hn ht hT hw]
      simp only [Option.bind_some]
      rw [if_pos (by rw [iN_inb (by omega)]; omega), zl_1, iN_add, ← e]
      exact h1
    · rw [h3]
      simp (disch := omega) only [av_sA, if_true]
      by_cases c : j = k
      · rw [if_neg (by omega), if_pos c, if_pos (by omega), c]
      · rw [if_neg c]
        by_cases c2 : k + 1 ≤ j ∧ j < n
        · rw [if_pos c2, if_pos (by omega)]
        · rw [if_neg c2, if_neg (by omega)]
theorem pm_100 {n : Nat} (hn : n < 6) {l : List Nat} (h : l ∈ pm n) : ∀ d ∈ l, d < 100 := fun d hd => by have := (pm_mem h).mp hd; omega
theorem layOrder_ok {t o : List Nat} {n : Nat} (hn : n < 6) (ht : t ∈ pm n) (ho : o ∈ pm n) {σ : MS} (hT : TW σ t) : ∃ τ, m_layOrder σ (iN (num o)) (iN n) = some τ ∧ RW τ (rel t o) ∧ FR [] [21] [] σ τ := by
  obtain ⟨τ, h1, h2, h3⟩ := layOrder_L2 hn ht ho n 0 N0 σ (by rw [N0_eq]; omega) (by omega) hT
  have hr := rel_mem ht ho
  refine ⟨τ, ?_, ⟨by rw [pm_len hr]; omega, pm_100 hn hr, fun k hk => ?_⟩, h2⟩
  · rw [m_layOrder]
    rw [z00] at h1
    rw [h1]; rfl
  · rw [h3, if_pos (by rw [pm_len hr] at hk; omega)]
theorem want_L15 {l : List Nat} {x : Int32} : ∀ (d k f : Nat) (σ : MS), d < f → k + d = l.length → l.length ≤ 5 → (∀ j, j < l.length → av σ 21 j = iN (l.getD j 0)) → ∃ τ, m_want_L15 f σ (iN l.length) (iN k) = some τ ∧ FR [] [17] [] σ τ ∧ ∀ j, av τ 17 j = if k ≤ j ∧ j < l.length then iN (l.getD j 0) else av σ 17 j := by
  intro d
  induction d with
  | zero =>
    intro k f σ hf hk _ _
    obtain ⟨f, rfl⟩ : ∃ g, f = g + 1 := ⟨f - 1, by omega⟩
    refine ⟨σ, ?_, FR_rf, fun j => by rw [if_neg (by omega)]⟩
    rw [m_want_L15, jlt (by omega) (by omega), if_neg (by omega)]
  | succ d ih =>
    intro k f σ hf hk h5 hR
    obtain ⟨f, rfl⟩ : ∃ g, f = g + 1 := ⟨f - 1, by omega⟩
    obtain ⟨τ, h1, h2, h3⟩ := ih (k + 1) f (sA σ 17 (iN k) (iN (l.getD k 0))) (by omega) (by omega) h5 (fun j hj => by simp (disch := omega) only [gA_av, gL_wv, gI_sI, gI_sA, gI_sL, av_sA, av_sI, av_sL, wv_sL, wv_sI, wv_sA, Nat.reduceEqDiff, if_false]; exact hR j hj)
    refine ⟨τ, ?_, FR_tr (FR_sA (by decide)) h2, fun j => ?_⟩
    · rw [m_want_L15, jlt (by omega) (by omega), if_pos (by omega), if_pos ⟨by rw [iN_inb (by omega)]; omega, by rw [iN_inb (by omega)]; omega⟩, gA_av (by omega), hR k (by omega), zl_1, iN_add]
      exact h1
    · rw [h3]
      simp (disch := omega) only [av_sA, if_true]
      by_cases c : j = k
      · rw [if_neg (by omega), if_pos c, if_pos (by omega), c]
      · rw [if_neg c]
        by_cases c2 : k + 1 ≤ j ∧ j < l.length
        · rw [if_pos c2, if_pos (by omega)]
        · rw [if_neg c2, if_neg (by omega)]
theorem want_ok {t o : List Nat} {n : Nat} (hn : n < 6) (ht : t ∈ pm n) (ho : o ∈ pm n) (σ : MS) : ∃ τ, m_want σ (iN (num t)) (iN (num o)) (iN n) = some τ ∧ WR τ (rel t o) ∧ FR [25] [17, 21, 22] [] σ τ := by
  have hr := rel_mem ht ho
  have hrl := pm_len hr
  obtain ⟨τ1, a1, a2, a3⟩ := layTrain_ok hn ht σ
  obtain ⟨τ2, b1, b2, b3⟩ := layOrder_ok hn ht ho a2
  obtain ⟨τ3, c1, c2, c3⟩ := want_L15 (x := 0) n 0 N0 τ2 (by rw [N0_eq]; omega) (by omega) (by omega) b2.2.2
  rw [hrl] at c1
  refine ⟨sI τ3 25 (iN n), ?_, ⟨by omega, fun d hd => by have := (pm_mem hr).mp hd; omega, by rw [gI_sI, if_pos rfl, hrl], fun k hk => ?_⟩, ?_⟩
  · rw [m_want, a1]
    simp only [Option.bind_some]
    rw [b1]
    simp only [Option.bind_some]
    rw [z00] at c1
    rw [c1]
    rfl
  · rw [av_sI, c3, if_pos (by omega)]
  · exact FR_tr (FR_mo a3 rfl rfl rfl) (FR_tr (FR_mo b3 rfl rfl rfl) (FR_tr (FR_mo c2 rfl rfl rfl) (FR_sI (by decide))))
theorem up_succ (k : Nat) : up (k + 1) = up k ++ [k + 1] := by
  unfold up
  rw [List.range'_concat]
  simp [Nat.add_comm]
theorem sortedOf_L4 {σ : MS} {n : Nat} (hn : n < 6) : ∀ (d k f : Nat), d < f → k + d = n → m_sortedOf_L4 f σ (iN n) (iN (num (up k))) (iN (k + 1)) = some (iN (num (up n))) := by
  intro d
  induction d with
  | zero =>
    intro k f hf hk
    obtain ⟨f, rfl⟩ : ∃ g, f = g + 1 := ⟨f - 1, by omega⟩
    rw [m_sortedOf_L4, jlt (by omega) (by omega), if_pos (by omega), show k = n by omega]
  | succ d ih =>
    intro k f hf hk
    obtain ⟨f, rfl⟩ : ∃ g, f = g + 1 := ⟨f - 1, by omega⟩
    rw [m_sortedOf_L4, jlt (by omega) (by omega), if_neg (by omega)]
    simp (disch := omega) only [zl_0, zl_1, zl_2, zl_3, zl_4, zl_5, zl_6, zl_7, zl_8, zl_9, zl_10, zl_11, zl_12, zl_15, zl_16, zl_20, zl_24, zl_25, zl_31, zl_32, zl_33, zl_40, zl_45, zl_48, zl_49, zl_50, zl_53, zl_57, zl_59, zl_62, zl_63, zl_64, zl_74, zl_75, zl_99, zl_100, zl_113, zl_115, zl_120, zl_126, zl_153, zl_160, zl_200, zl_255, zl_720, zl_1000, zl_4999, zl_5000, zl_17046, zl_32768, zl_54321, zl_65535, zl_65536, zl_65537, zl_9999, iN_add, iN_mul, iN_sub, iN_dec, iN_dec2, iN_div, iN_irm, iN_lt, iN_le, iN_eq, iN_inb, iN_nat, iN_and, iN_or, iN_shl, iN_shr, iN_shl2, iN_shr2]
    have := ih (k + 1) f (by omega) (by omega)
    rw [up_succ, num_app] at this
    exact this
theorem sortedOf_ok {σ : MS} {n : Nat} (hn : n < 6) : m_sortedOf σ (iN n) = some (iN (num (up n))) := by
  have := sortedOf_L4 (σ := σ) hn n 0 N0 (by rw [N0_eq]; omega) (by omega)
  rw [m_sortedOf]
  have e : m_sortedOf_L4 N0 σ (iN n) 0 1 = some (iN (num (up n))) := this
  rw [e]
  rfl
/-! rows out of ranks -/
def ly1 (n : Nat) : Nat → Nat → (Nat → Nat) → (Nat → Nat)
  | 0, _, g => g
  | i + 1, r, g => ly1 n i (r / (n - i)) (fun j => if j = i then r % (n - i) else g j)
def ly2 (n : Nat) : Nat → (Nat → Nat) → (Nat → Nat)
  | 0, g => g
  | i + 1, g => ly2 n i (fun j => if j = i then g i + 1 else if i < j ∧ j < n ∧ g i + 1 ≤ g j then g j + 1 else g j)
def ly (n r : Nat) : List Nat := (List.range n).map (ly2 n n (ly1 n n r (fun _ => 0)))
theorem t_ly : ∀ n, n < 6 → ∀ r, r < fac n → ly n r = ur n r := by decide +kernel
theorem dec_0 : (iN 0 + (-1) : Int32) < 0 := by decide
theorem layRow_L7 {n : Nat} (hn : n < 6) : ∀ (i r f : Nat) (σ : MS) (g : Nat → Nat), i < f → i ≤ n → r < 2147483648 → (∀ k, i ≤ k → k < n → av σ 21 k = iN (g k) ∧ g k ≤ 5) → ∃ τ, m_layRow_L7 f σ (iN n) (iN r) (iN i + (-1)) = some τ ∧ FR [] [21] [] σ τ ∧ ∀ k, k < n → av τ 21 k = iN (ly1 n i r g k) ∧ ly1 n i r g k ≤ 5 := by
  intro i
  induction i with
  | zero =>
    intro r f σ g hf hi hr hg
    obtain ⟨f, rfl⟩ : ∃ g, f = g + 1 := ⟨f - 1, by omega⟩
    refine ⟨σ, ?_, FR_rf, fun k hk => hg k (Nat.zero_le _) hk⟩
    rw [m_layRow_L7, if_pos dec_0]
  | succ i ih =>
    intro r f σ g hf hi hr hg
    obtain ⟨f, rfl⟩ : ∃ g, f = g + 1 := ⟨f - 1, by omega⟩
    have hm : r % (n - i) < n - i := Nat.mod_lt _ (by omega)
    have hdv : r / (n - i) ≤ r := Nat.div_le_self _ _
    obtain ⟨τ, h1, h2, h3⟩ := ih (r / (n - i)) f (sA σ 21 (iN i) (iN (r % (n - i)))) (fun j => if j = i then r % (n - i) else g j) (by omega) (by omega) (by omega) (fun k hk1 hk2 => by
      simp (disch := omega) only [av_sA, if_true]
      by_cases c : k = i
      · rw [if_pos c, if_pos c]; exact ⟨rfl, by omega⟩
      · rw [if_neg c, if_neg c]; exact hg k (by omega) hk2)
    refine ⟨τ, ?_, FR_tr (FR_sA (by decide)) h2, fun k hk => h3 k hk⟩
    rw [m_layRow_L7, iN_dec (show 1 ≤ i + 1 by omega), Nat.add_sub_cancel, if_neg (iN_nneg (by omega)), iN_sub (by omega)]
    have hne : ¬ iN (n - i) = 0 := by rw [zl_0, iN_eq (by omega) (by omega)]; omega
    rw [if_pos ⟨hne, by rw [iN_inb (by omega)]; omega, hne⟩, iN_irm (by omega) (by omega), iN_div (by omega) (by omega)]
    exact h1
theorem layRow_L65 {n i : Nat} (hn : n < 6) (hi : i < n) {g : Nat → Nat} (hg : ∀ k, k < n → g k < 1000) : ∀ (d j f : Nat) (σ : MS), d < f → j + d = n → i < j → (∀ k, k < n → av σ 21 k = iN (if i < k ∧ k < j ∧ g i ≤ g k then g k + 1 else g k)) → ∃ τ, m_layRow_L65 f σ (iN n) (iN i) (iN j) = some τ ∧ FR [] [21] [] σ τ ∧ ∀ k, k < n → av τ 21 k = iN (if i < k ∧ k < n ∧ g i ≤ g k then g k + 1 else g k) := by
  intro d
  induction d with
  | zero =>
    intro j f σ hf hj hij h
    obtain ⟨f, rfl⟩ : ∃ g, f = g + 1 := ⟨f - 1, by omega⟩
    obtain rfl : j = n := by omega
    refine ⟨σ, ?_, FR_rf, h⟩
    rw [m_layRow_L65, jlt (by omega) (by omega), if_neg (by omega)]
  | succ d ih =>
    intro j f σ hf hj hij h
    obtain ⟨f, rfl⟩ : ∃ g, f = g + 1 := ⟨f - 1, by omega⟩
    have h0 := h i hi
    rw [if_neg (by omega)] at h0
    have h1 := h j (by omega)
    rw [if_neg (by omega)] at h1
    have g0 := hg i hi
    have g1 := hg j (by omega)
    have hin : ∀ x, x < 5 → inb (iN x) 5 := fun x hx => by rw [iN_inb (by omega)]; exact hx
    obtain ⟨τ, t1, t2, t3⟩ := ih (j + 1) f (sA σ 21 (iN j) (iN (if g j < g i then g j + 0 else g j + 1))) (by omega) (by omega) (by omega) (fun k hk => by
      simp (disch := omega) only [av_sA, if_true]
      by_cases e : k = j
      · rw [if_pos e, e]
        by_cases c : g j < g i
        · rw [if_pos c, if_neg (by omega)]; rfl
        · rw [if_neg c, if_pos (by omega)]
      · rw [if_neg e, h k hk]
        by_cases c : i < k ∧ k < j ∧ g i ≤ g k
        · rw [if_pos c, if_pos (by omega)]
        · rw [if_neg c, if_neg (by omega)])
    refine ⟨τ, ?_, FR_tr (FR_sA (by decide)) t2, t3⟩
    rw [m_layRow_L65, jlt (by omega) (by omega), if_pos (by omega), if_pos ⟨hin j (by omega), hin j (by omega), hin i (by omega)⟩, gA_av (by omega), gA_av (by omega), h0, h1, jlt (by omega) (by omega)]
    simp (disch := omega) only [zl_0, zl_1, zl_2, zl_3, zl_4, zl_5, zl_6, zl_7, zl_8, zl_9, zl_10, zl_11, zl_12, zl_15, zl_16, zl_20, zl_24, zl_25, zl_31, zl_32, zl_33, zl_40, zl_45, zl_48, zl_49, zl_50, zl_53, zl_57, zl_59, zl_62, zl_63, zl_64, zl_74, zl_75, zl_99, zl_100, zl_113, zl_115, zl_120, zl_126, zl_153, zl_160, zl_200, zl_255, zl_720, zl_1000, zl_4999, zl_5000, zl_17046, zl_32768, zl_54321, zl_65535, zl_65536, zl_65537, zl_9999, iN_add, iN_mul, iN_sub, iN_dec, iN_dec2, iN_div, iN_irm, iN_lt, iN_le, iN_eq, iN_inb, iN_nat, iN_and, iN_or, iN_shl, iN_shr, iN_shl2, iN_shr2]
    by_cases c : g j < g i
    · rw [if_pos c] at t1 ⊢
      rw [if_pos (by omega)]
      exact t1
    · rw [if_neg c] at t1 ⊢
      rw [if_pos (by omega)]
      exact t1
theorem layRow_L43 {n : Nat} (hn : n < 6) : ∀ (i f : Nat) (σ : MS) (g : Nat → Nat), i < f → i ≤ n → (∀ k, k < n → av σ 21 k = iN (g k) ∧ g k + i < 500) → ∃ τ, m_layRow_L43 f σ (iN n) (iN i + (-1)) = some τ ∧ FR [] [21] [] σ τ ∧ ∀ k, k < n → av τ 21 k = iN (ly2 n i g k) := by
  intro i
  induction i with
  | zero =>
    intro f σ g hf hi hg
    obtain ⟨f, rfl⟩ : ∃ g, f = g + 1 := ⟨f - 1, by omega⟩
    refine ⟨σ, ?_, FR_rf, fun k hk => (hg k hk).1⟩
    rw [m_layRow_L43, if_pos dec_0]
  | succ i ih =>
    intro f σ g hf hi hg
    obtain ⟨f, rfl⟩ : ∃ g, f = g + 1 := ⟨f - 1, by omega⟩
    have h0 := hg i (by omega)
    let G : Nat → Nat := fun k => if k = i then g i + 1 else g k
    have hin : inb (iN i) 5 := by rw [iN_inb (by omega)]; omega
    obtain ⟨υ, u1, u2, u3⟩ := layRow_L65 hn (show i < n by omega) (g := G) (fun k hk => by
      have := (hg k hk).2
      simp only [G]
      split <;> omega) (n - (i + 1)) (i + 1) N0 (sA σ 21 (iN i) (iN (g i + 1))) (by rw [N0_eq]; omega) (by omega) (by omega) (fun k hk => by
      rw [if_neg (by omega)]
      simp (disch := omega) only [av_sA, if_true, G]
      by_cases e : k = i
      · rw [if_pos e, if_pos e]
      · rw [if_neg e, if_neg e]; exact (hg k hk).1)
    obtain ⟨τ, t1, t2, t3⟩ := ih f υ (fun j => if j = i then g i + 1 else if i < j ∧ j < n ∧ g i + 1 ≤ g j then g j + 1 else g j) (by omega) (by omega) (fun k hk => by
      have hk2 := (hg k hk).2
      refine ⟨?_, by split <;> (try split) <;> omega⟩
      rw [u3 k hk]
      simp only [G, if_true]
      by_cases e : k = i
      · rw [if_pos e, if_neg (by omega), if_pos e]
      · rw [if_neg e, if_neg e])
    refine ⟨τ, ?_, FR_tr (FR_sA (by decide)) (FR_tr u2 t2), t3⟩
    rw [m_layRow_L43, iN_dec (show 1 ≤ i + 1 by omega), Nat.add_sub_cancel, if_neg (iN_nneg (by omega)), if_pos ⟨hin, hin⟩, gA_av (by omega), h0.1, zl_1, iN_add, iN_add, u1]
    simp only [Option.bind_some]
    exact t1
theorem ly_get {n r k : Nat} (hk : k < n) : (ly n r).getD k 0 = ly2 n n (ly1 n n r (fun _ => 0)) k := by
  unfold ly
  generalize ly2 n n (ly1 n n r (fun _ => 0)) = G
  rw [List.getD_eq_getElem?_getD, List.getElem?_map, List.getElem?_range hk]
  rfl
theorem layRow_cut {n r : Nat} {σ τ1 τ2 : MS} (a : m_layRow_L7 N0 σ (iN n) (iN r) (iN n + (-1)) = some τ1) (b : m_layRow_L43 N0 τ1 (iN n) (iN n + (-1)) = some τ2) : m_layRow σ (iN r) (iN n) = some τ2 := by
  unfold m_layRow
  rw [Int32.sub_eq_add_neg, a, Option.bind_some, b, Option.bind_some]
theorem layRow_r1 {n r : Nat} (hn : n < 6) (hr : r < 1000) (σ : MS) : ∃ τ, m_layRow_L7 N0 σ (iN n) (iN r) (iN n + (-1)) = some τ ∧ FR [] [21] [] σ τ ∧ ∀ k, k < n → av τ 21 k = iN (ly1 n n r (fun _ => 0) k) ∧ ly1 n n r (fun _ => 0) k ≤ 5 :=
  layRow_L7 hn n r N0 σ (fun _ => 0) (by rw [N0_eq]; omega) (Nat.le_refl _) (by omega) (fun k h1 h2 => absurd h2 (Nat.not_lt.mpr h1))
theorem layRow_r2 {n : Nat} (hn : n < 6) (σ : MS) (g : Nat → Nat) (hg : ∀ k, k < n → av σ 21 k = iN (g k) ∧ g k ≤ 5) : ∃ τ, m_layRow_L43 N0 σ (iN n) (iN n + (-1)) = some τ ∧ FR [] [21] [] σ τ ∧ ∀ k, k < n → av τ 21 k = iN (ly2 n n g k) :=
  layRow_L43 hn n N0 σ g (by rw [N0_eq]; omega) (Nat.le_refl _) (fun k hk => ⟨(hg k hk).1, by have := (hg k hk).2; omega⟩)
theorem layRow_run {n r : Nat} (hn : n < 6) (hr : r < 1000) (σ : MS) : ∃ τ, m_layRow σ (iN r) (iN n) = some τ ∧ FR [] [21] [] σ τ ∧ ∀ k, k < n → av τ 21 k = iN ((ly n r).getD k 0) := by
  obtain ⟨τ1, a1, a2, a3⟩ := layRow_r1 hn hr σ
  obtain ⟨τ2, b1, b2, b3⟩ := layRow_r2 hn τ1 _ a3
  refine ⟨τ2, layRow_cut a1 b1, FR_tr a2 b2, fun k hk => ?_⟩
  rw [ly_get hk]
  exact b3 k hk
theorem layRow_ok {n r : Nat} (hn : n < 6) (hr : r < fac n) (σ : MS) : ∃ τ, m_layRow σ (iN r) (iN n) = some τ ∧ RW τ (ur n r) ∧ FR [] [21] [] σ τ := by
  have hf := (fac_le n hn).2
  obtain ⟨τ, a1, a2, a3⟩ := layRow_run hn (show r < 1000 by omega) σ
  have hu := ur_mem hn hr
  have hul := pm_len hu
  rw [t_ly n hn r hr] at a3
  exact ⟨τ, a1, ⟨by omega, pm_100 hn hu, fun k hk => a3 k (by omega)⟩, a2⟩
theorem trainOf_L11 {l : List Nat} : ∀ (d k f : Nat) (σ : MS), d < f → k + d = l.length → RW σ l → m_trainOf_L11 f σ (iN l.length) (iN (num (l.take k))) (iN k) = some (iN (num l)) := by
  intro d
  induction d with
  | zero =>
    intro k f σ hf hk h
    obtain ⟨f, rfl⟩ : ∃ g, f = g + 1 := ⟨f - 1, by omega⟩
    have := h.1
    rw [m_trainOf_L11, jlt (by omega) (by omega), if_neg (by omega), List.take_of_length_le (by omega)]
  | succ d ih =>
    intro k f σ hf hk h
    obtain ⟨f, rfl⟩ : ∃ g, f = g + 1 := ⟨f - 1, by omega⟩
    have h5 := h.1
    rw [m_trainOf_L11, jlt (by omega) (by omega), if_pos (by omega), if_pos (by rw [iN_inb (by omega)]; omega), gA_av (by omega), h.2.2 k (by omega), zl_10, zl_1, iN_mul, iN_add, iN_add]
    have := ih (k + 1) f σ (by omega) (by omega) h
    rw [take_snoc (by omega), num_app] at this
    exact this
theorem trainOf_ok {n r : Nat} (hn : n < 6) (hr : r < fac n) (σ : MS) : ∃ τ, m_trainOf σ (iN r) (iN n) = some (iN (num (ur n r)), τ) ∧ FR [] [21] [] σ τ := by
  obtain ⟨τ, a1, a2, a3⟩ := layRow_ok hn hr σ
  have hul := pm_len (ur_mem hn hr)
  have := trainOf_L11 (ur n r).length 0 N0 τ (by rw [N0_eq]; omega) (by omega) a2
  rw [hul, List.take_zero, show iN (num []) = 0 from rfl, z00] at this
  refine ⟨τ, ?_, a3⟩
  rw [m_trainOf, a1]
  simp only [Option.bind_some]
  rw [this]
  rfl
