/-! THE REFERENCE: orders, stand, draw -/
theorem pck_get : ∀ (l : List Nat) (c : Nat) (x : Int32), l.length + c < 2147483648 → pck l c x = if (c : Int) ≤ x.toInt then l[x.toNatClampNeg - c]? else none := by
  intro l
  induction l with
  | nil => intro c x _; simp [pck]
  | cons m r ih =>
    intro c x h
    rw [List.length_cons] at h
    rw [pck]
    rcases i_cases x with ⟨k, hk, rfl⟩ | hn
    · rw [iN_toInt hk, iN_nat hk]
      by_cases e : c = k
      · rw [if_pos (by rw [e]), if_pos (by omega), e, Nat.sub_self]
        rfl
      · rw [if_neg (fun h9 => e (iN_inj (by omega) hk h9)), ih (c + 1) _ (by omega), iN_toInt hk, iN_nat hk]
        by_cases d : (c : Int) ≤ k
        · rw [if_pos (by omega), if_pos d, show k - c = (k - (c + 1)) + 1 by omega, List.getElem?_cons_succ]
        · rw [if_neg (by omega), if_neg d]
    · rw [if_neg (fun h9 => by rw [← h9, iN_toInt (by omega)] at hn; omega), ih (c + 1) _ (by omega), if_neg (by omega), if_neg (by omega)]
theorem srt_eq : ∀ (l k : List Nat), l.Pairwise (· < ·) → k.Pairwise (· < ·) → (∀ x, x ∈ l ↔ x ∈ k) → l = k := by
  intro l
  induction l with
  | nil =>
    intro k _ _ h
    cases k with
    | nil => rfl
    | cons b s => have := (h b).mpr List.mem_cons_self; simp at this
  | cons a r ih =>
    intro k hl hk h
    cases k with
    | nil => have := (h a).mp List.mem_cons_self; simp at this
    | cons b s =>
      have h1 := List.pairwise_cons.mp hl
      have h2 := List.pairwise_cons.mp hk
      have hab : a = b := by
        rcases List.mem_cons.mp ((h a).mp List.mem_cons_self) with e | e
        · exact e
        · rcases List.mem_cons.mp ((h b).mpr List.mem_cons_self) with e2 | e2
          · exact e2.symm
          · have := h2.1 a e
            have := h1.1 b e2
            omega
      subst hab
      congr 1
      refine ih s h1.2 h2.2 (fun x => ⟨fun hx => ?_, fun hx => ?_⟩)
      · rcases List.mem_cons.mp ((h x).mp (List.mem_cons_of_mem _ hx)) with e | e
        · have := h1.1 x hx; omega
        · exact e
      · rcases List.mem_cons.mp ((h x).mpr (List.mem_cons_of_mem _ hx)) with e | e
        · have := h2.1 x hx; omega
        · exact e
theorem nm_rel {n : Nat} {t o : List Nat} (ht : t ∈ pm n) (ho : o ∈ pm n) : nm t (rel t o) = o := by
  unfold nm rel
  rw [List.map_map]
  have : ∀ w ∈ o, ((fun p => t.getD (p - 1) 0) ∘ po t) w = id w := by
    intro w hw
    have hwt : w ∈ t := (pm_mem ht).mpr ((pm_mem ho).mp hw)
    have hlt := List.idxOf_lt_length_iff.mpr hwt
    show t.getD (po t w - 1) 0 = w
    unfold po
    rw [Nat.add_sub_cancel, List.getD_eq_getElem?_getD, List.getElem?_eq_getElem hlt]
    simp
  rw [List.map_congr_left this]
  simp
theorem rel_nm {n : Nat} {t u : List Nat} (ht : t ∈ pm n) (hu : u ∈ pm n) : rel t (nm t u) = u := by
  have hl := pm_len ht
  unfold nm rel
  rw [List.map_map]
  have : ∀ p ∈ u, (po t ∘ (fun p => t.getD (p - 1) 0)) p = id p := by
    intro p hp
    have hp2 := (pm_mem hu).mp hp
    show po t (t.getD (p - 1) 0) = p
    have hm : t.getD (p - 1) 0 ∈ t := by
      rw [List.getD_eq_getElem?_getD, List.getElem?_eq_getElem (by omega)]
      exact List.getElem_mem (show p - 1 < t.length by omega)
    have := (idx_at ht hm (show p - 1 < n by omega)).mp rfl
    unfold po
    omega
  rw [List.map_congr_left this]
  simp
theorem nm_mem {n : Nat} {t u : List Nat} (ht : t ∈ pm n) (hu : u ∈ pm n) : nm t u ∈ pm n := by
  have hl := pm_len ht
  have hul := pm_len hu
  have hm : ∀ p ∈ u, t.getD (p - 1) 0 ∈ t := by
    intro p hp
    have hp2 := (pm_mem hu).mp hp
    rw [List.getD_eq_getElem?_getD, List.getElem?_eq_getElem (by omega)]
    exact List.getElem_mem (show p - 1 < t.length by omega)
  rw [mem_pm]
  refine nd_perm _ _ ?_ (fun x hx => ?_) (by simp [nm, hul])
  · unfold nm List.Nodup
    rw [List.pairwise_map]
    have := pm_nd hu
    unfold List.Nodup at this
    refine this.imp_of_mem (fun {a b} ha hb hne he => hne ?_)
    have ha2 := (pm_mem hu).mp ha
    have hb2 := (pm_mem hu).mp hb
    have h1 := (idx_at ht (hm a ha) (show a - 1 < n by omega)).mp rfl
    have h2 := (idx_at ht (hm b hb) (show b - 1 < n by omega)).mp rfl
    rw [he] at h1
    omega
  · obtain ⟨p, hp, rfl⟩ := List.mem_map.mp hx
    have := (pm_mem ht).mp (hm p hp)
    rw [List.mem_range'_1]
    omega
theorem ur_lt {n : Nat} (hn : n < 6) {r q : Nat} (hrq : r < q) (hq : q < fac n) : num (ur n r) < num (ur n q) := by
  have h := pm_num n hn
  rw [List.pairwise_map] at h
  have hf := pm_fac n hn
  have := List.pairwise_iff_getElem.mp h r q (by omega) (by omega) hrq
  unfold ur
  rw [List.getD_eq_getElem?_getD, List.getElem?_eq_getElem (show r < (pm n).length by omega), List.getD_eq_getElem?_getD, List.getElem?_eq_getElem (show q < (pm n).length by omega)]
  exact this
noncomputable def okO (Y : Yd) (n : Nat) (t : List Nat) (r : Nat) : Bool := (lf Y n (rel t (ur n r))).isSome
noncomputable def ordL (Y : Yd) (n : Nat) (t : List Nat) : List Nat := ((List.range (fac n)).filter (okO Y n t)).map (fun r => num (ur n r))
theorem ordL_srt {Y : Yd} {n : Nat} (hn : n < 6) (t : List Nat) : (ordL Y n t).Pairwise (· < ·) := by
  unfold ordL
  rw [List.pairwise_map]
  have h : ((List.range (fac n)).filter (okO Y n t)).Pairwise (· < ·) := (List.pairwise_lt_range).filter _
  refine h.imp_of_mem (fun {a b} ha hb hab => ur_lt hn hab ?_)
  exact List.mem_range.mp (List.mem_filter.mp hb).1
theorem ordL_mem {Y : Yd} {n : Nat} (hn : n < 6) {t : List Nat} (ht : t ∈ pm n) (v : Nat) : v ∈ ordL Y n t ↔ ∃ r, r < fac n ∧ (lf Y n (ur n r)).isSome = true ∧ v = num (nm t (ur n r)) := by
  unfold ordL okO
  rw [List.mem_map]
  constructor
  · rintro ⟨q, hq, rfl⟩
    obtain ⟨h1, h2⟩ := List.mem_filter.mp hq
    have hu := ur_mem hn (List.mem_range.mp h1)
    have hr := rel_mem ht hu
    refine ⟨rk (rel t (ur n q)), rk_lt hn hr, ?_, ?_⟩
    · rw [ur_rk hn hr]; exact h2
    · rw [ur_rk hn hr, nm_rel ht hu]
  · rintro ⟨r, hr, h2, rfl⟩
    have hu := ur_mem hn hr
    have hm := nm_mem ht hu
    refine ⟨rk (nm t (ur n r)), List.mem_filter.mpr ⟨List.mem_range.mpr (rk_lt hn hm), ?_⟩, ?_⟩
    · rw [ur_rk hn hm, rel_nm ht hu]; exact h2
    · rw [ur_rk hn hm]
/-! insertion -/
def LQ (σ : MS) (l : List Nat) : Prop := ∀ k, k < l.length → av σ 23 k = iN (l.getD k 0)
theorem insert_L2 {l : List Nat} {v : Nat} (hl : l.length < 120) (hb : ∀ x ∈ l, x < 100000) (hv : v < 100000) : ∀ (a f : Nat) (σ : MS), a < f → a ≤ l.length → (∀ k, k < a → av σ 23 k = iN (l.getD k 0)) → (∀ k, a < k → k ≤ l.length → av σ 23 k = iN (l.getD (k - 1) 0)) → (∀ k, a ≤ k → k < l.length → v < l.getD k 0) →
    ∃ τ p, m_insert_L2 f σ (iN v) (iN a) = some (τ, iN p) ∧ FR [] [23] [] σ τ ∧ p ≤ l.length ∧ (p = 0 ∨ l.getD (p - 1) 0 ≤ v) ∧ (∀ k, p ≤ k → k < l.length → v < l.getD k 0) ∧ (∀ k, k < p → av τ 23 k = iN (l.getD k 0)) ∧ (∀ k, p < k → k ≤ l.length → av τ 23 k = iN (l.getD (k - 1) 0)) := by
  intro a
  induction a with
  | zero =>
    intro f σ hf ha h1 h2 h3
    obtain ⟨f, rfl⟩ : ∃ g, f = g + 1 := ⟨f - 1, by omega⟩
    refine ⟨σ, 0, ?_, FR_rf, Nat.zero_le _, Or.inl rfl, h3, h1, h2⟩
    rw [m_insert_L2, jlt0 (by omega), if_neg (by omega)]
  | succ a ih =>
    intro f σ hf ha h1 h2 h3
    obtain ⟨f, rfl⟩ : ∃ g, f = g + 1 := ⟨f - 1, by omega⟩
    have hg := getD_lt hb (by omega) a
    have hin : inb (iN a) 120 := by rw [iN_inb (by omega)]; omega
    have hin2 : inb (iN (a + 1)) 120 := by rw [iN_inb (by omega)]; omega
    have hbase : m_insert_L2 (f + 1) σ (iN v) (iN (a + 1)) = if v < l.getD a 0 then m_insert_L2 f (sA σ 23 (iN (a + 1)) (iN (l.getD a 0))) (iN v) (iN a) else some (σ, iN (a + 1)) := by
      rw [m_insert_L2, jlt0 (by omega), if_pos (by omega), iN_dec (show 1 ≤ a + 1 by omega)]
      simp (disch := omega) only [zl_1, iN_sub, Nat.add_sub_cancel]
      rw [if_pos hin, gA_av (by omega), h1 a (by omega), jlt (by omega) (by omega)]
      by_cases c : v < l.getD a 0
      · rw [if_pos c, if_pos c, if_pos ⟨hin, hin2⟩]
      · rw [if_neg c, if_neg c]
    rw [hbase]
    by_cases c : v < l.getD a 0
    · rw [if_pos c]
      obtain ⟨τ, p, b1, b2, b3, b4, b5, b6, b7⟩ := ih f (sA σ 23 (iN (a + 1)) (iN (l.getD a 0))) (by omega) (by omega) (fun k hk => by
        rw [av_sA (by omega), if_pos rfl, if_neg (by omega)]; exact h1 k (by omega)) (fun k hk1 hk2 => by
        rw [av_sA (by omega), if_pos rfl]
        by_cases e : k = a + 1
        · rw [if_pos e, e, Nat.add_sub_cancel]
        · rw [if_neg e]; exact h2 k (by omega) hk2) (fun k hk1 hk2 => by
        by_cases e : k = a
        · rw [e]; exact c
        · exact h3 k (by omega) hk2)
      exact ⟨τ, p, b1, FR_tr (FR_sA (by decide)) b2, b3, b4, b5, b6, b7⟩
    · rw [if_neg c]
      refine ⟨σ, a + 1, rfl, FR_rf, ha, Or.inr ?_, h3, h1, h2⟩
      rw [Nat.add_sub_cancel]
      omega
theorem srt_get {l : List Nat} (h : l.Pairwise (· < ·)) {i j : Nat} (hij : i < j) (hj : j < l.length) : l.getD i 0 < l.getD j 0 := by
  have := List.pairwise_iff_getElem.mp h i j (by omega) hj hij
  rw [List.getD_eq_getElem?_getD, List.getElem?_eq_getElem (show i < l.length by omega), List.getD_eq_getElem?_getD, List.getElem?_eq_getElem hj]
  exact this
theorem insert_ok {σ : MS} {l : List Nat} {v : Nat} (hl : l.length < 120) (hb : ∀ x ∈ l, x < 100000) (hv : v < 100000) (hs : l.Pairwise (· < ·)) (hn : v ∉ l) (h : LQ σ l) : ∃ τ l', m_insert σ (iN l.length) (iN v) = some τ ∧ FR [] [23] [] σ τ ∧ LQ τ l' ∧ l'.Pairwise (· < ·) ∧ (∀ x, x ∈ l' ↔ x = v ∨ x ∈ l) ∧ l'.length = l.length + 1 := by
  obtain ⟨τ, p, b1, b2, b3, b4, b5, b6, b7⟩ := insert_L2 hl hb hv l.length N0 σ (by rw [N0_eq]; omega) (Nat.le_refl _) h (fun k h1 h2 => by omega) (fun k h1 h2 => by omega)
  have hlen : (l.take p ++ v :: l.drop p).length = l.length + 1 := by
    rw [List.length_append, List.length_cons, List.length_take, List.length_drop, Nat.min_eq_left b3]
    omega
  have hmem : ∀ x, x ∈ l.take p ++ v :: l.drop p ↔ x = v ∨ x ∈ l := by
    intro x
    rw [List.mem_append, List.mem_cons]
    constructor
    · rintro (h9 | h9 | h9)
      · exact Or.inr (List.mem_of_mem_take h9)
      · exact Or.inl h9
      · exact Or.inr (List.mem_of_mem_drop h9)
    · rintro (h9 | h9)
      · exact Or.inr (Or.inl h9)
      · rw [← List.take_append_drop p l] at h9
        rcases List.mem_append.mp h9 with h8 | h8
        · exact Or.inl h8
        · exact Or.inr (Or.inr h8)
  have hlow : ∀ x ∈ l.take p, x < v := by
    intro x hx
    obtain ⟨i, hi, he⟩ := List.getElem_of_mem hx
    rw [List.length_take, Nat.min_eq_left b3] at hi
    have e1 : l.getD i 0 = x := by
      rw [← he, List.getD_eq_getElem?_getD, List.getElem?_eq_getElem (by omega), List.getElem_take]
      rfl
    rcases b4 with b4 | b4
    · omega
    · have hvn : l.getD (p - 1) 0 ≠ v := by
        intro h9
        apply hn
        rw [← h9, List.getD_eq_getElem?_getD, List.getElem?_eq_getElem (show p - 1 < l.length by omega)]
        exact List.getElem_mem (show p - 1 < l.length by omega)
      by_cases e : i = p - 1
      · rw [e] at e1; omega
      · have := srt_get hs (show i < p - 1 by omega) (by omega)
        omega
  have hhigh : ∀ x ∈ l.drop p, v < x := by
    intro x hx
    obtain ⟨i, hi, he⟩ := List.getElem_of_mem hx
    rw [List.length_drop] at hi
    have e1 : l.getD (p + i) 0 = x := by
      rw [← he, List.getD_eq_getElem?_getD, List.getElem?_eq_getElem (by omega), List.getElem_drop]
      rfl
    have := b5 (p + i) (by omega) (by omega)
    omega
  refine ⟨sA τ 23 (iN p) (iN v), l.take p ++ v :: l.drop p, ?_, FR_tr b2 (FR_sA (by decide)), fun k hk => ?_, ?_, hmem, hlen⟩
  · rw [m_insert, b1]
    simp only [Option.bind_some]
    rw [if_pos (by rw [iN_inb (by omega)]; omega)]
  · rw [hlen] at hk
    rw [av_sA (by omega), if_pos rfl, List.getD_eq_getElem?_getD]
    by_cases e : k = p
    · rw [if_pos e, e, List.getElem?_append_right (by rw [List.length_take]; omega), List.length_take, Nat.min_eq_left b3, Nat.sub_self]
      rfl
    · rw [if_neg e]
      by_cases c : k < p
      · rw [b6 k c, List.getElem?_append_left (by rw [List.length_take]; omega), List.getElem?_take, if_pos c, List.getD_eq_getElem?_getD]
      · rw [b7 k (by omega) (by omega), List.getElem?_append_right (by rw [List.length_take]; omega), List.length_take, Nat.min_eq_left b3, show k - p = (k - p - 1) + 1 by omega, List.getElem?_cons_succ, List.getElem?_drop, show p + (k - p - 1) = k - 1 by omega, List.getD_eq_getElem?_getD]
  · rw [List.pairwise_append]
    refine ⟨hs.sublist (List.take_sublist _ _), List.pairwise_cons.mpr ⟨hhigh, hs.sublist (List.drop_sublist _ _)⟩, fun x hx y hy => ?_⟩
    rcases List.mem_cons.mp hy with e | e
    · rw [e]; exact hlow x hx
    · have := hlow x hx
      have := hhigh y e
      omega
theorem orders_L66 {t u : List Nat} {n : Nat} (hn : n < 6) (ht : t ∈ pm n) (hu : u ∈ pm n) {σ : MS} (hR : RW σ u) (hT : TW σ t) (x2 x4 x5 : Int32) : ∀ (d k f : Nat), d < f → k + d = n → m_orders_L66 f σ x2 (iN n) x4 x5 (iN (num ((nm t u).take k))) (iN k) = some (iN (num (nm t u))) := by
  have hul := pm_len hu
  have htl := pm_len ht
  have hnl : (nm t u).length = n := by simp [nm, hul]
  intro d
  induction d with
  | zero =>
    intro k f hf hk
    obtain ⟨f, rfl⟩ : ∃ g, f = g + 1 := ⟨f - 1, by omega⟩
    rw [m_orders_L66, jlt (by omega) (by omega), if_neg (by omega), List.take_of_length_le (by omega)]
  | succ d ih =>
    intro k f hf hk
    obtain ⟨f, rfl⟩ : ∃ g, f = g + 1 := ⟨f - 1, by omega⟩
    have hm : u.getD k 0 ∈ u := by
      rw [List.getD_eq_getElem?_getD, List.getElem?_eq_getElem (by omega)]
      exact List.getElem_mem (show k < u.length by omega)
    have hb := (pm_mem hu).mp hm
    have e : (nm t u).getD k 0 = t.getD (u.getD k 0 - 1) 0 := by
      unfold nm
      rw [List.getD_eq_getElem?_getD, List.getElem?_map, List.getD_eq_getElem?_getD (l := u), List.getElem?_eq_getElem (show k < u.length by omega)]
      rfl
    rw [m_orders_L66, jlt (by omega) (by omega), if_pos (by omega), gA_av (by omega), hR.2.2 k (by omega), zl_1, iN_sub hb.1, if_pos ⟨by rw [iN_inb (by omega)]; omega, by rw [iN_inb (by omega)]; omega⟩, gA_av (by omega), hT _ (by omega), zl_10, iN_mul, iN_add, iN_add, ← e]
    have := ih (k + 1) f (by omega) (by omega)
    rw [take_snoc (by omega), num_app] at this
    exact this
theorem num_lt {n : Nat} (hn : n < 6) {l : List Nat} (h : l ∈ pm n) : num l < 100000 := by have := pm_le n hn l h; omega
theorem orders_L29 {Y : Yd} {n : Nat} (h1 : 1 ≤ n) (h5 : n ≤ 5) {t : List Nat} (ht : t ∈ pm n) (x2 : Int32) : ∀ (d r f : Nat) (σ : MS) (l : List Nat), d < f → r + d = fac n → FT σ Y n → TW σ t → (∀ u ∈ pm n, ∀ q, lf Y n u = some q → q ≤ 20) → LQ σ l → l.Pairwise (· < ·) → l.length ≤ r → (∀ v, v ∈ l ↔ ∃ q, q < r ∧ (lf Y n (ur n q)).isSome = true ∧ v = num (nm t (ur n q))) →
    ∃ τ l', m_orders_L29 f σ x2 (iN n) (iN l.length) (iN r) = some (τ, iN l'.length) ∧ FR [] [21, 23] [] σ τ ∧ LQ τ l' ∧ l'.length ≤ fac n ∧ l'.Pairwise (· < ·) ∧ (∀ v, v ∈ l' ↔ ∃ q, q < fac n ∧ (lf Y n (ur n q)).isSome = true ∧ v = num (nm t (ur n q))) := by
  intro d
  induction d with
  | zero =>
    intro r f σ l hf hr hF hT hq hL hs hll hm
    obtain ⟨f, rfl⟩ : ∃ g, f = g + 1 := ⟨f - 1, by omega⟩
    have hfc := (fac_le n (by omega)).2
    obtain rfl : r = fac n := by omega
    refine ⟨σ, l, ?_, FR_rf, hL, hll, hs, hm⟩
    rw [m_orders_L29, t_pow n (by omega)]
    simp only [Option.bind_some]
    rw [jlt (by omega) (by omega), if_neg (by omega)]
  | succ d ih =>
    intro r f σ l hf hr hF hT hq hL hs hll hm
    obtain ⟨f, rfl⟩ : ∃ g, f = g + 1 := ⟨f - 1, by omega⟩
    have hfc := (fac_le n (by omega)).2
    have hrf : r < fac n := by omega
    have hu := ur_mem (show n < 6 by omega) hrf
    have hin : inb (iN (120 * n + r)) 720 := by rw [iN_inb (by omega)]; omega
    have h18 : av σ 18 (120 * n + r) = rI (lf Y n (ur n r)) := by
      have := (hF.2 _ hu).1
      rwa [rk_ur (by omega) hrf] at this
    have hneg := rI_neg (lf Y n (ur n r)) (hq _ hu)
    by_cases c : (lf Y n (ur n r)).isSome = true
    · obtain ⟨τ1, a1, a2, a3⟩ := layRow_ok (show n < 6 by omega) hrf σ
      have hT1 := TW_fr hT a3 rfl
      have h66 := orders_L66 (show n < 6 by omega) ht hu a2 hT1 x2 (iN l.length) (iN r) n 0 N0 (by rw [N0_eq]; omega) (by omega)
      have hnm := nm_mem ht hu
      have hLS1 : LQ τ1 l := fun k hk => by rw [a3.2.1 23 (by decide)]; exact hL k hk
      have hb : ∀ x ∈ l, x < 100000 := by
        intro x hx
        obtain ⟨q, q1, q2, rfl⟩ := (hm x).mp hx
        exact num_lt (by omega) (nm_mem ht (ur_mem (by omega) (by omega)))
      have hvn : num (nm t (ur n r)) ∉ l := by
        intro h9
        obtain ⟨q, q1, q2, q3⟩ := (hm _).mp h9
        have hu2 := ur_mem (show n < 6 by omega) (show q < fac n by omega)
        have e1 := num_inj (show n < 6 by omega) (show n < 6 by omega) hnm (nm_mem ht hu2) q3
        have e2 : ur n r = ur n q := by rw [← rel_nm ht hu, e1, rel_nm ht hu2]
        have e3 := rk_ur (show n < 6 by omega) hrf
        rw [e2, rk_ur (by omega) (by omega)] at e3
        omega
      obtain ⟨τ2, l', b1, b2, b3, b4, b5, b6⟩ := insert_ok (show l.length < 120 by omega) hb (num_lt (by omega) hnm) hs hvn hLS1
      obtain ⟨τ, l2, c1, c2, c3, c4, c5, c6⟩ := ih (r + 1) f τ2 l' (by omega) (by omega) ⟨hF.1, fun u hu => by rw [b2.2.1 18 (by decide), b2.2.2 19 (by decide), a3.2.1 18 (by decide), a3.2.2 19 (by decide)]; exact hF.2 u hu⟩ (TW_fr hT1 b2 rfl) hq b3 b4 (by omega) (fun v => by
        rw [b5, hm]
        constructor
        · rintro (e | ⟨q, q1, q2, q3⟩)
          · exact ⟨r, by omega, c, e⟩
          · exact ⟨q, by omega, q2, q3⟩
        · rintro ⟨q, q1, q2, q3⟩
          by_cases e : q = r
          · rw [e] at q3; exact Or.inl q3
          · exact Or.inr ⟨q, by omega, q2, q3⟩)
      refine ⟨τ, l2, ?_, FR_tr (FR_mo a3 rfl rfl rfl) (FR_tr (FR_mo b2 rfl rfl rfl) c2), c3, c4, c5, c6⟩
      rw [m_orders_L29, t_pow n (by omega)]
      simp only [Option.bind_some]
      rw [jlt (by omega) (by omega), if_pos (by omega), zl_120, iN_mul, iN_add, if_pos hin, gA_av (by omega), h18, if_neg (fun h9 => by rw [hneg, c] at h9; cases h9), a1]
      simp only [Option.bind_some]
      rw [List.take_zero, show iN (num []) = 0 from rfl, z00] at h66
      rw [h66]
      simp only [Option.bind_some]
      rw [b1]
      simp only [Option.bind_some]
      rw [zl_1, iN_add, iN_add, ← b6]
      exact c1
    · have cf : (lf Y n (ur n r)).isSome = false := by cases hh : (lf Y n (ur n r)).isSome with | false => rfl | true => exact absurd hh c
      obtain ⟨τ, l2, c1, c2, c3, c4, c5, c6⟩ := ih (r + 1) f σ l (by omega) (by omega) hF hT hq hL hs (by omega) (fun v => by
        rw [hm]
        constructor
        · rintro ⟨q, q1, q2, q3⟩
          exact ⟨q, by omega, q2, q3⟩
        · rintro ⟨q, q1, q2, q3⟩
          refine ⟨q, ?_, q2, q3⟩
          rcases Nat.lt_or_ge q r with h9 | h9
          · exact h9
          · obtain rfl : q = r := by omega
            exact absurd q2 c)
      refine ⟨τ, l2, ?_, c2, c3, c4, c5, c6⟩
      rw [m_orders_L29, t_pow n (by omega)]
      simp only [Option.bind_some]
      rw [jlt (by omega) (by omega), if_pos (by omega), zl_120, iN_mul, iN_add, if_pos hin, gA_av (by omega), h18, if_pos (by rw [hneg]; exact cf), zl_1, iN_add]
      exact c1
noncomputable def s_orders (Y : Yd) (x k : Int32) : Int32 := match pr1 x with
  | none => -2
  | some (n, t) => match pck (ordL Y n t) 0 k with
    | some v => iN v
    | none => if k = -1 then iN (ordL Y n t).length else -6
theorem ordL_len (Y : Yd) {n : Nat} (hn : n < 6) (t : List Nat) : (ordL Y n t).length ≤ fac n := by
  unfold ordL
  rw [List.length_map]
  have := List.length_filter_le (okO Y n t) (List.range (fac n))
  rw [List.length_range] at this
  exact this
theorem r_orders {σ : MS} {A : AS} {c : Nat} (hc : c < 990000000) (h : RI σ A c) (x k : Int32) : ∃ τ, m_orders σ x k = some (s_orders (aY A) x k, τ) ∧ RI τ A (c + 1) := by
  rw [m_orders, m_wag]
  simp only [Option.bind_some]
  unfold s_orders
  cases hp : pr1 x with
  | none =>
    rw [pr1_none hp, if_pos z00]
    exact ⟨σ, rfl, RI_le h (by omega)⟩
  | some p =>
    obtain ⟨n, t⟩ := p
    obtain ⟨h1, h5, ht, rfl, hx⟩ := pr1_some hp
    have hfc := (fac_le n (by omega)).2
    rw [hx, if_neg (by rw [zl_0, iN_eq (by omega) (by omega)]; omega)]
    obtain ⟨τ1, a1, a2, a3, a4, a5⟩ := findAll_ok h.2.1 h1 h5 (by omega) h.2.2.2.2.2.2.2 h.2.2.2.2.2.2.1
    obtain ⟨τ2, b1, b2, b3⟩ := layTrain_ok (show n < 6 by omega) ht τ1
    have hF2 : FT τ2 (aY A) n := ⟨a5.1, fun u hu => by rw [b3.2.1 18 (by decide), b3.2.2 19 (by decide)]; exact a5.2 u hu⟩
    obtain ⟨τ3, l, c1, c2, c3, c4, c5, c6⟩ := orders_L29 h1 h5 ht k (fac n) 0 N0 τ2 [] (by rw [N0_eq]; omega) (by omega) hF2 b2 (fun u hu q hq => FT_le h.1.2.1 h5 a5 (pm_len hu) hq) (fun k hk => by simp at hk) List.Pairwise.nil (Nat.zero_le _) (fun v => ⟨fun h9 => by simp at h9, fun ⟨q, q1, _⟩ => by omega⟩)
    have hl : l = ordL (aY A) n t := srt_eq _ _ c5 (ordL_srt (by omega) t) (fun v => by rw [c6, ordL_mem (by omega) ht])
    have hR : RI τ3 A (c + 1) := RI_ok (RI_ok h a2 rfl a4 a3) (FR_tr (FR_mo b3 rfl rfl rfl) (FR_mo c2 rfl rfl rfl) : FR [] [21, 22, 23] [] τ1 τ3) rfl (FA_fr (FA_fr a4 b3 rfl) c2 rfl) (MKb_fr (MKb_fr a3 b3 rfl) c2 rfl)
    rw [a1]
    simp only [Option.bind_some]
    rw [b1]
    simp only [Option.bind_some]
    have c1' : m_orders_L29 N0 τ2 k (iN n) 0 0 = some (τ3, iN l.length) := c1
    rw [c1']
    simp only [Option.bind_some]
    rw [← hl]
    by_cases ck : k = -1
    · subst ck
      have hpk : pck l 0 (-1) = none := by rw [pck_get l 0 _ (by omega), if_neg (by decide)]
      rw [if_pos rfl, hpk]
      exact ⟨τ3, rfl, hR⟩
    · rw [if_neg ck, m_in_i, show (0 : Int64).toInt = 0 from rfl, Int32.toInt_toInt64]
      simp only [Option.bind_some, bI_0, decide_eq_false_iff_not]
      have hsub : (iN l.length - 1).toInt = (l.length : Int) - 1 := by
        have := rI_dec (some l.length)
        rcases Nat.eq_zero_or_pos l.length with e | e
        · rw [e]; rfl
        · rw [zl_1, iN_sub e, iN_toInt (by omega)]; omega
      rw [hsub]
      rcases i_cases k with ⟨j, hj, rfl⟩ | hneg
      · have hpk : pck l 0 (iN j) = l[j]? := by
          rw [pck_get l 0 _ (by omega), if_pos (by rw [iN_toInt hj]; omega)]
          simp [iN_nat hj]
        rw [iN_toInt hj, hpk]
        by_cases cj : j < l.length
        · rw [if_neg (show ¬ ¬ (0 ≤ (j : Int) ∧ (j : Int) ≤ (l.length : Int) - 1) by omega), if_pos (by rw [iN_inb (by omega)]; omega), gA_av (by omega), c3 j cj, List.getElem?_eq_getElem cj, List.getD_eq_getElem?_getD, List.getElem?_eq_getElem cj]
          exact ⟨τ3, rfl, hR⟩
        · rw [if_pos (show ¬ (0 ≤ (j : Int) ∧ (j : Int) ≤ (l.length : Int) - 1) by omega), List.getElem?_eq_none (by omega)]
          refine ⟨τ3, ?_, hR⟩
          simp only
          rw [if_neg ck]
      · have hpk : pck l 0 k = none := by rw [pck_get l 0 _ (by omega), if_neg (by omega)]
        rw [if_pos (show ¬ (0 ≤ k.toInt ∧ k.toInt ≤ (l.length : Int) - 1) by omega), hpk]
        refine ⟨τ3, ?_, hR⟩
        simp only
        rw [if_neg ck]
