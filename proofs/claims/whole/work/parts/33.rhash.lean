/-! THE REFERENCE: the table of ways to stand -/
theorem hs_ok (z : Int64) : ∃ h, h < 65536 ∧ Int64.toInt32 (z &&& 65535) = iN h := by
  have hb : (z &&& 65535).toBitVec.toNat ≤ 65535 := by
    rw [Int64.toBitVec_and, BitVec.toNat_and]
    exact Nat.and_le_right
  refine ⟨(z &&& 65535).toBitVec.toNat, by omega, ?_⟩
  apply Int32.toBitVec_inj.1
  show (z &&& 65535).toBitVec.signExtend 32 = BitVec.ofNat 32 _
  rw [BitVec.signExtend_eq_setWidth_of_le _ (by decide)]
  apply BitVec.eq_of_toNat_eq
  rw [BitVec.toNat_setWidth, BitVec.toNat_ofNat]
noncomputable def hsh (k : Nat) : Nat := Classical.choose (hs_ok ((((iN k).toInt64) * 2654435761) >>> ((8 : Int32).toInt64 &&& 63)))
theorem hsh_is (k : Nat) : hsh k < 65536 ∧ Int64.toInt32 (((((iN k).toInt64) * 2654435761) >>> ((8 : Int32).toInt64 &&& 63)) &&& 65535) = iN (hsh k) := Classical.choose_spec (hs_ok ((((iN k).toInt64) * 2654435761) >>> ((8 : Int32).toInt64 &&& 63)))
theorem nd_le {α : Type} [BEq α] [LawfulBEq α] : ∀ (l r : List α), l.Nodup → (∀ x ∈ l, x ∈ r) → l.length ≤ r.length := by
  intro l
  induction l with
  | nil => intro r _ _; exact Nat.zero_le _
  | cons x t ih =>
    intro r h1 h2
    have hx := h2 x List.mem_cons_self
    have h4 := List.nodup_cons.mp h1
    have := ih (r.erase x) h4.2 (fun y hy => (List.mem_erase_of_ne (fun (e : y = x) => h4.1 (by rw [← e]; exact hy))).mpr (h2 y (List.mem_cons_of_mem _ hy)))
    rw [List.length_erase_of_mem hx] at this
    have := List.length_pos_of_mem hx
    rw [List.length_cons]
    omega
theorem ex_least {p : Nat → Prop} (h : ∃ m, p m) : ∃ m, p m ∧ ∀ i, i < m → ¬ p i := by
  obtain ⟨m, hm⟩ := h
  have : ∀ m, p m → ∃ m, p m ∧ ∀ i, i < m → ¬ p i := by
    intro m
    induction m using Nat.strongRecOn with
    | ind m ih =>
      intro hm
      by_cases c : ∃ i, i < m ∧ p i
      · obtain ⟨i, hi, hp⟩ := c
        exact ih i hi hp
      · exact ⟨m, hm, fun i hi hp => c ⟨i, hi, hp⟩⟩
  exact this m hm
def TB (σ : MS) (Y : Yd) (n mk : Nat) (SP : List (Nat × Ps)) (s : Sl) : Prop :=
  gI σ 23 = iN mk ∧ mk < 1073741824 ∧ gI σ 22 = iN SP.length ∧ (SP.map (·.1)).Nodup ∧
  (∀ a, a < 65536 → (av σ 13 a = iN mk ↔ a ∈ SP.map (·.1)) ∧ ∃ v, v ≤ mk ∧ av σ 13 a = iN v) ∧
  (∀ i e, SP[i]? = some e → av σ 16 i = iN e.1) ∧
  (∀ e ∈ SP, e.1 < 65536 ∧ av σ 12 e.1 = iN (key (yM Y) e.2) ∧ av σ 14 e.1 = iN (s.2.1 e.2) ∧ wv σ 15 e.1 = s.2.2 e.2 ∧ ∃ d, e.1 = (hsh (key (yM Y) e.2) + d) % 65536 ∧ ∀ j, j < d → (hsh (key (yM Y) e.2) + j) % 65536 ∈ SP.map (·.1)) ∧
  (∀ T, s.1 T ↔ T ∈ SP.map (·.2)) ∧ (SP.map (·.2)).Nodup ∧ (∀ T, s.1 T → VP Y n T ∧ s.2.1 T < 1000)
theorem TB_fr {ks as ls : List Nat} {σ τ : MS} {Y : Yd} {n mk : Nat} {SP : List (Nat × Ps)} {s : Sl} (h : TB σ Y n mk SP s) (f : FR ks as ls σ τ) (h1 : (ks.contains 23 || ks.contains 22 || as.contains 12 || as.contains 13 || as.contains 14 || as.contains 16 || ls.contains 15) = false) : TB τ Y n mk SP s := by
  simp only [Bool.or_eq_false_iff, List.contains_eq_mem, decide_eq_false_iff_not] at h1
  obtain ⟨⟨⟨⟨⟨⟨a1, a2⟩, a3⟩, a4⟩, a5⟩, a6⟩, a7⟩ := h1
  obtain ⟨b1, b2, b3, b4, b5, b6, b7, b8⟩ := h
  refine ⟨by rw [f.1 23 a1, b1], b2, by rw [f.1 22 a2, b3], b4, fun a ha => by rw [f.2.1 13 a4]; exact b5 a ha, fun i e he => by rw [f.2.1 16 a6]; exact b6 i e he, fun e he => ?_, b8⟩
  rw [f.2.1 12 a3, f.2.1 14 a5, f.2.2 15 a7]
  exact b7 e he
noncomputable def ixs (Y : Yd) (n : Nat) (l : List Ps) : List Nat := l.map (ix (yM Y) n)
theorem ixs_nd {Y : Yd} (hY : VY Y) {n : Nat} : ∀ (l : List Ps), l.Nodup → (∀ T ∈ l, VP Y n T) → (ixs Y n l).Nodup := by
  intro l h hv
  unfold ixs List.Nodup
  rw [List.pairwise_map]
  unfold List.Nodup at h
  exact h.imp_of_mem (fun ha hb hne e => hne (ix_inj hY (hv _ ha) (hv _ hb) e))
theorem VP_many {Y : Yd} (hY : VY Y) {n : Nat} (hn : n ≤ 5) {l : List Ps} (h : l.Nodup) (hv : ∀ T ∈ l, VP Y n T) : l.length ≤ 17046 := by
  have h1 := nd_le (ixs Y n l) (List.range 17046) (ixs_nd hY l h hv) (fun x hx => by
    obtain ⟨T, hT, rfl⟩ := List.mem_map.mp hx
    exact List.mem_range.mpr (ix_bd hY hn (hv T hT)).2)
  simpa [ixs] using h1
theorem TB_len {σ : MS} {Y : Yd} (hY : VY Y) {n mk : Nat} (hn : n ≤ 5) {SP : List (Nat × Ps)} {s : Sl} (h : TB σ Y n mk SP s) : SP.length ≤ 17046 := by
  obtain ⟨b1, b2, b3, b4, b5, b6, b7, b8, b9, b10⟩ := h
  have := VP_many hY hn b9 (fun T hT => (b10 T ((b8 T).mpr hT)).1)
  simpa using this
def stp (SP : List (Nat × Ps)) (T : Ps) (a : Nat) : Prop := a ∉ SP.map (·.1) ∨ (a, T) ∈ SP
theorem slotOf_L15 {σ : MS} {Y : Yd} (hY : VY Y) {n mk : Nat} (hn : n ≤ 5) {SP : List (Nat × Ps)} {s : Sl} (h : TB σ Y n mk SP s) {T : Ps} (hT : VP Y n T) (h0 : Nat) : ∀ (d j f : Nat), d < f → stp SP T ((h0 + (j + d)) % 65536) → (∀ i, j ≤ i → i < j + d → ¬ stp SP T ((h0 + i) % 65536)) → m_slotOf_L15 f σ (iN (key (yM Y) T)) (iN ((h0 + j) % 65536)) = some (iN ((h0 + (j + d)) % 65536)) := by
  obtain ⟨b1, b2, b3, b4, b5, b6, b7, b8, b9, b10⟩ := h
  have hk := key_bd hY hn hT
  have hm : ∀ a, a < 65536 → ((gA σ 13 (iN a) = gI σ 23) ↔ (a ∈ SP.map (·.1))) := by
    intro a ha
    rw [gA_av (by omega), b1]
    exact (b5 a ha).1
  intro d
  induction d with
  | zero =>
    intro j f hf hs _
    obtain ⟨f, rfl⟩ : ∃ g, f = g + 1 := ⟨f - 1, by omega⟩
    rw [Nat.add_zero] at hs ⊢
    have ha : (h0 + j) % 65536 < 65536 := Nat.mod_lt _ (by omega)
    generalize (h0 + j) % 65536 = a at *
    have hin : inb (iN a) 65536 := by rw [iN_inb (by omega)]; exact ha
    rw [m_slotOf_L15, if_pos hin, if_pos hin]
    rcases hs with hs | hs
    · rw [if_neg (fun h9 => hs ((hm a ha).mp h9))]
    · rw [if_pos ((hm a ha).mpr (List.mem_map_of_mem (f := (·.1)) hs)), gA_av (by omega), (b7 _ hs).2.1, if_pos rfl]
  | succ d ih =>
    intro j f hf hs hno
    obtain ⟨f, rfl⟩ : ∃ g, f = g + 1 := ⟨f - 1, by omega⟩
    have hj := hno j (Nat.le_refl _) (by omega)
    have ha : (h0 + j) % 65536 < 65536 := Nat.mod_lt _ (by omega)
    have e1 : (h0 + (j + 1)) % 65536 = ((h0 + j) % 65536 + 1) % 65536 := by omega
    have := ih (j + 1) f (by omega) (by rw [show j + 1 + d = j + (d + 1) by omega]; exact hs) (fun i hi1 hi2 => hno i (by omega) (by omega))
    rw [show j + 1 + d = j + (d + 1) by omega] at this
    rw [e1] at this
    generalize (h0 + j) % 65536 = a at *
    have hin : inb (iN a) 65536 := by rw [iN_inb (by omega)]; exact ha
    unfold stp at hj
    have hj1 : a ∈ SP.map (·.1) := Classical.not_not.mp (fun h => hj (Or.inl h))
    obtain ⟨e, he, hea⟩ := List.mem_map.mp hj1
    have hne : e.2 ≠ T := by
      intro h9
      apply hj
      right
      rw [← hea, ← h9]
      exact he
    have hve := (b10 e.2 ((b8 _).mpr (List.mem_map_of_mem (f := (·.2)) he))).1
    have hke := key_bd hY hn hve
    have e12 := (b7 e he).2.1
    rw [hea] at e12
    rw [m_slotOf_L15, if_pos hin, if_pos hin, if_pos ((hm a ha).mpr hj1), gA_av (by omega), e12, jeq (by omega) (by omega), if_neg (fun h9 => hne (key_inj hY hn hve hT h9))]
    have e2 : (iN a + 1) &&& 65535 = iN ((a + 1) % 65536) := by
      rw [zl_1, zl_65535, iN_add, iN_and]
      congr 1
      exact Nat.and_two_pow_sub_one_eq_mod (a + 1) 16
    rw [e2]
    exact this
theorem slotOf_ok {σ : MS} {Y : Yd} (hY : VY Y) {n mk : Nat} (hn : n ≤ 5) {SP : List (Nat × Ps)} {s : Sl} (h : TB σ Y n mk SP s) {T : Ps} (hT : VP Y n T) :
    ∃ a, m_slotOf σ (iN (key (yM Y) T)) = some (iN a) ∧ a < 65536 ∧ ((a, T) ∈ SP ∨ (T ∉ SP.map (·.2) ∧ a ∉ SP.map (·.1) ∧ ∃ d, a = (hsh (key (yM Y) T) + d) % 65536 ∧ ∀ j, j < d → (hsh (key (yM Y) T) + j) % 65536 ∈ SP.map (·.1))) := by
  have hlen := TB_len hY hn h
  obtain ⟨hh, hhe⟩ := hsh_is (key (yM Y) T)
  have hex : ∃ j, j < 65536 ∧ stp SP T ((hsh (key (yM Y) T) + j) % 65536) := by
    apply Classical.byContradiction
    intro hno
    have h1 := nd_le ((List.range 32768).map (fun j => (hsh (key (yM Y) T) + j) % 65536)) (SP.map (·.1)) (by
      unfold List.Nodup
      rw [List.pairwise_map]
      have := (List.pairwise_lt_range (n := 32768))
      refine this.imp_of_mem (fun {a b} ha hb hab he => ?_)
      have := List.mem_range.mp ha
      have := List.mem_range.mp hb
      omega) (fun x hx => by
      obtain ⟨j, hj, rfl⟩ := List.mem_map.mp hx
      have := List.mem_range.mp hj
      apply Classical.byContradiction
      intro h9
      exact hno ⟨j, by omega, Or.inl h9⟩)
    simp at h1
    omega
  obtain ⟨j, ⟨hj1, hj2⟩, hj3⟩ := ex_least hex
  have hmin : ∀ i, i < j → ¬ stp SP T ((hsh (key (yM Y) T) + i) % 65536) := fun i hi h9 => hj3 i hi ⟨by omega, h9⟩
  have hl := slotOf_L15 hY hn h hT (hsh (key (yM Y) T)) j 0 N0 (by rw [N0_eq]; omega) (by rw [Nat.zero_add]; exact hj2) (fun i _ hi => hmin i (by omega))
  rw [Nat.zero_add, Nat.add_zero, Nat.mod_eq_of_lt hh] at hl
  refine ⟨(hsh (key (yM Y) T) + j) % 65536, ?_, Nat.mod_lt _ (by omega), ?_⟩
  · rw [m_slotOf, hhe, hl]
    rfl
  · have hall : ∀ i, i < j → (hsh (key (yM Y) T) + i) % 65536 ∈ SP.map (·.1) := fun i hi => Classical.not_not.mp (fun h9 => hmin i hi (Or.inl h9))
    by_cases c : (hsh (key (yM Y) T) + j) % 65536 ∈ SP.map (·.1)
    · rcases hj2 with hj2 | hj2
      · exact absurd c hj2
      · exact Or.inl hj2
    · refine Or.inr ⟨fun hin => ?_, c, j, rfl, hall⟩
      obtain ⟨e, he, heT⟩ := List.mem_map.mp hin
      have heT : e.2 = T := heT
      obtain ⟨_, _, _, _, d, hd1, hd2⟩ := h.2.2.2.2.2.2.1 e he
      rw [heT] at hd1 hd2
      rcases Nat.lt_trichotomy d j with h9 | h9 | h9
      · refine hmin d h9 (Or.inr ?_)
        rw [← hd1, ← heT]
        exact he
      · rw [← h9, ← hd1] at c
        exact c (List.mem_map_of_mem (f := (·.1)) he)
      · exact c (hd2 j h9)
noncomputable def cme (s : Sl) (T : Ps) (f : Nat) (w : Int64) : Sl := (fun Q => s.1 Q ∨ Q = T, fun Q => if isB (Q = T ∧ ¬ s.1 T) then f else s.2.1 Q, fun Q => if isB (Q = T) then (if isB (s.1 T) then (if s.2.1 T = f then s.2.2 T + w else s.2.2 T) else w) else s.2.2 Q)
theorem cme_o {s : Sl} {T Q : Ps} {f : Nat} {w : Int64} (h : Q ≠ T) : (cme s T f w).2.1 Q = s.2.1 Q ∧ (cme s T f w).2.2 Q = s.2.2 Q := by
  unfold cme
  simp only
  rw [if_neg (fun h9 => h (isB_t.mp h9).1), if_neg (fun h9 => h (isB_t.mp h9))]
  exact ⟨rfl, rfl⟩
theorem cme_n {s : Sl} {T : Ps} {f : Nat} {w : Int64} (h : ¬ s.1 T) : (cme s T f w).2.1 T = f ∧ (cme s T f w).2.2 T = w := by
  unfold cme
  simp only
  rw [if_pos (isB_t.mpr ⟨trivial, h⟩), if_pos (isB_t.mpr trivial), if_neg (fun h9 => h (isB_t.mp h9))]
  exact ⟨rfl, rfl⟩
theorem cme_i {s : Sl} {T : Ps} {f : Nat} {w : Int64} (h : s.1 T) : (cme s T f w).2.1 T = s.2.1 T ∧ (cme s T f w).2.2 T = if s.2.1 T = f then s.2.2 T + w else s.2.2 T := by
  unfold cme
  simp only
  rw [if_neg (fun h9 => (isB_t.mp h9).2 h), if_pos (isB_t.mpr trivial), if_pos (isB_t.mpr h)]
  exact ⟨rfl, rfl⟩
theorem nd_inj1 {SP : List (Nat × Ps)} (h : (SP.map (·.1)).Nodup) {e g : Nat × Ps} (he : e ∈ SP) (hg : g ∈ SP) (hx : e.1 = g.1) : e = g := by
  induction SP with
  | nil => cases he
  | cons x t ih =>
    rw [List.map_cons, List.nodup_cons] at h
    rcases List.mem_cons.mp he with h1 | h1
    · rcases List.mem_cons.mp hg with h2 | h2
      · rw [h1, h2]
      · exact absurd (List.mem_map_of_mem (f := (·.1)) h2) (by rw [← hx, h1]; exact h.1)
    · rcases List.mem_cons.mp hg with h2 | h2
      · exact absurd (List.mem_map_of_mem (f := (·.1)) h1) (by rw [hx, h2]; exact h.1)
      · exact ih h.2 h1 h2
theorem nd_inj2 {SP : List (Nat × Ps)} (h : (SP.map (·.2)).Nodup) {e g : Nat × Ps} (he : e ∈ SP) (hg : g ∈ SP) (hx : e.2 = g.2) : e = g := by
  induction SP with
  | nil => cases he
  | cons x t ih =>
    rw [List.map_cons, List.nodup_cons] at h
    rcases List.mem_cons.mp he with h1 | h1
    · rcases List.mem_cons.mp hg with h2 | h2
      · rw [h1, h2]
      · exact absurd (List.mem_map_of_mem (f := (·.2)) h2) (by rw [← hx, h1]; exact h.1)
    · rcases List.mem_cons.mp hg with h2 | h2
      · exact absurd (List.mem_map_of_mem (f := (·.2)) h1) (by rw [hx, h2]; exact h.1)
      · exact ih h.2 h1 h2
theorem come_J77 {σ : MS} {Y : Yd} (hY : VY Y) {n mk : Nat} (hn : n ≤ 5) {SP : List (Nat × Ps)} {s : Sl} (h : TB σ Y n mk SP s) {T : Ps} {a f : Nat} (hin : (a, T) ∈ SP) (hf : f < 1000) (w : Int64) :
    ∃ τ, m_come_J77 σ (iN f) w (iN a) = some τ ∧ TB τ Y n mk SP (cme s T f w) ∧ FR [] [] [15] σ τ := by
  obtain ⟨b1, b2, b3, b4, b5, b6, b7, b8, b9, b10⟩ := h
  have ha := b7 _ hin
  have hsT : s.1 T := (b8 T).mpr (List.mem_map_of_mem (f := (·.2)) hin)
  have hvT := b10 T hsT
  have hi : inb (iN a) 65536 := by rw [iN_inb (by have := ha.1; simp only at this; omega)]; exact ha.1
  have ha1 : a < 65536 := ha.1
  refine ⟨sL σ 15 (iN a) (if s.2.1 T = f then s.2.2 T + w else s.2.2 T), ?_, ⟨by rw [gI_sL, b1], b2, by rw [gI_sL, b3], b4, fun c hc => by rw [av_sL]; exact b5 c hc, fun i e he => by rw [av_sL]; exact b6 i e he, fun e he => ?_, fun Q => ?_, b9, fun Q hQ => ?_⟩, FR_sL (by decide)⟩
  · rw [m_come_J77, if_pos ⟨hi, hi⟩, gA_av (by omega), ha.2.2.1, jeq (by simp only; omega) (by omega), gL_wv (by omega), ha.2.2.2.1, if_pos hi, if_pos hi]
    simp only
    by_cases c : s.2.1 T = f
    · rw [if_pos c, if_pos c]
    · rw [if_neg c, if_neg c, Int64.add_zero]
  · have h7 := b7 e he
    rw [av_sL, av_sL, wv_sL (by omega), if_pos rfl]
    refine ⟨h7.1, h7.2.1, ?_, ?_, h7.2.2.2.2⟩
    · by_cases c : e.2 = T
      · rw [c, (cme_i hsT).1, ← c]; exact h7.2.2.1
      · rw [(cme_o c).1]; exact h7.2.2.1
    · by_cases c : e.1 = a
      · have := nd_inj1 b4 he hin c
        rw [if_pos c, this, (cme_i hsT).2]
      · have c2 : e.2 ≠ T := fun h9 => c (by rw [nd_inj2 b9 he hin h9])
        rw [if_neg c, (cme_o c2).2]; exact h7.2.2.2.1
  · rw [← b8]
    exact ⟨fun h9 => h9.elim id (fun e => by rw [e]; exact hsT), Or.inl⟩
  · by_cases c : Q = T
    · rw [c, (cme_i hsT).1]; exact hvT
    · rw [(cme_o c).1]
      exact b10 Q (hQ.elim id (fun e => absurd e c))
theorem cme_cme {s : Sl} {T : Ps} {f : Nat} {w : Int64} (h : ¬ s.1 T) : cme (cme s T f 0) T f w = cme s T f w := by
  have h1 : (cme s T f 0).1 T := Or.inr rfl
  have e1 : (cme (cme s T f 0) T f w).1 = (cme s T f w).1 := by
    funext Q
    show ((s.1 Q ∨ Q = T) ∨ Q = T) = (s.1 Q ∨ Q = T)
    rw [or_assoc, or_self]
  have e2 : (cme (cme s T f 0) T f w).2.1 = (cme s T f w).2.1 := by
    funext Q
    by_cases c : Q = T
    · rw [c, (cme_i h1).1, (cme_n h).1, (cme_n h).1]
    · rw [(cme_o c).1, (cme_o c).1, (cme_o c).1]
  have e3 : (cme (cme s T f 0) T f w).2.2 = (cme s T f w).2.2 := by
    funext Q
    by_cases c : Q = T
    · rw [c, (cme_i h1).2, (cme_n h).1, (cme_n h).2, (cme_n h).2, if_pos rfl, Int64.zero_add]
    · rw [(cme_o c).2, (cme_o c).2, (cme_o c).2]
  exact Prod.ext e1 (Prod.ext e2 e3)
theorem come_ok {σ : MS} {Y : Yd} (hY : VY Y) {n mk : Nat} (hn : n ≤ 5) {SP : List (Nat × Ps)} {s : Sl} (h : TB σ Y n mk SP s) {T : Ps} (hT : VP Y n T) {f : Nat} (hf : f < 1000) (w : Int64) :
    ∃ τ SP', m_come σ (iN (key (yM Y) T)) (iN f) w = some τ ∧ TB τ Y n mk SP' (cme s T f w) ∧ FR [22] [12, 13, 14, 16] [15] σ τ ∧ ((SP' = SP ∧ s.1 T) ∨ (¬ s.1 T ∧ ∃ a, SP' = SP ++ [(a, T)])) := by
  have hlen := TB_len hY hn h
  obtain ⟨a, h1, h2, h3⟩ := slotOf_ok hY hn h hT
  have hi : inb (iN a) 65536 := by rw [iN_inb (by omega)]; exact h2
  obtain ⟨b1, b2, b3, b4, b5, b6, b7, b8, b9, b10⟩ := id h
  rcases h3 with h3 | ⟨h3, h4, h5⟩
  · obtain ⟨τ, t1, t2, t3⟩ := come_J77 hY hn h h3 hf w
    refine ⟨τ, SP, ?_, t2, FR_mo t3 rfl rfl rfl, Or.inl ⟨rfl, (b8 T).mpr (List.mem_map_of_mem (f := (·.2)) h3)⟩⟩
    rw [m_come, h1]
    simp only [Option.bind_some]
    rw [if_pos hi, gA_av (by omega), b1, if_pos ((b5 a h2).1.mpr (List.mem_map_of_mem (f := (·.1)) h3))]
    exact t1
  · have hsT : ¬ s.1 T := fun h9 => h3 ((b8 T).mp h9)
    have hkT := key_bd hY hn hT
    let υ := (sI (sA (sL (sA (sA (sA σ 13 (iN a) (iN mk)) 12 (iN a) (iN (key (yM Y) T))) 14 (iN a) (iN f)) 15 (iN a) 0) 16 (iN SP.length) (iN a)) 22 (iN (SP.length + 1)))
    have e13 : ∀ c, av υ 13 c = if c = a then iN mk else av σ 13 c := by
      intro c; simp (disch := omega) only [υ, gA_av, gL_wv, gI_sI, gI_sA, gI_sL, av_sA, av_sI, av_sL, wv_sL, wv_sI, wv_sA, Nat.reduceEqDiff, if_true, if_false]
    have e12 : ∀ c, av υ 12 c = if c = a then iN (key (yM Y) T) else av σ 12 c := by
      intro c; simp (disch := omega) only [υ, gA_av, gL_wv, gI_sI, gI_sA, gI_sL, av_sA, av_sI, av_sL, wv_sL, wv_sI, wv_sA, Nat.reduceEqDiff, if_true, if_false]
    have e14 : ∀ c, av υ 14 c = if c = a then iN f else av σ 14 c := by
      intro c; simp (disch := omega) only [υ, gA_av, gL_wv, gI_sI, gI_sA, gI_sL, av_sA, av_sI, av_sL, wv_sL, wv_sI, wv_sA, Nat.reduceEqDiff, if_true, if_false]
    have e16 : ∀ c, av υ 16 c = if c = SP.length then iN a else av σ 16 c := by
      intro c; simp (disch := omega) only [υ, gA_av, gL_wv, gI_sI, gI_sA, gI_sL, av_sA, av_sI, av_sL, wv_sL, wv_sI, wv_sA, Nat.reduceEqDiff, if_true, if_false]
    have e15 : ∀ c, wv υ 15 c = if c = a then 0 else wv σ 15 c := by
      intro c; simp (disch := omega) only [υ, gA_av, gL_wv, gI_sI, gI_sA, gI_sL, av_sA, av_sI, av_sL, wv_sL, wv_sI, wv_sA, Nat.reduceEqDiff, if_true, if_false]
    have g23 : gI υ 23 = iN mk := by simp (disch := omega) only [υ, gA_av, gL_wv, gI_sI, gI_sA, gI_sL, av_sA, av_sI, av_sL, wv_sL, wv_sI, wv_sA, Nat.reduceEqDiff, if_true, if_false]; exact b1
    have g22 : gI υ 22 = iN (SP.length + 1) := by simp (disch := omega) only [υ, gA_av, gL_wv, gI_sI, gI_sA, gI_sL, av_sA, av_sI, av_sL, wv_sL, wv_sI, wv_sA, Nat.reduceEqDiff, if_true, if_false]
    have fr : FR [22] [12, 13, 14, 16] [15] σ υ := FR_tr (FR_sA (by decide)) (FR_tr (FR_sA (by decide)) (FR_tr (FR_sA (by decide)) (FR_tr (FR_sL (by decide)) (FR_tr (FR_sA (by decide)) (FR_sI (by decide))))))
    have hm1 : (SP ++ [(a, T)]).map (·.1) = SP.map (·.1) ++ [a] := by simp
    have hm2 : (SP ++ [(a, T)]).map (·.2) = SP.map (·.2) ++ [T] := by simp
    have hT1 : TB υ Y n mk (SP ++ [(a, T)]) (cme s T f 0) := by
      refine ⟨g23, b2, by rw [g22]; simp, ?_, fun c hc => ?_, fun i e he => ?_, fun e he => ?_, fun Q => ?_, ?_, fun Q hQ => ?_⟩
      · rw [hm1, List.nodup_append]
        refine ⟨b4, by simp, fun x hx y hy => ?_⟩
        rw [List.mem_singleton] at hy
        intro h9; rw [h9, hy] at hx; exact h4 hx
      · rw [e13, hm1, List.mem_append, List.mem_singleton, ← (b5 c hc).1]
        by_cases h9 : c = a
        · rw [if_pos h9]; exact ⟨⟨fun _ => Or.inr h9, fun _ => rfl⟩, mk, Nat.le_refl _, rfl⟩
        · rw [if_neg h9]; exact ⟨⟨Or.inl, fun h8 => h8.elim id (fun h7 => absurd h7 h9)⟩, (b5 c hc).2⟩
      · rw [e16]
        by_cases h9 : i = SP.length
        · rw [if_pos h9]
          rw [h9, List.getElem?_append_right (Nat.le_refl _), Nat.sub_self] at he
          simp at he; rw [← he]
        · rw [if_neg h9]
          have hlt : i < SP.length := by
            have := (List.getElem?_eq_some_iff.mp he).1
            rw [List.length_append] at this
            simp at this
            omega
          rw [List.getElem?_append_left hlt] at he
          exact b6 i e he
      · rcases List.mem_append.mp he with he | he
        · have h7 := b7 e he
          have hea : e.1 ≠ a := fun h9 => h4 (by rw [← h9]; exact List.mem_map_of_mem (f := (·.1)) he)
          have heT : e.2 ≠ T := fun h9 => h3 (by rw [← h9]; exact List.mem_map_of_mem (f := (·.2)) he)
          rw [e12, e14, e15, if_neg hea, if_neg hea, if_neg hea, (cme_o heT).1, (cme_o heT).2]
          refine ⟨h7.1, h7.2.1, h7.2.2.1, h7.2.2.2.1, ?_⟩
          obtain ⟨d, d1, d2⟩ := h7.2.2.2.2
          exact ⟨d, d1, fun j hj => by rw [hm1]; exact List.mem_append_left _ (d2 j hj)⟩
        · rw [List.mem_singleton] at he
          subst he
          simp only
          rw [e12, e14, e15, if_pos rfl, if_pos rfl, if_pos rfl, (cme_n hsT).1, (cme_n hsT).2]
          refine ⟨h2, rfl, rfl, rfl, ?_⟩
          obtain ⟨d, d1, d2⟩ := h5
          exact ⟨d, d1, fun j hj => by rw [hm1]; exact List.mem_append_left _ (d2 j hj)⟩
      · rw [hm2, List.mem_append, List.mem_singleton, ← b8]
        exact Iff.rfl
      · rw [hm2, List.nodup_append]
        refine ⟨b9, by simp, fun x hx y hy => ?_⟩
        rw [List.mem_singleton] at hy
        intro h9; rw [h9, hy] at hx; exact h3 hx
      · by_cases c : Q = T
        · rw [c, (cme_n hsT).1]; exact ⟨hT, hf⟩
        · rw [(cme_o c).1]
          exact b10 Q (hQ.elim id (fun e => absurd e c))
    obtain ⟨τ, t1, t2, t3⟩ := come_J77 hY hn hT1 (show (a, T) ∈ SP ++ [(a, T)] by simp) hf w
    rw [cme_cme hsT] at t2
    refine ⟨τ, SP ++ [(a, T)], ?_, t2, FR_tr fr (FR_mo t3 rfl rfl rfl), Or.inr ⟨hsT, a, rfl⟩⟩
    rw [m_come, h1]
    simp only [Option.bind_some]
    rw [if_pos hi, gA_av (by omega), b1, if_neg (fun h9 => h4 ((b5 a h2).1.mp h9)), b3, if_pos ⟨hi, hi, hi, hi, by rw [iN_inb (by omega)]; omega⟩, zl_1, iN_add]
    exact t1
