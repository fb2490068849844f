/-! TABLES of ways to stand, MOVE after MOVE -/
noncomputable def wD (Y : Yd) (s : Sl) (dn : Ps → Nat → Prop) (T : Ps) : Int64 := sumL (mvs Y) (fun m => if isB (dn (un T m) m ∧ isP Y T m ∧ s.2.1 (un T m) + 1 = s.2.1 T) then s.2.2 (un T m) else 0)
def GI (Y : Yd) (n : Nat) (P0 : Ps) (L : Ps → List Nat) (s : Sl) (dn : Ps → Nat → Prop) : Prop :=
  s.1 P0 ∧ s.2.1 P0 = 0 ∧ s.2.2 P0 = 1 ∧
  (∀ T, s.1 T → VP Y n T ∧ lv Y P0 ≤ lv Y T) ∧
  (∀ T, s.1 T → T ≠ P0 → ∃ H m, dn H m ∧ mv H m = T ∧ s.2.1 T = s.2.1 H + 1) ∧
  (∀ H m, dn H m → s.1 H ∧ m ∈ L H ∧ s.1 (mv H m) ∧ s.2.1 (mv H m) ≤ s.2.1 H + 1) ∧
  (∀ T, s.1 T → T ≠ P0 → s.2.2 T = wD Y s dn T)
noncomputable def rlx (s : Sl) (T : Ps) (f : Nat) (w : Int64) : Sl := (fun Q => s.1 Q ∨ Q = T, fun Q => if isB (Q = T) then (if isB (s.1 T) then (if f < s.2.1 T then f else s.2.1 T) else f) else s.2.1 Q, fun Q => if isB (Q = T) then (if isB (s.1 T) then (if f < s.2.1 T then w else if f = s.2.1 T then s.2.2 T + w else s.2.2 T) else w) else s.2.2 Q)
theorem rlx_o {s : Sl} {T Q : Ps} {f : Nat} {w : Int64} (h : Q ≠ T) : (rlx s T f w).2.1 Q = s.2.1 Q ∧ (rlx s T f w).2.2 Q = s.2.2 Q := by
  unfold rlx
  simp only
  rw [if_neg (fun h9 => h (isB_t.mp h9)), if_neg (fun h9 => h (isB_t.mp h9))]
  exact ⟨rfl, rfl⟩
theorem rlx_n {s : Sl} {T : Ps} {f : Nat} {w : Int64} (h : ¬ s.1 T) : (rlx s T f w).2.1 T = f ∧ (rlx s T f w).2.2 T = w := by
  unfold rlx
  simp only
  rw [if_pos (isB_t.mpr trivial), if_neg (fun h9 => h (isB_t.mp h9)), if_pos (isB_t.mpr trivial), if_neg (fun h9 => h (isB_t.mp h9))]
  exact ⟨rfl, rfl⟩
theorem rlx_i {s : Sl} {T : Ps} {f : Nat} {w : Int64} (h : s.1 T) : (rlx s T f w).2.1 T = (if f < s.2.1 T then f else s.2.1 T) ∧ (rlx s T f w).2.2 T = if f < s.2.1 T then w else if f = s.2.1 T then s.2.2 T + w else s.2.2 T := by
  unfold rlx
  simp only
  rw [if_pos (isB_t.mpr trivial), if_pos (isB_t.mpr h), if_pos (isB_t.mpr trivial), if_pos (isB_t.mpr h)]
  exact ⟨rfl, rfl⟩
theorem sumL_zero (l : List Nat) : sumL l (fun _ => 0) = 0 := by
  induction l with
  | nil => rfl
  | cons x t ih => rw [sumL_cons, ih]; rfl
theorem isP_ne {Y : Yd} (hY : VY Y) {T : Ps} {m : Nat} (h : isP Y T m) : lv Y (un T m) < lv Y T := by
  have h5 := (mem_oks hY).mp h.1
  have h6 := lv_mv hY h5.1 h5.2
  rwa [h.2] at h6
theorem GI_skip {Y : Yd} (hY : VY Y) {n : Nat} {P0 : Ps} {L : Ps → List Nat} (hL : ∀ P m, m ∈ L P → m ∈ oks Y P) {s : Sl} {dn : Ps → Nat → Prop} (h : GI Y n P0 L s dn) {P : Ps} {m : Nat} (hP : s.1 P) (hm : m ∈ L P) (hT : s.1 (mv P m)) (hf : s.2.1 (mv P m) < s.2.1 P + 1) : GI Y n P0 L s (fun H k => dn H k ∨ (H = P ∧ k = m)) := by
  obtain ⟨g1, g2, g3, g4, g5, g6, g7⟩ := h
  refine ⟨g1, g2, g3, g4, fun T a b => ?_, fun H k hd => ?_, fun T a b => ?_⟩
  · obtain ⟨H, k, x, y⟩ := g5 T a b
    exact ⟨H, k, Or.inl x, y⟩
  · rcases hd with hd | ⟨rfl, rfl⟩
    · exact g6 H k hd
    · exact ⟨hP, hm, hT, Nat.le_of_lt hf⟩
  · rw [g7 T a b]
    unfold wD
    apply sumL_congr
    intro k _
    have e : (dn (un T k) k ∧ isP Y T k ∧ s.2.1 (un T k) + 1 = s.2.1 T) = ((dn (un T k) k ∨ un T k = P ∧ k = m) ∧ isP Y T k ∧ s.2.1 (un T k) + 1 = s.2.1 T) := by
      apply propext
      constructor
      · rintro ⟨x, y⟩; exact ⟨Or.inl x, y⟩
      · rintro ⟨x | ⟨x1, x2⟩, y, z⟩
        · exact ⟨x, y, z⟩
        · exfalso
          have hTm : mv P m = T := by rw [← x1, ← x2]; exact y.2
          rw [x1] at z
          rw [hTm] at hf
          omega
    rw [e]
theorem GI_step {Y : Yd} (hY : VY Y) {n : Nat} {P0 : Ps} {L : Ps → List Nat} (hL : ∀ P m, m ∈ L P → m ∈ oks Y P) {s : Sl} {dn : Ps → Nat → Prop} (h : GI Y n P0 L s dn) {P : Ps} {m : Nat} (hP : s.1 P) (hm : m ∈ L P) (hd : ¬ dn P m) (hT : ∀ k, ¬ dn (mv P m) k) : GI Y n P0 L (rlx s (mv P m) (s.2.1 P + 1) (s.2.2 P)) (fun H k => dn H k ∨ (H = P ∧ k = m)) := by
  obtain ⟨g1, g2, g3, g4, g5, g6, g7⟩ := h
  have hok := (mem_oks hY).mp (hL P m hm)
  have hlv := lv_mv hY hok.1 hok.2
  obtain ⟨hun, hip⟩ := isP_of hY (hL P m hm)
  have hmm : m ∈ mvs Y := (mem_mvs hY m).mpr hok.1
  have hvT := VP_mv hY (g4 P hP).1 hok.1 hok.2
  have hl0 := (g4 P hP).2
  generalize hTe : mv P m = T at *
  have hTP : P ≠ T := fun e => by rw [e] at hlv; omega
  have hT0 : T ≠ P0 := fun e => by rw [e] at hlv; omega
  have hof : ∀ Q, Q ≠ T → (rlx s T (s.2.1 P + 1) (s.2.2 P)).2.1 Q = s.2.1 Q := fun Q hQ => (rlx_o hQ).1
  have how : ∀ Q, Q ≠ T → (rlx s T (s.2.1 P + 1) (s.2.2 P)).2.2 Q = s.2.2 Q := fun Q hQ => (rlx_o hQ).2
  have hle : (rlx s T (s.2.1 P + 1) (s.2.2 P)).2.1 T ≤ s.2.1 P + 1 ∧ (s.1 T → (rlx s T (s.2.1 P + 1) (s.2.2 P)).2.1 T ≤ s.2.1 T) := by
    by_cases c : s.1 T
    · rw [(rlx_i c).1]
      split <;> exact ⟨by omega, fun _ => by omega⟩
    · rw [(rlx_n c).1]
      exact ⟨Nat.le_refl _, fun h => absurd h c⟩
  have hdT : ∀ H k, dn H k → H ≠ T := fun H k h9 e => hT k (e ▸ h9)
  refine ⟨Or.inl g1, ?_, ?_, fun Q hQ => ?_, fun Q hQ hQ0 => ?_, fun H k hdk => ?_, fun Q hQ hQ0 => ?_⟩
  · rw [hof P0 (fun e => hT0 e.symm), g2]
  · rw [how P0 (fun e => hT0 e.symm), g3]
  · rcases hQ with hQ | hQ
    · exact g4 Q hQ
    · rw [hQ]; exact ⟨hvT, by omega⟩
  · by_cases c : Q = T
    · rw [c]
      by_cases c1 : s.1 T ∧ s.2.1 T ≤ s.2.1 P + 1
      · obtain ⟨H, k, x, y, z⟩ := g5 T c1.1 hT0
        refine ⟨H, k, Or.inl x, y, ?_⟩
        rw [(rlx_i c1.1).1, if_neg (by omega), hof H (hdT H k x), z]
      · refine ⟨P, m, Or.inr ⟨rfl, rfl⟩, hTe, ?_⟩
        rw [hof P hTP]
        by_cases c2 : s.1 T
        · rw [(rlx_i c2).1, if_pos]
          have : ¬ s.2.1 T ≤ s.2.1 P + 1 := fun h9 => c1 ⟨c2, h9⟩
          omega
        · rw [(rlx_n c2).1]
    · have hs : s.1 Q := hQ.elim id (fun e => absurd e c)
      obtain ⟨H, k, x, y, z⟩ := g5 Q hs hQ0
      exact ⟨H, k, Or.inl x, y, by rw [hof Q c, hof H (hdT H k x), z]⟩
  · rcases hdk with hdk | ⟨e1, e2⟩
    · obtain ⟨a, b, c, d⟩ := g6 H k hdk
      refine ⟨Or.inl a, b, Or.inl c, ?_⟩
      rw [hof H (hdT H k hdk)]
      by_cases e : mv H k = T
      · rw [e] at c d ⊢
        have := hle.2 c
        omega
      · rw [hof _ e]; exact d
    · rw [e1, e2, hTe]
      refine ⟨Or.inl hP, hm, Or.inr rfl, ?_⟩
      rw [hof P hTP]
      exact hle.1
  · by_cases c : Q = T
    · rw [c]
      have hne : ∀ k, isP Y T k → un T k ≠ T := fun k hk e => by
        have := isP_ne hY hk
        rw [e] at this
        omega
      have hunm : ∀ k, k ≠ m → ((dn (un T k) k ∨ un T k = P ∧ k = m) ∧ isP Y T k ∧ (rlx s T (s.2.1 P + 1) (s.2.2 P)).2.1 (un T k) + 1 = (rlx s T (s.2.1 P + 1) (s.2.2 P)).2.1 T) = (dn (un T k) k ∧ isP Y T k ∧ s.2.1 (un T k) + 1 = (rlx s T (s.2.1 P + 1) (s.2.2 P)).2.1 T) := by
        intro k hk
        apply propext
        constructor
        · rintro ⟨x | x, y, z⟩
          · rw [hof _ (hne k y)] at z; exact ⟨x, y, z⟩
          · exact absurd x.2 hk
        · rintro ⟨x, y, z⟩
          rw [← hof _ (hne k y)] at z; exact ⟨Or.inl x, y, z⟩
      by_cases c1 : s.1 T ∧ s.2.1 T ≤ s.2.1 P + 1
      · obtain ⟨c2, c3⟩ := c1
        rw [(rlx_i c2).2, if_neg (by omega)]
        have efar : (rlx s T (s.2.1 P + 1) (s.2.2 P)).2.1 T = s.2.1 T := by rw [(rlx_i c2).1, if_neg (by omega)]
        by_cases c4 : s.2.1 P + 1 = s.2.1 T
        · rw [if_pos c4, g7 T c2 hT0]
          unfold wD
          symm
          refine sumL_upd (mvs_nd Y) hmm ?_ (fun k hk => ?_)
          · rw [hun, if_pos (isB_t.mpr ⟨Or.inr ⟨rfl, rfl⟩, hip, by rw [hof P hTP, efar, c4]⟩), if_neg (fun h9 => hd (isB_t.mp h9).1), how P hTP, Int64.zero_add]
          · rw [hunm k hk, efar]
            by_cases c5 : isP Y T k
            · rw [how _ (hne k c5)]
            · rw [if_neg (fun h9 => c5 (isB_t.mp h9).2.1), if_neg (fun h9 => c5 (isB_t.mp h9).2.1)]
        · rw [if_neg c4, g7 T c2 hT0]
          unfold wD
          apply sumL_congr
          intro k _
          by_cases ck : k = m
          · rw [ck, hun, if_neg (fun h9 => hd (isB_t.mp h9).1), if_neg (fun h9 => by
              have := (isB_t.mp h9).2.2
              rw [hof P hTP, efar] at this
              exact c4 this)]
          · rw [hunm k ck, efar]
            by_cases c5 : isP Y T k
            · rw [how _ (hne k c5)]
            · rw [if_neg (fun h9 => c5 (isB_t.mp h9).2.1), if_neg (fun h9 => c5 (isB_t.mp h9).2.1)]
      · have efw : (rlx s T (s.2.1 P + 1) (s.2.2 P)).2.1 T = s.2.1 P + 1 ∧ (rlx s T (s.2.1 P + 1) (s.2.2 P)).2.2 T = s.2.2 P := by
          by_cases c2 : s.1 T
          · have c3 : s.2.1 P + 1 < s.2.1 T := by
              have : ¬ s.2.1 T ≤ s.2.1 P + 1 := fun h9 => c1 ⟨c2, h9⟩
              omega
            rw [(rlx_i c2).1, (rlx_i c2).2, if_pos c3, if_pos c3]
            exact ⟨rfl, rfl⟩
          · exact rlx_n c2
        rw [efw.2]
        have hno : ∀ k, ¬ (dn (un T k) k ∧ isP Y T k ∧ s.2.1 (un T k) + 1 = s.2.1 P + 1) := by
          rintro k ⟨x, y, z⟩
          obtain ⟨_, _, a, b⟩ := g6 _ _ x
          rw [y.2] at a b
          exact c1 ⟨a, by omega⟩
        have := sumL_upd (mvs_nd Y) (g := fun _ => 0) (h := fun k => if isB ((dn (un T k) k ∨ un T k = P ∧ k = m) ∧ isP Y T k ∧ (rlx s T (s.2.1 P + 1) (s.2.2 P)).2.1 (un T k) + 1 = (rlx s T (s.2.1 P + 1) (s.2.2 P)).2.1 T) then (rlx s T (s.2.1 P + 1) (s.2.2 P)).2.2 (un T k) else 0) hmm (w := s.2.2 P) (by
          simp only
          rw [hun, if_pos (isB_t.mpr ⟨Or.inr (by simp), hip, by rw [hof P hTP, efw.1]⟩), how P hTP, Int64.zero_add]) (fun k hk => by
          rw [hunm k hk, efw.1, if_neg (fun h9 => hno k (isB_t.mp h9))])
        rw [sumL_zero, Int64.zero_add] at this
        exact this.symm
    · have hs : s.1 Q := hQ.elim id (fun e => absurd e c)
      rw [how Q c, g7 Q hs hQ0]
      unfold wD
      apply sumL_congr
      intro k _
      have e : (dn (un Q k) k ∧ isP Y Q k ∧ s.2.1 (un Q k) + 1 = s.2.1 Q) = ((dn (un Q k) k ∨ un Q k = P ∧ k = m) ∧ isP Y Q k ∧ (rlx s T (s.2.1 P + 1) (s.2.2 P)).2.1 (un Q k) + 1 = (rlx s T (s.2.1 P + 1) (s.2.2 P)).2.1 Q) := by
        apply propext
        rw [hof Q c]
        constructor
        · rintro ⟨x, y, z⟩
          exact ⟨Or.inl x, y, by rw [hof _ (hdT _ _ x)]; exact z⟩
        · rintro ⟨x | ⟨x1, x2⟩, y, z⟩
          · exact ⟨x, y, by rw [hof _ (hdT _ _ x)] at z; exact z⟩
          · exfalso
            apply c
            have := y.2
            rw [x1, x2, hTe] at this
            exact this.symm
      by_cases c9 : dn (un Q k) k
      · rw [← e, how _ (hdT _ _ c9)]
      · rw [← e, if_neg (fun h9 => c9 (isB_t.mp h9).1), if_neg (fun h9 => c9 (isB_t.mp h9).1)]
theorem GI_congr {Y : Yd} {n : Nat} {P0 : Ps} {L : Ps → List Nat} {s : Sl} {dn dm : Ps → Nat → Prop} (h : GI Y n P0 L s dn) (e : ∀ H m, dn H m ↔ dm H m) : GI Y n P0 L s dm := by
  have : dn = dm := by funext H m; exact propext (e H m)
  rwa [this] at h
/-- when all is done, it is a table of LEAST and WAYS -/
theorem GI_Sol {Y : Yd} {n : Nat} {s : Sl} {dn : Ps → Nat → Prop} (h : GI Y n (st n) (oks Y) s dn) (hd : ∀ H m, s.1 H → m ∈ oks Y H → dn H m) : Sol Y n s := by
  obtain ⟨g1, g2, g3, g4, g5, g6, g7⟩ := h
  refine ⟨g1, g2, g3, fun T a => (g4 T a).1, fun T a b => ?_, fun H m a b => ?_, fun T a b => ?_⟩
  · obtain ⟨H, m, x, y, z⟩ := g5 T a b
    exact ⟨H, m, (g6 H m x).1, (g6 H m x).2.1, y, z⟩
  · exact (g6 H m (hd H m a b)).2.2
  · rw [g7 T a b]
    unfold wD wS
    apply sumL_congr
    intro m _
    have e : (dn (un T m) m ∧ isP Y T m ∧ s.2.1 (un T m) + 1 = s.2.1 T) = (s.1 (un T m) ∧ isP Y T m ∧ s.2.1 (un T m) + 1 = s.2.1 T) := by
      apply propext
      constructor
      · rintro ⟨x, y⟩; exact ⟨(g6 _ _ x).1, y⟩
      · rintro ⟨x, y, z⟩; exact ⟨hd _ _ x y.1, y, z⟩
    rw [e]
theorem GI_walk {Y : Yd} (hY : VY Y) {n : Nat} {P0 : Ps} {L : Ps → List Nat} (hL : ∀ P m, m ∈ L P → m ∈ oks Y P) {s : Sl} {dn : Ps → Nat → Prop} (h : GI Y n P0 L s dn) : ∀ (k : Nat) (T : Ps), s.2.1 T = k → s.1 T → wk Y k P0 T := by
  obtain ⟨g1, g2, g3, g4, g5, g6, g7⟩ := h
  intro k
  induction k with
  | zero =>
    intro T hk hT
    by_cases e : T = P0
    · exact e.symm
    · obtain ⟨H, m, h1, h2, h3⟩ := g5 T hT e
      omega
  | succ k ih =>
    intro T hk hT
    by_cases e : T = P0
    · subst e; omega
    · obtain ⟨H, m, h1, h2, h3⟩ := g5 T hT e
      exact (wk_snoc _ _ _).mpr ⟨H, m, ih H (by omega) (g6 H m h1).1, hL H m (g6 H m h1).2.1, h2⟩
theorem GI_far {Y : Yd} (hY : VY Y) {n : Nat} (hn : n ≤ 5) {P0 : Ps} {L : Ps → List Nat} (hL : ∀ P m, m ∈ L P → m ∈ oks Y P) {s : Sl} {dn : Ps → Nat → Prop} (h : GI Y n P0 L s dn) {T : Ps} (hT : s.1 T) : s.2.1 T ≤ 20 := by
  have h1 := GI_walk hY hL h _ T rfl hT
  have h2 := wk_lv hY _ _ _ (h.2.2.2.1 P0 h.1).1 h1
  have h3 := lv_le hY hn (h.2.2.2.1 T hT).1
  omega
