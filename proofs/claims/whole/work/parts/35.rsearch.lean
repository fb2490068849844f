/-! THE REFERENCE: the search -/
theorem bF : bI false = 0 := rfl
theorem m2 {SP : List (Nat × Ps)} {e : Nat × Ps} (h : e ∈ SP) : e.2 ∈ SP.map (·.2) := List.mem_map_of_mem h
def LW (Y : Yd) (W : List Nat) (P : Ps) : List Nat := (oks Y P).filter (fun m => wt W (mv P m 5))
theorem LW_oks (Y : Yd) (W : List Nat) : ∀ P m, m ∈ LW Y W P → m ∈ oks Y P := fun _ _ h => (List.mem_filter.mp h).1
theorem LW_nil (Y : Yd) (P : Ps) : LW Y [] P = oks Y P := by
  unfold LW
  rw [List.filter_eq_self]
  intro m _
  exact wt_nil _
def dq (Y : Yd) (W : List Nat) (SP : List (Nat × Ps)) (q : Nat) (H : Ps) (m : Nat) : Prop := H ∈ (SP.take q).map (·.2) ∧ m ∈ LW Y W H
def srtd (SP : List (Nat × Ps)) (s : Sl) : Prop := ∀ (i j : Nat) (e g : Nat × Ps), i ≤ j → SP[i]? = some e → SP[j]? = some g → s.2.1 e.2 ≤ s.2.1 g.2
def MI (σ : MS) (Y : Yd) (n mk : Nat) (W : List Nat) (P0 : Ps) (SP : List (Nat × Ps)) (s : Sl) (q a : Nat) (P : Ps) (B : Nat) : Prop :=
  YR σ Y ∧ WR σ W ∧ TB σ Y n mk SP s ∧ GI Y n P0 (LW Y W) s (fun H m => dq Y W SP q H m ∨ (H = P ∧ m ∈ LW Y W P ∧ m < B)) ∧ srtd SP s ∧ SP[q]? = some (a, P) ∧ ∀ g ∈ SP, s.2.1 g.2 ≤ s.2.1 P + 1
theorem MI_gap {σ : MS} {Y : Yd} {n mk : Nat} {W : List Nat} {P0 : Ps} {SP : List (Nat × Ps)} {s : Sl} {q a : Nat} {P : Ps} {B C : Nat} (h : MI σ Y n mk W P0 SP s q a P B) (hB : B ≤ C) (hg : ∀ m ∈ LW Y W P, B ≤ m → C ≤ m) : MI σ Y n mk W P0 SP s q a P C := by
  obtain ⟨a1, a2, a3, a4, a5⟩ := h
  refine ⟨a1, a2, a3, GI_congr a4 (fun H m => ?_), a5⟩
  constructor
  · rintro (x | ⟨x, y, z⟩)
    · exact Or.inl x
    · exact Or.inr ⟨x, y, by omega⟩
  · rintro (x | ⟨x, y, z⟩)
    · exact Or.inl x
    · refine Or.inr ⟨x, y, ?_⟩
      rcases Nat.lt_or_ge m B with h9 | h9
      · exact h9
      · have := hg m y h9
        omega
theorem MI_fr {ks as ls : List Nat} {σ τ : MS} {Y : Yd} {n mk : Nat} {W : List Nat} {P0 : Ps} {SP : List (Nat × Ps)} {s : Sl} {q a : Nat} {P : Ps} {B : Nat} (h : MI σ Y n mk W P0 SP s q a P B) (f : FR ks as ls σ τ)
    (h1 : (ks.contains 4 || ks.contains 5 || as.contains 1 || as.contains 2 || as.contains 3 || as.contains 4) = false) (h2 : (ks.contains 25 || as.contains 17) = false) (h3 : (ks.contains 23 || ks.contains 22 || as.contains 12 || as.contains 13 || as.contains 14 || as.contains 16 || ls.contains 15) = false) : MI τ Y n mk W P0 SP s q a P B := by
  obtain ⟨a1, a2, a3, a4⟩ := h
  exact ⟨YR_fr a1 f h1, WR_fr a2 f h2, TB_fr a3 f h3, a4⟩
theorem cme_rlx {s : Sl} {T : Ps} {f : Nat} {w : Int64} (h : s.1 T → ¬ f < s.2.1 T) : cme s T f w = rlx s T f w := by
  have e2 : (cme s T f w).2.1 = (rlx s T f w).2.1 := by
    funext Q
    by_cases c : Q = T
    · rw [c]
      by_cases d : s.1 T
      · rw [(cme_i d).1, (rlx_i d).1, if_neg (h d)]
      · rw [(cme_n d).1, (rlx_n d).1]
    · rw [(cme_o c).1, (rlx_o c).1]
  have e3 : (cme s T f w).2.2 = (rlx s T f w).2.2 := by
    funext Q
    by_cases c : Q = T
    · rw [c]
      by_cases d : s.1 T
      · rw [(cme_i d).2, (rlx_i d).2, if_neg (h d)]
        by_cases e : s.2.1 T = f
        · rw [if_pos e, if_pos e.symm]
        · rw [if_neg e, if_neg (fun h9 => e h9.symm)]
      · rw [(cme_n d).2, (rlx_n d).2]
    · rw [(cme_o c).2, (rlx_o c).2]
  exact Prod.ext rfl (Prod.ext e2 e3)
theorem cme_id {s : Sl} {T : Ps} {f : Nat} {w : Int64} (h : s.1 T) (hf : s.2.1 T ≠ f) : cme s T f w = s := by
  have e1 : (cme s T f w).1 = s.1 := by
    funext Q
    show (s.1 Q ∨ Q = T) = s.1 Q
    apply propext
    exact ⟨fun h9 => h9.elim id (fun e => by rw [e]; exact h), Or.inl⟩
  have e2 : (cme s T f w).2.1 = s.2.1 := by
    funext Q
    by_cases c : Q = T
    · rw [c, (cme_i h).1]
    · rw [(cme_o c).1]
  have e3 : (cme s T f w).2.2 = s.2.2 := by
    funext Q
    by_cases c : Q = T
    · rw [c, (cme_i h).2, if_neg hf]
    · rw [(cme_o c).2]
  exact Prod.ext e1 (Prod.ext e2 e3)
theorem idx_q {SP : List (Nat × Ps)} (h : (SP.map (·.2)).Nodup) {q : Nat} {e : Nat × Ps} (he : SP[q]? = some e) : e.2 ∉ (SP.take q).map (·.2) := by
  intro hin
  obtain ⟨g, hg, hge⟩ := List.mem_map.mp hin
  have hq := (List.getElem?_eq_some_iff.mp he).1
  have e1 : SP = SP.take q ++ SP.drop q := (List.take_append_drop q SP).symm
  rw [e1, List.map_append, List.nodup_append] at h
  have h3 := h.2.2 g.2 (List.mem_map_of_mem (f := (·.2)) hg) e.2 (by
    apply m2
    rw [List.drop_eq_getElem_cons hq]
    have := (List.getElem?_eq_some_iff.mp he).2
    rw [this]
    exact List.mem_cons_self)
  exact h3 hge
theorem take_idx {SP : List (Nat × Ps)} {q : Nat} {g : Nat × Ps} (h : g ∈ SP.take q) : ∃ i, i < q ∧ SP[i]? = some g := by
  obtain ⟨i, hi⟩ := List.getElem?_of_mem h
  have h1 := (List.getElem?_eq_some_iff.mp hi).1
  rw [List.length_take] at h1
  refine ⟨i, by omega, ?_⟩
  rw [List.getElem?_take, if_pos (by omega)] at hi
  exact hi
theorem spread_J52 {σ : MS} {Y : Yd} {n mk : Nat} (hn : n ≤ 5) {W : List Nat} {P0 : Ps} {SP : List (Nat × Ps)} {s : Sl} {q a : Nat} {P : Ps} {f e t x : Nat} (h : MI σ Y n mk W P0 SP s q a P (mk4 f e t x)) (hf : f ≤ yM Y) (he : e < 2) (ht : t = 5 ∨ (1 ≤ t ∧ t ≤ yM Y)) (hx : x < 2) :
    ∃ τ SP' s', (∀ k, m_spread_J52 k σ (iN a) (iN n) (iN f) (iN e) (iN t) (iN x) = k τ (iN a) (iN n) (iN f) (iN e) (iN t) (iN (x + 1))) ∧ MI τ Y n mk W P0 SP' s' q a P (mk4 f e t (x + 1)) ∧ FR [16, 22] [10, 11, 12, 13, 14, 16] [15] σ τ ∧ SP'.take q = SP.take q := by
  obtain ⟨hY, hW, hTB, hGI, hsr, hq, hle⟩ := id h
  have hM := hY.1.2.1
  have hmem : (a, P) ∈ SP := List.mem_of_getElem? hq
  obtain ⟨b1, b2, b3, b4, b5, b6, b7, b8, b9, b10⟩ := id hTB
  have hsP : s.1 P := (b8 P).mpr (List.mem_map_of_mem (f := (·.2)) hmem)
  have hvP := (b10 P hsP).1
  have hfar := GI_far hY.1 hn (LW_oks Y W) hGI hsP
  obtain ⟨ha, ha12, ha14, ha15, _⟩ := b7 _ hmem
  simp only at ha ha12 ha14 ha15
  have hin : inb (iN a) 65536 := by rw [iN_inb (by omega)]; exact ha
  obtain ⟨τ1, t1, t2, t3, t4⟩ := decode_ok hY hn hvP
  have hY1 := YR_fr hY t4 rfl
  have hcm := canMove_ok hY1 hn hvP t2 t3 hf he ht hx
  obtain ⟨q1, q2, q3, q4⟩ := mk4_of f e t x (by omega) (by omega) (by omega)
  have hB1 : mk4 f e t (x + 1) = mk4 f e t x + 1 := by unfold mk4; omega
  have hno : mk4 f e t x ∉ LW Y W P → ∀ m ∈ LW Y W P, mk4 f e t x ≤ m → mk4 f e t (x + 1) ≤ m := by
    intro h9 m hm hle
    have : m ≠ mk4 f e t x := fun h8 => h9 (h8 ▸ hm)
    omega
  have hmL : mk4 f e t x ∈ LW Y W P ↔ (cm_ Y P f e t x = true ∧ wt W (mv P (mk4 f e t x) 5) = true) := by
    unfold LW
    rw [List.mem_filter, mem_oks hY.1, cmv_eq hM hf he ht hx, Bool.and_eq_true]
  cases hc : cm_ Y P f e t x with
  | false =>
    refine ⟨τ1, SP, s, fun k => ?_, MI_gap (MI_fr h t4 rfl rfl rfl) (by omega) (hno (fun h9 => by rw [hmL, hc] at h9; exact absurd h9.1 (by decide))), FR_mo t4 rfl rfl rfl, rfl⟩
    rw [m_spread_J52, if_pos hin, gA_av (by omega), ha12, t1]
    simp only [Option.bind_some]
    rw [hcm, hc]
    simp only [Option.bind_some]
    rw [if_pos bF, zl_1, iN_add]
  | true =>
    obtain ⟨τ2, u1, u2, u3, u4⟩ := doMove_ok hY1 hn hvP t2 t3 hf he ht hx hc
    have hcm2 := hc
    rw [cmv_eq hM hf he ht hx, Bool.and_eq_true] at hcm2
    have hvT := VP_mv hY.1 hvP hcm2.1 hcm2.2
    have hY2 := YR_fr hY1 u4 rfl
    have hW2 := WR_fr (WR_fr hW t4 rfl) u4 rfl
    have hwt := isWanted_ok hY2 hn hvT u2 hW2
    have f12 := FR_tr t4 u4
    have hMI2 := MI_fr h f12 rfl rfl rfl
    cases hw : wt W (mv P (mk4 f e t x) 5) with
    | false =>
      refine ⟨τ2, SP, s, fun k => ?_, MI_gap hMI2 (by omega) (hno (fun h9 => by rw [hmL, hw] at h9; exact absurd h9.2 (by decide))), FR_mo f12 rfl rfl rfl, rfl⟩
      rw [m_spread_J52, if_pos hin, gA_av (by omega), ha12, t1]
      simp only [Option.bind_some]
      rw [hcm, hc]
      simp only [Option.bind_some]
      rw [if_neg (by decide), u1]
      simp only [Option.bind_some]
      rw [hwt, hw]
      simp only [Option.bind_some]
      rw [if_pos bF, zl_1, iN_add]
    | true =>
      have hmem2 : mk4 f e t x ∈ LW Y W P := hmL.mpr ⟨hc, hw⟩
      have hTB2 := hMI2.2.2.1
      obtain ⟨_, c12, c14, c15, _⟩ := hTB2.2.2.2.2.2.2.1 _ hmem
      simp only at c12 c14 c15
      have henc := encode_ok hY2 u2
      obtain ⟨τ3, SP3, v1, v2, v3, v4⟩ := come_ok hY.1 hn hTB2 hvT (f := s.2.1 P + 1) (by omega) (s.2.2 P)
      have hY3 := YR_fr hY2 v3 rfl
      have hW3 := WR_fr hW2 v3 rfl
      have hlv := lv_mv hY.1 hcm2.1 hcm2.2
      have htk : SP3.take q = SP.take q := by
        rcases v4 with ⟨v4, _⟩ | ⟨_, b, v4⟩
        · rw [v4]
        · rw [v4, List.take_append_of_le_length]
          have := (List.getElem?_eq_some_iff.mp hq).1
          omega
      refine ⟨τ3, SP3, _, fun k => ?_, ⟨hY3, hW3, v2, ?_, ?_, ?_, ?_⟩, FR_tr (FR_mo f12 rfl rfl rfl) (FR_mo v3 rfl rfl rfl), htk⟩
      · rw [m_spread_J52, if_pos hin, gA_av (by omega), ha12, t1]
        simp only [Option.bind_some]
        rw [hcm, hc]
        simp only [Option.bind_some]
        rw [if_neg (by decide), u1]
        simp only [Option.bind_some]
        rw [hwt, hw]
        simp only [Option.bind_some]
        rw [if_neg (by decide), henc]
        simp only [Option.bind_some]
        rw [if_pos ⟨hin, hin⟩, gA_av (by omega), c14, gL_wv (by omega), c15, zl_1, iN_add, v1]
        simp only [Option.bind_some]
        rw [iN_add]
      · have hnd : ¬ (dq Y W SP q P (mk4 f e t x) ∨ (P = P ∧ mk4 f e t x ∈ LW Y W P ∧ mk4 f e t x < mk4 f e t x)) := by
          rintro (h9 | h9)
          · exact idx_q b9 hq h9.1
          · omega
        have hfin : GI Y n P0 (LW Y W) (cme s (mv P (mk4 f e t x)) (s.2.1 P + 1) (s.2.2 P)) (fun H k => (dq Y W SP q H k ∨ (H = P ∧ k ∈ LW Y W P ∧ k < mk4 f e t x)) ∨ (H = P ∧ k = mk4 f e t x)) := by
          by_cases c1 : s.1 (mv P (mk4 f e t x)) ∧ s.2.1 (mv P (mk4 f e t x)) < s.2.1 P + 1
          · rw [cme_id c1.1 (by omega)]
            exact GI_skip hY.1 (LW_oks Y W) hGI hsP hmem2 c1.1 c1.2
          · have hge : s.1 (mv P (mk4 f e t x)) → ¬ s.2.1 P + 1 < s.2.1 (mv P (mk4 f e t x)) := by
              intro h9
              obtain ⟨g, hg, hgT⟩ := List.mem_map.mp ((b8 _).mp h9)
              have := hle g hg
              have hgT : g.2 = _ := hgT
              rw [hgT] at this
              omega
            rw [cme_rlx hge]
            refine GI_step hY.1 (LW_oks Y W) hGI hsP hmem2 hnd (fun k h9 => ?_)
            have hsT : s.1 (mv P (mk4 f e t x)) := (hGI.2.2.2.2.2.1 _ _ h9).1
            rcases h9 with h9 | h9
            · obtain ⟨g, hg, hgT⟩ := List.mem_map.mp h9.1
              have hgT : g.2 = _ := hgT
              obtain ⟨i, hi, hgi⟩ := take_idx hg
              have := hsr i q g (a, P) (by omega) hgi hq
              rw [hgT] at this
              simp only at this
              exact c1 ⟨hsT, by omega⟩
            · have := h9.1
              rw [this] at hlv
              omega
        refine GI_congr hfin (fun H k => ?_)
        unfold dq
        rw [htk]
        constructor
        · rintro ((h9 | ⟨x1, x2, x3⟩) | ⟨x1, x2⟩)
          · exact Or.inl h9
          · exact Or.inr ⟨x1, x2, by omega⟩
          · exact Or.inr ⟨x1, by rw [x2]; exact hmem2, by omega⟩
        · rintro (h9 | ⟨x1, x2, x3⟩)
          · exact Or.inl (Or.inl h9)
          · by_cases c9 : k = mk4 f e t x
            · exact Or.inr ⟨x1, c9⟩
            · exact Or.inl (Or.inr ⟨x1, x2, by omega⟩)
      · have hfe : ∀ g ∈ SP, (cme s (mv P (mk4 f e t x)) (s.2.1 P + 1) (s.2.2 P)).2.1 g.2 = s.2.1 g.2 := by
          intro g hg
          by_cases c : g.2 = mv P (mk4 f e t x)
          · rw [c]
            have : s.1 (mv P (mk4 f e t x)) := by rw [← c]; exact (b8 _).mpr (List.mem_map_of_mem (f := (·.2)) hg)
            rw [(cme_i this).1]
          · rw [(cme_o c).1]
        rcases v4 with ⟨v4, hs9⟩ | ⟨hs9, b, v4⟩
        · rw [v4]
          intro i j e1 g1 hij hi hj
          rw [hfe _ (List.mem_of_getElem? hi), hfe _ (List.mem_of_getElem? hj)]
          exact hsr i j e1 g1 hij hi hj
        · rw [v4]
          intro i j e1 g1 hij hi hj
          rcases Nat.lt_or_ge j SP.length with hj9 | hj9
          · rw [List.getElem?_append_left hj9] at hj
            rw [List.getElem?_append_left (by omega)] at hi
            rw [hfe _ (List.mem_of_getElem? hi), hfe _ (List.mem_of_getElem? hj)]
            exact hsr i j e1 g1 hij hi hj
          · rw [List.getElem?_append_right hj9] at hj
            have hj0 := (List.getElem?_eq_some_iff.mp hj).1
            simp only [List.length_cons, List.length_nil] at hj0
            have hjj : j - SP.length = 0 := by omega
            rw [hjj] at hj
            simp only [List.getElem?_cons_zero, Option.some.injEq] at hj
            rw [← hj, (cme_n hs9).1]
            rcases Nat.lt_or_ge i SP.length with hi9 | hi9
            · rw [List.getElem?_append_left hi9] at hi
              rw [hfe _ (List.mem_of_getElem? hi)]
              exact hle _ (List.mem_of_getElem? hi)
            · rw [List.getElem?_append_right hi9, show i - SP.length = 0 by omega] at hi
              simp only [List.getElem?_cons_zero, Option.some.injEq] at hi
              rw [← hi, (cme_n hs9).1]
              exact Nat.le_refl _
      · rcases v4 with ⟨v4, _⟩ | ⟨_, b, v4⟩
        · rw [v4]; exact hq
        · rw [v4, List.getElem?_append_left (List.getElem?_eq_some_iff.mp hq).1]; exact hq
      · have hPe : (cme s (mv P (mk4 f e t x)) (s.2.1 P + 1) (s.2.2 P)).2.1 P = s.2.1 P := (cme_o (fun h9 => by rw [← h9] at hlv; omega)).1
        rw [hPe]
        intro g hg
        by_cases c : g.2 = mv P (mk4 f e t x)
        · rw [c]
          by_cases c2 : s.1 (mv P (mk4 f e t x))
          · rw [(cme_i c2).1]
            obtain ⟨g2, hg2, hgT⟩ := List.mem_map.mp ((b8 _).mp c2)
            have := hle g2 hg2
            have hgT : g2.2 = _ := hgT
            rw [hgT] at this
            exact this
          · rw [(cme_n c2).1]; exact Nat.le_refl _
        · rw [(cme_o c).1]
          rcases v4 with ⟨v4, _⟩ | ⟨_, b, v4⟩
          · rw [v4] at hg; exact hle g hg
          · rw [v4] at hg
            rcases List.mem_append.mp hg with hg | hg
            · exact hle g hg
            · rw [List.mem_singleton] at hg
              rw [hg] at c
              exact absurd rfl c
theorem LW_num {Y : Yd} (hY : VY Y) {W : List Nat} {P : Ps} {m : Nat} (h : m ∈ LW Y W P) : m / 1000 ≤ yM Y ∧ m / 100 % 10 < 2 ∧ (m / 10 % 10 = 5 ∨ (1 ≤ m / 10 % 10 ∧ m / 10 % 10 ≤ yM Y)) ∧ m % 10 < 2 := by
  have := gm_parts ((mem_oks hY).mp (LW_oks Y W P m h)).1
  exact ⟨this.1, this.2.1, this.2.2.1, this.2.2.2.1⟩
theorem spread_L31 {Y : Yd} {n mk : Nat} (hn : n ≤ 5) {W : List Nat} {P0 : Ps} {q a : Nat} {P : Ps} {f e t : Nat} (hf : f ≤ yM Y) (he : e < 2) (ht : t = 5 ∨ (1 ≤ t ∧ t ≤ yM Y)) : ∀ (d x fu : Nat) (σ : MS) (SP : List (Nat × Ps)) (s : Sl), d < fu → x + d = 2 → MI σ Y n mk W P0 SP s q a P (mk4 f e t x) →
    ∃ τ SP' s', m_spread_L31 fu σ (iN a) (iN n) (iN f) (iN e) (iN t) (iN x) = some τ ∧ MI τ Y n mk W P0 SP' s' q a P (mk4 f e t 2) ∧ FR [16, 22] [10, 11, 12, 13, 14, 16] [15] σ τ ∧ SP'.take q = SP.take q := by
  intro d
  induction d with
  | zero =>
    intro x fu σ SP s hfu hx h
    obtain ⟨fu, rfl⟩ : ∃ g, fu = g + 1 := ⟨fu - 1, by omega⟩
    obtain rfl : x = 2 := by omega
    refine ⟨σ, SP, s, ?_, h, FR_rf, rfl⟩
    rw [m_spread_L31, if_neg (by decide)]
  | succ d ih =>
    intro x fu σ SP s hfu hx h
    obtain ⟨fu, rfl⟩ : ∃ g, fu = g + 1 := ⟨fu - 1, by omega⟩
    have hY := h.1
    have hM := hY.1.2.1
    obtain ⟨τ, SP', s', t1, t2, t3, t4⟩ := spread_J52 hn h hf he ht (by omega)
    obtain ⟨υ, SP2, s2, u1, u2, u3, u4⟩ := ih (x + 1) fu τ SP' s' (by omega) (by omega) t2
    refine ⟨υ, SP2, s2, ?_, u2, FR_tr t3 u3, u4.trans t4⟩
    rw [m_spread_L31, hY.2.1, zl_2, zl_5, jlt (by omega) (by omega), jlt (by omega) (by omega), jeq (by omega) (by omega), if_pos (by omega), t1]
    by_cases c : yM Y < t
    · rw [if_pos c, if_pos (by omega)]; exact u1
    · rw [if_neg c]; exact u1
theorem spread_L22 {Y : Yd} {n mk : Nat} (hn : n ≤ 5) {W : List Nat} {P0 : Ps} {q a : Nat} {P : Ps} {f e : Nat} (hf : f ≤ yM Y) (he : e < 2) : ∀ (d t fu : Nat) (σ : MS) (SP : List (Nat × Ps)) (s : Sl), d < fu → t + d = 6 → 1 ≤ t → MI σ Y n mk W P0 SP s q a P (mk4 f e t 0) →
    ∃ τ SP' s', m_spread_L22 fu σ (iN a) (iN n) (iN f) (iN e) (iN t) = some τ ∧ MI τ Y n mk W P0 SP' s' q a P (mk4 f e 6 0) ∧ FR [16, 22] [10, 11, 12, 13, 14, 16] [15] σ τ ∧ SP'.take q = SP.take q := by
  intro d
  induction d with
  | zero =>
    intro t fu σ SP s hfu hx h1 h
    obtain ⟨fu, rfl⟩ : ∃ g, fu = g + 1 := ⟨fu - 1, by omega⟩
    obtain rfl : t = 6 := by omega
    refine ⟨σ, SP, s, ?_, h, FR_rf, rfl⟩
    rw [m_spread_L22, if_pos (by decide)]
  | succ d ih =>
    intro t fu σ SP s hfu hx h1 h
    obtain ⟨fu, rfl⟩ : ∃ g, fu = g + 1 := ⟨fu - 1, by omega⟩
    have hY := h.1
    have hM := hY.1.2.1
    have key : ∃ τ SP' s', m_spread_L31 N0 σ (iN a) (iN n) (iN f) (iN e) (iN t) (iN 0) = some τ ∧ MI τ Y n mk W P0 SP' s' q a P (mk4 f e (t + 1) 0) ∧ FR [16, 22] [10, 11, 12, 13, 14, 16] [15] σ τ ∧ SP'.take q = SP.take q := by
      by_cases ht : t = 5 ∨ (1 ≤ t ∧ t ≤ yM Y)
      · obtain ⟨τ, SP', s', t1, t2, t3, t4⟩ := spread_L31 hn hf he ht 2 0 N0 σ SP s (by rw [N0_eq]; omega) rfl h
        refine ⟨τ, SP', s', t1, MI_gap t2 (by unfold mk4; omega) (fun m hm hle => ?_), t3, t4⟩
        have := LW_num hY.1 hm
        unfold mk4 at hle ⊢
        omega
      · refine ⟨σ, SP, s, ?_, MI_gap h (by unfold mk4; omega) (fun m hm hle => ?_), FR_rf, rfl⟩
        · rw [N0_eq, m_spread_L31, hY.2.1, zl_5, jlt (by omega) (by omega), jeq (by omega) (by omega), if_pos (by decide), if_pos (by omega), if_neg (by omega)]
        · have := LW_num hY.1 hm
          unfold mk4 at hle ⊢
          omega
    obtain ⟨τ, SP', s', t1, t2, t3, t4⟩ := key
    obtain ⟨υ, SP2, s2, u1, u2, u3, u4⟩ := ih (t + 1) fu τ SP' s' (by omega) (by omega) (by omega) t2
    refine ⟨υ, SP2, s2, ?_, u2, FR_tr t3 u3, u4.trans t4⟩
    rw [m_spread_L22, zl_5, jlt (by omega) (by omega), if_neg (by omega), zl_0, t1]
    simp only [Option.bind_some]
    rw [zl_1, iN_add]
    exact u1
theorem spread_L13 {Y : Yd} {n mk : Nat} (hn : n ≤ 5) {W : List Nat} {P0 : Ps} {q a : Nat} {P : Ps} {f : Nat} (hf : f ≤ yM Y) : ∀ (d e fu : Nat) (σ : MS) (SP : List (Nat × Ps)) (s : Sl), d < fu → e + d = 2 → MI σ Y n mk W P0 SP s q a P (mk4 f e 0 0) →
    ∃ τ SP' s', m_spread_L13 fu σ (iN a) (iN n) (iN f) (iN e) = some τ ∧ MI τ Y n mk W P0 SP' s' q a P (mk4 f 2 0 0) ∧ FR [16, 22] [10, 11, 12, 13, 14, 16] [15] σ τ ∧ SP'.take q = SP.take q := by
  intro d
  induction d with
  | zero =>
    intro e fu σ SP s hfu hx h
    obtain ⟨fu, rfl⟩ : ∃ g, fu = g + 1 := ⟨fu - 1, by omega⟩
    obtain rfl : e = 2 := by omega
    refine ⟨σ, SP, s, ?_, h, FR_rf, rfl⟩
    rw [m_spread_L13, if_neg (by decide)]
  | succ d ih =>
    intro e fu σ SP s hfu hx h
    obtain ⟨fu, rfl⟩ : ∃ g, fu = g + 1 := ⟨fu - 1, by omega⟩
    have hY := h.1
    have hM := hY.1.2.1
    have h1 : MI σ Y n mk W P0 SP s q a P (mk4 f e 1 0) := MI_gap h (by unfold mk4; omega) (fun m hm hle => by
      have := LW_num hY.1 hm
      unfold mk4 at hle ⊢
      omega)
    obtain ⟨τ, SP', s', t1, t2, t3, t4⟩ := spread_L22 hn hf (show e < 2 by omega) 5 1 N0 σ SP s (by rw [N0_eq]; omega) rfl (by omega) h1
    have h2 : MI τ Y n mk W P0 SP' s' q a P (mk4 f (e + 1) 0 0) := MI_gap t2 (by unfold mk4; omega) (fun m hm hle => by
      have := LW_num hY.1 hm
      unfold mk4 at hle ⊢
      omega)
    obtain ⟨υ, SP2, s2, u1, u2, u3, u4⟩ := ih (e + 1) fu τ SP' s' (by omega) (by omega) h2
    refine ⟨υ, SP2, s2, ?_, u2, FR_tr t3 u3, u4.trans t4⟩
    rw [m_spread_L13, zl_2, jlt (by omega) (by omega), if_pos (by omega), zl_1, t1]
    simp only [Option.bind_some]
    rw [iN_add]
    exact u1
theorem spread_L2 {Y : Yd} {n mk : Nat} (hn : n ≤ 5) {W : List Nat} {P0 : Ps} {q a : Nat} {P : Ps} : ∀ (d f fu : Nat) (σ : MS) (SP : List (Nat × Ps)) (s : Sl), d < fu → f + d = yM Y + 1 → MI σ Y n mk W P0 SP s q a P (mk4 f 0 0 0) →
    ∃ τ SP' s', m_spread_L2 fu σ (iN a) (iN n) (iN f) = some τ ∧ MI τ Y n mk W P0 SP' s' q a P (mk4 (yM Y + 1) 0 0 0) ∧ FR [16, 22] [10, 11, 12, 13, 14, 16] [15] σ τ ∧ SP'.take q = SP.take q := by
  intro d
  induction d with
  | zero =>
    intro f fu σ SP s hfu hx h
    obtain ⟨fu, rfl⟩ : ∃ g, fu = g + 1 := ⟨fu - 1, by omega⟩
    obtain rfl : f = yM Y + 1 := by omega
    have hM := h.1.1.2.1
    refine ⟨σ, SP, s, ?_, h, FR_rf, rfl⟩
    rw [m_spread_L2, h.1.2.1, jlt (by omega) (by omega), if_pos (by omega)]
  | succ d ih =>
    intro f fu σ SP s hfu hx h
    obtain ⟨fu, rfl⟩ : ∃ g, fu = g + 1 := ⟨fu - 1, by omega⟩
    have hY := h.1
    have hM := hY.1.2.1
    obtain ⟨τ, SP', s', t1, t2, t3, t4⟩ := spread_L13 hn (show f ≤ yM Y by omega) 2 0 N0 σ SP s (by rw [N0_eq]; omega) rfl h
    have h2 : MI τ Y n mk W P0 SP' s' q a P (mk4 (f + 1) 0 0 0) := MI_gap t2 (by unfold mk4; omega) (fun m hm hle => by
      have := LW_num hY.1 hm
      unfold mk4 at hle ⊢
      omega)
    obtain ⟨υ, SP2, s2, u1, u2, u3, u4⟩ := ih (f + 1) fu τ SP' s' (by omega) (by omega) h2
    refine ⟨υ, SP2, s2, ?_, u2, FR_tr t3 u3, u4.trans t4⟩
    rw [m_spread_L2, hY.2.1, jlt (by omega) (by omega), if_neg (by omega), zl_0, t1]
    simp only [Option.bind_some]
    rw [zl_1, iN_add]
    exact u1
def BS (σ : MS) (Y : Yd) (n mk : Nat) (W : List Nat) (P0 : Ps) (SP : List (Nat × Ps)) (s : Sl) (q : Nat) : Prop :=
  YR σ Y ∧ WR σ W ∧ TB σ Y n mk SP s ∧ GI Y n P0 (LW Y W) s (dq Y W SP q) ∧ srtd SP s ∧ ∀ e, SP[q]? = some e → ∀ g ∈ SP, s.2.1 g.2 ≤ s.2.1 e.2 + 1
theorem BS_fr {ks as ls : List Nat} {σ τ : MS} {Y : Yd} {n mk : Nat} {W : List Nat} {P0 : Ps} {SP : List (Nat × Ps)} {s : Sl} {q : Nat} (h : BS σ Y n mk W P0 SP s q) (f : FR ks as ls σ τ)
    (h1 : (ks.contains 4 || ks.contains 5 || as.contains 1 || as.contains 2 || as.contains 3 || as.contains 4) = false) (h2 : (ks.contains 25 || as.contains 17) = false) (h3 : (ks.contains 23 || ks.contains 22 || as.contains 12 || as.contains 13 || as.contains 14 || as.contains 16 || ls.contains 15) = false) : BS τ Y n mk W P0 SP s q := by
  obtain ⟨a1, a2, a3, a4⟩ := h
  exact ⟨YR_fr a1 f h1, WR_fr a2 f h2, TB_fr a3 f h3, a4⟩
theorem spread_ok {σ : MS} {Y : Yd} {n mk : Nat} (hn : n ≤ 5) {W : List Nat} {P0 : Ps} {q a : Nat} {P : Ps} {SP : List (Nat × Ps)} {s : Sl} (h : BS σ Y n mk W P0 SP s q) (hq : SP[q]? = some (a, P)) :
    ∃ τ SP' s', m_spread σ (iN a) (iN n) = some τ ∧ BS τ Y n mk W P0 SP' s' (q + 1) ∧ SP'[q]? = some (a, P) ∧ SP'.take q = SP.take q ∧ FR [16, 22] [10, 11, 12, 13, 14, 16] [15] σ τ := by
  obtain ⟨a1, a2, a3, a4, a5, a6⟩ := h
  have hM := a1.1.2.1
  have h0 : MI σ Y n mk W P0 SP s q a P (mk4 0 0 0 0) := by
    refine ⟨a1, a2, a3, GI_congr a4 (fun H m => ?_), a5, hq, a6 _ hq⟩
    constructor
    · exact Or.inl
    · rintro (x | ⟨_, _, x⟩)
      · exact x
      · exact absurd x (Nat.not_lt_zero _)
  obtain ⟨τ, SP', s', t1, ⟨b1, b2, b3, b4, b5, b6, b7⟩, t3, t4⟩ := spread_L2 hn (yM Y + 1) 0 N0 σ SP s (by rw [N0_eq]; omega) (by omega) h0
  have htk : SP'.take (q + 1) = SP'.take q ++ [(a, P)] := by
    have hlt := (List.getElem?_eq_some_iff.mp b6).1
    rw [List.take_succ, b6]
    rfl
  refine ⟨τ, SP', s', ?_, ⟨b1, b2, b3, GI_congr b4 (fun H m => ?_), b5, fun e he g hg => ?_⟩, b6, t4, t3⟩
  · rw [m_spread, zl_0, t1]; rfl
  · unfold dq
    rw [htk, List.map_append, List.mem_append]
    constructor
    · rintro (⟨x, y⟩ | ⟨x, y, _⟩)
      · exact ⟨Or.inl x, y⟩
      · exact ⟨Or.inr (by rw [x]; simp), by rw [x]; exact y⟩
    · rintro ⟨x | x, y⟩
      · exact Or.inl ⟨x, y⟩
      · simp at x
        rw [x] at y
        refine Or.inr ⟨x, y, ?_⟩
        have := LW_num b1.1 y
        unfold mk4
        omega
  · have h1 := b7 g hg
    have h2 := b5 q (q + 1) (a, P) e (by omega) b6 he
    simp only at h2
    omega
def inc (n : Nat) (SP : List (Nat × Ps)) (q : Nat) : Prop := ∀ e ∈ SP.take q, (e.2 5).length ≠ n
theorem search_L39 {Y : Yd} {n mk : Nat} (hn : n ≤ 5) {W : List Nat} {P0 : Ps} : ∀ (d q fu : Nat) (σ : MS) (SP : List (Nat × Ps)) (s : Sl), d < fu → q + d = 17047 → q ≤ SP.length → BS σ Y n mk W P0 SP s q → (0 < W.length → inc n SP q) →
    ∃ τ SP' s' q', FR [16, 22] [10, 11, 12, 13, 14, 16] [15] σ τ ∧ BS τ Y n mk W P0 SP' s' q' ∧ (0 < W.length → inc n SP' q') ∧ ((m_search_L39 fu σ (iN n) (iN q) = some (.inl τ) ∧ q' = SP'.length) ∨ ∃ e, SP'[q']? = some e ∧ (e.2 5).length = n ∧ 0 < W.length ∧ m_search_L39 fu σ (iN n) (iN q) = some (.inr (iN (s'.2.1 e.2), τ))) := by
  intro d
  induction d with
  | zero =>
    intro q fu σ SP s hfu hx hq h _
    have := TB_len h.1.1 hn h.2.2.1
    omega
  | succ d ih =>
    intro q fu σ SP s hfu hx hq h hinc
    obtain ⟨fu, rfl⟩ : ∃ g, fu = g + 1 := ⟨fu - 1, by omega⟩
    have hY := h.1
    have hM := hY.1.2.1
    have hTB := h.2.2.1
    have hlen := TB_len hY.1 hn hTB
    by_cases hqe : q = SP.length
    · refine ⟨σ, SP, s, q, FR_rf, h, hinc, Or.inl ⟨?_, hqe⟩⟩
      rw [m_search_L39, hTB.2.2.1, jlt (by omega) (by omega), if_neg (by omega)]
    · obtain ⟨e, he⟩ : ∃ e, SP[q]? = some e := ⟨_, List.getElem?_eq_getElem (by omega)⟩
      obtain ⟨a, P⟩ := e
      have hmem := List.mem_of_getElem? he
      obtain ⟨b1, b2, b3, b4, b5, b6, b7, b8, b9, b10⟩ := id hTB
      obtain ⟨ha, ha12, ha14, ha15, _⟩ := b7 _ hmem
      have ha16 := b6 q _ he
      simp only at ha ha12 ha14 ha15 ha16
      have hsP : s.1 P := (b8 P).mpr (List.mem_map_of_mem (f := (·.2)) hmem)
      have hvP := (b10 P hsP).1
      have h5le := VP_le hvP (p := 5) (by omega)
      have hin : inb (iN a) 65536 := by rw [iN_inb (by omega)]; exact ha
      obtain ⟨τ1, t1, t2, t3, t4⟩ := decode_ok hY hn hvP
      have hB1 := BS_fr h t4 rfl rfl rfl
      have hY1 := hB1.1
      obtain ⟨c1, c2, c3⟩ := RP_5 t2
      have hW1 := hB1.2.1
      have hin4 : inb (iN (yM Y)) 5 := by rw [iN_inb (by omega)]; omega
      have hstep : ∀ r, (∀ τ, m_spread τ1 (iN a) (iN n) = some τ → m_search_L39 fu τ (iN n) (iN (q + 1)) = r) → ((m_spread τ1 (iN a) (iN n)).bind fun q98 => m_search_L39 fu q98 (iN n) (iN q + 1)) = r ∨ m_spread τ1 (iN a) (iN n) = none := by
        intro r hr
        cases hs : m_spread τ1 (iN a) (iN n) with
        | none => exact Or.inr rfl
        | some τ => left; rw [Option.bind_some, zl_1, iN_add]; exact hr τ hs
      by_cases hcomp : (P 5).length = n ∧ 0 < W.length
      · refine ⟨τ1, SP, s, q, FR_mo t4 rfl rfl rfl, hB1, hinc, Or.inr ⟨(a, P), he, hcomp.1, hcomp.2, ?_⟩⟩
        have c14 := ((hB1.2.2.1.2.2.2.2.2.2.1) _ hmem).2.2.1
        simp only at c14
        have hw5 := hW1.1
        rw [m_search_L39, b3, jlt (by omega) (by omega), if_pos (by omega), gA_av (by omega), ha16, if_pos ⟨by rw [iN_inb (by omega)]; omega, hin⟩, gA_av (by omega), ha12, t1]
        simp only [Option.bind_some]
        rw [hY1.2.1, if_pos hin4, gA_av (by omega), c2, jeq (by omega) (by omega), if_pos hcomp.1, hW1.2.2.1, jlt0 (by omega), if_pos hcomp.2, if_pos hin, gA_av (by omega), c14]
      · obtain ⟨τ2, SP2, s2, u1, u2, u3, u4, u5⟩ := spread_ok hn hB1 he
        have hq1 : q + 1 ≤ SP2.length := (List.getElem?_eq_some_iff.mp u3).1
        have hinc2 : 0 < W.length → inc n SP2 (q + 1) := by
          intro hw g hg
          have htk : SP2.take (q + 1) = SP2.take q ++ [(a, P)] := by
            rw [List.take_succ, u3]
            rfl
          rw [htk, u4] at hg
          rcases List.mem_append.mp hg with hg | hg
          · exact hinc hw g hg
          · rw [List.mem_singleton] at hg
            rw [hg]
            intro h9
            exact hcomp ⟨h9, hw⟩
        obtain ⟨υ, SP3, s3, q3, v1, v2, v3, v4⟩ := ih (q + 1) fu τ2 SP2 s2 (by omega) (by omega) hq1 u2 hinc2
        have heq : m_search_L39 (fu + 1) σ (iN n) (iN q) = m_search_L39 fu τ2 (iN n) (iN (q + 1)) := by
          have hw5 := hW1.1
          rw [m_search_L39, b3, jlt (by omega) (by omega), if_pos (by omega), gA_av (by omega), ha16, if_pos ⟨by rw [iN_inb (by omega)]; omega, hin⟩, gA_av (by omega), ha12, t1]
          simp only [Option.bind_some]
          rw [hY1.2.1, if_pos hin4, gA_av (by omega), c2, jeq (by omega) (by omega), hW1.2.2.1, jlt0 (by omega), u1]
          simp only [Option.bind_some]
          rw [zl_1, iN_add]
          by_cases d1 : (P 5).length = n
          · rw [if_pos d1, if_neg (fun h9 => hcomp ⟨d1, h9⟩)]
          · rw [if_neg d1]
        refine ⟨υ, SP3, s3, q3, FR_tr (FR_mo t4 rfl rfl rfl) (FR_tr u5 v1), v2, v3, ?_⟩
        rw [heq]
        exact v4
def MK (σ : MS) (mk : Nat) : Prop := gI σ 23 = iN mk ∧ ∀ a, a < 65536 → ∃ v, v ≤ mk ∧ av σ 13 a = iN v
theorem MK_fr {ks as ls : List Nat} {σ τ : MS} {mk : Nat} (h : MK σ mk) (f : FR ks as ls σ τ) (h1 : (ks.contains 23 || as.contains 13) = false) : MK τ mk := by
  simp only [Bool.or_eq_false_iff, List.contains_eq_mem, decide_eq_false_iff_not] at h1
  exact ⟨by rw [f.1 23 h1.1, h.1], fun a ha => by rw [f.2.1 13 h1.2]; exact h.2 a ha⟩
def rI : Option Nat → Int32
  | none => -6
  | some r => iN r
theorem dom_wt {Y : Yd} {n : Nat} {P0 : Ps} {W : List Nat} {s : Sl} {dn : Ps → Nat → Prop} (h : GI Y n P0 (LW Y W) s dn) (h0 : wt W (P0 5) = true) {T : Ps} (hT : s.1 T) : wt W (T 5) = true := by
  by_cases c : T = P0
  · rw [c]; exact h0
  · obtain ⟨H, m, x, y, _⟩ := h.2.2.2.2.1 T hT c
    have := (List.mem_filter.mp (h.2.2.2.2.2.1 H m x).2.1).2
    rw [y] at this
    exact this
theorem bfs_min {Y : Yd} (hY : VY Y) {n : Nat} {P0 : Ps} (hv : VP Y n P0) {W : List Nat} (hW : W.length = n) {SP : List (Nat × Ps)} {s : Sl} {q R : Nat} (h : GI Y n P0 (LW Y W) s (dq Y W SP q)) (hR : ∀ H, s.1 H → s.2.1 H < R → H ∈ (SP.take q).map (·.2)) :
    ∀ (i : Nat) (H : Ps), wk Y i P0 H → (H 5) <+: W → i ≤ R → s.1 H ∧ s.2.1 H ≤ i := by
  intro i
  induction i with
  | zero => intro H hw _ _; cases hw; exact ⟨h.1, by rw [h.2.1]; exact Nat.zero_le _⟩
  | succ i ih =>
    intro H hw hp hi
    obtain ⟨K, m, h1, h2, h3⟩ := (wk_snoc _ _ _).mp hw
    have hKp : (K 5) <+: W := by
      have := wk_exit hY 1 K H ⟨m, h2, h3⟩
      exact this.trans hp
    obtain ⟨i1, i2⟩ := ih K h1 hKp (by omega)
    have hvK := wk_VP hY _ _ _ hv h1
    have hm := (mem_oks hY).mp h2
    have hvH := VP_mv hY hvK hm.1 hm.2
    have hmL : m ∈ LW Y W K := by
      refine List.mem_filter.mpr ⟨h2, ?_⟩
      rw [h3, wt_pre (by rw [hW, ← h3]; exact VP_le hvH (by omega))]
      exact List.isPrefixOf_iff_prefix.mpr hp
    obtain ⟨_, _, j1, j2⟩ := h.2.2.2.2.2.1 K m ⟨hR K i1 (by omega), hmL⟩
    rw [h3] at j1 j2
    exact ⟨j1, by omega⟩
theorem search_ok {σ : MS} {Y : Yd} (hY : YR σ Y) {n : Nat} (hn : n ≤ 5) {mk : Nat} (hmk : mk < 1000000000) (hMK : MK σ mk) {W : List Nat} (hW : WR σ W) {P0 : Ps} (hv : VP Y n P0) :
    ∃ r τ, m_search σ (iN (key (yM Y) P0)) (iN n) = some (r, τ) ∧ FR [16, 22, 23] [10, 11, 12, 13, 14, 16] [15] σ τ ∧ MK τ (mk + 1) ∧ (0 < W.length → W.length = n → r = rI (rest Y n W P0)) ∧ (W = [] → P0 = st n → ∃ SP s, TB τ Y n (mk + 1) SP s ∧ Sol Y n s) := by
  let σ0 := sI (sI σ 23 (iN (mk + 1))) 22 (iN 0)
  have f0 : FR [22, 23] [] [] σ σ0 := FR_tr (FR_sI (by decide)) (FR_sI (by decide))
  have hY0 : YR σ0 Y := YR_fr hY f0 rfl
  obtain ⟨τ1, t1, t2, t3, t4⟩ := decode_ok hY0 hn hv
  have hY1 := YR_fr hY0 t4 rfl
  have hW1 := WR_fr (WR_fr hW f0 rfl) t4 rfl
  have g23 : gI σ0 23 = iN (mk + 1) := rfl
  have g22 : gI σ0 22 = iN 0 := rfl
  have h0v : ∀ a, av σ0 13 a = av σ 13 a := fun _ => rfl
  have hTB0 : TB σ0 Y n (mk + 1) [] ((fun _ => False, fun _ => 0, fun _ => 0) : Sl) := by
    refine ⟨g23, by omega, g22, by simp, fun a ha => ?_, fun i e he => by simp at he, fun e he => by simp at he, fun T => by simp, by simp, fun T hT => absurd hT id⟩
    obtain ⟨v, hv1, hv2⟩ := hMK.2 a ha
    rw [h0v, hv2, iN_eq (by omega) (by omega)]
    refine ⟨⟨fun h9 => by omega, fun h9 => by simp at h9⟩, v, by omega, rfl⟩
  have hTB1 := TB_fr hTB0 t4 rfl
  have hwt := isWanted_ok hY1 hn hv t2 hW1
  have hbeg : m_search σ (iN (key (yM Y) P0)) (iN n) = ((m_isWanted τ1).bind fun q21 =>
      if q21 = 0 then some ((-6), τ1) else (m_come τ1 (iN (key (yM Y) P0)) 0 1).bind fun q34 => (m_search_L39 N0 q34 (iN n) 0).bind fun q39 => match q39 with | .inr r39 => some r39 | .inl e39 => some ((-6), e39)) := by
    rw [m_search, hMK.1]
    have : (m_decode (sI (sI σ 23 (iN mk + 1)) 22 0) (iN (key (yM Y) P0))) = some τ1 := by
      rw [zl_1, iN_add]; exact t1
    rw [this]
    rfl
  have f01 : FR [16, 22, 23] [10, 11, 12, 13, 14, 16] [15] σ τ1 := FR_tr (FR_mo f0 rfl rfl rfl) (FR_mo t4 rfl rfl rfl)
  have hMK1 : MK τ1 (mk + 1) := by
    refine MK_fr ⟨g23, fun a ha => ?_⟩ t4 rfl
    obtain ⟨v, hv1, hv2⟩ := hMK.2 a ha
    exact ⟨v, by omega, by rw [h0v, hv2]⟩
  rw [hbeg, hwt]
  simp only [Option.bind_some]
  cases hw : wt W (P0 5) with
  | false =>
    refine ⟨-6, τ1, by rw [if_pos bF], f01, hMK1, fun hl hln => ?_, fun hl => ?_⟩
    · rw [rest_eq hY.1 hn hv]
      rw [wt_pre (by rw [hln]; exact VP_le hv (by omega))] at hw
      rw [hw]
      rfl
    · rw [hl, wt_nil] at hw
      exact absurd hw (by decide)
  | true =>
    rw [if_neg (by decide)]
    obtain ⟨τ2, SP, u1, u2, u3, u4⟩ := come_ok hY.1 hn hTB1 hv (f := 0) (by omega) 1
    have hSP : ∃ a, SP = [(a, P0)] := by
      rcases u4 with ⟨_, u4⟩ | ⟨_, a, u4⟩
      · exact absurd u4 id
      · exact ⟨a, by simpa using u4⟩
    obtain ⟨a, hSP⟩ := hSP
    subst hSP
    have hs0 : ¬ ((fun _ => False, fun _ => 0, fun _ => 0) : Sl).1 P0 := id
    have hY2 := YR_fr hY1 u3 rfl
    have hW2 := WR_fr hW1 u3 rfl
    have hB2 : BS τ2 Y n (mk + 1) W P0 [(a, P0)] (cme (fun _ => False, fun _ => 0, fun _ => 0) P0 0 1) 0 := by
      refine ⟨hY2, hW2, u2, ⟨Or.inr rfl, (cme_n hs0).1, (cme_n hs0).2, fun T hT => ?_, fun T hT hT0 => ?_, fun H m hd => ?_, fun T hT hT0 => ?_⟩, fun i j e g hij hi hj => ?_, fun e he g hg => ?_⟩
      · rcases hT with hT | hT
        · exact absurd hT id
        · rw [hT]; exact ⟨hv, Nat.le_refl _⟩
      · rcases hT with hT | hT
        · exact absurd hT id
        · exact absurd hT hT0
      · have := hd.1
        simp at this
      · rcases hT with hT | hT
        · exact absurd hT id
        · exact absurd hT hT0
      · have hj0 := (List.getElem?_eq_some_iff.mp hj).1
        simp only [List.length_cons, List.length_nil] at hj0
        have : i = j := by omega
        rw [this, hj] at hi
        cases hi
        exact Nat.le_refl _
      · simp only [List.getElem?_cons_zero, Option.some.injEq] at he
        rw [List.mem_singleton] at hg
        rw [← he, hg]
        exact Nat.le_succ _
    obtain ⟨τ3, SP3, s3, q3, v1, v2, v3, v4⟩ := search_L39 hn 17047 0 N0 τ2 _ _ (by rw [N0_eq]; omega) rfl (Nat.zero_le _) hB2 (fun _ e he => by simp at he)
    have f23 : FR [16, 22, 23] [10, 11, 12, 13, 14, 16] [15] σ τ3 := FR_tr f01 (FR_tr (FR_mo u3 rfl rfl rfl) (FR_mo v1 rfl rfl rfl))
    obtain ⟨z1, z2, z3, z4, z5, z6⟩ := v2
    have hMK3 : MK τ3 (mk + 1) := ⟨z3.1, fun c hc => (z3.2.2.2.2.1 c hc).2⟩
    have e0 : m_come τ1 (iN (key (yM Y) P0)) 0 1 = some τ2 := u1
    rw [e0]
    simp only [Option.bind_some]
    rcases v4 with ⟨v4, v5⟩ | ⟨e, v4, v5, v6, v7⟩
    · have e1 : m_search_L39 N0 τ2 (iN n) 0 = some (.inl τ3) := v4
      rw [e1]
      refine ⟨-6, τ3, rfl, f23, hMK3, fun hl hln => ?_, fun hl hl2 => ?_⟩
      · have : rest Y n W P0 = none := by
          unfold rest
          rw [rs_none hY.1 hn hv (by omega)]
          intro k T h1 h2 h3
          obtain ⟨j1, j2⟩ := bfs_min hY.1 hv hln (R := k + 1) z4 (fun H hH _ => by
            rw [v5, List.take_length]
            exact (z3.2.2.2.2.2.2.2.1 H).mp hH) k T h1 h3 (by omega)
          obtain ⟨g, hg, hgT⟩ := List.mem_map.mp ((z3.2.2.2.2.2.2.2.1 T).mp j1)
          have := v3 hl g (by rw [v5, List.take_length]; exact hg)
          have hgT : g.2 = T := hgT
          rw [hgT] at this
          exact this h2
        rw [this]
        rfl
      · refine ⟨SP3, s3, z3, ?_⟩
        subst hl
        subst hl2
        have : LW Y [] = oks Y := by funext P; exact LW_nil Y P
        rw [this] at z4
        refine GI_Sol z4 (fun H m hH hm => ?_)
        refine ⟨?_, by rw [this]; exact hm⟩
        rw [v5, List.take_length]
        exact (z3.2.2.2.2.2.2.2.1 H).mp hH
    · have e1 : m_search_L39 N0 τ2 (iN n) 0 = some (.inr (iN (s3.2.1 e.2), τ3)) := v7
      rw [e1]
      refine ⟨_, τ3, rfl, f23, hMK3, fun hl hln => ?_, fun hl => ?_⟩
      · have hse : s3.1 e.2 := (z3.2.2.2.2.2.2.2.1 e.2).mpr (List.mem_map_of_mem (f := (·.2)) (List.mem_of_getElem? v4))
        have hre : rest Y n W P0 = some (s3.2.1 e.2) := by
          unfold rest
          rw [rs_least hY.1 hn hv (by omega)]
          refine ⟨⟨e.2, GI_walk hY.1 (LW_oks Y W) z4 _ _ rfl hse, v5, ?_⟩, fun k T h1 h2 h3 => ?_⟩
          · have := dom_wt z4 hw hse
            rw [wt_pre (by omega)] at this
            exact List.isPrefixOf_iff_prefix.mp this
          · rcases Nat.lt_or_ge k (s3.2.1 e.2) with h9 | h9
            · exfalso
              have hR : ∀ H, s3.1 H → s3.2.1 H < s3.2.1 e.2 → H ∈ (SP3.take q3).map (·.2) := by
                intro H hH hf
                obtain ⟨g, hg, hgT⟩ := List.mem_map.mp ((z3.2.2.2.2.2.2.2.1 H).mp hH)
                have hgT : g.2 = H := hgT
                obtain ⟨i, hi⟩ := List.getElem?_of_mem hg
                rcases Nat.lt_or_ge i q3 with hiq | hiq
                · rw [← hgT]
                  apply m2
                  have : (SP3.take q3)[i]? = some g := by rw [List.getElem?_take, if_pos hiq]; exact hi
                  exact List.mem_of_getElem? this
                · have := z5 q3 i e g hiq v4 hi
                  rw [hgT] at this
                  omega
              obtain ⟨j1, j2⟩ := bfs_min hY.1 hv hln (R := s3.2.1 e.2) z4 hR k T h1 h3 (by omega)
              obtain ⟨g, hg, hgT⟩ := List.mem_map.mp (hR T j1 (by omega))
              have hgT : g.2 = T := hgT
              have := v3 hl g hg
              rw [hgT] at this
              exact this h2
            · exact h9
        rw [hre]
        rfl
      · rw [hl] at v6
        exact absurd v6 (Nat.lt_irrefl _)
