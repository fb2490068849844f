/-! THE REFERENCE: LEAST and WAYS of all ORDERS -/
def FT (σ : MS) (Y : Yd) (n : Nat) : Prop := (∃ s, Sol Y n s) ∧ ∀ l ∈ pm n, av σ 18 (120 * n + rk l) = rI (lf Y n l) ∧ wv σ 19 (120 * n + rk l) = lw Y n l
def FA (σ : MS) (Y : Yd) : Prop := ∀ n, 1 ≤ n → n ≤ 5 → av σ 20 n = iN 0 ∨ (av σ 20 n = iN 1 ∧ FT σ Y n)
theorem FA_fr {ks as ls : List Nat} {σ τ : MS} {Y : Yd} (h : FA σ Y) (f : FR ks as ls σ τ) (h1 : (as.contains 18 || as.contains 20 || ls.contains 19) = false) : FA τ Y := by
  simp only [Bool.or_eq_false_iff, List.contains_eq_mem, decide_eq_false_iff_not] at h1
  intro n a b
  unfold FT
  simp only [f.2.1 18 h1.1.1, f.2.1 20 h1.1.2, f.2.2 19 h1.2]
  exact h n a b
def MKb (σ : MS) (c : Nat) : Prop := ∃ mk, mk ≤ c ∧ MK σ mk
theorem MKb_fr {ks as ls : List Nat} {σ τ : MS} {c : Nat} (h : MKb σ c) (f : FR ks as ls σ τ) (h1 : (ks.contains 23 || as.contains 13) = false) : MKb τ c := by
  obtain ⟨mk, a, b⟩ := h
  exact ⟨mk, a, MK_fr b f h1⟩
theorem MKb_le {σ : MS} {c d : Nat} (h : MKb σ c) (hd : c ≤ d) : MKb σ d := by
  obtain ⟨mk, a, b⟩ := h
  exact ⟨mk, by omega, b⟩
theorem findAll_L19 {n : Nat} (hn : n ≤ 5) : ∀ (d k f : Nat) (σ : MS), d < f → k + d = 120 → ∃ τ, m_findAll_L19 f σ (iN n) (iN k) = some τ ∧ FR [] [18] [19] σ τ ∧ ∀ j, (av τ 18 j = if 120 * n + k ≤ j ∧ j < 120 * n + 120 then -6 else av σ 18 j) ∧ (wv τ 19 j = if 120 * n + k ≤ j ∧ j < 120 * n + 120 then 0 else wv σ 19 j) := by
  intro d
  induction d with
  | zero =>
    intro k f σ hf hk
    obtain ⟨f, rfl⟩ : ∃ g, f = g + 1 := ⟨f - 1, by omega⟩
    refine ⟨σ, ?_, FR_rf, fun j => by rw [if_neg (by omega), if_neg (by omega)]; exact ⟨rfl, rfl⟩⟩
    rw [m_findAll_L19, zl_120, jlt (by omega) (by omega), if_neg (by omega)]
  | succ d ih =>
    intro k f σ hf hk
    obtain ⟨f, rfl⟩ : ∃ g, f = g + 1 := ⟨f - 1, by omega⟩
    obtain ⟨τ, h1, h2, h3⟩ := ih (k + 1) f (sL (sA σ 18 (iN (120 * n + k)) (-6)) 19 (iN (120 * n + k)) 0) (by omega) (by omega)
    refine ⟨τ, ?_, FR_tr (FR_sA (by decide)) (FR_tr (FR_sL (by decide)) h2), fun j => ?_⟩
    · have hin : inb (iN (120 * n + k)) 720 := by rw [iN_inb (by omega)]; omega
      rw [m_findAll_L19, zl_120, jlt (by omega) (by omega), if_pos (by omega), iN_mul, iN_add, if_pos ⟨hin, hin⟩, zl_1, iN_add]
      exact h1
    · obtain ⟨a1, a2⟩ := h3 j
      rw [a1, a2]
      rw [av_sL, av_sA (by omega), if_pos rfl, wv_sL (by omega), if_pos rfl, wv_sA]
      by_cases c : j = 120 * n + k
      · rw [if_neg (by omega), if_pos c, if_pos (by omega), if_neg (by omega), if_pos c, if_pos (by omega)]; exact ⟨rfl, rfl⟩
      · rw [if_neg c, if_neg c]
        by_cases c2 : 120 * n + (k + 1) ≤ j ∧ j < 120 * n + 120
        · rw [if_pos c2, if_pos (by omega), if_pos c2, if_pos (by omega)]; exact ⟨rfl, rfl⟩
        · rw [if_neg c2, if_neg (by omega), if_neg c2, if_neg (by omega)]; exact ⟨rfl, rfl⟩
theorem findAll_L111 {σ : MS} {M : Nat} (hM : M ≤ 4) {l : List Nat} (x2 x3 : Int32) : ∀ (d k f : Nat) (σ : MS), d < f → k + d = l.length → l.length ≤ 5 → gI σ 4 = iN M → RLs σ M l → ∃ τ, m_findAll_L111 f σ (iN l.length) x2 x3 (iN k) = some τ ∧ FR [] [21] [] σ τ ∧ ∀ j, av τ 21 j = if k ≤ j ∧ j < l.length then iN (l.getD j 0) else av σ 21 j := by
  intro d
  induction d with
  | zero =>
    intro k f σ hf hk _ _ _
    obtain ⟨f, rfl⟩ : ∃ g, f = g + 1 := ⟨f - 1, by omega⟩
    refine ⟨σ, ?_, FR_rf, fun j => by rw [if_neg (by omega)]⟩
    rw [m_findAll_L111, jlt (by omega) (by omega), if_neg (by omega)]
  | succ d ih =>
    intro k f σ hf hk h5 h4 hl
    obtain ⟨f, rfl⟩ : ∃ g, f = g + 1 := ⟨f - 1, by omega⟩
    have fr1 : FR [] [21] [] σ (sA σ 21 (iN k) (iN (l.getD k 0))) := FR_sA (by decide)
    obtain ⟨τ, h1, h2, h3⟩ := ih (k + 1) f (sA σ 21 (iN k) (iN (l.getD k 0))) (by omega) (by omega) h5 h4 ⟨hl.1, by rw [fr1.2.1 11 (by decide)]; exact hl.2.1, fun j hj => by rw [fr1.2.1 10 (by decide)]; exact hl.2.2 j hj⟩
    refine ⟨τ, ?_, FR_tr fr1 h2, fun j => ?_⟩
    · rw [m_findAll_L111, jlt (by omega) (by omega), if_pos (by omega), h4, zl_5, zl_1, iN_mul, iN_add, iN_add, if_pos ⟨by rw [iN_inb (by omega)]; omega, by rw [iN_inb (by omega)]; omega⟩, gA_av (by omega), hl.2.2 k (by omega)]
      exact h1
    · rw [h3]
      simp (disch := omega) only [av_sA, if_true]
      by_cases c : j = k
      · rw [if_neg (by omega), if_pos c, if_pos (by omega), c]
      · rw [if_neg c]
        by_cases c2 : k + 1 ≤ j ∧ j < l.length
        · rw [if_pos c2, if_pos (by omega)]
        · rw [if_neg c2, if_neg (by omega)]
theorem VP_5pm {Y : Yd} (hY : VY Y) {n : Nat} {P : Ps} (h : VP Y n P) (hl : (P 5).length = n) : P 5 ∈ pm n := by
  have h1 := VP_perm h
  have h2 := VP_fin hY h hl
  have e : tot P = P 5 := by
    have z : ∀ p, p ≠ 5 → P p = [] := fun p hp => by rw [h2]; unfold fin; rw [if_neg hp]
    unfold tot
    rw [z 0 (by omega), z 1 (by omega), z 2 (by omega), z 3 (by omega), z 4 (by omega)]
    rfl
  rw [e] at h1
  exact mem_pm.mpr h1
noncomputable def fI (s : Sl) (D : List Ps) (l : List Nat) : Int32 := if isB (fin l ∈ D) then iN (s.2.1 (fin l)) else -6
noncomputable def wI (s : Sl) (D : List Ps) (l : List Nat) : Int64 := if isB (fin l ∈ D) then s.2.2 (fin l) else 0
theorem fin_inj {l k : List Nat} (h : fin l = fin k) : l = k := by
  have := congrFun h 5
  rwa [fin_5, fin_5] at this
theorem findAll_L70 {Y : Yd} {n mk : Nat} (h1n : 1 ≤ n) (hn : n ≤ 5) {SP : List (Nat × Ps)} {s : Sl} : ∀ (d q f : Nat) (σ : MS), d < f → q + d = SP.length → YR σ Y → TB σ Y n mk SP s → (∀ T, s.1 T → s.2.1 T ≤ 20) →
    (∀ l ∈ pm n, av σ 18 (120 * n + rk l) = fI s ((SP.take q).map (·.2)) l ∧ wv σ 19 (120 * n + rk l) = wI s ((SP.take q).map (·.2)) l) →
    ∃ τ, m_findAll_L70 f σ (iN n) (iN q) = some τ ∧ FR [16] [10, 11, 18, 21] [19] σ τ ∧ (∀ j, (j < 120 * n ∨ 120 * n + fac n ≤ j) → av τ 18 j = av σ 18 j ∧ wv τ 19 j = wv σ 19 j) ∧ ∀ l ∈ pm n, av τ 18 (120 * n + rk l) = fI s (SP.map (·.2)) l ∧ wv τ 19 (120 * n + rk l) = wI s (SP.map (·.2)) l := by
  intro d
  induction d with
  | zero =>
    intro q f σ hf hq hY hT hs h
    obtain ⟨f, rfl⟩ : ∃ g, f = g + 1 := ⟨f - 1, by omega⟩
    have hlen := TB_len hY.1 hn hT
    rw [List.take_of_length_le (by omega)] at h
    refine ⟨σ, ?_, FR_rf, fun j _ => ⟨rfl, rfl⟩, h⟩
    rw [m_findAll_L70, hT.2.2.1, jlt (by omega) (by omega), if_neg (by omega)]
  | succ d ih =>
    intro q f σ hf hq hY hT hs h
    obtain ⟨f, rfl⟩ : ∃ g, f = g + 1 := ⟨f - 1, by omega⟩
    have hlen := TB_len hY.1 hn hT
    have hM := hY.1.2.1
    obtain ⟨e, he⟩ : ∃ e, SP[q]? = some e := ⟨_, List.getElem?_eq_getElem (by omega)⟩
    obtain ⟨a, P⟩ := e
    have hmem := List.mem_of_getElem? he
    obtain ⟨b1, b2, b3, b4, b5, b6, b7, b8, b9, b10⟩ := id hT
    obtain ⟨ha, ha12, ha14, ha15, _⟩ := b7 _ hmem
    have ha16 := b6 q _ he
    simp only at ha ha12 ha14 ha15 ha16
    have hsP : s.1 P := (b8 P).mpr (List.mem_map_of_mem (f := (·.2)) hmem)
    have hvP := (b10 P hsP).1
    have h5le := VP_le hvP (p := 5) (by omega)
    have hin : inb (iN a) 65536 := by rw [iN_inb (by omega)]; exact ha
    have hin4 : inb (iN (yM Y)) 5 := by rw [iN_inb (by omega)]; omega
    obtain ⟨τ1, t1, t2, t3, t4⟩ := decode_ok hY hn hvP
    have hY1 := YR_fr hY t4 rfl
    have hT1 := TB_fr hT t4 rfl
    have hl5 := RP_5 t2
    have htk : (SP.take (q + 1)).map (·.2) = (SP.take q).map (·.2) ++ [P] := by
      rw [List.take_succ, he]
      simp
    have hbase : m_findAll_L70 (f + 1) σ (iN n) (iN q) = (if iN (P 5).length = iN n then
              (m_findAll_L111 N0 τ1 (iN n) (iN q) (iN a) 0).bind fun q111 =>
                (m_rankOf q111 (iN n)).bind fun q150 =>
                  if inb (iN a) 65536 ∧ inb (((120 : Int32) * (iN n)) + q150) 720 ∧ inb (iN a) 65536 ∧ inb (((120 : Int32) * (iN n)) + q150) 720 then
                    m_findAll_L70 f (sL (sA q111 18 (((120 : Int32) * (iN n)) + q150) (gA q111 14 (iN a))) 19 (((120 : Int32) * (iN n)) + q150) (gL q111 15 (iN a))) (iN n) (iN (q + 1))
                  else none
            else m_findAll_L70 f τ1 (iN n) (iN (q + 1))) := by
      rw [m_findAll_L70, b3, jlt (by omega) (by omega), if_pos (by omega), gA_av (by omega), ha16, if_pos ⟨by rw [iN_inb (by omega)]; omega, hin⟩, gA_av (by omega), ha12, t1]
      simp only [Option.bind_some]
      rw [hY1.2.1, if_pos hin4, gA_av (by omega), hl5.2.1, zl_1, iN_add]
    rw [hbase, jeq (by omega) (by omega)]
    by_cases c : (P 5).length = n
    · rw [if_pos c]
      have hpm := VP_5pm hY.1 hvP c
      have hPf := VP_fin hY.1 hvP c
      have hrk := rk_lt (by omega) hpm
      have hfc := (fac_le n (by omega)).2
      obtain ⟨τ2, u1, u2, u3⟩ := findAll_L111 (σ := τ1) hM (l := P 5) (iN q) (iN a) (P 5).length 0 N0 τ1 (by rw [N0_eq]; omega) (by omega) (by omega) hY1.2.1 hl5
      rw [c, z00] at u1
      rw [u1]
      simp only [Option.bind_some]
      have hRW : RW τ2 (P 5) := ⟨by omega, pm_100 (by omega) hpm, fun k hk => by rw [u3, if_pos (by omega)]⟩
      have hrank := rankOf_ok hRW
      rw [c] at hrank
      rw [hrank]
      simp only [Option.bind_some]
      have hY2 := YR_fr hY1 u2 rfl
      have hT2 := TB_fr hT1 u2 rfl
      have c14 := (hT2.2.2.2.2.2.2.1 _ hmem).2.2.1
      have c15 := (hT2.2.2.2.2.2.2.1 _ hmem).2.2.2.1
      simp only at c14 c15
      have hin7 : inb (iN (120 * n + rk (P 5))) 720 := by rw [iN_inb (by omega)]; omega
      rw [zl_120, iN_mul, iN_add, if_pos ⟨hin, hin7, hin, hin7⟩, gA_av (by omega), gL_wv (by omega), c14, c15]
      have fr3 : FR [] [18] [19] τ2 (sL (sA τ2 18 (iN (120 * n + rk (P 5))) (iN (s.2.1 P))) 19 (iN (120 * n + rk (P 5))) (s.2.2 P)) := FR_tr (FR_sA (by decide)) (FR_sL (by decide))
      have e18 : ∀ j, av τ2 18 j = av σ 18 j := fun j => by rw [u2.2.1 18 (by decide), t4.2.1 18 (by decide)]
      have e19 : ∀ j, wv τ2 19 j = wv σ 19 j := fun j => by rw [u2.2.2 19 (by decide), t4.2.2 19 (by decide)]
      obtain ⟨υ, v1, v2, v3, v4⟩ := ih (q + 1) f (sL (sA τ2 18 (iN (120 * n + rk (P 5))) (iN (s.2.1 P))) 19 (iN (120 * n + rk (P 5))) (s.2.2 P)) (by omega) (by omega) (YR_fr hY2 fr3 rfl) (TB_fr hT2 fr3 rfl) hs (fun l hl => by
        rw [av_sL, av_sA (by omega), if_pos rfl, wv_sL (by omega), if_pos rfl, wv_sA, e18, e19]
        unfold fI wI
        rw [htk]
        by_cases d1 : l = P 5
        · have ed : 120 * n + rk l = 120 * n + rk (P 5) := by rw [d1]
          rw [if_pos ed, if_pos ed]
          have : isB (fin l ∈ (SP.take q).map (·.2) ++ [P]) = true := isB_t.mpr (by rw [d1, ← hPf]; simp)
          rw [if_pos this, if_pos this, d1, ← hPf]
          exact ⟨rfl, rfl⟩
        · have d2 : ¬ 120 * n + rk l = 120 * n + rk (P 5) := fun h9 => d1 (rk_inj (by omega) hl hpm (by omega))
          rw [if_neg d2, if_neg d2]
          have d3 : (fin l ∈ (SP.take q).map (·.2) ++ [P]) = (fin l ∈ (SP.take q).map (·.2)) := by
            apply propext
            rw [List.mem_append, List.mem_singleton]
            refine ⟨fun h9 => h9.elim id (fun h8 => ?_), Or.inl⟩
            rw [hPf] at h8
            exact absurd (fin_inj h8) d1
          rw [d3]
          exact h l hl)
      refine ⟨υ, v1, FR_tr (FR_mo t4 rfl rfl rfl) (FR_tr (FR_mo u2 rfl rfl rfl) (FR_tr (FR_mo fr3 rfl rfl rfl) v2)), fun j hj => ?_, v4⟩
      obtain ⟨w1, w2⟩ := v3 j hj
      rw [w1, w2, av_sL, av_sA (by omega), if_pos rfl, if_neg (by omega), wv_sL (by omega), if_pos rfl, if_neg (by omega), wv_sA, e18, e19]
      exact ⟨rfl, rfl⟩
    · rw [if_neg c]
      have e18 : ∀ j, av τ1 18 j = av σ 18 j := fun j => by rw [t4.2.1 18 (by decide)]
      have e19 : ∀ j, wv τ1 19 j = wv σ 19 j := fun j => by rw [t4.2.2 19 (by decide)]
      obtain ⟨υ, v1, v2, v3, v4⟩ := ih (q + 1) f τ1 (by omega) (by omega) hY1 hT1 hs (fun l hl => by
        rw [e18, e19]
        unfold fI wI
        rw [htk]
        have d3 : (fin l ∈ (SP.take q).map (·.2) ++ [P]) = (fin l ∈ (SP.take q).map (·.2)) := by
          apply propext
          rw [List.mem_append, List.mem_singleton]
          refine ⟨fun h9 => h9.elim id (fun h8 => ?_), Or.inl⟩
          exfalso
          apply c
          rw [← h8, fin_5, pm_len hl]
        rw [d3]
        exact h l hl)
      refine ⟨υ, v1, FR_tr (FR_mo t4 rfl rfl rfl) v2, fun j hj => ?_, v4⟩
      obtain ⟨w1, w2⟩ := v3 j hj
      rw [w1, w2, e18, e19]
      exact ⟨rfl, rfl⟩
theorem key_st (M n : Nat) : key M (st n) = 0 := by
  have : ∀ (l : List (List Nat)), (∀ x ∈ l, x = []) → keyL l 0 = 0 := by
    intro l
    induction l with
    | nil => intro _; rfl
    | cons x t ih =>
      intro h
      rw [keyL, h x List.mem_cons_self]
      exact ih (fun y hy => h y (List.mem_cons_of_mem _ hy))
  unfold key
  apply this
  intro x hx
  obtain ⟨p, hp, rfl⟩ := List.mem_map.mp hx
  have := plc_mem.mp hp
  unfold st
  rw [if_neg (by omega)]
theorem findAll_ok {σ : MS} {Y : Yd} (hY : YR σ Y) {n : Nat} (h1n : 1 ≤ n) (hn : n ≤ 5) {c : Nat} (hc : c < 1000000000) (hMK : MKb σ c) (hFA : FA σ Y) :
    ∃ τ, m_findAll σ (iN n) = some τ ∧ FR [16, 22, 23, 25] [10, 11, 12, 13, 14, 16, 18, 20, 21] [15, 19] σ τ ∧ MKb τ (c + 1) ∧ FA τ Y ∧ FT τ Y n := by
  have hin : inb (iN n) 6 := by rw [iN_inb (by omega)]; omega
  rcases hFA n h1n hn with h0 | ⟨h1, h2⟩
  · obtain ⟨mk, hmk, hMK⟩ := hMK
    let σ1 := sA σ 20 (iN n) (narZ 1)
    have f1 : FR [] [20] [] σ σ1 := FR_sA (by decide)
    obtain ⟨τ1, a1, a2, a3⟩ := findAll_L19 hn 120 0 N0 σ1 (by rw [N0_eq]; omega) (by omega)
    have f2 : FR [25] [] [] τ1 (sI τ1 25 0) := FR_sI (by decide)
    have hW : WR (sI τ1 25 0) [] := ⟨by simp, fun d hd => by simp at hd, rfl, fun k hk => by simp at hk⟩
    have hY1 : YR (sI τ1 25 0) Y := YR_fr (YR_fr (YR_fr hY f1 rfl) a2 rfl) f2 rfl
    have hMK1 : MK (sI τ1 25 0) mk := MK_fr (MK_fr (MK_fr hMK f1 rfl) a2 rfl) f2 rfl
    obtain ⟨r, τ2, b1, b2, b3, b4, b5⟩ := search_ok hY1 hn (by omega) hMK1 hW (VP_st Y n)
    obtain ⟨SP, s, hT, hS⟩ := b5 rfl rfl
    rw [key_st, z00] at b1
    have hfar : ∀ T, s.1 T → s.2.1 T ≤ 20 := by
      intro T hT
      have w := Sol_walk hY.1 hS _ T rfl hT
      have := wk_lv hY.1 _ _ _ (VP_st Y n) w
      have := lv_le hY.1 hn (hS.2.2.2.1 T hT)
      omega
    have hY2 := YR_fr hY1 b2 rfl
    have e18 : ∀ j, av τ2 18 j = av τ1 18 j := fun j => by rw [b2.2.1 18 (by decide)]; rfl
    have e19 : ∀ j, wv τ2 19 j = wv τ1 19 j := fun j => by rw [b2.2.2 19 (by decide)]; rfl
    have hfc := (fac_le n (by omega)).2
    obtain ⟨τ3, c1, c2, c3, c4⟩ := findAll_L70 h1n hn SP.length 0 N0 τ2 (by rw [N0_eq]; have := TB_len hY.1 hn hT; omega) (by omega) hY2 hT hfar (fun l hl => by
      have hrk := rk_lt (by omega) hl
      rw [e18, e19, (a3 _).1, (a3 _).2, if_pos (by omega), if_pos (by omega)]
      have : ¬ (isB (fin l ∈ (SP.take 0).map (·.2)) = true) := by
        intro h9
        have := isB_t.mp h9
        simp at this
      unfold fI wI
      rw [if_neg this, if_neg this]
      exact ⟨rfl, rfl⟩)
    have hFT : FT τ3 Y n := by
      refine ⟨⟨s, hS⟩, fun l hl => ?_⟩
      obtain ⟨x1, x2⟩ := c4 l hl
      rw [x1, x2]
      have hl9 := lf_of hY.1 hS l
      have h8 := hT.2.2.2.2.2.2.2.1 (fin l)
      unfold fI wI
      by_cases d : fin l ∈ SP.map (·.2)
      · rw [if_pos (isB_t.mpr d), if_pos (isB_t.mpr d), (hl9.1 (h8.mpr d)).1, (hl9.1 (h8.mpr d)).2]
        exact ⟨rfl, rfl⟩
      · rw [if_neg (fun h9 => d (isB_t.mp h9)), if_neg (fun h9 => d (isB_t.mp h9)), (hl9.2 (fun h9 => d (h8.mp h9))).1, (hl9.2 (fun h9 => d (h8.mp h9))).2]
        exact ⟨rfl, rfl⟩
    have fall : FR [16, 22, 23, 25] [10, 11, 12, 13, 14, 16, 18, 20, 21] [15, 19] σ τ3 := FR_tr (FR_mo f1 rfl rfl rfl) (FR_tr (FR_mo a2 rfl rfl rfl) (FR_tr (FR_mo f2 rfl rfl rfl) (FR_tr (FR_mo b2 rfl rfl rfl) (FR_mo c2 rfl rfl rfl))))
    have e20 : ∀ j, av τ3 20 j = if j = n then iN 1 else av σ 20 j := by
      intro j
      rw [c2.2.1 20 (by decide), b2.2.1 20 (by decide), f2.2.1 20 (by decide), a2.2.1 20 (by decide)]
      show av (sA σ 20 (iN n) (narZ 1)) 20 j = _
      rw [av_sA (by omega), if_pos rfl]
      rfl
    refine ⟨τ3, ?_, fall, ⟨mk + 1, by omega, MK_fr b3 c2 rfl⟩, fun m m1 m5 => ?_, hFT⟩
    · rw [m_findAll, if_pos hin, gA_av (by omega), h0, if_pos z00, if_pos hin]
      have a1' : m_findAll_L19 N0 (sA σ 20 (iN n) (narZ 1)) (iN n) 0 = some τ1 := a1
      rw [a1']
      simp only [Option.bind_some]
      rw [b1]
      simp only [Option.bind_some]
      rw [z00] at c1
      rw [c1]
      rfl
    · by_cases hmn : m = n
      · right
        rw [hmn, e20, if_pos rfl]
        exact ⟨rfl, hFT⟩
      · rw [e20, if_neg hmn]
        rcases hFA m m1 m5 with g | ⟨g1, g2, g3⟩
        · exact Or.inl g
        · refine Or.inr ⟨g1, g2, fun l hl => ?_⟩
          have hrk := rk_lt (by omega) hl
          have hfm := (fac_le m (by omega)).2
          obtain ⟨x1, x2⟩ := c3 (120 * m + rk l) (by omega)
          rw [x1, x2, e18, e19, (a3 _).1, (a3 _).2, if_neg (by omega), if_neg (by omega)]
          exact g3 l hl
  · refine ⟨σ, ?_, FR_rf, MKb_le hMK (by omega), hFA, h2⟩
    rw [m_findAll, if_pos hin, gA_av (by omega), h1, if_neg (by decide)]
theorem found_ok {σ : MS} {Y : Yd} (hY : YR σ Y) {n : Nat} (h1n : 1 ≤ n) (hn : n ≤ 5) {c : Nat} (hc : c < 1000000000) (hMK : MKb σ c) (hFA : FA σ Y) {t o : List Nat} (ht : t ∈ pm n) (ho : o ∈ pm n) :
    ∃ τ, m_found σ (iN (num t)) (iN (num o)) (iN n) = some (iN (120 * n + rk (rel t o)), τ) ∧ FR [16, 22, 23, 25] [10, 11, 12, 13, 14, 16, 18, 20, 21, 22] [15, 19] σ τ ∧ MKb τ (c + 1) ∧ FA τ Y ∧ FT τ Y n := by
  obtain ⟨τ1, a1, a2, a3, a4, a5⟩ := findAll_ok hY h1n hn hc hMK hFA
  obtain ⟨τ2, b1, b2, b3⟩ := layTrain_ok (show n < 6 by omega) ht τ1
  obtain ⟨τ3, c1, c2, c3⟩ := layOrder_ok (show n < 6 by omega) ht ho b2
  have hr := rankOf_ok c2
  rw [pm_len (rel_mem ht ho)] at hr
  have h18 : ∀ j, av τ3 18 j = av τ1 18 j := fun j => by rw [c3.2.1 18 (by decide), b3.2.1 18 (by decide)]
  have h19 : ∀ j, wv τ3 19 j = wv τ1 19 j := fun j => by rw [c3.2.2 19 (by decide), b3.2.2 19 (by decide)]
  refine ⟨τ3, ?_, FR_tr (FR_mo a2 rfl rfl rfl) (FR_tr (FR_mo b3 rfl rfl rfl) (FR_mo c3 rfl rfl rfl)), MKb_fr (MKb_fr a3 b3 rfl) c3 rfl, FA_fr (FA_fr a4 b3 rfl) c3 rfl, a5.1, fun l hl => by rw [h18, h19]; exact a5.2 l hl⟩
  rw [m_found, a1]
  simp only [Option.bind_some]
  rw [b1]
  simp only [Option.bind_some]
  rw [c1]
  simp only [Option.bind_some]
  rw [hr]
  simp only [Option.bind_some]
  rw [zl_120, iN_mul, iN_add]
