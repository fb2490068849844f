/-! THE REFERENCE: ways to stand -/
def lp (M p : Nat) : Nat := if p = M then 5 else p + 1
def kpr (M : Nat) (P : Ps) : Nat → Nat
  | 0 => 0
  | p + 1 => val (6 * kpr M P p) (P (lp M p))
theorem kpr_key {M : Nat} (h1 : M ≤ 4) (P : Ps) : kpr M P (M + 1) = key M P := by
  rcases (show M = 0 ∨ M = 1 ∨ M = 2 ∨ M = 3 ∨ M = 4 by omega) with rfl | rfl | rfl | rfl | rfl <;> rfl
/-- the lists are those of P, at places up to the YARD's -/
def RP (σ : MS) (Y : Yd) (P : Ps) : Prop := ∀ p, p ≤ yM Y → RLs σ p (P (lp (yM Y) p))
theorem RP_fr {σ τ : MS} {Y : Yd} {P : Ps} {ks as ls : List Nat} (h : RP σ Y P) (f : FR ks as ls σ τ) (h1 : (as.contains 10 || as.contains 11) = false) : RP τ Y P := by
  simp only [Bool.or_eq_false_iff, List.contains_eq_mem, decide_eq_false_iff_not] at h1
  intro p hp
  obtain ⟨a, b, c⟩ := h p hp
  exact ⟨a, by rw [f.2.1 11 h1.2, b], fun k hk => by rw [f.2.1 10 h1.1, c k hk]⟩
theorem lp_5 (M : Nat) : lp M M = 5 := by simp [lp]
theorem lp_s {M t : Nat} (h1 : 1 ≤ t) (h2 : t ≤ M) : lp M (t - 1) = t := by
  unfold lp
  rw [if_neg (by omega)]
  omega
theorem lp_in {M p : Nat} (h : p ≤ M) : lp M p ∈ plc M := by
  rw [plc_mem]
  unfold lp
  by_cases e : p = M
  · rw [if_pos e]; exact Or.inr rfl
  · rw [if_neg e]; exact Or.inl (by omega)
theorem lp_inj {M p q : Nat} (hM : M ≤ 4) (hp : p ≤ M) (hq : q ≤ M) (h : lp M p = lp M q) : p = q := by
  unfold lp at h
  by_cases a : p = M
  · by_cases b : q = M
    · omega
    · rw [if_pos a, if_neg b] at h; omega
  · by_cases b : q = M
    · rw [if_neg a, if_pos b] at h; omega
    · rw [if_neg a, if_neg b] at h; omega
/-! decode -/
theorem decode_L2 : ∀ (d k f : Nat) (σ : MS) (x1 : Int32), d < f → k + d = 5 → ∃ τ, m_decode_L2 f σ x1 (iN k) = some τ ∧ FR [] [11] [] σ τ ∧ ∀ j, av τ 11 j = if k ≤ j ∧ j < 5 then iN 0 else av σ 11 j := by
  intro d
  induction d with
  | zero =>
    intro k f σ x1 hf hk
    obtain ⟨f, rfl⟩ : ∃ g, f = g + 1 := ⟨f - 1, by omega⟩
    refine ⟨σ, ?_, FR_rf, fun j => by rw [if_neg (by omega)]⟩
    rw [m_decode_L2]
    simp (disch := omega) only [zl_0, zl_1, zl_2, zl_3, zl_4, zl_5, zl_6, zl_7, zl_8, zl_9, zl_10, zl_11, zl_12, zl_15, zl_16, zl_20, zl_24, zl_25, zl_31, zl_32, zl_33, zl_40, zl_45, zl_48, zl_49, zl_50, zl_53, zl_57, zl_59, zl_62, zl_63, zl_64, zl_74, zl_75, zl_99, zl_100, zl_113, zl_115, zl_120, zl_126, zl_153, zl_160, zl_200, zl_255, zl_720, zl_1000, zl_4999, zl_5000, zl_17046, zl_32768, zl_54321, zl_65535, zl_65536, zl_65537, zl_9999, iN_add, iN_mul, iN_sub, iN_dec, iN_dec2, iN_div, iN_irm, iN_lt, iN_le, iN_eq, iN_inb, iN_nat, iN_and, iN_or, iN_shl, iN_shr, iN_shl2, iN_shr2, gA_av, gL_wv, gI_sI, gI_sA, gI_sL, av_sA, av_sI, av_sL, wv_sL, wv_sI, wv_sA]
    rw [if_neg (by omega)]
  | succ d ih =>
    intro k f σ x1 hf hk
    obtain ⟨f, rfl⟩ : ∃ g, f = g + 1 := ⟨f - 1, by omega⟩
    obtain ⟨τ, h1, h2, h3⟩ := ih (k + 1) f (sA σ 11 (iN k) (iN 0)) x1 (by omega) (by omega)
    refine ⟨τ, ?_, FR_tr (FR_sA (by decide)) h2, fun j => ?_⟩
    · rw [m_decode_L2]
      simp (disch := omega) only [zl_0, zl_1, zl_2, zl_3, zl_4, zl_5, zl_6, zl_7, zl_8, zl_9, zl_10, zl_11, zl_12, zl_15, zl_16, zl_20, zl_24, zl_25, zl_31, zl_32, zl_33, zl_40, zl_45, zl_48, zl_49, zl_50, zl_53, zl_57, zl_59, zl_62, zl_63, zl_64, zl_74, zl_75, zl_99, zl_100, zl_113, zl_115, zl_120, zl_126, zl_153, zl_160, zl_200, zl_255, zl_720, zl_1000, zl_4999, zl_5000, zl_17046, zl_32768, zl_54321, zl_65535, zl_65536, zl_65537, zl_9999, iN_add, iN_mul, iN_sub, iN_dec, iN_dec2, iN_div, iN_irm, iN_lt, iN_le, iN_eq, iN_inb, iN_nat, iN_and, iN_or, iN_shl, iN_shr, iN_shl2, iN_shr2, gA_av, gL_wv, gI_sI, gI_sA, gI_sL, av_sA, av_sI, av_sL, wv_sL, wv_sI, wv_sA]
      rw [if_pos (by omega), if_pos (by omega)]
      simpa (disch := omega) only [zl_0, zl_1, zl_2, zl_3, zl_4, zl_5, zl_6, zl_7, zl_8, zl_9, zl_10, zl_11, zl_12, zl_15, zl_16, zl_20, zl_24, zl_25, zl_31, zl_32, zl_33, zl_40, zl_45, zl_48, zl_49, zl_50, zl_53, zl_57, zl_59, zl_62, zl_63, zl_64, zl_74, zl_75, zl_99, zl_100, zl_113, zl_115, zl_120, zl_126, zl_153, zl_160, zl_200, zl_255, zl_720, zl_1000, zl_4999, zl_5000, zl_17046, zl_32768, zl_54321, zl_65535, zl_65536, zl_65537, zl_9999, iN_add, iN_mul, iN_sub, iN_dec, iN_dec2, iN_div, iN_irm, iN_lt, iN_le, iN_eq, iN_inb, iN_nat, iN_and, iN_or, iN_shl, iN_shr, iN_shl2, iN_shr2, gA_av, gL_wv, gI_sI, gI_sA, gI_sL, av_sA, av_sI, av_sL, wv_sL, wv_sI, wv_sA] using h1
    · rw [h3]
      simp (disch := omega) only [av_sA, if_true]
      by_cases c : j = k
      · rw [if_neg (by omega), if_pos c, if_pos (by omega)]
      · rw [if_neg c]
        by_cases c2 : k + 1 ≤ j ∧ j < 5
        · rw [if_pos c2, if_pos (by omega)]
        · rw [if_neg c2, if_neg (by omega)]
/-- how much of a key is still to be read -/
def rem (M : Nat) (P : Ps) (p : Nat) (ru : List Nat) : Nat := ru.foldr (fun d k => 6 * k + d) (6 * kpr M P p)
theorem rem_all (M : Nat) (P : Ps) (p : Nat) : rem M P p (P (lp M p)).reverse = kpr M P (p + 1) := rfl
theorem kpr_zero {M : Nat} {P : Ps} : ∀ p, kpr M P p = 0 → (∀ q, q < p → ∀ d ∈ P (lp M q), 1 ≤ d) → ∀ q, q < p → P (lp M q) = [] := by
  intro p
  induction p with
  | zero => intro _ _ q h; omega
  | succ p ih =>
    intro h hd q hq
    have key0 : ∀ (l : List Nat) (a : Nat), (∀ d ∈ l, 1 ≤ d) → l.foldr (fun d k => 6 * k + d) (6 * a) = 0 → l = [] ∧ a = 0 := by
      intro l
      cases l with
      | nil => intro a _ h; simp only [List.foldr_nil] at h; exact ⟨rfl, by omega⟩
      | cons d r => intro a h1 h2; have := h1 d List.mem_cons_self; simp only [List.foldr_cons] at h2; omega
    obtain ⟨h1, h2⟩ := key0 _ _ (fun d h9 => hd p (by omega) d (List.mem_reverse.mp h9)) h
    by_cases e : q = p
    · rw [e]; exact List.reverse_eq_nil_iff.mp h1
    · exact ih h2 (fun q hq => hd q (by omega)) q (by omega)
def tl (M : Nat) (P : Ps) : Nat → Nat
  | 0 => 0
  | p + 1 => tl M P p + (P (lp M p)).length + 1
def gl (M : Nat) (P : Ps) : Nat → Nat
  | 0 => 0
  | p + 1 => gl M P p + (P (lp M p)).length
theorem decode_L32 {M : Nat} {P : Ps} (hM : M ≤ 4) (hd : ∀ q, q ≤ M → ∀ d ∈ P (lp M q), 1 ≤ d ∧ d < 6) (hl : ∀ q, q ≤ M → (P (lp M q)).length ≤ 5) : ∀ (p : Nat), p ≤ M → ∀ (ru u : List Nat) (f g : Nat) (σ : MS), ru.reverse ++ u = P (lp M p) → tl M P p + ru.length < f → rem M P p ru < 2147483648 →
    (∀ q, q ≤ M → RLs σ q (if q < p then [] else if q = p then u else P (lp M q))) → gI σ 16 = iN g → ∃ τ, m_decode_L32 f σ (iN p) (iN (rem M P p ru)) = some τ ∧ FR [16] [10, 11] [] σ τ ∧ (∀ q, q ≤ M → RLs τ q (P (lp M q))) ∧ gI τ 16 = iN (g + ru.length + gl M P p) := by
  intro p
  induction p with
  | zero =>
    intro hp ru
    induction ru with
    | nil =>
      intro u f g σ hu hf hr hR hG
      obtain ⟨f, rfl⟩ : ∃ g, f = g + 1 := ⟨f - 1, by omega⟩
      refine ⟨σ, ?_, FR_rf, fun q hq => ?_, ?_⟩
      · rw [m_decode_L32]
        simp (disch := omega) only [zl_0, zl_1, zl_2, zl_3, zl_4, zl_5, zl_6, zl_7, zl_8, zl_9, zl_10, zl_11, zl_12, zl_15, zl_16, zl_20, zl_24, zl_25, zl_31, zl_32, zl_33, zl_40, zl_45, zl_48, zl_49, zl_50, zl_53, zl_57, zl_59, zl_62, zl_63, zl_64, zl_74, zl_75, zl_99, zl_100, zl_113, zl_115, zl_120, zl_126, zl_153, zl_160, zl_200, zl_255, zl_720, zl_1000, zl_4999, zl_5000, zl_17046, zl_32768, zl_54321, zl_65535, zl_65536, zl_65537, zl_9999, iN_add, iN_mul, iN_sub, iN_dec, iN_dec2, iN_div, iN_irm, iN_lt, iN_le, iN_eq, iN_inb, iN_nat, iN_and, iN_or, iN_shl, iN_shr, iN_shl2, iN_shr2, gA_av, gL_wv, gI_sI, gI_sA, gI_sL, av_sA, av_sI, av_sL, wv_sL, wv_sI, wv_sA, rem, kpr, List.foldr_nil, Nat.mul_zero]
        rw [if_neg (by omega)]
      · have := hR q hq
        rw [if_neg (by omega)] at this
        by_cases e : q = 0
        · rw [if_pos e] at this
          rw [e] at this ⊢
          simp only [List.reverse_nil, List.nil_append] at hu
          rw [← hu]; exact this
        · rw [if_neg e] at this; exact this
      · simp only [gl, List.length_nil, Nat.add_zero]; exact hG
    | cons d r ih =>
      intro u f g σ hu hf hr hR hG
      obtain ⟨f, rfl⟩ : ∃ g, f = g + 1 := ⟨f - 1, by omega⟩
      rw [List.reverse_cons, List.append_assoc, List.singleton_append] at hu
      have hd1 := hd 0 hp d (by rw [← hu]; simp)
      have hlen := hl 0 hp
      rw [← hu] at hlen
      simp only [List.length_append, List.length_cons, List.length_reverse] at hlen
      have e1 : rem M P 0 (d :: r) = 6 * rem M P 0 r + d := rfl
      rw [e1] at hr
      have h0 := hR 0 hp
      rw [if_neg (by omega), if_pos rfl] at h0
      obtain ⟨υ, a1, a2, a3, a4⟩ := putNear_ok (w := d) h0 (by omega) (by omega)
      have a5 := a4.1 16 (by decide)
      obtain ⟨τ, t1, t2, t3, t4⟩ := ih (d :: u) f (g + 1) (sI υ 16 (iN (g + 1))) hu (by simp only [List.length_cons] at hf; omega) (by omega) (fun q hq => by
        by_cases e : q = 0
        · rw [e, if_neg (by omega), if_pos rfl]; exact a2
        · have := hR q hq
          rw [if_neg (by omega), if_neg e] at this ⊢
          exact RLs_ot this a3 e) (by simp only [gI_sI, if_true])
      refine ⟨τ, ?_, FR_tr (FR_tr (FR_mo a4 rfl rfl rfl) (FR_sI (by decide))) t2, t3, ?_⟩
      · rw [m_decode_L32, e1]
        simp (disch := omega) only [zl_0, zl_1, zl_2, zl_3, zl_4, zl_5, zl_6, zl_7, zl_8, zl_9, zl_10, zl_11, zl_12, zl_15, zl_16, zl_20, zl_24, zl_25, zl_31, zl_32, zl_33, zl_40, zl_45, zl_48, zl_49, zl_50, zl_53, zl_57, zl_59, zl_62, zl_63, zl_64, zl_74, zl_75, zl_99, zl_100, zl_113, zl_115, zl_120, zl_126, zl_153, zl_160, zl_200, zl_255, zl_720, zl_1000, zl_4999, zl_5000, zl_17046, zl_32768, zl_54321, zl_65535, zl_65536, zl_65537, zl_9999, iN_add, iN_mul, iN_sub, iN_dec, iN_dec2, iN_div, iN_irm, iN_lt, iN_le, iN_eq, iN_inb, iN_nat, iN_and, iN_or, iN_shl, iN_shr, iN_shl2, iN_shr2, gA_av, gL_wv, gI_sI, gI_sA, gI_sL, av_sA, av_sI, av_sL, wv_sL, wv_sI, wv_sA]
        rw [if_pos (by omega), if_neg (by omega), show (6 * rem M P 0 r + d) % 6 = d by omega, show (6 * rem M P 0 r + d) / 6 = rem M P 0 r by omega, a1]
        simp only [Option.bind_some, a5, hG, zl_1, iN_add]
        simpa only [zl_0, zl_1] using t1
      · rw [t4, List.length_cons, show g + 1 + r.length + gl M P 0 = g + (r.length + 1) + gl M P 0 by omega]
  | succ p ihp =>
    intro hp ru
    induction ru with
    | nil =>
      intro u f g σ hu hf hr hR hG
      obtain ⟨f, rfl⟩ : ∃ g, f = g + 1 := ⟨f - 1, by omega⟩
      have e1 : rem M P (p + 1) [] = 6 * kpr M P (p + 1) := rfl
      rw [e1] at hr
      simp only [List.reverse_nil, List.nil_append] at hu
      by_cases hz : kpr M P (p + 1) = 0
      · have hnil := kpr_zero (p + 1) hz (fun q hq d h9 => (hd q (by omega) d h9).1)
        have hgl : gl M P (p + 1) = 0 := by
          have : ∀ k, k ≤ p + 1 → gl M P k = 0 := by
            intro k
            induction k with
            | zero => intro _; rfl
            | succ k ihk => intro hk; rw [gl, ihk (by omega), hnil k (by omega)]; rfl
          exact this _ (Nat.le_refl _)
        refine ⟨σ, ?_, FR_rf, fun q hq => ?_, ?_⟩
        · rw [m_decode_L32, e1, hz]
          simp (disch := omega) only [zl_0, zl_1, zl_2, zl_3, zl_4, zl_5, zl_6, zl_7, zl_8, zl_9, zl_10, zl_11, zl_12, zl_15, zl_16, zl_20, zl_24, zl_25, zl_31, zl_32, zl_33, zl_40, zl_45, zl_48, zl_49, zl_50, zl_53, zl_57, zl_59, zl_62, zl_63, zl_64, zl_74, zl_75, zl_99, zl_100, zl_113, zl_115, zl_120, zl_126, zl_153, zl_160, zl_200, zl_255, zl_720, zl_1000, zl_4999, zl_5000, zl_17046, zl_32768, zl_54321, zl_65535, zl_65536, zl_65537, zl_9999, iN_add, iN_mul, iN_sub, iN_dec, iN_dec2, iN_div, iN_irm, iN_lt, iN_le, iN_eq, iN_inb, iN_nat, iN_and, iN_or, iN_shl, iN_shr, iN_shl2, iN_shr2, gA_av, gL_wv, gI_sI, gI_sA, gI_sL, av_sA, av_sI, av_sL, wv_sL, wv_sI, wv_sA, Nat.mul_zero]
          rw [if_neg (by omega)]
        · have := hR q hq
          by_cases c : q < p + 1
          · rw [if_pos c] at this; rw [hnil q c]; exact this
          · rw [if_neg c] at this
            by_cases e : q = p + 1
            · rw [if_pos e] at this; rw [e] at this ⊢; rw [← hu]; exact this
            · rw [if_neg e] at this; exact this
        · rw [hgl]; simp only [List.length_nil, Nat.add_zero]; exact hG
      · have hk : kpr M P (p + 1) = rem M P p (P (lp M p)).reverse := rfl
        simp only [tl] at hf
        obtain ⟨τ, t1, t2, t3, t4⟩ := ihp (by omega) (P (lp M p)).reverse [] f g σ (by simp) (by rw [List.length_reverse]; simp only [List.length_nil] at hf; omega) (by rw [← hk]; omega) (fun q hq => by
          have := hR q hq
          by_cases c : q < p
          · rw [if_pos c]; rw [if_pos (by omega)] at this; exact this
          · rw [if_neg c]
            by_cases e : q = p
            · rw [if_pos e]; rw [if_pos (by omega)] at this; exact this
            · rw [if_neg e]; rw [if_neg (by omega)] at this
              by_cases e2 : q = p + 1
              · rw [if_pos e2] at this; rw [e2] at this ⊢; rw [← hu]; exact this
              · rw [if_neg e2] at this; exact this) hG
        refine ⟨τ, ?_, t2, t3, ?_⟩
        · rw [m_decode_L32, e1]
          simp (disch := omega) only [zl_0, zl_1, zl_2, zl_3, zl_4, zl_5, zl_6, zl_7, zl_8, zl_9, zl_10, zl_11, zl_12, zl_15, zl_16, zl_20, zl_24, zl_25, zl_31, zl_32, zl_33, zl_40, zl_45, zl_48, zl_49, zl_50, zl_53, zl_57, zl_59, zl_62, zl_63, zl_64, zl_74, zl_75, zl_99, zl_100, zl_113, zl_115, zl_120, zl_126, zl_153, zl_160, zl_200, zl_255, zl_720, zl_1000, zl_4999, zl_5000, zl_17046, zl_32768, zl_54321, zl_65535, zl_65536, zl_65537, zl_9999, iN_add, iN_mul, iN_sub, iN_dec, iN_dec2, iN_div, iN_irm, iN_lt, iN_le, iN_eq, iN_inb, iN_nat, iN_and, iN_or, iN_shl, iN_shr, iN_shl2, iN_shr2, gA_av, gL_wv, gI_sI, gI_sA, gI_sL, av_sA, av_sI, av_sL, wv_sL, wv_sI, wv_sA]
          rw [if_pos (by omega), if_pos (by omega), show 6 * kpr M P (p + 1) / 6 = kpr M P (p + 1) by omega]
          rw [hk]
          simpa only [Nat.add_sub_cancel] using t1
        · rw [t4]
          simp only [gl, List.length_nil, List.length_reverse, Nat.add_zero]
          congr 1
          omega
    | cons d r ih =>
      intro u f g σ hu hf hr hR hG
      obtain ⟨f, rfl⟩ : ∃ g, f = g + 1 := ⟨f - 1, by omega⟩
      rw [List.reverse_cons, List.append_assoc, List.singleton_append] at hu
      have hd1 := hd (p + 1) hp d (by rw [← hu]; simp)
      have hlen := hl (p + 1) hp
      rw [← hu] at hlen
      simp only [List.length_append, List.length_cons, List.length_reverse] at hlen
      have e1 : rem M P (p + 1) (d :: r) = 6 * rem M P (p + 1) r + d := rfl
      rw [e1] at hr
      have h0 := hR (p + 1) hp
      rw [if_neg (by omega), if_pos rfl] at h0
      obtain ⟨υ, a1, a2, a3, a4⟩ := putNear_ok (w := d) h0 (by omega) (by omega)
      have a5 := a4.1 16 (by decide)
      obtain ⟨τ, t1, t2, t3, t4⟩ := ih (d :: u) f (g + 1) (sI υ 16 (iN (g + 1))) hu (by simp only [List.length_cons] at hf; omega) (by omega) (fun q hq => by
        by_cases e : q = p + 1
        · rw [e, if_neg (by omega), if_pos rfl]; exact a2
        · have := hR q hq
          rw [if_neg e] at this ⊢
          exact RLs_ot this a3 e) (by simp only [gI_sI, if_true])
      refine ⟨τ, ?_, FR_tr (FR_tr (FR_mo a4 rfl rfl rfl) (FR_sI (by decide))) t2, t3, ?_⟩
      · rw [m_decode_L32, e1]
        simp (disch := omega) only [zl_0, zl_1, zl_2, zl_3, zl_4, zl_5, zl_6, zl_7, zl_8, zl_9, zl_10, zl_11, zl_12, zl_15, zl_16, zl_20, zl_24, zl_25, zl_31, zl_32, zl_33, zl_40, zl_45, zl_48, zl_49, zl_50, zl_53, zl_57, zl_59, zl_62, zl_63, zl_64, zl_74, zl_75, zl_99, zl_100, zl_113, zl_115, zl_120, zl_126, zl_153, zl_160, zl_200, zl_255, zl_720, zl_1000, zl_4999, zl_5000, zl_17046, zl_32768, zl_54321, zl_65535, zl_65536, zl_65537, zl_9999, iN_add, iN_mul, iN_sub, iN_dec, iN_dec2, iN_div, iN_irm, iN_lt, iN_le, iN_eq, iN_inb, iN_nat, iN_and, iN_or, iN_shl, iN_shr, iN_shl2, iN_shr2, gA_av, gL_wv, gI_sI, gI_sA, gI_sL, av_sA, av_sI, av_sL, wv_sL, wv_sI, wv_sA]
        rw [if_pos (by omega), if_neg (by omega), show (6 * rem M P (p + 1) r + d) % 6 = d by omega, show (6 * rem M P (p + 1) r + d) / 6 = rem M P (p + 1) r by omega, a1]
        simp only [Option.bind_some, a5, hG, zl_1, iN_add]
        simpa only [zl_0, zl_1] using t1
      · rw [t4, List.length_cons, show g + 1 + r.length + gl M P (p + 1) = g + (r.length + 1) + gl M P (p + 1) by omega]
theorem gl_all {Y : Yd} (hY : VY Y) {n : Nat} {P : Ps} (h : VP Y n P) : gl (yM Y) P (yM Y + 1) = gn n P := by
  have h1 := VP_len h
  have h2 := h.2.2.1 1
  have h3 := h.2.2.1 2
  have h4 := h.2.2.1 3
  have h5 := h.2.2.1 4
  have z : ∀ p, P p = [] → (P p).length = 0 := fun p e => by rw [e]; rfl
  have hM := hY.2.1
  unfold gn
  generalize yM Y = M at *
  rcases (show M = 0 ∨ M = 1 ∨ M = 2 ∨ M = 3 ∨ M = 4 by omega) with rfl | rfl | rfl | rfl | rfl
  · have a := z 1 (h2 (by omega) (by omega)); have b := z 2 (h3 (by omega) (by omega)); have c := z 3 (h4 (by omega) (by omega)); have d := z 4 (h5 (by omega) (by omega))
    simp only [gl, lp, if_true]; omega
  · have b := z 2 (h3 (by omega) (by omega)); have c := z 3 (h4 (by omega) (by omega)); have d := z 4 (h5 (by omega) (by omega))
    simp only [gl, lp, if_true, Nat.zero_ne_one, if_false, Nat.zero_add, Nat.reduceAdd]; omega
  · have c := z 3 (h4 (by omega) (by omega)); have d := z 4 (h5 (by omega) (by omega))
    simp only [gl, lp, Nat.reduceEqDiff, if_true, if_false, Nat.zero_add, Nat.reduceAdd, reduceCtorEq]; omega
  · have d := z 4 (h5 (by omega) (by omega))
    simp only [gl, lp, Nat.reduceEqDiff, if_true, if_false, Nat.zero_add, Nat.reduceAdd, reduceCtorEq]; omega
  · simp only [gl, lp, Nat.reduceEqDiff, if_true, if_false, Nat.zero_add, Nat.reduceAdd, reduceCtorEq]; omega
theorem decode_ok {σ : MS} {Y : Yd} (hR : YR σ Y) {n : Nat} (hn : n ≤ 5) {P : Ps} (h : VP Y n P) : ∃ τ, m_decode σ (iN (key (yM Y) P)) = some τ ∧ RP τ Y P ∧ gI τ 16 = iN (gn n P) ∧ FR [16] [10, 11] [] σ τ := by
  have hY := hR.1
  have hM := hY.2.1
  obtain ⟨υ, a1, a2, a3⟩ := decode_L2 5 0 N0 σ (iN (key (yM Y) P)) (by rw [N0_eq]; omega) rfl
  have hdig : ∀ q, q ≤ yM Y → ∀ d ∈ P (lp (yM Y) q), 1 ≤ d ∧ d < 6 := fun q hq d hd => VP_dig hY hn h _ (List.mem_map_of_mem (lp_in hq)) d hd
  have hlen : ∀ q, q ≤ yM Y → (P (lp (yM Y) q)).length ≤ 5 := fun q hq => by
    have := plc_mem.mp (lp_in hq)
    have := VP_le h (p := lp (yM Y) q) (by omega)
    omega
  have hk : rem (yM Y) P (yM Y) (P (lp (yM Y) (yM Y))).reverse = key (yM Y) P := by rw [rem_all, kpr_key hM]
  have hkb := key_bd hY hn h
  have htl : tl (yM Y) P (yM Y) ≤ 100 := by
    have : ∀ p, p ≤ yM Y → tl (yM Y) P p ≤ 6 * p := by
      intro p
      induction p with
      | zero => intro _; exact Nat.le_refl _
      | succ p ih => intro hp; have := ih (by omega); have := hlen p (by omega); simp only [tl]; omega
    have := this _ (Nat.le_refl _)
    omega
  obtain ⟨τ, t1, t2, t3, t4⟩ := decode_L32 hM hdig hlen (yM Y) (Nat.le_refl _) (P (lp (yM Y) (yM Y))).reverse [] N0 0 (sI υ 16 (iN 0)) (by simp) (by rw [N0_eq, List.length_reverse]; have := hlen _ (Nat.le_refl _); omega) (by rw [hk]; omega) (fun q hq => by
    have : (if q < yM Y then [] else if q = yM Y then [] else P (lp (yM Y) q)) = [] := by
      by_cases c : q < yM Y
      · rw [if_pos c]
      · rw [if_neg c, if_pos (by omega)]
    rw [this]
    refine ⟨by simp, ?_, fun k hk => by simp at hk⟩
    rw [av_sI, a3, if_pos (by omega)]
    rfl) (by simp only [gI_sI, if_true])
  refine ⟨τ, ?_, t3, ?_, FR_tr (FR_tr (FR_mo a2 rfl rfl rfl) (FR_sI (by decide))) t2⟩
  · rw [m_decode]
    simp only [zl_0] at a1 ⊢
    rw [a1]
    simp only [Option.bind_some]
    rw [a2.1 4 (by decide), hR.2.1]
    rw [hk] at t1
    simp only [t1, Option.bind_some]
  · rw [t4]
    rw [List.length_reverse, show 0 + (P (lp (yM Y) (yM Y))).length + gl (yM Y) P (yM Y) = gl (yM Y) P (yM Y + 1) by simp only [gl]; omega, gl_all hY h]
/-! encode -/
theorem take_snoc {l : List Nat} {k : Nat} (h : k < l.length) : l.take (k + 1) = l.take k ++ [l.getD k 0] := by
  rw [List.take_succ, List.getD_eq_getElem?_getD, List.getElem?_eq_getElem h]
  rfl
theorem encode_L27 {σ : MS} {p : Nat} {l : List Nat} (h : RLs σ p l) (hp : p < 5) (a : Nat) : ∀ (d k f : Nat), d < f → k + d = l.length → m_encode_L27 f σ (iN (val a (l.take k))) (iN p) (iN k) = some (iN (val a l)) := by
  obtain ⟨h1, h2, h3⟩ := h
  intro d
  induction d with
  | zero =>
    intro k f hf hk
    obtain ⟨f, rfl⟩ : ∃ g, f = g + 1 := ⟨f - 1, by omega⟩
    rw [m_encode_L27]
    simp (disch := omega) only [zl_0, zl_1, zl_2, zl_3, zl_4, zl_5, zl_6, zl_7, zl_8, zl_9, zl_10, zl_11, zl_12, zl_15, zl_16, zl_20, zl_24, zl_25, zl_31, zl_32, zl_33, zl_40, zl_45, zl_48, zl_49, zl_50, zl_53, zl_57, zl_59, zl_62, zl_63, zl_64, zl_74, zl_75, zl_99, zl_100, zl_113, zl_115, zl_120, zl_126, zl_153, zl_160, zl_200, zl_255, zl_720, zl_1000, zl_4999, zl_5000, zl_17046, zl_32768, zl_54321, zl_65535, zl_65536, zl_65537, zl_9999, iN_add, iN_mul, iN_sub, iN_dec, iN_dec2, iN_div, iN_irm, iN_lt, iN_le, iN_eq, iN_inb, iN_nat, iN_and, iN_or, iN_shl, iN_shr, iN_shl2, iN_shr2, gA_av, gL_wv, gI_sI, gI_sA, gI_sL, av_sA, av_sI, av_sL, wv_sL, wv_sI, wv_sA, h2]
    rw [if_pos (by omega), if_neg (by omega), List.take_of_length_le (by omega)]
  | succ d ih =>
    intro k f hf hk
    obtain ⟨f, rfl⟩ : ∃ g, f = g + 1 := ⟨f - 1, by omega⟩
    rw [m_encode_L27]
    simp (disch := omega) only [zl_0, zl_1, zl_2, zl_3, zl_4, zl_5, zl_6, zl_7, zl_8, zl_9, zl_10, zl_11, zl_12, zl_15, zl_16, zl_20, zl_24, zl_25, zl_31, zl_32, zl_33, zl_40, zl_45, zl_48, zl_49, zl_50, zl_53, zl_57, zl_59, zl_62, zl_63, zl_64, zl_74, zl_75, zl_99, zl_100, zl_113, zl_115, zl_120, zl_126, zl_153, zl_160, zl_200, zl_255, zl_720, zl_1000, zl_4999, zl_5000, zl_17046, zl_32768, zl_54321, zl_65535, zl_65536, zl_65537, zl_9999, iN_add, iN_mul, iN_sub, iN_dec, iN_dec2, iN_div, iN_irm, iN_lt, iN_le, iN_eq, iN_inb, iN_nat, iN_and, iN_or, iN_shl, iN_shr, iN_shl2, iN_shr2, gA_av, gL_wv, gI_sI, gI_sA, gI_sL, av_sA, av_sI, av_sL, wv_sL, wv_sI, wv_sA, h2]
    rw [if_pos (by omega), if_pos (by omega), if_pos (by omega), h3 k (by omega)]
    have := ih (k + 1) f (by omega) (by omega)
    rw [take_snoc (by omega), val_snoc] at this
    simpa only [iN_add] using this
theorem encode_L4 {σ : MS} {Y : Yd} (hY : YR σ Y) {P : Ps} (h : RP σ Y P) : ∀ (d p f : Nat), d < f → p + d = yM Y + 1 → m_encode_L4 f σ (iN (kpr (yM Y) P p)) (iN p) = some (iN (kpr (yM Y) P (yM Y + 1))) := by
  have hM := hY.1.2.1
  intro d
  induction d with
  | zero =>
    intro p f hf hp
    obtain ⟨f, rfl⟩ : ∃ g, f = g + 1 := ⟨f - 1, by omega⟩
    rw [m_encode_L4]
    simp (disch := omega) only [zl_0, zl_1, zl_2, zl_3, zl_4, zl_5, zl_6, zl_7, zl_8, zl_9, zl_10, zl_11, zl_12, zl_15, zl_16, zl_20, zl_24, zl_25, zl_31, zl_32, zl_33, zl_40, zl_45, zl_48, zl_49, zl_50, zl_53, zl_57, zl_59, zl_62, zl_63, zl_64, zl_74, zl_75, zl_99, zl_100, zl_113, zl_115, zl_120, zl_126, zl_153, zl_160, zl_200, zl_255, zl_720, zl_1000, zl_4999, zl_5000, zl_17046, zl_32768, zl_54321, zl_65535, zl_65536, zl_65537, zl_9999, iN_add, iN_mul, iN_sub, iN_dec, iN_dec2, iN_div, iN_irm, iN_lt, iN_le, iN_eq, iN_inb, iN_nat, iN_and, iN_or, iN_shl, iN_shr, iN_shl2, iN_shr2, gA_av, gL_wv, gI_sI, gI_sA, gI_sL, av_sA, av_sI, av_sL, wv_sL, wv_sI, wv_sA, hY.2.1]
    rw [if_pos (by omega), show p = yM Y + 1 by omega]
  | succ d ih =>
    intro p f hf hp
    obtain ⟨f, rfl⟩ : ∃ g, f = g + 1 := ⟨f - 1, by omega⟩
    have hl := h p (by omega)
    have h27 := encode_L27 hl (by omega) (6 * kpr (yM Y) P p) (P (lp (yM Y) p)).length 0 N0 (by rw [N0_eq]; have := hl.1; omega) (by omega)
    rw [List.take_zero, val_nil] at h27
    rw [m_encode_L4]
    simp (disch := omega) only [zl_0, zl_1, zl_2, zl_3, zl_4, zl_5, zl_6, zl_7, zl_8, zl_9, zl_10, zl_11, zl_12, zl_15, zl_16, zl_20, zl_24, zl_25, zl_31, zl_32, zl_33, zl_40, zl_45, zl_48, zl_49, zl_50, zl_53, zl_57, zl_59, zl_62, zl_63, zl_64, zl_74, zl_75, zl_99, zl_100, zl_113, zl_115, zl_120, zl_126, zl_153, zl_160, zl_200, zl_255, zl_720, zl_1000, zl_4999, zl_5000, zl_17046, zl_32768, zl_54321, zl_65535, zl_65536, zl_65537, zl_9999, iN_add, iN_mul, iN_sub, iN_dec, iN_dec2, iN_div, iN_irm, iN_lt, iN_le, iN_eq, iN_inb, iN_nat, iN_and, iN_or, iN_shl, iN_shr, iN_shl2, iN_shr2, gA_av, gL_wv, gI_sI, gI_sA, gI_sL, av_sA, av_sI, av_sL, wv_sL, wv_sI, wv_sA, hY.2.1]
    rw [if_neg (by omega), h27]
    have h27b : m_encode_L27 N0 σ (iN 0) (iN p) (iN 0) = some (iN (val (6 * kpr (yM Y) P p) (P (lp (yM Y) p)))) ∨ 0 < p := by
      by_cases c : 0 < p
      · exact Or.inr c
      · left
        rw [← h27, show p = 0 by omega]
        rfl
    have := ih (p + 1) f (by omega) (by omega)
    rw [kpr] at this
    by_cases c : 0 < p
    · rw [if_pos c]
      simpa only [Option.bind_some, iN_add] using this
    · rw [if_neg c]
      rcases h27b with h27b | h27b
      · rw [h27b]
        simpa only [Option.bind_some, iN_add] using this
      · exact absurd h27b c
theorem encode_ok {σ : MS} {Y : Yd} (hY : YR σ Y) {P : Ps} (h : RP σ Y P) : m_encode σ = some (iN (key (yM Y) P)) := by
  rw [m_encode]
  have := encode_L4 hY h (yM Y + 1) 0 N0 (by rw [N0_eq]; have := hY.1.2.1; omega) (by omega)
  rw [kpr_key hY.1.2.1] at this
  simp only [zl_0]
  rw [show (iN 0) = iN (kpr (yM Y) P 0) from rfl]
  rw [show iN (kpr (yM Y) P 0) = iN 0 from rfl] at this ⊢
  rw [this]
  rfl
