/-! BOTH SIDES: the invariant -/
theorem c_init : ∃ out, so_init soI = some out ∧ CJ out A0 0 := by
  have p0 : CP pdI [] := ⟨rfl, fun i hi => by have hi : i < 0 := hi; omega⟩
  obtain ⟨d1, a1, a2⟩ := (pdAdd_ok p0 (by decide) (show 115 < 1000 by omega)).2 (by decide)
  obtain ⟨d2, b1, b2⟩ := (pdAdd_ok a2 (by decide) (show 53 < 1000 by omega)).2 (by decide)
  have b3 : CP d2 [115, 53] := b2
  obtain ⟨y1, c1, c2⟩ := layOut_ok b3 (by decide) (by decide) (show ftA [115, 53] = none by decide) Ys5_VY ydI
  obtain ⟨y2, e1, e2⟩ := copyY_ok Ys5_VY c2 ydI
  have hI : CJ ((d2.1, 0), y1, y2, pyI, imI, imI, svI, seI, ndI, thI) A0 0 := by
    refine ⟨⟨rfl, fun i hi => by have hi : i < 0 := hi; omega⟩, c2, e2, ⟨fun _ => rfl, fun h => by have h : 1 ≤ 0 := h; omega⟩, ⟨⟨rfl, fun im h => (nomatch h)⟩, ⟨rfl, fun im h => (nomatch h)⟩⟩, ⟨0, Nat.le_refl _, rfl, fun i hi => ⟨0, rfl, by omega⟩, Or.inl rfl⟩, Or.inl rfl⟩
  refine ⟨_, ?_, hI⟩
  rw [so_init, show pd_add soI.1 115 = some (1, d1) from a1]
  simp only [Option.bind_some]
  rw [show pd_add d1 53 = some (1, d2) from b1]
  simp only [Option.bind_some]
  rw [show pd_layOut d2 soI.2.1 = some y1 from c1]
  simp only [Option.bind_some]
  rw [pd_clear]
  simp only [Option.bind_some]
  rw [show yd_copyFrom soI.2.2.1 y1 = some y2 from e1]
  rfl
theorem c_map {o : Option (Int32 × SoS)} {r : Int32} {A : AS} {c d yr : Nat} (hd : c ≤ d) (hy : yr = 3 ∨ yr = 80) (h : ∃ s2, o = some (r, s2) ∧ CJ s2 A c) : ∃ s2 yr2, (o.map fun o => (o.1, o.2, yr)) = some (r, s2, yr2) ∧ CJ s2 A d ∧ (yr2 = 3 ∨ yr2 = 80) := by
  obtain ⟨s2, h1, h2⟩ := h
  exact ⟨s2, yr, by rw [h1]; rfl, CJ_le h2 hd, hy⟩
theorem c_mapL {o : Option (Int64 × SoS)} {r : Int64} {A : AS} {c d yr : Nat} (hd : c ≤ d) (hy : yr = 3 ∨ yr = 80) (h : ∃ s2, o = some (r, s2) ∧ CJ s2 A c) : ∃ s2 yr2, (o.map fun o => (o.1, o.2, yr)) = some (r, s2, yr2) ∧ CJ s2 A d ∧ (yr2 = 3 ∨ yr2 = 80) := by
  obtain ⟨s2, h1, h2⟩ := h
  exact ⟨s2, yr, by rw [h1]; rfl, CJ_le h2 hd, hy⟩
theorem c_mapq {o : Option Int32} {s : SoS} {r : Int32} {A : AS} {c d yr : Nat} (hd : c ≤ d) (hy : yr = 3 ∨ yr = 80) (h : CJ s A c) (h1 : o = some r) : ∃ s2 yr2, (o.map fun o => (o, s, yr)) = some (r, s2, yr2) ∧ CJ s2 A d ∧ (yr2 = 3 ∨ yr2 = 80) := ⟨s, yr, by rw [h1]; rfl, CJ_le h hd, hy⟩
theorem c_mapy {o : Option (Int32 × SoS × Nat)} {r : Int32} {A : AS} {c d yr q : Nat} (hd : c ≤ d) (hy : yr = 3 ∨ yr = 80) (hq : q = 3 ∨ q = 80) (h : ∃ s2 yr2, o = some (r, s2, yr2) ∧ CJ s2 A c ∧ (yr2 = yr ∨ yr2 = q)) : ∃ s2 yr2, (o.map fun o => (o.1, o.2.1, o.2.2)) = some (r, s2, yr2) ∧ CJ s2 A d ∧ (yr2 = 3 ∨ yr2 = 80) := by
  obtain ⟨s2, yr2, h1, h2, h3⟩ := h
  refine ⟨s2, yr2, by rw [h1]; rfl, CJ_le h2 hd, ?_⟩
  rcases h3 with e | e
  · rw [e]; exact hy
  · rw [e]; exact hq
theorem c_keep {s : SoS} {A : AS} {c d yr : Nat} (hd : c ≤ d) (hy : yr = 3 ∨ yr = 80) (hV : VA A) (h : CJ s A c) (a b e : Int32) : ∃ s2 yr2, callXI 13 a b e s yr = some ((ansI 13 a b e A).1, s2, yr2) ∧ CJ s2 (ansI 13 a b e A).2 d ∧ (yr2 = 3 ∨ yr2 = 80) := by
  obtain ⟨s2, h1, h2⟩ := x_keep hV h yr
  have e1 : (ansI 13 a b e A).1 = iN (yM (aY A)) := rfl
  have e2 : (ansI 13 a b e A).2 = wO A (aY A) := rfl
  have e3 : callXI 13 a b e s yr = (so_keep s yr).map fun o => (o.1, o.2, yr) := rfl
  rw [e1, e2, e3, h1]
  exact ⟨s2, yr, rfl, CJ_le h2 hd, hy⟩
theorem cls_I {s : SoS} {A : AS} {n yr : Nat} (hn : n < 512) (hy : yr = 3 ∨ yr = 80) (hV : VA A) (h : CJ s A (20000 * n)) (k : Nat) (a b c : Int32) (hk : k < 28) (h7 : k ≠ 7) (h11 : k ≠ 11) (hV2 : VA (ansI k a b c A).2) : ∃ s2 yr2, callXI k a b c s yr = some ((ansI k a b c A).1, s2, yr2) ∧ CJ s2 (ansI k a b c A).2 (20000 * (n + 1)) ∧ (yr2 = 3 ∨ yr2 = 80) := by
  have hc : 20000 * n ≤ 10300000 := by omega
  have hle : 20000 * n ≤ 20000 * (n + 1) := by omega
  have hle1 : 20000 * n + 1 ≤ 20000 * (n + 1) := by omega
  have hle2 : 20000 * n + 15000 ≤ 20000 * (n + 1) := by omega
  match k, hk, h7, h11, hV2 with
  | 0, _, _, _, _ => exact c_map hle hy (x_say hV h yr a)
  | 1, _, _, _, _ => exact c_map hle hy (x_wipe h yr)
  | 2, _, _, _, _ => exact c_mapq hle hy h (x_fault hV h yr)
  | 3, _, _, _, hV2 => exact c_map hle hy (x_yard hV h hV2 yr)
  | 4, _, _, _, _ => exact c_mapq hle hy h (x_siding hV h yr a b)
  | 5, _, _, _, _ => exact c_mapq hle hy h (x_leads hV h yr a b)
  | 6, _, _, _, _ => exact c_map hle hy (x_least hV h yr a b)
  | 8, _, _, _, _ => exact c_mapy hle1 hy (Or.inl rfl) (x_first (by omega) hV h yr a b c)
  | 9, _, _, _, _ => exact c_map hle hy (x_orders hV h yr a b)
  | 10, _, _, _, _ => exact c_map hle hy (x_good hV h yr a b)
  | 12, _, _, _, _ => exact c_mapy hle2 hy (Or.inr rfl) (x_need hc hV h yr a b)
  | 13, _, _, _, _ => exact c_keep hle hy hV h a b c
  | 14, _, _, _, _ => exact c_map hle hy (x_unlike hV h yr a)
  | 15, _, _, _, _ => exact c_map hle hy (x_play hV h yr a b)
  | 16, _, _, _, _ => exact c_map hle hy (x_move hV h yr a)
  | 17, _, _, _, _ => exact c_map hle hy (x_back hV h yr)
  | 18, _, _, _, _ => exact c_mapy hle1 hy (Or.inl rfl) (x_rest (by omega) hV h yr)
  | 19, _, _, _, _ => exact c_mapy hle1 hy (Or.inl rfl) (x_next (by omega) hV h yr)
  | 20, _, _, _, _ => exact c_mapq hle hy h (x_moves hV h yr a)
  | 21, _, _, _, _ => exact c_mapq hle hy h (x_stand hV h yr a)
  | 22, _, _, _, _ => exact c_map hle hy (x_thumb hV h yr a b)
  | 23, _, _, _, _ => exact c_map hle hy (x_sorts hV h yr a b)
  | 24, _, _, _, _ => exact c_mapq hle hy h (x_draw s yr a b)
  | 25, _, _, _, _ => exact c_map hle hy (x_image hV h yr a)
  | 26, _, _, _, _ => exact c_map hle hy (x_restore hV h yr a)
  | 27, _, _, _, _ => exact c_mapq hle hy h (x_told h yr a)
  | 7, _, h7, _, _ => exact absurd rfl h7
  | 11, _, _, h11, _ => exact absurd rfl h11
  | k + 28, hk, _, _, _ => omega
theorem cls_L {s : SoS} {A : AS} {n yr : Nat} (hy : yr = 3 ∨ yr = 80) (hV : VA A) (h : CJ s A (20000 * n)) (k : Nat) (a b c : Int32) (hk : k = 7 ∨ k = 11) : ∃ s2 yr2, callXL k a b c s yr = some (ansL k a b c A, s2, yr2) ∧ CJ s2 A (20000 * (n + 1)) ∧ (yr2 = 3 ∨ yr2 = 80) := by
  have hle : 20000 * n ≤ 20000 * (n + 1) := by omega
  rcases hk with rfl | rfl
  · exact c_mapL hle hy (x_ways hV h yr a b)
  · exact c_mapL hle hy (x_mean hV h yr a b)
def InvW (n : Nat) (s : SoS) (yr : Nat) (σ : MS) : Prop := ∃ A, CJ s A (20000 * n) ∧ RI σ A (1000 * n) ∧ (yr = 3 ∨ yr = 80)
theorem w_HI (n : Nat) (s : SoS) (yr : Nat) (σ : MS) (hn : n < 512) (h : InvW n s yr σ) (k : Nat) (a b c : Int32) (hk : k < 28) (h7 : k ≠ 7) (h11 : k ≠ 11) : ∃ (r : Int32) (s2 : SoS) (yr2 : Nat) (σ2 : MS), callXI k a b c s yr = some (r, s2, yr2) ∧ callMI k a b c σ = some (r, σ2) ∧ InvW (n + 1) s2 yr2 σ2 := by
  obtain ⟨A, h1, h2, h3⟩ := h
  obtain ⟨τ, a1, a2⟩ := ref_I (by omega) h2 k a b c hk h7 h11
  obtain ⟨s2, yr2, b1, b2, b3⟩ := cls_I hn h3 h2.1 h1 k a b c hk h7 h11 a2.1
  exact ⟨_, s2, yr2, τ, b1, a1, _, b2, a2, b3⟩
theorem w_HL (n : Nat) (s : SoS) (yr : Nat) (σ : MS) (hn : n < 512) (h : InvW n s yr σ) (k : Nat) (a b c : Int32) (hk : k = 7 ∨ k = 11) : ∃ (r : Int64) (s2 : SoS) (yr2 : Nat) (σ2 : MS), callXL k a b c s yr = some (r, s2, yr2) ∧ callML k a b c σ = some (r, σ2) ∧ InvW (n + 1) s2 yr2 σ2 := by
  obtain ⟨A, h1, h2, h3⟩ := h
  obtain ⟨τ, a1, a2⟩ := ref_L (by omega) h2 k a b c hk
  obtain ⟨s2, yr2, b1, b2, b3⟩ := cls_L h3 h2.1 h1 k a b c hk
  exact ⟨_, s2, yr2, τ, b1, a1, _, b2, a2, b3⟩
theorem w_HY (n : Nat) (s : SoS) (yr : Nat) (σ : MS) (h : InvW n s yr σ) : yr = 3 ∨ yr = 80 := by
  obtain ⟨A, h1, h2, h3⟩ := h
  exact h3
theorem w_HM (n : Nat) (s : SoS) (yr : Nat) (σ : MS) (h : InvW n s yr σ) : InvW (n + 1) s yr σ := by
  obtain ⟨A, h1, h2, h3⟩ := h
  exact ⟨A, CJ_le h1 (by omega), RI_le h2 (by omega), h3⟩
theorem w_H0 : ∃ out, so_init soI = some out ∧ InvW 0 out 3 mI0 := by
  obtain ⟨out, h1, h2⟩ := c_init
  exact ⟨out, h1, A0, h2, ref_0, Or.inl rfl⟩
