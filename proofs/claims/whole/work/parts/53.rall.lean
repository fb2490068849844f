/-! THE REFERENCE: all calls -/
noncomputable def ansI (k : Nat) (a b c : Int32) (A : AS) : Int32 × AS := match k with
  | 0 => s_say A a
  | 1 => (iN (aP A).length, wPd A [])
  | 2 => (nI6 (ftA (aP A)), A)
  | 3 => s_yard A
  | 4 => (s_siding (aY A) a b, A)
  | 5 => (s_leads (aY A) a b, A)
  | 6 => (s_least (aY A) a b, A)
  | 8 => (s_first (aY A) a b c, A)
  | 9 => (s_orders (aY A) a b, A)
  | 10 => (s_good (aY A) a b, A)
  | 12 => (s_need (aY A) a b, A)
  | 13 => (iN (yM (aY A)), wO A (aY A))
  | 14 => (s_unlike (aY A) (aO A) a, A)
  | 15 => s_play A a b
  | 16 => s_move A a
  | 17 => s_back A
  | 18 => (s_rest (aY A) (aG A), A)
  | 19 => (s_next (aY A) (aG A), A)
  | 20 => (s_mvs (aY A) (aG A) a, A)
  | 21 => (s_stand (aY A) (aG A) a, A)
  | 22 => (s_thumb (aY A) a b, A)
  | 23 => (s_sorts (aY A) a b, A)
  | 24 => (s_draw a b, A)
  | 25 => s_image A a
  | 26 => s_restore A a
  | 27 => (s_told A a, A)
  | _ => (0, A)
noncomputable def ansL (k : Nat) (a b c : Int32) (A : AS) : Int64 := match k with
  | 7 => s_ways (aY A) a b
  | _ => s_mean (aY A) a b
theorem r_map {σ : MS} {o : Option (Int32 × MS)} {r : Int32} {A : AS} {c : Nat} (h : ∃ τ, o = some (r, τ) ∧ RI τ A c) : ∃ τ, (o.map fun o => (o.1, o.2)) = some (r, τ) ∧ RI τ A c := by
  obtain ⟨τ, h1, h2⟩ := h
  exact ⟨τ, by rw [h1]; rfl, h2⟩
theorem r_mop {σ : MS} {o : Option (Int32 × MS)} {r : Int32} {A : AS} {c d : Nat} (hd : c ≤ d) (h : ∃ τ, o = some (r, τ) ∧ RI τ A c) : ∃ τ, (o.map fun o => (o.1, o.2)) = some (r, τ) ∧ RI τ A d := by
  obtain ⟨τ, h1, h2⟩ := h
  exact ⟨τ, by rw [h1]; rfl, RI_le h2 hd⟩
theorem ref_I {σ : MS} {A : AS} {n : Nat} (hn : n < 900000) (h : RI σ A (1000 * n)) (k : Nat) (a b c : Int32) (hk : k < 28) (h7 : k ≠ 7) (h11 : k ≠ 11) : ∃ τ, callMI k a b c σ = some ((ansI k a b c A).1, τ) ∧ RI τ (ansI k a b c A).2 (1000 * (n + 1)) := by
  have hc : 1000 * n < 990000000 := by omega
  have hle : 1000 * n ≤ 1000 * (n + 1) := by omega
  have hle1 : 1000 * n + 1 ≤ 1000 * (n + 1) := by omega
  have hleA : 1000 * n + 1000 ≤ 1000 * (n + 1) := by omega
  match k, hk, h7, h11 with
  | 0, _, _, _ => exact r_mop (σ := σ) hle (r_say h a)
  | 1, _, _, _ => exact r_mop (σ := σ) hle (r_wipe h)
  | 2, _, _, _ =>
    refine ⟨σ, ?_, RI_le h hle⟩
    show (m_fault σ).map _ = _
    rw [fault_ok h.1.1.1 h.1.1.2 h.2.2.2.1]
    rfl
  | 3, _, _, _ => exact r_mop (σ := σ) hle (r_yard h)
  | 4, _, _, _ =>
    refine ⟨σ, ?_, RI_le h hle⟩
    show (m_siding σ a b).map _ = _
    rw [r_siding h.2.1]
    rfl
  | 5, _, _, _ =>
    refine ⟨σ, ?_, RI_le h hle⟩
    show (m_leads σ a b).map _ = _
    rw [r_leads h.2.1]
    rfl
  | 6, _, _, _ => exact r_mop (σ := σ) hle1 (r_least (by omega) h a b)
  | 8, _, _, _ => exact r_mop (σ := σ) hleA (r_first (by omega) h a b c)
  | 9, _, _, _ => exact r_mop (σ := σ) hle1 (r_orders hc h a b)
  | 10, _, _, _ => exact r_mop (σ := σ) hleA (r_good hc h a b)
  | 12, _, _, _ => exact r_mop (σ := σ) hleA (r_need hc h a b)
  | 13, _, _, _ => exact r_mop (σ := σ) hle (r_keep h)
  | 14, _, _, _ => exact r_mop (σ := σ) hleA (r_unlike hc h a)
  | 15, _, _, _ => exact r_mop (σ := σ) hle1 (r_play (by omega) h a b)
  | 16, _, _, _ => exact r_mop (σ := σ) hle (r_move h a)
  | 17, _, _, _ => exact r_mop (σ := σ) hle (r_back h)
  | 18, _, _, _ => exact r_mop (σ := σ) hleA (r_rest (by omega) h)
  | 19, _, _, _ => exact r_mop (σ := σ) hleA (r_next (by omega) h)
  | 20, _, _, _ => exact r_mop (σ := σ) hle (r_moves h a)
  | 21, _, _, _ => exact r_mop (σ := σ) hle (r_stand h a)
  | 22, _, _, _ => exact r_mop (σ := σ) hle (r_thumb h a b)
  | 23, _, _, _ => exact r_mop (σ := σ) hle (r_sorts h a b)
  | 24, _, _, _ =>
    refine ⟨σ, ?_, RI_le h hle⟩
    show (m_draw σ a b).map _ = _
    rw [r_draw]
    rfl
  | 25, _, _, _ => exact r_mop (σ := σ) hle (r_image h a)
  | 26, _, _, _ => exact r_mop (σ := σ) hle (r_restore h a)
  | 27, _, _, _ =>
    refine ⟨σ, ?_, RI_le h hle⟩
    show (m_told σ a).map _ = _
    rw [r_told h]
    rfl
  | 7, _, h7, _ => exact absurd rfl h7
  | 11, _, _, h11 => exact absurd rfl h11
  | k + 28, hk, _, _ => omega
theorem ref_L {σ : MS} {A : AS} {n : Nat} (hn : n < 900000) (h : RI σ A (1000 * n)) (k : Nat) (a b c : Int32) (hk : k = 7 ∨ k = 11) : ∃ τ, callML k a b c σ = some (ansL k a b c A, τ) ∧ RI τ A (1000 * (n + 1)) := by
  have hc : 1000 * n < 990000000 := by omega
  rcases hk with rfl | rfl
  · obtain ⟨τ, h1, h2⟩ := r_ways (show 1000 * n < 1000000000 by omega) h a b
    refine ⟨τ, ?_, RI_le h2 (by omega)⟩
    show (m_ways σ a b).map _ = _
    rw [h1]
    rfl
  · obtain ⟨τ, h1, h2, _⟩ := r_mean hc h a b
    refine ⟨τ, ?_, RI_le h2 (by omega)⟩
    show (m_mean σ a b).map _ = _
    rw [h1]
    rfl
/-- the YARD s5 -/
def Ys5 : Yd := pY [115, 53] y0
def A0 : AS := ([], Ys5, Ys5, (0, [], [], []), fun _ => none)
theorem Ys5_VY : VY Ys5 := by
  refine ⟨by decide, by decide, by decide, by decide, fun i hi => ?_, fun i j hij hj => ?_⟩
  · have hi : i < 1 := hi
    obtain rfl : i = 0 := by omega
    decide
  · have hj : j < 1 := hj
    obtain rfl : j = 0 := by omega
    obtain rfl : i = 0 := by omega
    exact Nat.le_refl _
theorem ref_0 : RI mI0 A0 0 := by
  refine ⟨⟨⟨by show ([] : List Nat).length ≤ 16; simp, fun d hd => by have hd : d ∈ ([] : List Nat) := hd; simp at hd⟩, Ys5_VY, Ys5_VY, Or.inl rfl, fun i im h => (nomatch h)⟩, ⟨Ys5_VY, rfl, rfl, fun i hi => ?_, fun k hk => ?_⟩, ⟨rfl, rfl, fun i hi => ?_, fun k hk => ?_⟩, ⟨rfl, fun k hk => by have hk : k < ([] : List Nat).length := hk; simp at hk⟩, ⟨rfl, fun h => by have h : 1 ≤ 0 := h; omega⟩, fun i hi => ⟨?_, fun im h => (nomatch h)⟩, fun n h1 h5 => Or.inl ?_, ⟨0, Nat.le_refl _, rfl, fun a ha => ⟨0, Nat.le_refl _, ?_⟩⟩⟩
  · have hi : i < 1 := hi
    obtain rfl : i = 0 := by omega
    exact ⟨rfl, rfl, rfl⟩
  · have hk : k < 1 := hk
    obtain rfl : k = 0 := by omega
    rfl
  · have hi : i < 1 := hi
    obtain rfl : i = 0 := by omega
    exact ⟨rfl, rfl, rfl⟩
  · have hk : k < 1 := hk
    obtain rfl : k = 0 := by omega
    rfl
  · rfl
  · rfl
  · rfl
