/-! THE CLASS: its state, and LEAST out of its table -/
def CG (g : PyS) (G : PlA) : Prop := (G.1 = 0 → g.1 = 0) ∧ (1 ≤ G.1 → g.1 = 1 ∧ g.2.1 = iN (pk G.2.1) ∧ g.2.2.1 = iN (pk G.2.2.1) ∧ g.2.2.2.1 = iN G.1 ∧ g.2.2.2.2.1 = iN G.2.2.2.length ∧ (∀ k, k < G.2.2.2.length → g.2.2.2.2.2.1 k = iN (G.2.2.2.getD k 0)) ∧ CPl g.2.2.2.2.2.2 (gP G))
def CIm (i : ImS) (o : Option ImA) : Prop := i.1 = bI o.isSome ∧ ∀ im, o = some im → CY i.2.1 im.1 ∧ CY i.2.2.1 im.2.1 ∧ CG i.2.2.2 im.2.2
def CNd (nd : NdS) (Y : Yd) : Prop := nd.1 = 0 ∨ ∃ n t b, 1 ≤ n ∧ n ≤ 5 ∧ t ∈ pm n ∧ nd.1 = iN (num t) ∧ bsC Y n (rel t (up n)) (5 ^ yM Y) = some b ∧ nd.2.1 = iN (smC (yM Y) b) ∧ CB nd.2.2 (YLn Y (vC (yM Y) b))
def CJ (s : SoS) (A : AS) (c : Nat) : Prop := CP s.1 (aP A) ∧ CY s.2.1 (aY A) ∧ CY s.2.2.1 (aO A) ∧ CG s.2.2.2.1 (aG A) ∧ (CIm s.2.2.2.2.1 (aI A 0) ∧ CIm s.2.2.2.2.2.1 (aI A 1)) ∧ CS s.2.2.2.2.2.2.2.1 (aY A) c ∧ CNd s.2.2.2.2.2.2.2.2.1 (aY A)
theorem CJ_le {s : SoS} {A : AS} {c d : Nat} (h : CJ s A c) (hd : c ≤ d) : CJ s A d := ⟨h.1, h.2.1, h.2.2.1, h.2.2.2.1, h.2.2.2.2.1, CS_le h.2.2.2.2.2.1 hd, h.2.2.2.2.2.2⟩
theorem cell_ok {o : OcS} {Y : Yd} (h : CO o Y) {n : Nat} (h1n : 1 ≤ n) (hn : n ≤ 5) (hK : KN o n) {l : List Nat} (hl : l ∈ pm n) : oc_leastOf o (iN (pk l)) (iN n) = some (iN ((lf Y n l).getD 0)) ∧ oc_waysOf o (iN (pk l)) (iN n) = some (lw Y n l) ∧ ∃ s, Sol Y n s := by
  obtain ⟨S, s1, s2, s3⟩ := h
  obtain ⟨S', t1, t2, t3⟩ := hK
  have e : S = S' := iN_inj (by omega) (by omega) (s2.symm.trans t2)
  subst e
  obtain ⟨b1, b2⟩ := s3 n h1n hn
  have b3 := b2 l hl
  rw [if_pos t3, if_pos t3] at b3
  have hc := t_cell n (by omega) h1n l hl
  have ho := t_ofs n (by omega) h1n
  have hr := rk_lt (show n < 6 by omega) hl
  have hb : ofs n + rk l < 153 := by omega
  refine ⟨?_, ?_, b1 t3⟩
  · rw [oc_leastOf, hc]
    simp only [Option.bind_some]
    rw [if_neg (iN_nneg (by omega)), zl_153, jlt (by omega) (by omega), if_pos hb, if_pos (by rw [iN_inb (by omega)]; omega), rd_iN (by omega), b3.1]
  · rw [oc_waysOf, hc]
    simp only [Option.bind_some]
    rw [if_neg (iN_nneg (by omega)), zl_153, jlt (by omega) (by omega), if_pos hb, if_pos (by rw [iN_inb (by omega)]; omega), rd_iN (by omega), b3.2]
theorem leastY_ok {s : SoS} {A : AS} {c : Nat} (hY : VY (aY A)) (h : CJ s A c) {n : Nat} (h1n : 1 ≤ n) (hn : n ≤ 5) {t o : List Nat} (ht : t ∈ pm n) (ho : o ∈ pm n) (yr : Nat) : ∃ s2, so_leastOf_y s yr (iN (pk t)) (iN (pk o)) (iN n) = some (iN ((lf (aY A) n (rel t o)).getD 0), s2) ∧ CJ s2 A c ∧ ∃ sl, Sol (aY A) n sl := by
  obtain ⟨a', y', a1, a2, a3⟩ := fill_ok hY h.2.1 h1n hn s.2.2.2.2.2.2.1
  obtain ⟨c1, _, c3⟩ := cell_ok a2.2.2 h1n hn a3 (rel_mem ht ho)
  have c1' : oc_leastOf y'.2.2.2.2.2.2.2.2 (iN (pk (rel t o))) (iN n) = some (iN ((lf (aY A) n (rel t o)).getD 0)) := c1
  refine ⟨(s.1, y', s.2.2.1, s.2.2.2.1, s.2.2.2.2.1, s.2.2.2.2.2.1, a', s.2.2.2.2.2.2.2.1, s.2.2.2.2.2.2.2.2.1, s.2.2.2.2.2.2.2.2.2), ?_, ⟨h.1, a2, h.2.2⟩, c3⟩
  rw [so_leastOf_y, a1]
  simp only [Option.bind_some]
  rw [rel_ok ht ho hn]
  simp only [Option.bind_some]
  rw [c1']
  rfl
theorem leastO_ok {s : SoS} {A : AS} {c : Nat} (hY : VY (aO A)) (h : CJ s A c) {n : Nat} (h1n : 1 ≤ n) (hn : n ≤ 5) {t o : List Nat} (ht : t ∈ pm n) (ho : o ∈ pm n) (yr : Nat) : ∃ s2, so_leastOf_o s yr (iN (pk t)) (iN (pk o)) (iN n) = some (iN ((lf (aO A) n (rel t o)).getD 0), s2) ∧ CJ s2 A c ∧ ∃ sl, Sol (aO A) n sl := by
  obtain ⟨a', y', a1, a2, a3⟩ := fill_ok hY h.2.2.1 h1n hn s.2.2.2.2.2.2.1
  obtain ⟨c1, _, c3⟩ := cell_ok a2.2.2 h1n hn a3 (rel_mem ht ho)
  have c1' : oc_leastOf y'.2.2.2.2.2.2.2.2 (iN (pk (rel t o))) (iN n) = some (iN ((lf (aO A) n (rel t o)).getD 0)) := c1
  refine ⟨(s.1, s.2.1, y', s.2.2.2.1, s.2.2.2.2.1, s.2.2.2.2.2.1, a', s.2.2.2.2.2.2.2.1, s.2.2.2.2.2.2.2.2.1, s.2.2.2.2.2.2.2.2.2), ?_, ⟨h.1, h.2.1, a2, h.2.2.2⟩, c3⟩
  rw [so_leastOf_o, a1]
  simp only [Option.bind_some]
  rw [rel_ok ht ho hn]
  simp only [Option.bind_some]
  rw [c1']
  rfl
theorem sortY_ok {s : SoS} {A : AS} {c : Nat} (hY : VY (aY A)) (h : CJ s A c) {n : Nat} (h1n : 1 ≤ n) (hn : n ≤ 5) {t : List Nat} (ht : t ∈ pm n) (yr : Nat) : ∃ s2, so_leastSorted_y s yr (iN (pk t)) (iN n) = some (iN ((lf (aY A) n (rel t (up n))).getD 0), s2) ∧ CJ s2 A c ∧ ∃ sl, Sol (aY A) n sl := by
  obtain ⟨s2, a1, a2, a3⟩ := leastY_ok hY h h1n hn ht (up_mem n) yr
  refine ⟨s2, ?_, a2, a3⟩
  rw [so_leastSorted_y, t_up n (by omega)]
  simp only [Option.bind_some]
  rw [a1]
  rfl
theorem sortO_ok {s : SoS} {A : AS} {c : Nat} (hY : VY (aO A)) (h : CJ s A c) {n : Nat} (h1n : 1 ≤ n) (hn : n ≤ 5) {t : List Nat} (ht : t ∈ pm n) (yr : Nat) : ∃ s2, so_leastSorted_o s yr (iN (pk t)) (iN n) = some (iN ((lf (aO A) n (rel t (up n))).getD 0), s2) ∧ CJ s2 A c ∧ ∃ sl, Sol (aO A) n sl := by
  obtain ⟨s2, a1, a2, a3⟩ := leastO_ok hY h h1n hn ht (up_mem n) yr
  refine ⟨s2, ?_, a2, a3⟩
  rw [so_leastSorted_o, t_up n (by omega)]
  simp only [Option.bind_some]
  rw [a1]
  rfl
theorem pos_lf {Y : Yd} (hY : VY Y) {n : Nat} (h1n : 1 ≤ n) (hn : n ≤ 5) (hS : ∃ sl, Sol Y n sl) {l : List Nat} (hl : l.length = n) : lf Y n l = none ∨ ∃ r, lf Y n l = some r ∧ 1 ≤ r ∧ r ≤ 20 := by
  obtain ⟨sl, hS⟩ := hS
  cases h : lf Y n l with
  | none => exact Or.inl rfl
  | some r => exact Or.inr ⟨r, rfl, lf_pos hY h1n hn hS hl h⟩
theorem rI_if {Y : Yd} (hY : VY Y) {n : Nat} (h1n : 1 ≤ n) (hn : n ≤ 5) (hS : ∃ sl, Sol Y n sl) {l : List Nat} (hl : l.length = n) (s2 : SoS) : (if (0 : Int32) < iN ((lf Y n l).getD 0) then some (iN ((lf Y n l).getD 0), s2) else some ((-6 : Int32), s2)) = some (rI (lf Y n l), s2) := by
  rcases pos_lf hY h1n hn hS hl with h | ⟨r, h, h1, h2⟩
  · rw [h]; rfl
  · rw [h, Option.getD_some, jlt0 (by omega), if_pos (by omega)]; rfl
theorem gd_if {α : Type} {Y : Yd} (hY : VY Y) {n : Nat} (h1n : 1 ≤ n) (hn : n ≤ 5) (hS : ∃ sl, Sol Y n sl) {l : List Nat} (hl : l.length = n) (p q : α) : (if (0 : Int32) < iN ((lf Y n l).getD 0) then p else q) = if (lf Y n l).isSome = true then p else q := by
  rcases pos_lf hY h1n hn hS hl with h | ⟨r, h, h1, h2⟩
  · rw [h]; rfl
  · rw [h, Option.getD_some, jlt0 (by omega), if_pos (by omega)]; rfl
theorem rng_t {α : Type} {x a b : Int32} {a' b' : Int} (ha : a.toInt = a') (hb : b.toInt = b') (p q : α) : (if x < a then p else if b < x then p else q) = if nin x a' b' = true then q else p := by
  unfold nin
  by_cases h : x < a
  · rw [if_pos h, if_neg]
    rw [Int32.lt_iff_toInt_lt] at h
    rw [decide_eq_true_eq]
    omega
  · rw [if_neg h]
    rw [Int32.lt_iff_toInt_lt] at h
    by_cases h2 : b < x
    · rw [if_pos h2, if_neg]
      rw [Int32.lt_iff_toInt_lt] at h2
      rw [decide_eq_true_eq]
      omega
    · rw [if_neg h2, if_pos]
      rw [Int32.lt_iff_toInt_lt] at h2
      rw [decide_eq_true_eq]
      omega
theorem pair_ok (x y : Int32) : so_arePair x y = some (bI (decide (0 < tw x ∧ tw y = tw x))) := by
  have h1 := tw_le x
  have h2 := tw_le y
  rw [so_arePair, rw_wag]
  simp only [Option.bind_some]
  rw [jlt0 (by omega), rw_wag]
  simp only [Option.bind_some]
  rw [jeq (by omega) (by omega)]
  by_cases c : 0 < tw x
  · rw [if_pos c]
    by_cases e : tw y = tw x
    · rw [if_pos e, decide_eq_true ⟨c, e⟩]; rfl
    · rw [if_neg e, decide_eq_false (fun h => e h.2)]; rfl
  · rw [if_neg c, decide_eq_false (fun h => c h.1)]; rfl
