/-! THE CLASS: the survey of a YARD -/
def GA (M n e : Nat) (a1 : Nat → Int32) (a2 : Nat → Int64) (s : Sl) : Prop := (∀ P, s.1 P → a1 (ix M n P) = iN (s.2.1 P + 1) ∧ a2 (ix M n P) = s.2.2 P) ∧ ∀ i, i < e → a1 i ≠ 0 → ∃ P, s.1 P ∧ ix M n P = i
theorem nar_ok : ∀ k, k < 40 → narB (Int8.toInt32 (Int32.toInt8 (iN k))) = iN k := by decide +kernel
theorem GA_set {Y : Yd} (hY : VY Y) {n e : Nat} {a1 b1 : Nat → Int32} {a2 b2 : Nat → Int64} {s t : Sl} (h : GA (yM Y) n e a1 a2 s) (hV : ∀ P, s.1 P → VP Y n P) {T : Ps} (hT : VP Y n T) {u : Nat} {z : Int64} (e1 : ∀ j, b1 j = if j = ix (yM Y) n T then iN (u + 1) else a1 j) (e2 : ∀ j, b2 j = if j = ix (yM Y) n T then z else a2 j) (t1 : ∀ Q, t.1 Q ↔ s.1 Q ∨ Q = T) (t2 : t.2.1 T = u ∧ t.2.2 T = z) (t3 : ∀ Q, Q ≠ T → t.2.1 Q = s.2.1 Q ∧ t.2.2 Q = s.2.2 Q) : GA (yM Y) n e b1 b2 t := by
  refine ⟨fun P hP => ?_, fun i hi hne => ?_⟩
  · rw [e1, e2]
    by_cases c : P = T
    · rw [c, if_pos rfl, if_pos rfl, t2.1, t2.2]; exact ⟨rfl, rfl⟩
    · have hs : s.1 P := ((t1 P).mp hP).resolve_right c
      have hx : ix (yM Y) n P ≠ ix (yM Y) n T := fun h9 => c (ix_inj hY (hV P hs) hT h9)
      rw [if_neg hx, if_neg hx, (t3 P c).1, (t3 P c).2]
      exact h.1 P hs
  · rw [e1] at hne
    by_cases c : i = ix (yM Y) n T
    · exact ⟨T, (t1 T).mpr (Or.inr rfl), c.symm⟩
    · rw [if_neg c] at hne
      obtain ⟨P, x, y⟩ := h.2 i hi hne
      exact ⟨P, (t1 P).mpr (Or.inl x), y⟩
theorem reach_ok {Y : Yd} (hY : VY Y) {n : Nat} (hn : n ≤ 5) {e : Nat} {a : SvS} {s : Sl} (h : GA (yM Y) n e a.1 a.2.1 s) (hV : ∀ P, s.1 P → VP Y n P) {T : Ps} (hT : VP Y n T) (he : ix (yM Y) n T < e) {f : Nat} (hf : f ≤ 30) (hfar : s.1 T → s.2.1 T ≤ 20) (w : Int64) : ∃ a', sv_reach a (iN (ix (yM Y) n T)) (iN (f + 1)) w = some a' ∧ GA (yM Y) n e a'.1 a'.2.1 (rlx s T f w) ∧ a'.2.2 = a.2.2 := by
  have hb := (ix_bd hY hn hT).2
  have hin : inb (iN (ix (yM Y) n T)) 17046 := by rw [iN_inb (by omega)]; exact hb
  have hin2 : inb (iN (ix (yM Y) n T)) 17046 ∧ inb (iN (ix (yM Y) n T)) 17046 := ⟨hin, hin⟩
  have hst : sv_reach a (iN (ix (yM Y) n T)) (iN (f + 1)) w = if a.1 (ix (yM Y) n T) = 0 then some ((wr a.1 (iN (ix (yM Y) n T)) (iN (f + 1))), (wrL a.2.1 (iN (ix (yM Y) n T)) w), a.2.2) else if iN (f + 1) < a.1 (ix (yM Y) n T) then some ((wr a.1 (iN (ix (yM Y) n T)) (iN (f + 1))), (wrL a.2.1 (iN (ix (yM Y) n T)) w), a.2.2) else if iN (f + 1) = a.1 (ix (yM Y) n T) then some (a.1, (wrL a.2.1 (iN (ix (yM Y) n T)) ((a.2.1 (ix (yM Y) n T)) + w)), a.2.2) else some a := by
    rw [sv_reach, if_neg (iN_nneg (by omega)), zl_17046, jlt (by omega) (by omega), if_pos hb, if_pos hin, rd_iN (by omega), rd_iN (by omega), nar_ok _ (by omega), if_pos hin2, if_pos hin, if_pos hin, if_pos hin2]
  have hrt : ∀ Q, (rlx s T f w).1 Q ↔ s.1 Q ∨ Q = T := fun Q => Iff.rfl
  have hro : ∀ Q, Q ≠ T → (rlx s T f w).2.1 Q = s.2.1 Q ∧ (rlx s T f w).2.2 Q = s.2.2 Q := fun Q hQ => rlx_o hQ
  have new : ((rlx s T f w).2.1 T = f ∧ (rlx s T f w).2.2 T = w) → GA (yM Y) n e (wr a.1 (iN (ix (yM Y) n T)) (iN (f + 1))) (wrL a.2.1 (iN (ix (yM Y) n T)) w) (rlx s T f w) := fun h9 => GA_set hY h hV hT (u := f) (z := w) (fun j => wr_iN (by omega) _ _) (fun j => wrL_iN (by omega) _ _) hrt h9 hro
  rw [hst]
  by_cases c : s.1 T
  · have hfr := hfar c
    obtain ⟨g1, g2⟩ := h.1 T c
    have hri := rlx_i (f := f) (w := w) c
    rw [g1, if_neg (fun h9 => by have := iN_inj (b := 0) (by omega) (by omega) h9; omega), jlt (by omega) (by omega), jeq (by omega) (by omega)]
    by_cases x1 : f < s.2.1 T
    · rw [if_pos x1, if_pos x1] at hri
      rw [if_pos (by omega)]
      exact ⟨_, rfl, new hri, rfl⟩
    · rw [if_neg x1, if_neg x1] at hri
      rw [if_neg (by omega)]
      by_cases x2 : f = s.2.1 T
      · rw [if_pos x2] at hri
        rw [if_pos (by omega), g2]
        refine ⟨_, rfl, GA_set hY h hV hT (u := s.2.1 T) (z := s.2.2 T + w) (fun j => ?_) (fun j => wrL_iN (by omega) _ _) hrt hri hro, rfl⟩
        by_cases e9 : j = ix (yM Y) n T
        · rw [if_pos e9, e9]; exact g1
        · rw [if_neg e9]
      · rw [if_neg x2] at hri
        rw [if_neg (by omega)]
        refine ⟨_, rfl, GA_set hY h hV hT (u := s.2.1 T) (z := s.2.2 T) (fun j => ?_) (fun j => ?_) hrt hri hro, rfl⟩
        · by_cases e9 : j = ix (yM Y) n T
          · rw [if_pos e9, e9]; exact g1
          · rw [if_neg e9]
        · by_cases e9 : j = ix (yM Y) n T
          · rw [if_pos e9, e9]; exact g2
          · rw [if_neg e9]
  · have h0 : a.1 (ix (yM Y) n T) = 0 := by
      by_cases h9 : a.1 (ix (yM Y) n T) = 0
      · exact h9
      · obtain ⟨P, x, y⟩ := h.2 _ he h9
        rw [ix_inj hY (hV P x) hT y] at x
        exact absurd x c
    rw [if_pos h0]
    exact ⟨_, rfl, new (rlx_n c), rfl⟩
def dnS (Y : Yd) (n i : Nat) (P : Ps) (L : List Nat) (s : Sl) (H : Ps) (m : Nat) : Prop := (s.1 H ∧ ix (yM Y) n H < i ∧ m ∈ oks Y H) ∨ (H = P ∧ m ∈ L ∧ m ∈ oks Y P)
theorem spread_L3 {Y : Yd} (hY : VY Y) {n : Nat} (hn : n ≤ 5) {y : YdS} (hB : CB y Y) (hN : CN y (mvs Y)) {i : Nat} {P : Ps} (hP : VP Y n P) (hi : ix (yM Y) n P = i) {v : Nat} (hv : v ≤ 20) (w : Int64) : ∀ (d k f : Nat) (a : SvS) (s : Sl), d < f → k + d = (mvs Y).length → GA (yM Y) n (bs (yM Y) (n + 1)) a.1 a.2.1 s → CPl a.2.2 P → GI Y n (st n) (oks Y) s (dnS Y n i P ((mvs Y).take k) s) → s.1 P → s.2.1 P = v → s.2.2 P = w →
    ∃ a' s', sv_spread_L3 f a y (iN (v + 1 + 1)) w (iN k) = some a' ∧ GA (yM Y) n (bs (yM Y) (n + 1)) a'.1 a'.2.1 s' ∧ CPl a'.2.2 P ∧ GI Y n (st n) (oks Y) s' (dnS Y n i P (mvs Y) s') ∧ ∀ H, ix (yM Y) n H ≤ i → (s'.1 H ↔ s.1 H) ∧ s'.2.1 H = s.2.1 H ∧ s'.2.2 H = s.2.2 H := by
  have hml := mvs_len Y
  intro d
  induction d with
  | zero =>
    intro k f a s hf hk hA hC hG h1 h2 h3
    obtain ⟨f, rfl⟩ : ∃ g, f = g + 1 := ⟨f - 1, by omega⟩
    rw [List.take_of_length_le (by omega)] at hG
    refine ⟨a, s, ?_, hA, hC, hG, fun H _ => ⟨Iff.rfl, rfl, rfl⟩⟩
    rw [sv_spread_L3, hN.1, jlt (by omega) (by omega), if_neg (by omega)]
  | succ d ih =>
    intro k f a s hf hk hA hC hG h1 h2 h3
    obtain ⟨f, rfl⟩ : ∃ g, f = g + 1 := ⟨f - 1, by omega⟩
    have hkl : k < (mvs Y).length := by omega
    have hmem : (mvs Y).getD k 0 ∈ mvs Y := by
      rw [List.getD_eq_getElem?_getD, List.getElem?_eq_getElem hkl]
      exact List.getElem_mem hkl
    have htk : (mvs Y).take (k + 1) = (mvs Y).take k ++ [(mvs Y).getD k 0] := by
      rw [List.take_succ, List.getElem?_eq_getElem hkl, List.getD_eq_getElem?_getD, List.getElem?_eq_getElem hkl]; rfl
    have hntk : (mvs Y).getD k 0 ∉ (mvs Y).take k := by
      intro h9
      have hnd := mvs_nd Y
      have : ((mvs Y).take (k + 1)).Nodup := hnd.sublist (List.take_sublist _ _)
      rw [htk, List.nodup_append] at this
      exact this.2.2 _ h9 _ (List.mem_singleton.mpr rfl) rfl
    have hmv := moveAt_ok hN (by omega) hkl
    generalize hm : (mvs Y).getD k 0 = m at *
    have hgm := (mem_mvs hY m).mp hmem
    have hal := allows_ok hY hB hC hgm
    rw [sv_spread_L3, hN.1, jlt (by omega) (by omega), if_pos hkl, hmv]
    simp only [Option.bind_some]
    rw [hal]
    simp only [Option.bind_some]
    rw [zl_1, iN_add]
    cases hc : can Y P m with
    | false =>
      rw [if_pos bF]
      have hno : m ∉ oks Y P := fun h9 => by rw [((mem_oks hY).mp h9).2] at hc; exact absurd hc (by decide)
      refine ih (k + 1) f a s (by omega) (by omega) hA hC (GI_congr hG (fun H j => ?_)) h1 h2 h3
      unfold dnS
      rw [htk]
      constructor
      · rintro (x | ⟨x, y, z⟩)
        · exact Or.inl x
        · exact Or.inr ⟨x, List.mem_append_left _ y, z⟩
      · rintro (x | ⟨x, y, z⟩)
        · exact Or.inl x
        · rcases List.mem_append.mp y with y | y
          · exact Or.inr ⟨x, y, z⟩
          · rw [List.mem_singleton] at y
            rw [y] at z
            exact absurd z hno
    | true =>
      rw [if_neg bT]
      have hok : m ∈ oks Y P := (mem_oks hY).mpr ⟨hgm, hc⟩
      obtain ⟨o1, o2, o3, o4, o5, o6, o7, o8⟩ := okm hY hn hP hok
      obtain ⟨p1, b1, b2⟩ := shift_ok hC o1 o2 o3 o4 o5 o6
      have hix := index_ok hY hn o8 b2
      have hup := ix_mv hY hP hgm hc
      have hbd := ix_bd hY hn o8
      have hfarT : s.1 (mv P m) → s.2.1 (mv P m) ≤ 20 := fun h9 => GI_far hY hn (fun _ _ h => h) hG h9
      obtain ⟨a1, c1, c2, c3⟩ := reach_ok hY hn (a := (a.1, a.2.1, p1)) hA (fun T hT => (hG.2.2.2.1 T hT).1) o8 hbd.1 (f := v + 1) (by omega) hfarT w
      have c3 : a1.2.2 = p1 := c3
      obtain ⟨p2, d1, d2⟩ := unshift_ok (p := p1) (P := P) b2 o1 o2 o3 o4 o5 o7
      have hstep := GI_step hY (fun _ _ h => h) hG h1 hok (fun h9 => by
        rcases h9 with ⟨_, x, _⟩ | ⟨_, x, _⟩
        · omega
        · exact hntk x) (fun j h9 => by
        rcases h9 with ⟨_, x, _⟩ | ⟨x, _, _⟩
        · omega
        · rw [x] at hup; omega)
      rw [h2, h3] at hstep
      have hTne : ∀ H, ix (yM Y) n H ≤ i → H ≠ mv P m := fun H hH h9 => by rw [h9] at hH; omega
      have hPne := hTne P (by omega)
      obtain ⟨a', s', e1, e2, e3, e4, e5⟩ := ih (k + 1) f (a1.1, a1.2.1, p2) (rlx s (mv P m) (v + 1) w) (by omega) (by omega) c2 d2 (GI_congr hstep (fun H j => by
        unfold dnS
        rw [htk]
        constructor
        · rintro ((⟨x, y, z⟩ | ⟨x, y, z⟩) | ⟨x, y⟩)
          · exact Or.inl ⟨Or.inl x, y, z⟩
          · exact Or.inr ⟨x, List.mem_append_left _ y, z⟩
          · exact Or.inr ⟨x, List.mem_append_right _ (by rw [y]; simp), by rw [y]; exact hok⟩
        · rintro (⟨x, y, z⟩ | ⟨x, y, z⟩)
          · exact Or.inl (Or.inl ⟨x.resolve_right (hTne H (by omega)), y, z⟩)
          · rcases List.mem_append.mp y with y | y
            · exact Or.inl (Or.inr ⟨x, y, z⟩)
            · exact Or.inr ⟨x, List.mem_singleton.mp y⟩)) (Or.inl h1) (by rw [(rlx_o hPne).1]; exact h2) (by rw [(rlx_o hPne).2]; exact h3)
      refine ⟨a', s', ?_, e2, e3, e4, fun H hH => ?_⟩
      · rw [b1]
        simp only [Option.bind_some]
        rw [hB.1, hix]
        simp only [Option.bind_some]
        rw [c1]
        simp only [Option.bind_some]
        rw [c3, d1]
        simp only [Option.bind_some]
        exact e1
      · obtain ⟨x, y, z⟩ := e5 H hH
        have hr := rlx_o (s := s) (f := v + 1) (w := w) (hTne H hH)
        refine ⟨x.trans ⟨fun h9 => h9.resolve_right (hTne H hH), fun h9 => Or.inl h9⟩, by rw [y, hr.1], by rw [z, hr.2]⟩
theorem fill_L40 (y : YdS) (x2 : Int32) {e : Nat} (he : e ≤ 17046) : ∀ (d k f : Nat) (a : SvS), d < f → k + d = e → ∃ a', sv_fill_L40 f a y x2 (iN e) (iN k) = some a' ∧ (∀ j, (a'.1 j = if k ≤ j ∧ j < e then 0 else a.1 j) ∧ (a'.2.1 j = if k ≤ j ∧ j < e then 0 else a.2.1 j)) ∧ a'.2.2 = a.2.2 := by
  intro d
  induction d with
  | zero =>
    intro k f a hf hk
    obtain ⟨f, rfl⟩ : ∃ g, f = g + 1 := ⟨f - 1, by omega⟩
    refine ⟨a, ?_, fun j => ⟨by rw [if_neg (by omega)], by rw [if_neg (by omega)]⟩, rfl⟩
    rw [sv_fill_L40, jlt (by omega) (by omega), if_neg (by omega)]
  | succ d ih =>
    intro k f a hf hk
    obtain ⟨f, rfl⟩ : ∃ g, f = g + 1 := ⟨f - 1, by omega⟩
    have hin : inb (iN k) 17046 := by rw [iN_inb (by omega)]; omega
    obtain ⟨a', a1, a2, a3⟩ := ih (k + 1) f ((wr a.1 (iN k) (narB 0)), (wrL a.2.1 (iN k) 0), a.2.2) (by omega) (by omega)
    refine ⟨a', ?_, fun j => ?_, a3⟩
    · rw [sv_fill_L40, jlt (by omega) (by omega), if_pos (by omega), if_pos ⟨hin, hin⟩, zl_1, iN_add]
      exact a1
    · rw [(a2 j).1, (a2 j).2]
      show (if k + 1 ≤ j ∧ j < e then 0 else wr a.1 (iN k) (narB 0) j) = _ ∧ (if k + 1 ≤ j ∧ j < e then 0 else wrL a.2.1 (iN k) 0 j) = _
      rw [wr_iN (by omega), wrL_iN (by omega), show narB 0 = 0 by decide]
      by_cases c : k + 1 ≤ j ∧ j < e
      · rw [if_pos c, if_pos c, if_pos (show k ≤ j ∧ j < e by omega), if_pos (show k ≤ j ∧ j < e by omega)]; exact ⟨rfl, rfl⟩
      · rw [if_neg c, if_neg c]
        by_cases e9 : j = k
        · rw [if_pos e9, if_pos e9, if_pos (show k ≤ j ∧ j < e by omega), if_pos (show k ≤ j ∧ j < e by omega)]; exact ⟨rfl, rfl⟩
        · rw [if_neg e9, if_neg e9, if_neg (show ¬ (k ≤ j ∧ j < e) by omega), if_neg (show ¬ (k ≤ j ∧ j < e) by omega)]; exact ⟨rfl, rfl⟩
def dnI (Y : Yd) (n i : Nat) (s : Sl) (H : Ps) (m : Nat) : Prop := s.1 H ∧ ix (yM Y) n H < i ∧ m ∈ oks Y H
/-- what is noted while the survey goes on -/
def OI (M n i : Nat) (o0 o : OcS) (s : Sl) : Prop := o.1 = o0.1 ∧ (∀ k, k ≠ n → 1 ≤ k → k ≤ 5 → ∀ l ∈ pm k, o.2.1 (ofs k + rk l) = o0.2.1 (ofs k + rk l) ∧ o.2.2 (ofs k + rk l) = o0.2.2 (ofs k + rk l)) ∧ ∀ l ∈ pm n, (s.1 (fin l) → ix M n (fin l) < i → o.2.1 (ofs n + rk l) = iN (s.2.1 (fin l)) ∧ o.2.2 (ofs n + rk l) = s.2.2 (fin l)) ∧ (¬ (s.1 (fin l) ∧ ix M n (fin l) < i) → o.2.1 (ofs n + rk l) = 0 ∧ o.2.2 (ofs n + rk l) = 0)
theorem note_ok {M n i : Nat} (h1n : 1 ≤ n) (hn : n ≤ 5) {o0 o : OcS} {s : Sl} (h : OI M n i o0 o s) {q : List Nat} (hq : q ∈ pm n) (hs : s.1 (fin q)) (hi : ix M n (fin q) = i) (hinj : ∀ l ∈ pm n, s.1 (fin l) → ix M n (fin l) = i → l = q) : ∃ o', oc_note o (iN (pk q)) (iN n) (iN (s.2.1 (fin q))) (s.2.2 (fin q)) = some o' ∧ OI M n (i + 1) o0 o' s := by
  have hc := t_ofs n (by omega) h1n
  have hr := rk_lt (show n < 6 by omega) hq
  have hin : inb (iN (ofs n + rk q)) 153 := by rw [iN_inb (by omega)]; omega
  refine ⟨(o.1, (wr o.2.1 (iN (ofs n + rk q)) (iN (s.2.1 (fin q)))), (wrL o.2.2 (iN (ofs n + rk q)) (s.2.2 (fin q)))), ?_, h.1, fun k hk k1 k5 l hl => ?_, fun l hl => ?_⟩
  · rw [oc_note, t_cell n (by omega) h1n q hq]
    simp only [Option.bind_some]
    rw [if_neg (iN_nneg (by omega)), zl_153, jlt (by omega) (by omega), if_pos (by omega), if_pos ⟨hin, hin⟩]
  · show wr o.2.1 (iN (ofs n + rk q)) (iN (s.2.1 (fin q))) _ = _ ∧ wrL o.2.2 (iN (ofs n + rk q)) (s.2.2 (fin q)) _ = _
    have hr2 := rk_lt (show k < 6 by omega) hl
    have hne : ofs k + rk l ≠ ofs n + rk q := by
      rcases Nat.lt_or_gt_of_ne hk with h9 | h9
      · have := t_ofs2 k (by omega) n (by omega) k1 h9
        omega
      · have := t_ofs2 n (by omega) k (by omega) h1n h9
        omega
    rw [wr_iN (by omega), wrL_iN (by omega), if_neg hne, if_neg hne]
    exact h.2.1 k hk k1 k5 l hl
  · show (_ → _ → wr o.2.1 (iN (ofs n + rk q)) (iN (s.2.1 (fin q))) _ = _ ∧ wrL o.2.2 (iN (ofs n + rk q)) (s.2.2 (fin q)) _ = _) ∧ (_ → wr o.2.1 (iN (ofs n + rk q)) (iN (s.2.1 (fin q))) _ = _ ∧ wrL o.2.2 (iN (ofs n + rk q)) (s.2.2 (fin q)) _ = _)
    rw [wr_iN (by omega), wrL_iN (by omega)]
    by_cases c : l = q
    · rw [c, if_pos rfl, if_pos rfl]
      exact ⟨fun _ _ => ⟨rfl, rfl⟩, fun h9 => absurd ⟨hs, by omega⟩ h9⟩
    · have hne : ofs n + rk l ≠ ofs n + rk q := fun h9 => c (rk_inj (show n < 6 by omega) hl hq (by omega))
      rw [if_neg hne, if_neg hne]
      obtain ⟨x, y⟩ := h.2.2 l hl
      refine ⟨fun a b => x a ?_, fun a => y (fun b => a ⟨b.1, by omega⟩)⟩
      have : ix M n (fin l) ≠ i := fun h9 => c (hinj l hl a h9)
      omega
theorem fill_L85 {Y : Yd} (hY : VY Y) {n : Nat} (h1n : 1 ≤ n) (hn : n ≤ 5) {o0 : OcS} : ∀ (d i f : Nat) (a : SvS) (s : Sl) (y : YdS), d < f → i + d = bs (yM Y) (n + 1) → GA (yM Y) n (bs (yM Y) (n + 1)) a.1 a.2.1 s → CB y Y → CN y (mvs Y) → OI (yM Y) n i o0 (yO y) s → GI Y n (st n) (oks Y) s (dnI Y n i s) →
    ∃ a' s' y', sv_fill_L85 f a y (iN n) (iN (bs (yM Y) (n + 1))) (iN i) = some (a', y') ∧ CB y' Y ∧ CN y' (mvs Y) ∧ OI (yM Y) n (bs (yM Y) (n + 1)) o0 (yO y') s' ∧ GI Y n (st n) (oks Y) s' (dnI Y n (bs (yM Y) (n + 1)) s') := by
  have hM := hY.2.1
  have hbe := bs_num (yM Y) (by omega) (n + 1) (by omega)
  intro d
  induction d with
  | zero =>
    intro i f a s y hf hi hA hB hN hO hG
    obtain ⟨f, rfl⟩ : ∃ g, f = g + 1 := ⟨f - 1, by omega⟩
    have : i = bs (yM Y) (n + 1) := by omega
    refine ⟨a, s, y, ?_, hB, hN, by rw [this] at hO; exact hO, by rw [this] at hG; exact hG⟩
    rw [sv_fill_L85, jlt (by omega) (by omega), if_neg (by omega)]
  | succ d ih =>
    intro i f a s y hf hi hA hB hN hO hG
    obtain ⟨f, rfl⟩ : ∃ g, f = g + 1 := ⟨f - 1, by omega⟩
    have hin : inb (iN i) 17046 := by rw [iN_inb (by omega)]; omega
    have hV : ∀ T, s.1 T → VP Y n T := fun T hT => (hG.2.2.2.1 T hT).1
    rw [sv_fill_L85, jlt (by omega) (by omega), if_pos (by omega), if_pos hin, rd_iN (by omega), rd_iN (by omega), zl_1, iN_add, ← zl_1]
    by_cases c : a.1 i = 0
    · rw [c, if_neg (by decide)]
      have hno : ∀ H, s.1 H → ix (yM Y) n H ≠ i := fun H hH h9 => by
        have h8 := (hA.1 H hH).1
        have := GI_far hY hn (fun _ _ h => h) hG hH
        rw [h9, c] at h8
        have := iN_inj (a := 0) (b := s.2.1 H + 1) (by omega) (by omega) h8
        omega
      refine ih (i + 1) f a s y (by omega) (by omega) hA hB hN ⟨hO.1, hO.2.1, fun l hl => ?_⟩ (GI_congr hG (fun H m => ?_))
      · obtain ⟨x, z⟩ := hO.2.2 l hl
        exact ⟨fun p q => x p (by have := hno _ p; omega), fun p => z (fun q => p ⟨q.1, by omega⟩)⟩
      · unfold dnI
        exact ⟨fun ⟨p, q, r⟩ => ⟨p, by omega, r⟩, fun ⟨p, q, r⟩ => ⟨p, by have := hno H p; omega, r⟩⟩
    · obtain ⟨P, hsP, hiP⟩ := hA.2 i (by omega) c
      have hP := hV P hsP
      have hfar := GI_far hY hn (fun _ _ h => h) hG hsP
      obtain ⟨g1, g2⟩ := hA.1 P hsP
      rw [hiP] at g1 g2
      obtain ⟨p1, b1, b2⟩ := setUp_ok hY hn hP a.2.2
      rw [hiP] at b1
      have h5 := (VP_d8 hP hn (show 5 < 6 by omega)).1
      rw [g1, g2, jlt0 (by omega), if_pos (by omega), hB.1, b1]
      simp only [Option.bind_some]
      rw [zl_5, countAt_ok b2 (by omega)]
      simp only [Option.bind_some]
      rw [jeq (by omega) (by omega)]
      by_cases hx : (P 5).length = n
      · have hfin := VP_fin hY hP hx
        have hpm := VP_5pm hY hP hx
        have hok := oks_fin hY hP hx
        rw [if_pos hx, rowAt_ok b2 (by omega)]
        simp only [Option.bind_some]
        rw [if_pos ⟨hin, hin⟩, zl_1, iN_sub (show 1 ≤ s.2.1 P + 1 by omega), show s.2.1 P + 1 - 1 = s.2.1 P by omega]
        obtain ⟨o', c1, c2⟩ := note_ok h1n hn hO (q := P 5) hpm (by rw [← hfin]; exact hsP) (by rw [← hfin]; exact hiP) (fun l hl p q => by
          have := ix_inj hY (hV _ p) hP (by rw [q, hiP])
          rw [hfin] at this
          exact fin_inj this)
        rw [← hfin] at c1
        have c1' : oc_note y.2.2.2.2.2.2.2.2 (iN (pk (P 5))) (iN n) (iN (s.2.1 P)) (s.2.2 P) = some o' := c1
        rw [c1']
        simp only [Option.bind_some]
        refine ih (i + 1) f _ s _ (by omega) (by omega) hA ⟨rfl, hB.2⟩ hN c2 (GI_congr hG (fun H m => ?_))
        unfold dnI
        refine ⟨fun ⟨p, q, r⟩ => ⟨p, by omega, r⟩, fun ⟨p, q, r⟩ => ⟨p, ?_, r⟩⟩
        by_cases e9 : ix (yM Y) n H = i
        · have := ix_inj hY (hV _ p) hP (by rw [e9, hiP])
          rw [this, hok] at r
          simp at r
        · omega
      · rw [if_neg hx, if_pos ⟨hin, hin⟩]
        obtain ⟨a', s', c1, c2, c3, c4, c5⟩ := spread_L3 hY hn hB hN hP hiP (v := s.2.1 P) hfar (s.2.2 P) (mvs Y).length 0 N0 (a.1, a.2.1, p1) s (by rw [N0_eq]; have := mvs_len Y; omega) (by omega) hA b2 (GI_congr hG (fun H m => by
          unfold dnI dnS
          rw [List.take_zero]
          exact ⟨fun h => Or.inl h, fun h => h.elim id (fun h9 => by simp at h9)⟩)) hsP rfl rfl
        have c1' : sv_spread_L3 N0 (a.1, a.2.1, p1) y (iN (s.2.1 P + 1) + iN 1) (s.2.2 P) 0 = some a' := by rw [iN_add]; exact c1
        rw [sv_spread, zl_1, c1']
        simp only [Option.bind_some]
        have hV' : ∀ T, s'.1 T → VP Y n T := fun T hT => (c4.2.2.2.1 T hT).1
        refine ih (i + 1) f a' s' y (by omega) (by omega) c2 hB hN ⟨hO.1, hO.2.1, fun l hl => ?_⟩ (GI_congr c4 (fun H m => ?_))
        · obtain ⟨x, z⟩ := hO.2.2 l hl
          have hne : s.1 (fin l) → ix (yM Y) n (fin l) ≠ i := fun p q => by
            have := ix_inj hY (hV _ p) hP (by rw [q, hiP])
            have e5 : P 5 = l := by rw [← this]; rfl
            exact hx (by rw [e5]; exact pm_len hl)
          refine ⟨fun p q => ?_, fun p => z (fun q => p ⟨(c5 _ (by omega)).1.mpr q.1, by omega⟩)⟩
          obtain ⟨k1, k2, k3⟩ := c5 (fin l) (by omega)
          have hs := k1.mp p
          rw [k2, k3]
          exact x hs (by have := hne hs; omega)
        · unfold dnI dnS
          constructor
          · rintro (⟨p, q, r⟩ | ⟨p, q, r⟩)
            · exact ⟨p, by omega, r⟩
            · rw [p]
              exact ⟨(c5 P (by omega)).1.mpr hsP, by omega, r⟩
          · rintro ⟨p, q, r⟩
            by_cases e9 : ix (yM Y) n H = i
            · have := ix_inj hY (hV' _ p) hP (by rw [e9, hiP])
              rw [this] at r
              exact Or.inr ⟨this, (List.mem_filter.mp r).1, r⟩
            · exact Or.inl ⟨p, by omega, r⟩
/-- how many wagons are known -/
def KN (o : OcS) (n : Nat) : Prop := ∃ S, S < 64 ∧ o.1 = iN S ∧ S.testBit n = true
theorem ix_st (M n : Nat) : ix M n (st n) = 0 := by
  unfold ix
  have : gn n (st n) = 0 := by
    unfold gn st
    rw [if_pos rfl, List.length_range']
    omega
  rw [this]; rfl
theorem know_ok {o : OcS} {S n : Nat} (hS : S < 64) (h : o.1 = iN S) (hn : n ≤ 5) : oc_know o (iN n) = some (bI (S.testBit n)) := by
  have ht := tb_iN (u := S) (w := n) (by omega) (by omega)
  rw [oc_know, h]
  cases hb : S.testBit n with
  | true => rw [if_pos (ht.mpr hb)]; rfl
  | false => rw [if_neg (fun h9 => by rw [ht.mp h9] at hb; exact absurd hb (by decide))]; rfl
theorem fill_ok {Y : Yd} (hY : VY Y) {y : YdS} (h : CY y Y) {n : Nat} (h1n : 1 ≤ n) (hn : n ≤ 5) (a : SvS) : ∃ a' y', sv_fill a y (iN n) = some (a', y') ∧ CY y' Y ∧ KN (yO y') n := by
  obtain ⟨hB, hN, S, s1, s2, s3⟩ := h
  have hM := hY.2.1
  have hkn := know_ok s1 s2 hn
  have hkn' : oc_know y.2.2.2.2.2.2.2.2 (iN n) = some (bI (S.testBit n)) := hkn
  have hbe := bs_num (yM Y) (by omega) (n + 1) (by omega)
  have hb1 : 1 ≤ bs (yM Y) (n + 1) := bs_mono (yM Y) (show 1 ≤ n + 1 by omega)
  rw [sv_fill, zl_1, zl_5, jlt (by omega) (by omega), if_neg (by omega), jlt (by omega) (by omega), if_neg (by omega), hkn']
  simp only [Option.bind_some]
  cases hb : S.testBit n with
  | true =>
    rw [if_neg bT]
    exact ⟨a, y, rfl, ⟨hB, hN, S, s1, s2, s3⟩, S, s1, s2, hb⟩
  | false =>
    have him : imin 17046 (iN (bs (yM Y) (n + 1))) = iN (bs (yM Y) (n + 1)) := by
      unfold imin
      rw [zl_17046, jlt (by omega) (by omega)]
      by_cases c : bs (yM Y) (n + 1) < 17046
      · rw [if_pos c]
      · rw [if_neg c, show bs (yM Y) (n + 1) = 17046 by omega]
    obtain ⟨a1, b1, b2, b3⟩ := fill_L40 y (iN n) hbe (bs (yM Y) (n + 1)) 0 N0 a (by rw [N0_eq]; omega) (by omega)
    rw [if_pos bF, hB.1, indices_ok hM hn]
    simp only [Option.bind_some]
    have b1' : sv_fill_L40 N0 a y (iN n) (iN (bs (yM Y) (n + 1))) 0 = some a1 := b1
    rw [him, b1']
    simp only [Option.bind_some]
    have hbase : OI (yM Y) n 0 (yO y) (yO y) (fun T => T = st n, fun _ => 0, fun _ => 1) := by
      refine ⟨rfl, fun _ _ _ _ _ _ => ⟨rfl, rfl⟩, fun l hl => ⟨fun _ p => absurd p (by omega), fun _ => ?_⟩⟩
      have := (s3 n h1n hn).2 l hl
      rw [if_neg (by rw [hb]; decide), if_neg (by rw [hb]; decide)] at this
      exact this
    have hGI : GI Y n (st n) (oks Y) (fun T => T = st n, fun _ => 0, fun _ => 1) (dnI Y n 0 (fun T => T = st n, fun _ => 0, fun _ => 1)) := by
      refine ⟨rfl, rfl, rfl, fun T hT => ?_, fun T hT h9 => absurd hT h9, fun H m h9 => absurd h9.2.1 (by omega), fun T hT h9 => absurd hT h9⟩
      have hT : T = st n := hT
      rw [hT]
      exact ⟨VP_st Y n, Nat.le_refl _⟩
    obtain ⟨a2, s, y2, c1, c2, c3, c4, c5⟩ := fill_L85 hY h1n hn (bs (yM Y) (n + 1)) 0 N0 ((wr a1.1 0 (narB 1)), (wrL a1.2.1 0 1), a1.2.2) (fun T => T = st n, fun _ => 0, fun _ => 1) y (by rw [N0_eq]; omega) (by omega) ⟨fun P hP => by
        have hP : P = st n := hP
        rw [hP, ix_st]
        exact ⟨by show wr a1.1 0 (narB 1) 0 = _; rfl, rfl⟩, fun i hi hne => by
        have hne : wr a1.1 0 (narB 1) i ≠ 0 := hne
        rw [show (0 : Int32) = iN 0 from rfl, wr_iN (by omega)] at hne
        by_cases e9 : i = 0
        · exact ⟨st n, rfl, by rw [ix_st]; exact e9.symm⟩
        · rw [if_neg e9, (b2 i).1, if_pos ⟨by omega, hi⟩] at hne
          exact absurd rfl hne⟩ hB hN hbase hGI
    have c1' : sv_fill_L85 N0 ((wr a1.1 0 (narB 1)), (wrL a1.2.1 0 1), a1.2.2) y (iN n) (iN (bs (yM Y) (n + 1))) 0 = some (a2, y2) := c1
    rw [← zl_1, c1']
    simp only [Option.bind_some]
    have hlt : S ||| 2 ^ n < 64 := by
      refine Nat.or_lt_two_pow (n := 6) s1 ?_
      have : 2 ^ n ≤ 2 ^ 5 := Nat.pow_le_pow_right (by omega) hn
      omega
    have ho1 : (yO y2).1 ||| ((1 : Int32) <<< (iN n &&& 31)) = iN (S ||| 2 ^ n) := by
      rw [c4.1, s2, zl_1, iN_shl (by omega), Nat.one_mul, iN_or]
    have hSol : Sol Y n s := GI_Sol c5 (fun H m hH hm => ⟨hH, (ix_bd hY hn (c5.2.2.2.1 H hH).1).1, hm⟩)
    have htb : (S ||| 2 ^ n).testBit n = true := by rw [Nat.testBit_or, Nat.testBit_two_pow, decide_eq_true rfl, Bool.or_true]
    refine ⟨a2, (y2.1, y2.2.1, y2.2.2.1, y2.2.2.2.1, y2.2.2.2.2.1, y2.2.2.2.2.2.1, y2.2.2.2.2.2.2.1, y2.2.2.2.2.2.2.2.1, ((yO y2).1 ||| ((1 : Int32) <<< (iN n &&& 31)), (yO y2).2.1, (yO y2).2.2)), rfl, ⟨c2, c3, S ||| 2 ^ n, hlt, ho1, fun k k1 k5 => ?_⟩, S ||| 2 ^ n, hlt, ho1, htb⟩
    by_cases e : k = n
    · rw [e, htb]
      refine ⟨fun _ => ⟨s, hSol⟩, fun l hl => ?_⟩
      rw [if_pos rfl, if_pos rfl]
      obtain ⟨x, z⟩ := c4.2.2 l hl
      have hlf := lf_of hY hSol l
      by_cases q : s.1 (fin l)
      · have := ix_bd hY hn (c5.2.2.2.1 _ q).1
        rw [(hlf.1 q).1, (hlf.1 q).2]
        exact x q this.1
      · rw [(hlf.2 q).1, (hlf.2 q).2]
        exact z (fun h9 => q h9.1)
    · have : (S ||| 2 ^ n).testBit k = S.testBit k := by rw [Nat.testBit_or, Nat.testBit_two_pow, decide_eq_false (fun h9 => e h9.symm), Bool.or_false]
      rw [this]
      refine ⟨(s3 k k1 k5).1, fun l hl => ?_⟩
      have h8 := (s3 k k1 k5).2 l hl
      have h7 := c4.2.1 k e k1 k5 l hl
      exact ⟨h7.1.trans h8.1, h7.2.trans h8.2⟩
theorem lf_pos {Y : Yd} (hY : VY Y) {n : Nat} (h1n : 1 ≤ n) (hn : n ≤ 5) {s : Sl} (h : Sol Y n s) {l : List Nat} (hl : l.length = n) {r : Nat} (hr : lf Y n l = some r) : 1 ≤ r ∧ r ≤ 20 := by
  rw [lf_rest hY hn h hl] at hr
  have h1 := rest_le hY hn (VP_st Y n) hr
  refine ⟨?_, by omega⟩
  rcases Nat.eq_zero_or_pos r with h9 | h9
  · rw [h9, rest_eq hY hn (VP_st Y n)] at hr
    have e5 : (st n) 5 = [] := rfl
    rw [e5, if_pos (by rfl), if_neg (show ¬ ([] : List Nat).length = n by show ¬ 0 = n; omega)] at hr
    rcases om_fold (fun m => (rest Y n l (mv (st n) m)).map (· + 1)) _ _ _ hr with h2 | ⟨m, _, hg⟩
    · cases h2
    · obtain ⟨q, _, he⟩ := Option.map_eq_some_iff.mp hg
      exact absurd he (Nat.succ_ne_zero q)
  · exact h9
