/-! THE CLASS: NEED, THE OTHER YARD, THE PLAY -/
theorem tw_0 : tw 0 = 0 := by decide +kernel
theorem rn_22 {yr r : Nat} (h : r = 22 ∨ r = 1) : rnF [79, 80, 81, 82, 83, 84, 85, 86, 87, 3, 4, 5, 6, 7, 8, 9, 10, 74, 75, 76, 77, 78, yr] 92 r = yr ∨ rnF [79, 80, 81, 82, 83, 84, 85, 86, 87, 3, 4, 5, 6, 7, 8, 9, 10, 74, 75, 76, 77, 78, yr] 92 r = 80 := by
  rcases h with rfl | rfl
  · exact Or.inl rfl
  · exact Or.inr rfl
theorem need_J98 {s : SoS} {Y : Yd} (hY : VY Y) {yr b : Nat} {i : Int32} (hi : i = -1 ∨ sdx Y i = true) (h1 : s.2.2.2.2.2.2.2.2.1.2.1 = iN (smC (yM Y) b)) (h2 : CB s.2.2.2.2.2.2.2.2.1.2.2 (YLn Y (vC (yM Y) b))) : so_need_J98 s yr i = some ((if i = -1 then iN (smC (yM Y) b) else iN (vC (yM Y) b i.toNatClampNeg)), s, yr) := by
  rw [so_need_J98, h1]
  by_cases ci : i = -1
  · rw [if_pos ci, if_pos ci]
  · rw [if_neg ci, if_neg ci]
    rcases hi with e | e
    · exact absurd e ci
    · obtain ⟨k, hk, rfl, hk2⟩ := sdx_iN hY.2.1 e
      have hl := lengthAt_ok h2 (show yM (YLn Y (vC (yM Y) b)) ≤ 4 from hY.2.1) (show k < yM (YLn Y (vC (yM Y) b)) from hk)
      rw [hl, hk2]
      rfl
theorem need_rng {Y : Yd} (hY : VY Y) {α : Type} (i : Int32) (p q : α) : (if i < (-1) then p else if i < iN (yM Y) then q else p) = if i ≠ -1 ∧ sdx Y i = false then p else q := by
  have hM := hY.2.1
  have e1 : (i < (-1)) = (i.toInt < -1) := by rw [Int32.lt_iff_toInt_lt]; rfl
  have e2 : (i < iN (yM Y)) = (i.toInt < (yM Y : Int)) := by rw [Int32.lt_iff_toInt_lt, iN_toInt (by omega)]
  have e3 : (i = -1) = (i.toInt = -1) := propext ⟨fun h => by rw [h]; rfl, fun h => Int32.toInt_inj.mp (by rw [h]; rfl)⟩
  unfold sdx
  by_cases c1 : i < (-1)
  · rw [if_pos c1, if_pos]
    rw [e1] at c1
    refine ⟨?_, decide_eq_false (by omega)⟩
    show ¬ i = -1
    rw [e3]
    omega
  · rw [if_neg c1]
    rw [e1] at c1
    by_cases c2 : i < iN (yM Y)
    · rw [if_pos c2, if_neg]
      rw [e2] at c2
      rintro ⟨h1, h2⟩
      have h1 : ¬ i = -1 := h1
      rw [e3] at h1
      rw [decide_eq_false_iff_not] at h2
      omega
    · rw [if_neg c2, if_pos]
      rw [e2] at c2
      refine ⟨?_, decide_eq_false (by omega)⟩
      show ¬ i = -1
      rw [e3]
      omega
theorem x_need {s : SoS} {A : AS} {c : Nat} (hc : c ≤ 10300000) (hV : VA A) (h : CJ s A c) (yr : Nat) (x i : Int32) : ∃ s2 yr2, so_need s yr x i = some (s_need (aY A) x i, s2, yr2) ∧ CJ s2 A (c + 15000) ∧ (yr2 = yr ∨ yr2 = 80) := by
  have hY := hV.2.1
  rw [so_need, h.2.1.1.1, need_rng hY]
  unfold s_need
  by_cases ci : i ≠ -1 ∧ sdx (aY A) i = false
  · rw [if_pos ci, if_pos ci]
    exact ⟨s, yr, rfl, CJ_le h (by omega), Or.inl rfl⟩
  · have hi : i = -1 ∨ sdx (aY A) i = true := by
      by_cases e : i = -1
      · exact Or.inl e
      · cases hh : sdx (aY A) i with
        | true => exact Or.inr rfl
        | false => exact absurd ⟨e, hh⟩ ci
    rw [if_neg ci, if_neg ci, rw_wag]
    simp only [Option.bind_some]
    cases hp : pr1 x with
    | none =>
      rw [pr1_none hp, if_pos z00]
      exact ⟨s, yr, rfl, CJ_le h (by omega), Or.inl rfl⟩
    | some p =>
      obtain ⟨n, t⟩ := p
      obtain ⟨h1, h5, ht, rfl, hx⟩ := pr1_some hp
      have hW := rel_mem ht (up_mem n)
      rw [hx, if_neg (by rw [zl_0, iN_eq (by omega) (by omega)]; omega), t_ofN n (by omega) t ht]
      simp only [Option.bind_some]
      obtain ⟨s1, a1, a2, a3⟩ := sortY_ok hY h h1 h5 ht yr
      rw [a1]
      simp only [Option.bind_some]
      obtain ⟨sl, hS⟩ := id a3
      have hlr := lf_rest hY h5 hS (pm_len hW)
      have hbl := bsC_lf hY h5 (W := rel t (up n))
      rw [← hlr] at hbl
      rcases pos_lf hY h1 h5 a3 (pm_len hW) with e | ⟨r, e, r1, r2⟩
      · have hb := hbl.mpr e
        rw [e, Option.getD_none, if_pos z00, hb]
        exact ⟨s1, yr, rfl, CJ_le a2 (by omega), Or.inl rfl⟩
      · cases hb : bsC (aY A) n (rel t (up n)) (5 ^ yM (aY A)) with
        | none =>
          have := hbl.mp hb
          rw [e] at this
          cases this
        | some b =>
          rw [e, Option.getD_some, jeq0 (by omega), if_neg (by omega)]
          simp only
          by_cases ct : s1.2.2.2.2.2.2.2.2.1.1 = iN (num t)
          · rw [if_pos ct]
            rcases a2.2.2.2.2.2.2 with h0 | ⟨n', t', b', g1, g5, gt, g4, gb, gs, gB⟩
            · rw [h0] at ct
              rw [← ct, tw_0] at hx
              omega
            · rw [g4] at ct
              have hl1 := num_lt (show n' < 6 by omega) gt
              have hl2 := num_lt (show n < 6 by omega) ht
              have e1 : num t' = num t := iN_inj (by omega) (by omega) ct
              have e2 : t' = t := num_inj (by omega) (by omega) gt ht e1
              have e3 : n' = n := by rw [← pm_len gt, ← pm_len ht, e2]
              subst e3
              subst e2
              rw [hb] at gb
              have e4 : b = b' := Option.some.inj gb
              subst e4
              rw [need_J98 hY hi gs gB]
              exact ⟨s1, yr, rfl, CJ_le a2 (by omega), Or.inl rfl⟩
          · rw [if_neg ct, t_up n (by omega)]
            simp only [Option.bind_some]
            rw [rel_ok ht (up_mem n) h5]
            simp only [Option.bind_some]
            obtain ⟨nd', e', yr', f1, f2, f3, f4, f5⟩ := find_ok hY a2.2.1 h1 h5 hW hb (nd := s1.2.2.2.2.2.2.2.2.1) hc a2.2.2.2.2.2.1 22
            rw [f1]
            simp only [Option.bind_some]
            rw [need_J98 hY hi f4 f5]
            exact ⟨_, _, rfl, ⟨a2.1, a2.2.1, a2.2.2.1, a2.2.2.2.1, a2.2.2.2.2.1, f2, Or.inr ⟨n, t, b, h1, h5, ht, rfl, hb, f4, f5⟩⟩, rn_22 f3⟩
theorem x_keep {s : SoS} {A : AS} {c : Nat} (hV : VA A) (h : CJ s A c) (yr : Nat) : ∃ s2, so_keep s yr = some (iN (yM (aY A)), s2) ∧ CJ s2 (wO A (aY A)) c := by
  obtain ⟨y', a1, a2⟩ := copyY_ok hV.2.1 h.2.1 s.2.2.1
  refine ⟨(s.1, s.2.1, y', s.2.2.2.1, s.2.2.2.2.1, s.2.2.2.2.2.1, s.2.2.2.2.2.2.1, s.2.2.2.2.2.2.2.1, s.2.2.2.2.2.2.2.2.1, s.2.2.2.2.2.2.2.2.2), ?_, h.1, h.2.1, a2, h.2.2.2⟩
  rw [so_keep, a1]
  simp only [Option.bind_some]
  rw [a2.1.1]
theorem pyBegin_ok (p : PyS) {n : Nat} (h1 : 1 ≤ n) (h5 : n ≤ 5) (t o : List Nat) : ∃ p', py_begin p (iN (pk t)) (iN (pk o)) (iN n) = some p' ∧ CG p' (n, t, o, []) ∧ p'.2.1 = iN (pk t) ∧ p'.2.2.1 = iN (pk o) := by
  obtain ⟨q, a1, a2⟩ := beginUp_ok p.2.2.2.2.2.2 h5
  refine ⟨(1, iN (pk t), iN (pk o), iN n, 0, p.2.2.2.2.2.1, q), ?_, ⟨fun h => by have h : n = 0 := h; omega, fun _ => ⟨rfl, rfl, rfl, rfl, rfl, fun k hk => by have hk : k < 0 := hk; omega, a2⟩⟩, rfl, rfl⟩
  rw [py_begin, t_up n (by omega)]
  simp only [Option.bind_some]
  rw [a1]
  rfl
theorem x_play {s : SoS} {A : AS} {c : Nat} (hV : VA A) (h : CJ s A c) (yr : Nat) (x y : Int32) : ∃ s2, so_play s yr x y = some ((s_play A x y).1, s2) ∧ CJ s2 (s_play A x y).2 c := by
  rw [so_play, pair_ok]
  simp only [Option.bind_some, bI_0]
  unfold s_play
  cases hp : pr2 x y with
  | none => rw [pr2_none hp, if_pos rfl]; exact ⟨s, rfl, h⟩
  | some p =>
    obtain ⟨n, t, o⟩ := p
    obtain ⟨h1, h5, ht, ho, rfl, rfl, hx, hy, hd⟩ := pr2_some hp
    rw [hd, if_neg (by decide), rw_wag, hx]
    simp only [Option.bind_some]
    rw [t_ofN n (by omega) t ht]
    simp only [Option.bind_some]
    rw [t_ofN n (by omega) o ho]
    simp only [Option.bind_some]
    obtain ⟨p', a1, a2, a3, a4⟩ := pyBegin_ok s.2.2.2.1 h1 h5 t o
    rw [a1]
    simp only [Option.bind_some]
    rw [a3, a4]
    have hI : CJ (s.1, s.2.1, s.2.2.1, p', s.2.2.2.2.1, s.2.2.2.2.2.1, s.2.2.2.2.2.2.1, s.2.2.2.2.2.2.2.1, s.2.2.2.2.2.2.2.2.1, s.2.2.2.2.2.2.2.2.2) (wG A (n, t, o, [])) c := ⟨h.1, h.2.1, h.2.2.1, a2, h.2.2.2.2⟩
    obtain ⟨s2, b1, b2, b3⟩ := leastY_ok (A := wG A (n, t, o, [])) hV.2.1 hI h1 h5 ht ho yr
    rw [b1]
    simp only [Option.bind_some]
    exact ⟨s2, rI_if hV.2.1 h1 h5 b3 (pm_len (rel_mem ht ho)) s2, b2⟩
/-- the play's cells -/
theorem CG_on {g : PyS} {G : PlA} (h : CG g G) : (g.1 = 0) = (G.1 = 0) := by
  apply propext
  constructor
  · intro h0
    rcases Nat.eq_zero_or_pos G.1 with e | e
    · exact e
    · rw [(h.2 e).1] at h0
      exact absurd h0 (by decide)
  · exact h.1
theorem any_mvs {Y : Yd} {x : Int32} : ((mvs Y).any (fun m => decide (iN m = x)) = true) ↔ ∃ m, m ∈ mvs Y ∧ x = iN m := by
  rw [List.any_eq_true]
  constructor
  · rintro ⟨m, h1, h2⟩
    exact ⟨m, h1, (of_decide_eq_true h2).symm⟩
  · rintro ⟨m, h1, h2⟩
    exact ⟨m, h1, decide_eq_true h2.symm⟩
theorem x_move {s : SoS} {A : AS} {c : Nat} (hV : VA A) (h : CJ s A c) (yr : Nat) (x : Int32) : ∃ s2, so_move s yr x = some ((s_move A x).1, s2) ∧ CJ s2 (s_move A x).2 c := by
  have hY := hV.2.1
  have hCG := h.2.2.2.1
  unfold s_move
  rw [so_move]
  by_cases h0 : (aG A).1 = 0
  · rw [if_pos (by rw [CG_on hCG]; exact h0), if_pos h0]
    exact ⟨s, rfl, h⟩
  · rw [if_neg (by rw [CG_on hCG]; exact h0), if_neg h0, hasMove_ok h.2.1.2.1]
    simp only [Option.bind_some, bI_0]
    have h1 : 1 ≤ (aG A).1 := by omega
    have g := GP hV h1
    obtain ⟨q1, q2, q3, q4, q5, q6, q7⟩ := hCG.2 h1
    cases ha : (mvs (aY A)).any (fun m => decide (iN m = x)) with
    | false =>
      rw [if_pos rfl, if_neg]
      · exact ⟨s, rfl, h⟩
      · rintro ⟨h8, h9⟩
        have hm := (List.mem_filter.mp h9).1
        have : (mvs (aY A)).any (fun m => decide (iN m = x)) = true := any_mvs.mpr ⟨_, hm, by
          rcases i_cases x with ⟨k, hk, rfl⟩ | hneg
          · rw [iN_nat hk]
          · omega⟩
        rw [ha] at this
        cases this
    | true =>
      obtain ⟨m, hm, rfl⟩ := any_mvs.mp ha
      have hlt := mvs_lt hm
      have hgm := (mem_mvs hY m).mp hm
      rw [if_neg (by decide), allows_ok hY h.2.1.1 q7 hgm, iN_toInt (by omega), iN_nat (by omega)]
      simp only [Option.bind_some, bI_0]
      cases hcn : can (aY A) (gP (aG A)) m with
      | false =>
        rw [if_pos rfl, if_neg]
        · exact ⟨s, rfl, h⟩
        · rintro ⟨_, h9⟩
          have := ((mem_oks hY).mp h9).2
          rw [hcn] at this
          cases this
      | true =>
        have hmo : m ∈ oks (aY A) (gP (aG A)) := (mem_oks hY).mpr ⟨hgm, hcn⟩
        obtain ⟨k1, k2, k3, k4, k5, k6, k7, k8⟩ := okm hY g.1 g.2.2.2.2.1 hmo
        obtain ⟨p', u1, u2⟩ := shift_ok q7 k1 k2 k3 k4 k5 k6
        have hmk2 : mvok (aY A) (st (aG A).1) ((aG A).2.2.2 ++ [m]) := mvok_snoc _ _ _ g.2.2.2.1 hmo
        have hl2 := (mvok_len hY g.1 hmk2).2
        rw [List.length_append] at hl2
        simp only [List.length_cons, List.length_nil] at hl2
        have hadd : py_add s.2.2.2.1 (iN m) = some (1, (s.2.2.2.1.1, s.2.2.2.1.2.1, s.2.2.2.1.2.2.1, s.2.2.2.1.2.2.2.1, iN ((aG A).2.2.2.length + 1), (wr s.2.2.2.1.2.2.2.2.2.1 (iN (aG A).2.2.2.length) (iN m)), p')) := by
          rw [py_add, q5, if_neg (iN_nneg (by omega)), zl_20, jlt (by omega) (by omega), if_pos (by omega), if_pos (by rw [iN_inb (by omega)]; omega), u1]
          simp only [Option.bind_some]
          rw [show iN (aG A).2.2.2.length + 1 = iN ((aG A).2.2.2.length + 1) from iN_add _ 1]
        rw [if_neg (by decide), hadd, if_pos ⟨by omega, hmo⟩]
        simp only [Option.bind_some]
        rw [if_neg (by decide)]
        refine ⟨_, rfl, h.1, h.2.1, h.2.2.1, ⟨fun h9 => absurd h9 h0, fun _ => ⟨q1, q2, q3, q4, ?_, fun k hk => ?_, ?_⟩⟩, h.2.2.2.2⟩
        · show iN ((aG A).2.2.2.length + 1) = iN ((aG A).2.2.2 ++ [m]).length
          rw [List.length_append]; rfl
        · show wr s.2.2.2.1.2.2.2.2.2.1 (iN (aG A).2.2.2.length) (iN m) k = iN (((aG A).2.2.2 ++ [m]).getD k 0)
          have hk : k < ((aG A).2.2.2 ++ [m]).length := hk
          rw [List.length_append] at hk
          simp only [List.length_cons, List.length_nil] at hk
          rw [wr_iN (by omega)]
          by_cases e : k = (aG A).2.2.2.length
          · rw [if_pos e, e, getD_append_at]
          · rw [if_neg e, getD_append_lt (by omega)]
            exact q6 k (by omega)
        · show CPl p' (posn (aG A).1 ((aG A).2.2.2 ++ [m]))
          rw [posn_snoc]
          exact u2
theorem mvok_un {Y : Yd} : ∀ (ms : List Nat) (P : Ps) (m : Nat), mvok Y P (ms ++ [m]) → mvok Y P ms ∧ m ∈ oks Y (ms.foldl mv P) := by
  intro ms
  induction ms with
  | nil => intro P m h; exact ⟨trivial, h.1⟩
  | cons x r ih =>
    intro P m h
    obtain ⟨a, b⟩ := ih (mv P x) m h.2
    exact ⟨⟨h.1, a⟩, b⟩
theorem x_back {s : SoS} {A : AS} {c : Nat} (hV : VA A) (h : CJ s A c) (yr : Nat) : ∃ s2, so_back s yr = some ((s_back A).1, s2) ∧ CJ s2 (s_back A).2 c := by
  have hY := hV.2.1
  have hCG := h.2.2.2.1
  unfold s_back
  rw [so_back]
  by_cases h0 : (aG A).1 = 0
  · rw [if_pos (by rw [CG_on hCG]; exact h0), if_pos h0]
    exact ⟨s, rfl, h⟩
  · rw [if_neg (by rw [CG_on hCG]; exact h0), if_neg h0]
    have h1 : 1 ≤ (aG A).1 := by omega
    have g := GP hV h1
    obtain ⟨q1, q2, q3, q4, q5, q6, q7⟩ := hCG.2 h1
    have hl := (mvok_len hY g.1 g.2.2.2.1).2
    by_cases hn : (aG A).2.2.2 = []
    · have hb : py_takeBack s.2.2.2.1 = some (0, s.2.2.2.1) := by
        rw [py_takeBack, q5, hn, if_pos (by decide)]
      rw [hb, if_pos hn]
      simp only [Option.bind_some]
      exact ⟨_, if_pos trivial, h⟩
    · obtain ⟨ms, m, hms⟩ : ∃ ms m, (aG A).2.2.2 = ms ++ [m] := ⟨_, _, (List.dropLast_concat_getLast hn).symm⟩
      have hlen : (aG A).2.2.2.length = ms.length + 1 := by rw [hms, List.length_append]; rfl
      have hmk := g.2.2.2.1
      rw [hms] at hmk
      obtain ⟨w1, w2⟩ := mvok_un _ _ _ hmk
      have hv : VP (aY A) (aG A).1 (posn (aG A).1 ms) := mvok_VP hY w1
      obtain ⟨k1, k2, k3, k4, k5, k6, k7, k8⟩ := okm hY g.1 hv w2
      have q7' : CPl s.2.2.2.1.2.2.2.2.2.2 (mv (posn (aG A).1 ms) m) := by
        have e : gP (aG A) = mv (posn (aG A).1 ms) m := by unfold gP; rw [hms, posn_snoc]
        rw [← e]
        exact q7
      obtain ⟨p', u1, u2⟩ := unshift_ok q7' k1 k2 k3 k4 k5 k7
      have hrow : s.2.2.2.1.2.2.2.2.2.1 ms.length = iN m := by
        rw [q6 ms.length (by omega), hms, getD_append_at]
      have hb : py_takeBack s.2.2.2.1 = some (1, (s.2.2.2.1.1, s.2.2.2.1.2.1, s.2.2.2.1.2.2.1, s.2.2.2.1.2.2.2.1, iN ms.length, s.2.2.2.1.2.2.2.2.2.1, p')) := by
        rw [py_takeBack, q5, hlen, zl_1, zl_20, jlt (by omega) (by omega), if_neg (by omega), jlt (by omega) (by omega), if_neg (by omega), iN_sub (by omega), Nat.add_sub_cancel, if_pos (by rw [iN_inb (by omega)]; omega), rd_iN (by omega), hrow, u1]
        rfl
      rw [hb, if_neg hn]
      simp only [Option.bind_some]
      rw [if_neg (by decide)]
      refine ⟨(s.1, s.2.1, s.2.2.1, (s.2.2.2.1.1, s.2.2.2.1.2.1, s.2.2.2.1.2.2.1, s.2.2.2.1.2.2.2.1, iN ms.length, s.2.2.2.1.2.2.2.2.2.1, p'), s.2.2.2.2.1, s.2.2.2.2.2.1, s.2.2.2.2.2.2.1, s.2.2.2.2.2.2.2.1, s.2.2.2.2.2.2.2.2.1, s.2.2.2.2.2.2.2.2.2), ?_, h.1, h.2.1, h.2.2.1, ⟨fun h9 => absurd h9 h0, fun _ => ⟨q1, q2, q3, q4, ?_, fun k hk => ?_, ?_⟩⟩, h.2.2.2.2⟩
      · rw [hlen, Nat.add_sub_cancel]
      · show iN ms.length = iN ((aG A).2.2.2.dropLast).length
        rw [List.length_dropLast, hlen, Nat.add_sub_cancel]
      · show s.2.2.2.1.2.2.2.2.2.1 k = iN (((aG A).2.2.2.dropLast).getD k 0)
        have hk : k < ((aG A).2.2.2.dropLast).length := hk
        have e : (aG A).2.2.2.dropLast = ms := by rw [hms, List.dropLast_concat]
        rw [e] at hk ⊢
        rw [q6 k (by omega), hms, getD_append_lt hk]
      · show CPl p' (posn (aG A).1 ((aG A).2.2.2.dropLast))
        rw [hms, List.dropLast_concat]
        exact u2
theorem aimP_ok {s : SoS} {A : AS} {c : Nat} (hV : VA A) (h : CJ s A c) (yr : Nat) (h1 : 1 ≤ (aG A).1) : ∃ e T, so_aimAtPlay s yr = some ((s.1, s.2.1, s.2.2.1, s.2.2.2.1, s.2.2.2.2.1, s.2.2.2.2.2.1, s.2.2.2.2.2.2.1, e, s.2.2.2.2.2.2.2.2.1, s.2.2.2.2.2.2.2.2.2), 3) ∧ SK e (aY A) (aG A).1 (gW (aG A)) T ∧ T ≤ c + 1 := by
  have g := GP hV h1
  obtain ⟨q1, q2, q3, q4, q5, q6, q7⟩ := h.2.2.2.1.2 h1
  obtain ⟨e, T, a1, a2, a3⟩ := aim_ok h.2.2.2.2.2.1 h1 g.1 g.2.2.2.2.2
  refine ⟨e, T, ?_, a2, a3⟩
  rw [so_aimAtPlay, q2, q3, q4, rel_ok g.2.1 g.2.2.1 g.1]
  simp only [Option.bind_some]
  have a1' : se_aim s.2.2.2.2.2.2.2.1 (iN (aG A).1) (iN (pk (rel (aG A).2.1 (aG A).2.2.1))) = some e := a1
  rw [a1']
  rfl
theorem x_rest {s : SoS} {A : AS} {c : Nat} (hc : c ≤ 11000000) (hV : VA A) (h : CJ s A c) (yr : Nat) : ∃ s2 yr2, so_rest s yr = some (s_rest (aY A) (aG A), s2, yr2) ∧ CJ s2 A (c + 1) ∧ (yr2 = yr ∨ yr2 = 3) := by
  have hY := hV.2.1
  have hCG := h.2.2.2.1
  unfold s_rest
  rw [so_rest]
  by_cases h0 : (aG A).1 = 0
  · rw [if_pos (by rw [CG_on hCG]; exact h0), if_pos h0]
    exact ⟨s, yr, rfl, CJ_le h (by omega), Or.inl rfl⟩
  · rw [if_neg (by rw [CG_on hCG]; exact h0), if_neg h0]
    have h1 : 1 ≤ (aG A).1 := by omega
    have g := GP hV h1
    have q7 := (hCG.2 h1).2.2.2.2.2.2
    obtain ⟨e, T, a1, a2, a3⟩ := aimP_ok hV h yr h1
    obtain ⟨e2, b1, b2⟩ := restFrom_ok hY h.2.1.1 h.2.1.2.1 g.1 g.2.2.2.2.2 (show T ≤ 20000000 by omega) g.2.2.2.2.1 q7 a2
    have hI : CJ (s.1, s.2.1, s.2.2.1, s.2.2.2.1, s.2.2.2.2.1, s.2.2.2.2.2.1, s.2.2.2.2.2.2.1, e2, s.2.2.2.2.2.2.2.2.1, s.2.2.2.2.2.2.2.2.2) A (c + 1) := ⟨h.1, h.2.1, h.2.2.1, h.2.2.2.1, h.2.2.2.2.1, CS_of b2 h1 g.1 g.2.2.2.2.2 a3, h.2.2.2.2.2.2⟩
    rw [a1]
    simp only [Option.bind_some]
    rw [b1]
    simp only [Option.bind_some]
    cases hr : rest (aY A) (aG A).1 (gW (aG A)) (gP (aG A)) with
    | none =>
      rw [if_pos (show eI none < 0 by decide)]
      exact ⟨_, 3, rfl, hI, Or.inr rfl⟩
    | some r =>
      have := rest_le hY g.1 g.2.2.2.2.1 hr
      rw [if_neg (show ¬ eI (some r) < 0 from iN_nneg (by omega))]
      exact ⟨_, 3, rfl, hI, Or.inr rfl⟩
theorem x_next {s : SoS} {A : AS} {c : Nat} (hc : c ≤ 11000000) (hV : VA A) (h : CJ s A c) (yr : Nat) : ∃ s2 yr2, so_next s yr = some (s_next (aY A) (aG A), s2, yr2) ∧ CJ s2 A (c + 1) ∧ (yr2 = yr ∨ yr2 = 3) := by
  have hY := hV.2.1
  have hCG := h.2.2.2.1
  unfold s_next
  rw [so_next]
  by_cases h0 : (aG A).1 = 0
  · rw [if_pos (by rw [CG_on hCG]; exact h0), if_pos h0]
    exact ⟨s, yr, rfl, CJ_le h (by omega), Or.inl rfl⟩
  · rw [if_neg (by rw [CG_on hCG]; exact h0), if_neg h0]
    have h1 : 1 ≤ (aG A).1 := by omega
    have g := GP hV h1
    have q7 := (hCG.2 h1).2.2.2.2.2.2
    obtain ⟨e, T, a1, a2, a3⟩ := aimP_ok hV h yr h1
    obtain ⟨e2, b1, b2⟩ := nextFrom_ok hY h.2.1.1 h.2.1.2.1 g.1 g.2.2.2.2.2 (show T ≤ 20000000 by omega) g.2.2.2.2.1 q7 a2
    have hI : CJ (s.1, s.2.1, s.2.2.1, s.2.2.2.1, s.2.2.2.2.1, s.2.2.2.2.2.1, s.2.2.2.2.2.2.1, e2, s.2.2.2.2.2.2.2.2.1, s.2.2.2.2.2.2.2.2.2) A (c + 1) := ⟨h.1, h.2.1, h.2.2.1, h.2.2.2.1, h.2.2.2.2.1, CS_of b2 h1 g.1 g.2.2.2.2.2 a3, h.2.2.2.2.2.2⟩
    rw [a1]
    simp only [Option.bind_some]
    rw [b1]
    exact ⟨_, 3, rfl, hI, Or.inr rfl⟩
def mvR (o : Option Nat) (a : Nat) : Int32 ⊕ Int32 := match o with
  | some m => .inr (iN m)
  | none => .inl (iN a)
theorem mvs_L17 {s : SoS} {Y : Yd} (hY : VY Y) (hB : CB s.2.1 Y) (hN : CN s.2.1 (mvs Y)) {P : Ps} (hP : CPl s.2.2.2.1.2.2.2.2.2.2 P) (yr : Nat) (x : Int32) : ∀ (d k f a : Nat), d < f → k + d = (mvs Y).length → so_moves_L17 f s yr x (iN a) (iN k) = some (mvR (pck (((mvs Y).drop k).filter (can Y P)) a x) (a + (((mvs Y).drop k).filter (can Y P)).length)) := by
  have hml := mvs_len Y
  intro d
  induction d with
  | zero =>
    intro k f a hf hk
    obtain ⟨f, rfl⟩ : ∃ g, f = g + 1 := ⟨f - 1, by omega⟩
    rw [so_moves_L17, hN.1, jlt (by omega) (by omega), if_neg (by omega), List.drop_eq_nil_of_le (by omega)]
    rfl
  | succ d ih =>
    intro k f a hf hk
    obtain ⟨f, rfl⟩ : ∃ g, f = g + 1 := ⟨f - 1, by omega⟩
    have hkl : k < (mvs Y).length := by omega
    have hmem : (mvs Y).getD k 0 ∈ mvs Y := by
      rw [List.getD_eq_getElem?_getD, List.getElem?_eq_getElem hkl]
      exact List.getElem_mem hkl
    have hdr := drop_cons hkl
    have hmv := moveAt_ok hN (by omega) hkl
    generalize (mvs Y).getD k 0 = m at *
    have hgm := (mem_mvs hY m).mp hmem
    rw [so_moves_L17, hN.1, jlt (by omega) (by omega), if_pos hkl, hmv]
    simp only [Option.bind_some]
    rw [allows_ok hY hB hP hgm, hdr]
    simp only [Option.bind_some]
    rw [show iN k + 1 = iN (k + 1) from iN_add k 1, show iN a + 1 = iN (a + 1) from iN_add a 1]
    cases hc : can Y P m with
    | false =>
      rw [if_pos bF, List.filter_cons_of_neg (by rw [hc]; decide)]
      exact ih (k + 1) f a (by omega) (by omega)
    | true =>
      rw [if_neg bT, List.filter_cons_of_pos hc, pck]
      by_cases e : iN a = x
      · rw [if_pos e, if_pos e]
        rfl
      · rw [if_neg e, if_neg e, ih (k + 1) f (a + 1) (by omega) (by omega), List.length_cons, show a + ((((mvs Y).drop (k + 1)).filter (can Y P)).length + 1) = a + 1 + (((mvs Y).drop (k + 1)).filter (can Y P)).length by omega]
theorem x_moves {s : SoS} {A : AS} {c : Nat} (hV : VA A) (h : CJ s A c) (yr : Nat) (x : Int32) : so_moves s yr x = some (s_mvs (aY A) (aG A) x) := by
  have hY := hV.2.1
  have hCG := h.2.2.2.1
  unfold s_mvs
  rw [so_moves]
  by_cases h0 : (aG A).1 = 0
  · rw [if_pos (by rw [CG_on hCG]; exact h0), if_pos h0]
  · rw [if_neg (by rw [CG_on hCG]; exact h0), if_neg h0]
    have h1 : 1 ≤ (aG A).1 := by omega
    have q7 := (hCG.2 h1).2.2.2.2.2.2
    have hl := mvs_L17 hY h.2.1.1 h.2.1.2.1 q7 yr x (mvs (aY A)).length 0 N0 0 (by rw [N0_eq]; have := mvs_len (aY A); omega) (by omega)
    rw [List.drop_zero, Nat.zero_add] at hl
    have hl' : so_moves_L17 N0 s yr x 0 0 = some (mvR (pck (oks (aY A) (gP (aG A))) 0 x) (oks (aY A) (gP (aG A))).length) := hl
    rw [hl']
    simp only [Option.bind_some]
    cases pck (oks (aY A) (gP (aG A))) 0 x with
    | some k => rfl
    | none =>
      show (if x = -1 then some (iN (oks (aY A) (gP (aG A))).length) else some (-6)) = some (if x = -1 then iN (oks (aY A) (gP (aG A))).length else -6)
      by_cases cx : x = -1
      · rw [if_pos cx, if_pos cx]
      · rw [if_neg cx, if_neg cx]
theorem x_stand {s : SoS} {A : AS} {c : Nat} (hV : VA A) (h : CJ s A c) (yr : Nat) (x : Int32) : so_stand s yr x = some (s_stand (aY A) (aG A) x) := by
  have hY := hV.2.1
  have hCG := h.2.2.2.1
  unfold s_stand
  rw [so_stand, miss_ok hV h]
  simp only [Option.bind_some, bI_0]
  cases hm : msg (aY A) x with
  | true => rw [if_neg (by decide), if_pos rfl]
  | false =>
    rw [if_pos rfl, if_neg (show ¬ false = true by decide), rng_t (a' := 0) (b' := 5) (by rfl) (by rfl)]
    unfold nin
    by_cases cx : 0 ≤ x.toInt ∧ x.toInt ≤ 5
    · rw [if_pos (decide_eq_true cx), if_pos cx]
      by_cases h0 : (aG A).1 = 0
      · rw [if_pos (by rw [CG_on hCG]; exact h0), if_pos h0]
      · rw [if_neg (by rw [CG_on hCG]; exact h0), if_neg h0]
        have h1 : 1 ≤ (aG A).1 := by omega
        have g := GP hV h1
        obtain ⟨q1, q2, q3, q4, q5, q6, q7⟩ := hCG.2 h1
        rcases i_cases x with ⟨k, hk, rfl⟩ | hneg
        · rw [iN_toInt hk] at cx
          have hk6 : k < 6 := by omega
          have hd : ∀ d ∈ gP (aG A) k, 1 ≤ d ∧ d ≤ (aG A).1 := fun d hd => VP_mem g.2.2.2.2.1 hk6 hd
          have hle := VP_le g.2.2.2.2.1 hk6
          have htl := pm_len g.2.1
          have ht8 := pm_d8 g.1 g.2.1
          rw [rowAt_ok q7 hk6, q2, iN_nat hk]
          simp only [Option.bind_some]
          rw [nam_ok ht8.1 ht8.2 (fun d hd' => by have := hd d hd'; omega) (by omega)]
          simp only [Option.bind_some]
          rw [toN_ok (l := nm (aG A).2.1 (gP (aG A) k)) (fun d hd' => by
            unfold nm at hd'
            obtain ⟨e, he, rfl⟩ := List.mem_map.mp hd'
            have h3 := hd e he
            have hmem : (aG A).2.1.getD (e - 1) 0 ∈ (aG A).2.1 := by
              rw [List.getD_eq_getElem?_getD, List.getElem?_eq_getElem (show e - 1 < (aG A).2.1.length by omega)]
              exact List.getElem_mem (show e - 1 < (aG A).2.1.length by omega)
            have h4 := (pm_mem g.2.1).mp hmem
            omega) (by rw [nm_len]; omega)]
          rfl
        · omega
    · rw [if_neg (by rw [decide_eq_true_eq]; exact cx), if_neg cx]
