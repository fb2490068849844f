/-! THE REFERENCE: thumbs, the run -/
theorem let_L54 {Y : Yd} {n : Nat} (hn : n ≤ 5) {t : List Nat} {P : Ps} {σ : MS} (h : TS σ Y n t P) : ∀ (d i f : Nat), d < f → i + d = yM Y →
    (∃ m τ, (og (cLet Y t P) (mk4 (i + 1) 0 0 0)).head? = some m ∧ m_letOut_L54 f σ (iN ((P 5).length + 1)) (iN i) = some (.inr (1, τ)) ∧ TS τ Y n t (mv P m) ∧ FR [16] [10, 11] [] σ τ) ∨
    ((og (cLet Y t P) (mk4 (i + 1) 0 0 0)).head? = none ∧ m_letOut_L54 f σ (iN ((P 5).length + 1)) (iN i) = some (.inl σ)) := by
  have hY := h.1
  have hM := hY.1.2.1
  intro d
  induction d with
  | zero =>
    intro i f hf hi
    obtain ⟨f, rfl⟩ : ∃ g, f = g + 1 := ⟨f - 1, by omega⟩
    right
    refine ⟨?_, ?_⟩
    · rw [og_end (fun x hx => by have := cLet_num hY.1 hx; unfold mk4; omega)]
      rfl
    · rw [m_letOut_L54, hY.2.1, jlt (by omega) (by omega), if_neg (by omega)]
  | succ d ih =>
    intro i f hf hi
    obtain ⟨f, rfl⟩ : ∃ g, f = g + 1 := ⟨f - 1, by omega⟩
    have hgap : og (cLet Y t P) (mk4 (i + 1) 0 0 0) = og (cLet Y t P) (mk4 (i + 1) 0 5 0) := og_gap (by unfold mk4; omega) (fun x hx hle => by
      have := cLet_num hY.1 hx
      unfold mk4 at hle ⊢
      omega)
    rw [hgap]
    rcases let_L65 hn h (show i < yM Y by omega) 2 0 N0 (by rw [N0_eq]; omega) rfl with ⟨m, τ, a1, _, a2, a3, a4⟩ | ⟨a1, a2⟩
    · left
      refine ⟨m, τ, a1, ?_, a3, a4⟩
      rw [z00] at a2
      rw [m_letOut_L54, hY.2.1, jlt (by omega) (by omega), if_pos (by omega), a2]
      rfl
    · rw [a1]
      rw [z00] at a2
      have e : m_letOut_L54 (f + 1) σ (iN ((P 5).length + 1)) (iN i) = m_letOut_L54 f σ (iN ((P 5).length + 1)) (iN (i + 1)) := by
        rw [m_letOut_L54, hY.2.1, jlt (by omega) (by omega), if_pos (by omega), a2]
        simp only [Option.bind_some]
        rw [zl_1, iN_add]
      rw [e]
      exact ih (i + 1) f (by omega) (by omega)
theorem en_w {Y : Yd} {n : Nat} {P : Ps} (hv : VP Y n P) (h : P 0 ≠ []) : (P 0).headD 0 = gn n P + 1 := by
  have h1 := VP_0 hv
  have hl := List.length_pos_iff.mpr h
  obtain ⟨k, hk⟩ : ∃ k, (P 0).length = k + 1 := ⟨(P 0).length - 1, by omega⟩
  rw [h1.2]
  unfold gn
  rw [hk, List.range'_succ]
  rfl
theorem letOut_ok {Y : Yd} {n : Nat} (hn : n ≤ 5) {t : List Nat} {P : Ps} {σ : MS} (h : TS σ Y n t P) :
    (∃ m τ, (cLet Y t P).head? = some m ∧ m_letOut σ (iN n) = some (1, τ) ∧ TS τ Y n t (mv P m) ∧ FR [16] [10, 11] [] σ τ) ∨ ((cLet Y t P).head? = none ∧ m_letOut σ (iN n) = some (0, σ)) := by
  obtain ⟨hY, ht, hT, hv, hP, hg⟩ := id h
  have hM := hY.1.2.1
  have htl := pm_len ht
  have hl5 := RP_5 hP
  have h5le := VP_le hv (p := 5) (by omega)
  have hgn : gn n P ≤ n := Nat.sub_le _ _
  have hin : inb (iN (yM Y)) 5 := by rw [iN_inb (by omega)]; omega
  have hmem := let_mem hY.1 (t := t) (P := P) (f := 0) (e := 0) (Nat.zero_le _) (by omega)
  have hrest : (mk4 0 0 5 0 ∉ cLet Y t P) → m_letOut σ (iN n) = ((m_letOut_L54 N0 σ (iN ((P 5).length + 1)) 0).bind fun q54 => match q54 with | .inr r54 => some r54 | .inl e54 => some (0, e54)) → (∃ m τ, (cLet Y t P).head? = some m ∧ m_letOut σ (iN n) = some (1, τ) ∧ TS τ Y n t (mv P m) ∧ FR [16] [10, 11] [] σ τ) ∨ ((cLet Y t P).head? = none ∧ m_letOut σ (iN n) = some (0, σ)) := by
    intro hno heq
    have hg1 : cLet Y t P = og (cLet Y t P) (mk4 (0 + 1) 0 0 0) := by
      rw [← og_0 (cLet Y t P), og_gap (a := 0) (b := mk4 (0 + 1) 0 0 0) (Nat.zero_le _) (fun x hx _ => by
        have := cLet_num hY.1 hx
        have hne : x ≠ mk4 0 0 5 0 := fun h9 => hno (h9 ▸ hx)
        by_cases c : x / 1000 = 0
        · obtain ⟨g1, _, g3⟩ := cLet_gm hY.1 hx
          have ho := (gm_parts g1).2.2.2.2.1
          unfold oE at ho
          rw [if_pos (show mf x = 0 from c), decide_eq_true_eq] at ho
          have ho : x / 100 % 10 = 0 := ho
          unfold mk4 at hne
          omega
        · unfold mk4; omega)]
      unfold og
      rw [List.filter_filter]
      apply List.filter_congr
      intro x _
      rw [Bool.and_self]
    rw [heq]
    rcases let_L54 hn h (yM Y) 0 N0 (by rw [N0_eq]; omega) (by omega) with ⟨m, τ, a1, a2, a3, a4⟩ | ⟨a1, a2⟩
    · left
      rw [z00] at a2
      refine ⟨m, τ, by rw [hg1]; exact a1, ?_, a3, a4⟩
      rw [a2]; rfl
    · right
      rw [z00] at a2
      refine ⟨by rw [hg1]; exact a1, ?_⟩
      rw [a2]; rfl
  have hst : m_letOut σ (iN n) = if gn n P < n then (if t.getD (gn n P) 0 = (P 5).length + 1 then (if go Y 0 5 = false then ((m_letOut_L54 N0 σ (iN ((P 5).length + 1)) 0).bind fun q54 => match q54 with | .inr r54 => some r54 | .inl e54 => some (0, e54)) else (m_doMove σ 0 0 5 0).bind fun q47 => some (1, q47)) else ((m_letOut_L54 N0 σ (iN ((P 5).length + 1)) 0).bind fun q54 => match q54 with | .inr r54 => some r54 | .inl e54 => some (0, e54))) else ((m_letOut_L54 N0 σ (iN ((P 5).length + 1)) 0).bind fun q54 => match q54 with | .inr r54 => some r54 | .inl e54 => some (0, e54)) := by
    have hgo : m_goes σ 0 5 = some (bI (go Y 0 5)) := goes_ok hY (Nat.zero_le _) (Or.inl rfl)
    rw [m_letOut, hY.2.1, if_pos hin, hg, jlt (by omega) (by omega), gA_av (show yM Y < 2147483648 by omega), hl5.2.1, zl_1, iN_add]
    by_cases c : gn n P < n
    · have ht6 := getD_lt (b := 6) (l := t) (fun x hx => by have := (pm_mem ht).mp hx; omega) (by omega) (gn n P)
      rw [if_pos c, if_pos c, if_pos (by rw [iN_inb (by omega)]; omega), gA_av (by omega), hT _ (by omega), jeq (by omega) (by omega), hgo]
      simp only [Option.bind_some, bI_0]
      rfl
    · rw [if_neg c, if_neg c]
      rfl
  rw [hst] at hrest ⊢
  by_cases c1 : gn n P < n
  · have hne := (gn_lt hv).mp c1
    have hew := en_w hv hne
    have htk : tk (P 0) (decide (0 = 1)) = gn n P + 1 := hew
    rw [htk, Nat.add_sub_cancel] at hmem
    rw [if_pos c1] at hrest ⊢
    by_cases c2 : t.getD (gn n P) 0 = (P 5).length + 1
    · rw [if_pos c2] at hrest ⊢
      by_cases c3 : go Y 0 5 = true
      · rw [if_neg (by rw [c3]; decide)]
        left
        have hin2 := hmem.mpr ⟨hne, rfl, c3, c2⟩
        have hg2 := cLet_gm hY.1 hin2
        have hcm : cm_ Y P 0 0 5 0 = true := by
          rw [cmv_eq hM (by omega) (by omega) (Or.inl rfl) (by omega), hg2.1, hg2.2.1]; rfl
        obtain ⟨τ, u1, u2, u3, u4⟩ := doMove_ok hY hn hv hP hg (Nat.zero_le _) (show 0 < 2 by omega) (Or.inl rfl) (show 0 < 2 by omega) hcm
        refine ⟨mk4 0 0 5 0, τ, ?_, ?_, TS_mv h hg2.1 hg2.2.1 u2 u3 u4, u4⟩
        · have hg1 : cLet Y t P = og (cLet Y t P) (mk4 0 0 5 0) := by
            have e := og_gap (l := cLet Y t P) (a := 0) (b := mk4 0 0 5 0) (Nat.zero_le _) (fun x hx _ => by
              have := cLet_num hY.1 hx
              unfold mk4; omega)
            rw [og_0] at e
            exact e
          rw [hg1, og_step (cLet_srt Y t P), if_pos hin2]
          rfl
        · have u1' : m_doMove σ 0 0 5 0 = some τ := u1
          rw [u1']; rfl
      · have cf : go Y 0 5 = false := by cases hh : go Y 0 5 with | false => rfl | true => exact absurd hh c3
        rw [if_pos cf] at hrest ⊢
        exact hrest (fun h9 => c3 (hmem.mp h9).2.2.1) rfl
    · rw [if_neg c2] at hrest ⊢
      exact hrest (fun h9 => c2 (hmem.mp h9).2.2.2) rfl
  · rw [if_neg c1] at hrest ⊢
    exact hrest (fun h9 => c1 ((gn_lt hv).mpr (hmem.mp h9).1)) rfl
theorem areHigher_L5 {σ : MS} {t l : List Nat} {p w : Nat} (hp : p < 5) (hT : TW σ t) (htl : t.length ≤ 5) (ht6 : ∀ x ∈ t, x < 100) (hw : w < 100) (h : RLs σ p l) (hd : ∀ d ∈ l, 1 ≤ d ∧ d ≤ t.length) : ∀ (d k f : Nat) (v : Bool), d < f → k + d = l.length → m_areHigher_L5 f σ (iN p) (iN w) (bI v) (iN k) = some (bI (v && (l.drop k).all (fun x => decide (w < t.getD (x - 1) 0)))) := by
  obtain ⟨h1, h2, h3⟩ := h
  intro d
  induction d with
  | zero =>
    intro k f v hf hk
    obtain ⟨f, rfl⟩ : ∃ g, f = g + 1 := ⟨f - 1, by omega⟩
    rw [m_areHigher_L5, if_pos (by rw [iN_inb (by omega)]; omega), gA_av (by omega), h2, jlt (by omega) (by omega), if_neg (by omega), List.drop_eq_nil_of_le (by omega)]
    rw [List.all_nil, Bool.and_true]
  | succ d ih =>
    intro k f v hf hk
    obtain ⟨f, rfl⟩ : ∃ g, f = g + 1 := ⟨f - 1, by omega⟩
    have hm : l.getD k 0 ∈ l := by
      rw [List.getD_eq_getElem?_getD, List.getElem?_eq_getElem (by omega)]
      exact List.getElem_mem (show k < l.length by omega)
    have hb := hd _ hm
    have hg := getD_lt ht6 (by omega) (l.getD k 0 - 1)
    rw [m_areHigher_L5, if_pos (by rw [iN_inb (by omega)]; omega), gA_av (by omega), h2, jlt (by omega) (by omega), if_pos (by omega), drop_cons (show k < l.length by omega), List.all_cons]
    simp only [bI_0]
    cases v with
    | false =>
      rw [if_pos rfl, zl_1, iN_add]
      have := ih (k + 1) f false (by omega) (by omega)
      rw [Bool.false_and] at this ⊢
      exact this
    | true =>
      rw [if_neg (by decide), if_pos (by rw [zl_5, iN_mul, iN_add, iN_inb (by omega)]; omega), zl_5, iN_mul, iN_add, gA_av (by omega), h3 k (by omega), wagonAt_M hT hb.1 hb.2 htl]
      simp only [Option.bind_some]
      rw [jlt (by omega) (by omega), zl_1, iN_add]
      by_cases c : w < t.getD (l.getD k 0 - 1) 0
      · rw [if_pos c, decide_eq_true c]
        have := ih (k + 1) f true (by omega) (by omega)
        exact this
      · rw [if_neg c, decide_eq_false c]
        have := ih (k + 1) f false (by omega) (by omega)
        exact this
theorem areHigher_ok {σ : MS} {t l : List Nat} {p w : Nat} (hp : p < 5) (hT : TW σ t) (htl : t.length ≤ 5) (ht6 : ∀ x ∈ t, x < 100) (hw : w < 100) (h : RLs σ p l) (hd : ∀ d ∈ l, 1 ≤ d ∧ d ≤ t.length) : m_areHigher σ (iN p) (iN w) = some (bI (l.all (fun x => decide (w < t.getD (x - 1) 0)))) := by
  have := areHigher_L5 hp hT htl ht6 hw h hd l.length 0 N0 true (by rw [N0_eq]; have := h.1; omega) (by omega)
  rw [List.drop_zero, Bool.true_and, z00] at this
  have h' : m_areHigher_L5 N0 σ (iN p) (iN w) 1 0 = some (bI (l.all (fun x => decide (w < t.getD (x - 1) 0)))) := this
  rw [m_areHigher, h']
  simp only [Option.bind_some]
  rw [if_pos (bI_Z _)]
theorem hasRoom_ok {σ : MS} {Y : Yd} (hY : YR σ Y) {P : Ps} (hP : RP σ Y P) {i : Nat} (hi : i < yM Y) : m_hasRoom σ (iN i) = some (bI (room Y P i)) := by
  have hM := hY.1.2.1
  have hl := RP_l hP (f := i + 1) (by omega) (by omega)
  rw [Nat.add_sub_cancel] at hl
  have hy := hY.2.2.2.1 i hi
  have hn := (hY.1.2.2.2.2.1 i hi).2
  have hl5 := hl.1
  have hgo : m_goes σ 0 (iN (i + 1)) = some (bI (go Y 0 (i + 1))) := goes_ok hY (Nat.zero_le _) (Or.inr ⟨by omega, by omega⟩)
  rw [m_hasRoom, if_pos ⟨by rw [iN_inb (by omega)]; omega, by rw [iN_inb (by omega)]; omega⟩, gA_av (by omega), gA_av (by omega), hl.2.1, hy.2.1, jlt (by omega) (by omega), zl_1, iN_add, hgo]
  simp only [Option.bind_some, bI_0]
  unfold room
  by_cases c : (P (i + 1)).length < yN Y i
  · rw [if_pos c, decide_eq_true c]
    cases go Y 0 (i + 1) <;> rfl
  · rw [if_neg c, decide_eq_false c]
    rfl
theorem nI6_neg (o : Option Nat) (h : ∀ q, o = some q → q < 1000) : (nI6 o < 0) ↔ o = none := by
  cases o with
  | none => exact ⟨fun _ => rfl, fun _ => by decide⟩
  | some q =>
    have := h q rfl
    exact ⟨fun h9 => absurd h9 (iN_nneg (by omega)), fun h9 => by cases h9⟩
def lt4 (s : Option Nat × Option Nat × Option Nat) (M : Nat) : Prop := (∀ q, s.1 = some q → q < M) ∧ (∀ q, s.2.1 = some q → q < M) ∧ (∀ q, s.2.2 = some q → q < M)
theorem s2f_n {P : Ps} {i : Nat} : s2f P i none = some i := rfl
theorem s2f_s {P : Ps} {i j : Nat} : s2f P i (some j) = if (P (i + 1)).length < (P (j + 1)).length then some i else some j := rfl
theorem s3f_n {t : List Nat} {P : Ps} {w i : Nat} : s3f t P w i none = if hgh t P i w = true then some i else none := rfl
theorem s3f_s {t : List Nat} {P : Ps} {w i j : Nat} : s3f t P w i (some j) = some j := rfl
theorem s1f_or {i q : Nat} {o : Option Nat} (h : s1f i o = some q) : q = i ∨ o = some q := by
  cases o with
  | none => cases h; exact Or.inl rfl
  | some j => exact Or.inr h
theorem s2f_or {P : Ps} {i q : Nat} {o : Option Nat} (h : s2f P i o = some q) : q = i ∨ o = some q := by
  cases o with
  | none => cases h; exact Or.inl rfl
  | some j =>
    rw [s2f_s] at h
    by_cases c : (P (i + 1)).length < (P (j + 1)).length
    · rw [if_pos c] at h; cases h; exact Or.inl rfl
    · rw [if_neg c] at h; exact Or.inr h
theorem s3f_or {t : List Nat} {P : Ps} {w i q : Nat} {o : Option Nat} (h : s3f t P w i o = some q) : q = i ∨ o = some q := by
  cases o with
  | none =>
    rw [s3f_n] at h
    by_cases c : hgh t P i w = true
    · rw [if_pos c] at h; cases h; exact Or.inl rfl
    · rw [if_neg c] at h; cases h
  | some j => exact Or.inr h
theorem lt4_0 {M : Nat} : lt4 (none, none, none) M := ⟨fun q h => (nomatch h), fun q h => (nomatch h), fun q h => (nomatch h)⟩
theorem lt4_st {t : List Nat} {P : Ps} {w M i : Nat} {s : Option Nat × Option Nat × Option Nat} (h : lt4 s M) (hi : i < M) : lt4 (st3 t P w s i) M := by
  obtain ⟨a, b, c⟩ := h
  refine ⟨fun q hq => ?_, fun q hq => ?_, fun q hq => ?_⟩
  · rcases s1f_or hq with e | e
    · omega
    · exact a q e
  · rcases s2f_or hq with e | e
    · omega
    · exact b q e
  · rcases s3f_or hq with e | e
    · omega
    · exact c q e
theorem cIn_s {Y : Yd} {P : Ps} {k : Nat} (h : k < yM Y) : cIn Y P k = if room Y P k = true then k :: cIn Y P (k + 1) else cIn Y P (k + 1) := by
  unfold cIn
  rw [rng_c h]
  by_cases c : room Y P k = true
  · rw [List.filter_cons_of_pos c, if_pos c]
  · rw [List.filter_cons_of_neg c, if_neg c]
theorem chosen_L14 {Y : Yd} {n : Nat} {t : List Nat} {P : Ps} {σ : MS} (hn : n ≤ 5) (h : TS σ Y n t P) {w : Nat} (hw : w < 100) (rule : Int32) : ∀ (d i f : Nat) (s : Option Nat × Option Nat × Option Nat), d < f → i + d = yM Y → lt4 s (yM Y) →
    m_chosen_L14 f σ (iN w) rule (nI6 s.1) (nI6 s.2.1) (nI6 s.2.2) (iN i) = some (nI6 ((cIn Y P i).foldl (st3 t P w) s).1, nI6 ((cIn Y P i).foldl (st3 t P w) s).2.1, nI6 ((cIn Y P i).foldl (st3 t P w) s).2.2) := by
  obtain ⟨hY, ht, hT, hv, hP, hg⟩ := id h
  have hM := hY.1.2.1
  have htl := pm_len ht
  intro d
  induction d with
  | zero =>
    intro i f s hf hi hs
    obtain ⟨f, rfl⟩ : ∃ g, f = g + 1 := ⟨f - 1, by omega⟩
    have e : cIn Y P i = [] := by unfold cIn; rw [show yM Y - i = 0 by omega]; rfl
    rw [m_chosen_L14, hY.2.1, jlt (by omega) (by omega), if_neg (by omega), e]
    rfl
  | succ d ih =>
    intro i f s hf hi hs
    obtain ⟨f, rfl⟩ : ∃ g, f = g + 1 := ⟨f - 1, by omega⟩
    have hi2 : i < yM Y := by omega
    have hc := cIn_s (P := P) hi2
    rw [m_chosen_L14, hY.2.1, jlt (by omega) (by omega), if_pos hi2, hasRoom_ok hY hP hi2]
    simp only [Option.bind_some, bI_0]
    by_cases cr : room Y P i = true
    · rw [if_neg (by rw [cr]; decide)]
      rw [if_pos cr] at hc
      rw [hc, List.foldl_cons]
      have hrec := ih (i + 1) f (st3 t P w s i) (by omega) (by omega) (lt4_st hs hi2)
      rw [← hrec]
      obtain ⟨s1, s2, s3⟩ := s
      obtain ⟨a, b, c⟩ := hs
      have hll := RP_l hP (f := i + 1) (by omega) (by omega)
      rw [Nat.add_sub_cancel] at hll
      have hh := areHigher_ok (p := i) (w := w) (by omega) hT (by omega) (fun x hx => by have := (pm_mem ht).mp hx; omega) hw hll (fun x hx => by have := VP_mem hv (p := i + 1) (by omega) hx; omega)
      have hJ72 : ∀ (a1 a2 : Option Nat), (∀ q, s3 = some q → q < yM Y) → m_chosen_J72 (m_chosen_L14 f) σ (iN w) rule (nI6 a1) (nI6 s3) (iN i) (nI6 a2) = m_chosen_L14 f σ (iN w) rule (nI6 a1) (nI6 a2) (nI6 (s3f t P w i s3)) (iN (i + 1)) := by
        intro a1 a2 h3
        rw [m_chosen_J72]
        cases s3 with
        | none =>
          rw [if_pos (show nI6 none < 0 by decide), hh]
          simp only [Option.bind_some, bI_0]
          rw [zl_1, iN_add]
          have e : ((P (i + 1)).all (fun x => decide (w < t.getD (x - 1) 0))) = hgh t P i w := rfl
          rw [e, s3f_n]
          cases hgh t P i w with
          | false => rw [if_pos rfl, if_neg (by decide)]
          | true => rw [if_neg (by decide), if_pos rfl]; rfl
        | some j =>
          have := h3 j rfl
          rw [if_neg (show ¬ nI6 (some j) < 0 from iN_nneg (by omega)), zl_1, iN_add, s3f_s]
      have hJ42 : ∀ (a1 : Option Nat), m_chosen_J42 (m_chosen_L14 f) σ (iN w) rule (nI6 s2) (nI6 s3) (iN i) (nI6 a1) = m_chosen_L14 f σ (iN w) rule (nI6 a1) (nI6 (s2f P i s2)) (nI6 (s3f t P w i s3)) (iN (i + 1)) := by
        intro a1
        rw [m_chosen_J42]
        cases s2 with
        | none => rw [if_pos (show nI6 none < 0 by decide)]; exact hJ72 a1 (some i) c
        | some j =>
          have hj := b j rfl
          have hlj := RP_l hP (f := j + 1) (by omega) (by omega)
          rw [Nat.add_sub_cancel] at hlj
          have hl1 := hll.1
          have hl2 := hlj.1
          rw [if_neg (show ¬ nI6 (some j) < 0 from iN_nneg (by omega)), show nI6 (some j) = iN j from rfl, if_pos ⟨by rw [iN_inb (by omega)]; omega, by rw [iN_inb (by omega)]; omega⟩, gA_av (by omega), gA_av (by omega), hll.2.1, hlj.2.1, jlt (by omega) (by omega)]
          rw [s2f_s]
          by_cases cc : (P (i + 1)).length < (P (j + 1)).length
          · rw [if_pos cc, if_pos cc]; exact hJ72 a1 (some i) c
          · rw [if_neg cc, if_neg cc]; exact hJ72 a1 (some j) c
      cases s1 with
      | none => rw [if_pos (show nI6 none < 0 by decide)]; exact hJ42 (some i)
      | some j =>
        have := a j rfl
        rw [if_neg (show ¬ nI6 (some j) < 0 from iN_nneg (by omega))]; exact hJ42 (some j)
    · have cf : room Y P i = false := by cases hh : room Y P i with | false => rfl | true => exact absurd hh cr
      rw [if_pos cf, zl_1, iN_add]
      rw [if_neg cr] at hc
      rw [hc]
      exact ih (i + 1) f s (by omega) (by omega) hs
theorem lt4_fold {t : List Nat} {P : Ps} {w M : Nat} : ∀ (l : List Nat) (s : Option Nat × Option Nat × Option Nat), lt4 s M → (∀ i ∈ l, i < M) → lt4 (l.foldl (st3 t P w) s) M := by
  intro l
  induction l with
  | nil => intro s h _; exact h
  | cons x r ih => intro s h hl; exact ih _ (lt4_st h (hl x List.mem_cons_self)) (fun i hi => hl i (List.mem_cons_of_mem _ hi))
theorem cIn_lt {Y : Yd} {P : Ps} {i : Nat} (h : i ∈ cIn Y P 0) : i < yM Y ∧ room Y P i = true := by
  obtain ⟨h1, h2⟩ := List.mem_filter.mp h
  rw [List.mem_range'_1] at h1
  exact ⟨by omega, h2⟩
theorem st3_room {Y : Yd} {t : List Nat} {P : Ps} {w : Nat} : ∀ (l : List Nat) (s : Option Nat × Option Nat × Option Nat), (∀ i ∈ l, room Y P i = true) → (∀ q, s.1 = some q ∨ s.2.1 = some q ∨ s.2.2 = some q → room Y P q = true) → ∀ q, (l.foldl (st3 t P w) s).1 = some q ∨ (l.foldl (st3 t P w) s).2.1 = some q ∨ (l.foldl (st3 t P w) s).2.2 = some q → room Y P q = true := by
  intro l
  induction l with
  | nil => intro s _ h; exact h
  | cons x r ih =>
    intro s hl h
    refine ih _ (fun i hi => hl i (List.mem_cons_of_mem _ hi)) (fun q hq => ?_)
    have hx := hl x List.mem_cons_self
    rcases hq with hq | hq | hq
    · rcases s1f_or hq with e | e
      · rw [e]; exact hx
      · exact h q (Or.inl e)
    · rcases s2f_or hq with e | e
      · rw [e]; exact hx
      · exact h q (Or.inr (Or.inl e))
    · rcases s3f_or hq with e | e
      · rw [e]; exact hx
      · exact h q (Or.inr (Or.inr e))
theorem pIn_some {Y : Yd} {t : List Nat} {P : Ps} {rule i : Nat} (h : pIn Y t P rule = some i) : P 0 ≠ [] ∧ i < yM Y ∧ room Y P i = true := by
  unfold pIn at h
  split at h
  · cases h
  · rename_i hne
    have hlt := lt4_fold (t := t) (P := P) (w := enW t P) (M := yM Y) (cIn Y P 0) (none, none, none) lt4_0 (fun i hi => (cIn_lt hi).1)
    have hro := st3_room (t := t) (w := enW t P) (cIn Y P 0) (none, none, none) (fun i hi => (cIn_lt hi).2) (fun q h => by rcases h with h | h | h <;> cases h)
    refine ⟨hne, ?_⟩
    generalize (cIn Y P 0).foldl (st3 t P (enW t P)) (none, none, none) = s at *
    obtain ⟨s1, s2, s3⟩ := s
    unfold fIn at h
    by_cases c2 : rule = 2
    · rw [if_pos c2] at h
      exact ⟨hlt.2.1 i h, hro i (Or.inr (Or.inl h))⟩
    · rw [if_neg c2] at h
      by_cases c1 : rule = 1
      · rw [if_pos c1] at h
        cases s3 with
        | none => exact ⟨hlt.1 i h, hro i (Or.inl h)⟩
        | some j => exact ⟨hlt.2.2 i h, hro i (Or.inr (Or.inr h))⟩
      · rw [if_neg c1] at h
        exact ⟨hlt.1 i h, hro i (Or.inl h)⟩
theorem chosen_ok {Y : Yd} {n : Nat} {t : List Nat} {P : Ps} {σ : MS} (hn : n ≤ 5) (h : TS σ Y n t P) {rule : Nat} (hr : rule ≤ 2) (hne : P 0 ≠ []) : m_chosen σ (iN (enW t P)) (iN rule) = some (nI6 (pIn Y t P rule)) := by
  obtain ⟨hY, ht, hT, hv, hP, hg⟩ := id h
  have hw : enW t P < 100 := getD_lt (pm_100 (by omega) ht) (by omega) _
  have hM := hY.1.2.1
  have hl := chosen_L14 hn h hw (iN rule) (yM Y) 0 N0 (none, none, none) (by rw [N0_eq]; omega) (by omega) lt4_0
  have hlt := lt4_fold (t := t) (P := P) (w := enW t P) (M := yM Y) (cIn Y P 0) (none, none, none) lt4_0 (fun i hi => (cIn_lt hi).1)
  have hl' : m_chosen_L14 N0 σ (iN (enW t P)) (iN rule) (-6) (-6) (-6) 0 = some (nI6 ((cIn Y P 0).foldl (st3 t P (enW t P)) (none, none, none)).1, nI6 ((cIn Y P 0).foldl (st3 t P (enW t P)) (none, none, none)).2.1, nI6 ((cIn Y P 0).foldl (st3 t P (enW t P)) (none, none, none)).2.2) := hl
  rw [m_chosen, hl']
  simp only [Option.bind_some]
  unfold pIn
  rw [if_neg hne]
  generalize (cIn Y P 0).foldl (st3 t P (enW t P)) (none, none, none) = s at *
  obtain ⟨s1, s2, s3⟩ := s
  unfold fIn
  rw [zl_2, jeq (by omega) (by omega), zl_1, jeq (by omega) (by omega)]
  by_cases c2 : rule = 2
  · rw [if_pos c2, if_pos c2]
  · rw [if_neg c2, if_neg c2]
    by_cases c1 : rule = 1
    · rw [if_pos c1, if_pos c1]
      simp only
      cases s3 with
      | none => rw [if_pos (by decide)]
      | some j =>
        have := hlt.2.2 j rfl
        rw [if_neg (show ¬ nI6 (some j) < 0 from iN_nneg (by omega))]
    · rw [if_neg c1, if_neg c1]
theorem go0_in {Y : Yd} {P : Ps} {i : Nat} (hY : VY Y) (hne : P 0 ≠ []) (hi : i < yM Y) (hr : room Y P i = true) : cm_ Y P 0 0 (i + 1) 0 = true := by
  unfold room at hr
  rw [Bool.and_eq_true] at hr
  unfold cm_
  have e1 : oE Y 0 0 = true := rfl
  have e2 : iE Y (i + 1) 0 = true := rfl
  rw [e1, e2, hr.2, decide_eq_true hne, Nat.add_sub_cancel, hr.1, Bool.or_true]
  rfl
theorem goIn_ok {Y : Yd} {n : Nat} (hn : n ≤ 5) {t : List Nat} {P : Ps} {σ : MS} (h : TS σ Y n t P) {rule : Nat} (hr : rule ≤ 2) :
    (∃ i τ, pIn Y t P rule = some i ∧ m_goIn σ (iN n) (iN rule) = some (1, τ) ∧ TS τ Y n t (mv P (mk4 0 0 (i + 1) 0)) ∧ FR [16] [10, 11] [] σ τ) ∨ (pIn Y t P rule = none ∧ m_goIn σ (iN n) (iN rule) = some (0, σ)) := by
  obtain ⟨hY, ht, hT, hv, hP, hg⟩ := id h
  have hM := hY.1.2.1
  have htl := pm_len ht
  have hgn : gn n P ≤ n := Nat.sub_le _ _
  rw [m_goIn, hg, jeq (by omega) (by omega)]
  by_cases c : gn n P = n
  · right
    rw [if_pos c]
    refine ⟨?_, rfl⟩
    unfold pIn
    rw [if_pos]
    apply Classical.byContradiction
    intro h9
    have := (gn_lt hv).mpr h9
    omega
  · have hne := (gn_lt hv).mp (by omega)
    have hew := en_w hv hne
    rw [if_neg c, if_pos (by rw [iN_inb (by omega)]; omega), gA_av (by omega), hT _ (by omega)]
    have e : t.getD (gn n P) 0 = enW t P := by unfold enW; rw [hew, Nat.add_sub_cancel]
    rw [e, chosen_ok hn h hr hne]
    simp only [Option.bind_some]
    cases hp : pIn Y t P rule with
    | none => right; rw [if_pos (by decide)]; exact ⟨rfl, rfl⟩
    | some i =>
      left
      obtain ⟨_, hi, hro⟩ := pIn_some hp
      have hcm := go0_in hY.1 hne hi hro
      obtain ⟨τ, u1, u2, u3, u4⟩ := doMove_ok hY hn hv hP hg (Nat.zero_le _) (show 0 < 2 by omega) (Or.inr ⟨show 1 ≤ i + 1 by omega, by omega⟩) (show 0 < 2 by omega) hcm
      rw [cmv_eq hM (by omega) (by omega) (Or.inr ⟨by omega, by omega⟩) (by omega), Bool.and_eq_true] at hcm
      have u1' : m_doMove σ 0 0 (iN (i + 1)) 0 = some τ := u1
      refine ⟨i, τ, rfl, ?_, TS_mv h hcm.1 hcm.2 u2 u3 u4, u4⟩
      rw [if_neg (show ¬ nI6 (some i) < 0 from iN_nneg (by omega)), show nI6 (some i) = iN i from rfl, zl_1, iN_add, u1']
      rfl
