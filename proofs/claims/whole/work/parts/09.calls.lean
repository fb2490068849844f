/-! CALLS, row by row -/
theorem K_blind {D : va_G} {cA : Nat → ClassId} {ad : Nat → Nat} {sz : Nat} {as : List Value} {h : AH} : FrameBlind (va_Pc (as.map (cV ad)) (fun U => U.heap.size = sz ∧ va_P D CL (cW ad cA h) U.heap ∧ va_K D CL (tysOf cA) U ∧ va_D (fun _ => True) (cW ad cA h) ∧ ∀ w ∈ NW, va_Nw w U)) := by
  intro a U g mk hq
  obtain ⟨q0, q1, qP, qK, qD, qN⟩ := hq
  exact ⟨q0, q1, qP, va_K.moved (u := U) (U := U.calling g mk a) (Vm.Alike.refl U.vm) qK, qD, fun w hw => NW_same (s := U) hw rfl (qN w hw)⟩
/-- what the caller knows ahead of a call -/
theorem call_pre {D : va_G} {cA : Nat → ClassId} {A : Nat → Prop} {ad : Nat → Nat} {h hc : AH} {rho : List Nat} {H H0 : Heap} {locs : List Loc} (hS : va_S A H0 H locs) (hA : ∀ q, H0.size ≤ q → A q)
    (hr : hc.length ≤ rho.length) (hnd : va_nd (rho.take hc.length) = true) (hm : (rho.take hc.length).map (fun i => h[i]?) = hc.map (fun c => some (rE (rnF rho h.length) c)))
    (hP : va_P D CL (cW ad cA h) H) (hD : va_D A (cW ad cA h)) :
    va_P D CL (cW (fun r => ad (rnF rho h.length r)) cA hc) H ∧ va_D (fun _ => True) (cW (fun r => ad (rnF rho h.length r)) cA hc) ∧ ∀ q, va_A (cW (fun r => ad (rnF rho h.length r)) cA hc) H.size q → A q := by
  have key : ∀ (k : Nat) (q : Nat × va_E), (cW (fun r => ad (rnF rho h.length r)) cA hc)[k]? = some q → ∃ j, (rho.take hc.length)[k]? = some j ∧ (cW ad cA h)[j]? = some q := by
    intro k q hq
    obtain ⟨c, hcc, hqe⟩ := cW_of hq
    have hx : ((rho.take hc.length).map (fun i => h[i]?))[k]? = some (some (rE (rnF rho h.length) c)) := by rw [hm, List.getElem?_map, hcc]; rfl
    rw [List.getElem?_map] at hx
    cases hr3 : (rho.take hc.length)[k]? with
    | none => rw [hr3] at hx; cases hx
    | some j =>
      rw [hr3] at hx
      have hj := Option.some.inj hx
      refine ⟨j, rfl, ?_⟩
      rw [cW_get hj, hqe]
      have hfj : rnF rho h.length k = j := by
        have hr4 := hr3
        rw [List.getElem?_take] at hr4
        split at hr4
        · unfold rnF; rw [hr4]
        · have := (List.getElem?_eq_some_iff.mp hcc).1
          omega
      rw [hfj, ← cE_comp (ad := ad) (ad' := fun r => ad (rnF rho h.length r)) (f := rnF rho h.length) (fun _ => rfl)]
  refine ⟨fun k q hq => ?_, ⟨fun i j p q hi hj hpq => ?_, fun _ _ _ => trivial⟩, fun q hq => ?_⟩
  · obtain ⟨j, -, h2⟩ := key k q hq
    exact hP j q h2
  · obtain ⟨i1, a1, a2⟩ := key i p hi
    obtain ⟨j1, b1, b2⟩ := key j q hj
    have := hD.1 i1 j1 p q a2 b2 hpq
    subst this
    exact va_nd_inj _ hnd i j i1 a1 b1
  · rcases hq with ⟨k, e, hq⟩ | hq
    · obtain ⟨j, -, h2⟩ := key k (q, e) hq
      exact hD.2 j (q, e) h2
    · exact hA q (Nat.le_trans hS.1 hq)
theorem call_post {p : Program} {l : Launch} {e : Env} {R : Room} {s : State} {m : MethodId} {args : Array Value} {below : List Frame} {meth : Method} {c : Code} {D : va_G} {cA : Nat → ClassId} {ad0 : Nat → Nat} {n0 : Nat} {A : Nat → Prop} {mc ms : Nat} {Q : State → Prop}
    {pc : Nat} {vs : List (Option Value)} {rest st0 : List Value} {h hc : AH} {bk bn : Nat} {K : Option Value → AH → Prop} {rho : List Nat} {mc' ms' : Nat} {ad : Nat → Nat} {H : Heap} {locs : List Loc} {ls : Array Slot} {k n : Nat} {a : Array Value}
    (hr : hc.length ≤ rho.length) (hnd : va_nd (rho.take hc.length) = true) (hm : (rho.take hc.length).map (fun i => h[i]?) = hc.map (fun c => some (rE (rnF rho h.length) c)))
    (hal : ∀ v h', K v h' → h'.length = hc.length ∨ (rho.length = hc.length ∧ cellsLt h.length h = true ∧ allLtO h.length vs = true ∧ allLt h.length rest = true ∧ Nat.ble (h.length + (h'.length - hc.length)) 1000 = true))
    (hn0 : n0 ≤ h.length) (had : ∀ i, i < n0 ∨ h.length ≤ i → ad i = ad0 i) (hP : va_P D CL (cW ad cA h) H) (hD : va_D A (cW ad cA h)) (hS : va_S A s.heap H locs) (hl : LH ad c.maxLocals vs ls) (hk : k + (bk + mc') ≤ mc) (hn : n + (bn + ms') ≤ ms)
    (hF : ∀ q, va_A (cW (fun r => ad (rnF rho h.length r)) cA hc) H.size q → A q)
    (hrun : va_Run p l e R s m args below meth c H locs k n mc' ms' (F0 m pc ls st0) (rest.map (cV ad)) (QK D cA hc.length (fun r => ad (rnF rho h.length r)) (va_A (cW (fun r => ad (rnF rho h.length r)) cA hc) H.size) K a) (va_A (cW (fun r => ad (rnF rho h.length r)) cA hc) H.size))
    (kk : ∀ (v : Option Value) (h' : AH), K v h' → MW (p, l, e, R, s, m, args, below, meth, c, D, cA, ad0, n0, A, mc, ms, Q) (pc + 3, vs, v.toList.map (cV (rnF rho h.length)) ++ rest, jn h rho hc.length h', bk, bn)) :
    W p l e R s m args below meth c H locs k n Q (F0 m pc ls st0) := by
  intro T hT Xs
  obtain ⟨v, st₀, t, T', L, h0, X', hL, e1, e2, ⟨⟨v', ad', h', hv, hag, hlen, hKv, hP1, hK1, hD1⟩, hz, hkp⟩, st⟩ := hrun T hT Xs
  have hv : v = v'.map (cV ad') := by cases hv; rfl
  subst hv
  rw [h0] at hz hkp
  rw [← e1] at hz hkp hP1
  have hal1 := hal v' h' hKv
  -- the new places
  have hex : ∃ ad2 : Nat → Nat, (∀ r, ad2 (rnF rho h.length r) = ad' r) ∧ (∀ j, j < h.length → ad2 j = ad j) ∧ (∀ (j : Nat) (e : AE), h[j]? = some e → cE ad2 cA e = cE ad cA e) ∧ (∀ j, h.length + (h'.length - hc.length) ≤ j → ad2 j = ad j) ∧ LH ad2 c.maxLocals vs ls ∧ rest.map (cV ad2) = rest.map (cV ad) := by
    rcases hal1 with he | ⟨he, hc1, hc2, hc3, hc4⟩
    · refine ⟨ad, fun r => ?_, fun _ _ => rfl, fun _ _ _ => rfl, fun _ _ => rfl, hl, rfl⟩
      have := hag r (by omega)
      rw [this]
    · have hf : ∀ r, hc.length ≤ r → rnF rho h.length r = h.length + (r - hc.length) := fun r hr9 => by
        unfold rnF
        rw [List.getElem?_eq_none (by omega), he]
      have hlt : ∀ r, r < hc.length → rnF rho h.length r < h.length := fun r hr9 => by
        have hx : ((rho.take hc.length).map (fun i => h[i]?))[r]? = some (some (rE (rnF rho h.length) hc[r])) := by
          rw [hm, List.getElem?_map, List.getElem?_eq_getElem hr9]; rfl
        rw [List.getElem?_map] at hx
        cases hr3 : (rho.take hc.length)[r]? with
        | none => rw [hr3] at hx; cases hx
        | some j =>
          rw [hr3] at hx
          have hj := (List.getElem?_eq_some_iff.mp (Option.some.inj hx)).1
          rw [List.getElem?_take, if_pos hr9] at hr3
          unfold rnF; rw [hr3]; exact hj
      have hc4 := Nat.le_of_ble_eq_true hc4
      have hag2 : ∀ i, i < h.length ∨ 1000 ≤ i → (if i < h.length then ad i else ad' (hc.length + (i - h.length))) = ad i := fun i hi => by
        by_cases hlt9 : i < h.length
        · rw [if_pos hlt9]
        · rw [if_neg hlt9, hag _ (Or.inr (by omega))]
          show ad (rnF rho h.length (hc.length + (i - h.length))) = ad i
          rw [hf _ (by omega)]
          congr 1
          omega
      refine ⟨fun j => if j < h.length then ad j else ad' (hc.length + (j - h.length)), fun r => ?_, fun j hj => by simp [hj], fun j e0 he0 => cellsLt_v hc1 he0 hag2 cA, fun j hj => ?_, ?_, allLt_v hc3 hag2⟩
      · rcases Nat.lt_or_ge r hc.length with hr9 | hr9
        · simp only [hlt r hr9, if_true]
          exact (hag r (Or.inl hr9)).symm
        · rw [hf r hr9]
          have e3 : ¬ (h.length + (r - hc.length) < h.length) := by omega
          simp only [e3, if_false]
          congr 1
          omega
      · have e3 : ¬ j < h.length := by omega
        simp only [e3, if_false]
        rw [hag _ (Or.inr (by omega))]
        show ad (rnF rho h.length (hc.length + (j - h.length))) = ad j
        rw [hf _ (by omega)]
        congr 1
        omega
      · refine ⟨hl.1, hl.2.1, hl.2.2.1, fun i w hw => ?_⟩
        rw [refLt_v (ad := ad) (allLtO_v hc2 hw) hag2]
        exact hl.2.2.2 i w hw
  obtain ⟨ad2, g1, g2, g3, g4, g5, g6⟩ := hex
  obtain ⟨hP2, hD2⟩ := jn_world hr hnd hlen (by rcases hal1 with z | z; exact Or.inl z; exact Or.inr z.1) hm hP hD (fun q z1 z2 => hkp q z1 z2) hF hP1 hD1 g1 g2 g3
  have hS2 : va_S A s.heap T'.heap (locs ++ L) := ⟨Nat.le_trans hS.1 hz, fun q h1 h2 => by rw [hkp q (Nat.lt_of_lt_of_le h1 hS.1) (fun z => h2 (hF q z))]; exact hS.2.1 q h1 h2, fun q hq => by
      rcases List.mem_append.mp hq with z | z
      · exact hS.2.2 q z
      · exact hF _ (hL q z)⟩
  obtain ⟨t2, a1, b1⟩ := kk v' h' hKv ad2 T'.heap (locs ++ L) ls (k + mc') (n + ms') (by rw [jn_len]; omega) (fun i hi => by
      rw [jn_len] at hi
      rcases hi with z | z
      · rw [g2 i (by omega)]; exact had i (Or.inl z)
      · rw [g4 i z]; exact had i (Or.inr (by omega))) hP2 hD2 hS2 g5 (by omega) (by omega) T' rfl X'
  refine ⟨t2, st t2 ?_, b1⟩
  have hstk : List.map (cV ad2) (v'.toList.map (cV (rnF rho h.length)) ++ rest) = (v'.map (cV ad')).toList ++ rest.map (cV ad) := by
    rw [List.map_append, g6, List.map_map]
    congr 1
    cases v' with
    | none => rfl
    | some w => simp [cV_comp g1 w]
  rw [hstk] at a1
  exact a1

theorem stk_eq (ad f : Nat → Nat) (as rest : List Value) : List.map (cV ad) ((as.map (cV f)).reverse ++ rest) = (as.map (cV (fun r => ad (f r)))).reverse ++ rest.map (cV ad) := by
  rw [List.map_append, List.map_reverse, List.map_map]
  congr 2
  apply List.map_congr_left
  intro v _
  exact (cV_comp (ad := ad) (ad' := fun r => ad (f r)) (f := f) (fun _ => rfl) v).symm
theorem cat_eq {ad : Nat → Nat} {rest : List Value} (hrs : (rest.map fun v => v.category).sum ≤ 8) : ((rest.map (cV ad)).map fun v => v.category).sum ≤ 8 := by
  rw [List.map_map]
  have : (fun v => Value.category v) ∘ cV ad = fun v => v.category := by funext v; exact cV_cat ad v
  rw [this]; exact hrs
section
variable {X : CTX} {b : ByteArray} {own : String} {ini : Bool} {fr lo : Nat} {tab : List CI} {pc : Nat} {vs : List (Option Value)} {st : List Value} {h hc : AH} {bk bn bk' bn' : Nat} {K : Option Value → AH → Prop} {r1 r2 r3 index : Nat} {cv : Value} {y : MethodName} {by' : ByteArray} {nL' fr' lo' mc' ms' : Nat} {ret' : Option FieldType} {as : List Value} {rho : List Nat}
theorem pay_words {s U : State} {args a' : Array Value} (hts : ∀ w ∈ TG, w.before args s = true) (hcode : (Cond.code y by' nL' ret') ∈ TG) (hW : s.WarmedH U.vm) : ∀ w ∈ (Cond.code y by' nL' ret' :: TG), w.before a' U = true := fun w hw => by
  have hw2 : w ∈ TG := by
    rcases List.mem_cons.mp hw with e | e
    · rw [e]; exact hcode
    · exact e
  exact word_at hW (good_of_word (TG_good w hw2)) (hts w hw2)
theorem good_pay (hcode : (Cond.code y by' nL' ret') ∈ TG) : GoodIn TG (Cond.code y by' nL' ret' :: TG) := fun w hw => by
  have hw2 : w ∈ TG := by
    rcases List.mem_cons.mp hw with e | e
    · rw [e]; exact hcode
    · exact e
  exact ⟨hw2, good_of_word (TG_good w hw2)⟩
/-- a call of an instance method -/
theorem MW_callV (C : CX X b own ini fr lo) (ht : tab.all (okI own ini b) = true) (i : Nat) (hc0 : tab[i]? = some (pc, 3, .invokevirtual index, r1, r2, r3, cv)) (hCT : CT y by' nL' ret' fr' lo' mc' ms' as hc K)
    (hw : ∀ w ∈ [Cond.methodLink own index y, .instanceMethod y, .selects y.cls y y, .initialized y.cls, .code y by' nL' ret'], w ∈ TG) (n : Nat)
    (hd : (decide (y.cls ≠ "java/lang/invoke/MethodHandle") && decide (y.cls ≠ "java/lang/invoke/VarHandle") && decide ((parseMethodDescriptor y.desc).map (fun d => d.parameters.length) = some n)) = true)
    (hR : (Nat.ble (fr' + 1) fr && Nat.ble (8 + (nL' + 11) + lo') lo) = true)
    {rr ci : Nat} {q : vw_C} {fs : List Value} {As rest : List Value} (has : as = .ref rr :: As) (hlen : As.length = n) (hrecv : hc[rr]? = some (.inr (ci, fs))) (hcl : CL[ci]? = some q) (hqy : q.1 = y.cls)
    (hst : st = (as.map (cV (rnF rho h.length))).reverse ++ rest) (hrs : Nat.ble (rest.map fun v => v.category).sum 8 = true)
    (hr : Nat.ble hc.length rho.length = true) (hnd : va_nd (rho.take hc.length) = true) (hm : (rho.take hc.length).map (fun i => h[i]?) = hc.map (fun c => some (rE (rnF rho h.length) c)))
    (hal : ∀ v h', K v h' → h'.length = hc.length ∨ (rho.length = hc.length ∧ cellsLt h.length h = true ∧ allLtO h.length vs = true ∧ allLt h.length rest = true ∧ Nat.ble (h.length + (h'.length - hc.length)) 1000 = true))
    (hbk : bk = bk' + mc') (hbn : bn = bn' + ms')
    (kk : ∀ (v : Option Value) (h' : AH), K v h' → MW X (pc + 3, vs, v.toList.map (cV (rnF rho h.length)) ++ rest, jn h rho hc.length h', bk', bn')) : MW X (pc, vs, st, h, bk, bn) := by
  have hi : okI own ini b (pc, 3, .invokevirtual index, r1, r2, r3, cv) = true := List.all_eq_true.mp ht _ (List.mem_of_getElem? hc0)
  obtain ⟨p, l, e, R, s, m, args, below, meth, c, D, cA, ad0, n0, A, mc, ms, Q⟩ := X
  obtain ⟨hx, hcb, hown, hts, hK, hlk, hA, hin, hRc, hRs, hfr, hlo, hNW⟩ := C
  have hdg := okI_dec hi
  dsimp only at hdg
  rw [Bool.and_eq_true, Bool.and_eq_true] at hd
  rw [Bool.and_eq_true] at hR
  have hR1 := Nat.le_of_ble_eq_true hR.1
  have hR2 := Nat.le_of_ble_eq_true hR.2
  have hr := Nat.le_of_ble_eq_true hr
  have hrs := Nat.le_of_ble_eq_true hrs
  have hwin := hw
  have hcode := hwin (.code y by' nL' ret') (by simp)
  subst hst hbk hbn
  intro ad H locs ls k n9 hn0 had hP hD hS hl hk hn
  obtain ⟨hPc, hDc, hFc⟩ := call_pre hS hA hr hnd hm hP hD
  have hM := hCT l D cA (fun r => ad (rnF rho h.length r)) H.size
  have hKq : va_K D CL (tysOf cA) s := hK
  have hcw : CallW R s args own y.cls index y by' nL' ret' (.code y by' nL' ret' :: TG) { frames := fr', cells := mc', slots := ms', locals := lo' } mc' ms' n := by
    refine cwV (Ts := TG) n hts (fun w h9 => ?_) rfl rfl rfl ⟨rfl, of_decide_eq_true hd.1.1, of_decide_eq_true hd.1.2, of_decide_eq_true hd.2⟩ ⟨by show fr' + 1 ≤ R.frames; omega, by show 8 + (nL' + 11) + lo' ≤ R.locals; omega⟩
    unfold wsV at h9
    rcases List.mem_append.mp h9 with z | z
    · have hw2 : w ∈ TG := hwin w (by
        simp only [List.mem_cons, List.not_mem_nil, or_false] at z ⊢
        rcases z with z | z | z | z <;> simp [z])
      exact ⟨hw2, good_of_word (TG_good w hw2)⟩
    · exact good_pay hcode w z
  have hargs : as.map (cV (fun r => ad (rnF rho h.length r))) = .ref (ad (rnF rho h.length rr)) :: As.map (cV (fun r => ad (rnF rho h.length r))) := by rw [has]; rfl
  have hpre : PreV s H y.cls (ad (rnF rho h.length rr)) (va_Pc (as.map (cV (fun r => ad (rnF rho h.length r)))) (fun U => U.heap.size = H.size ∧ va_P D CL (cW (fun r => ad (rnF rho h.length r)) cA hc) U.heap ∧ va_K D CL (tysOf cA) U ∧ va_D (fun _ => True) (cW (fun r => ad (rnF rho h.length r)) cA hc) ∧ ∀ w ∈ NW, va_Nw w U)) (As.map (cV (fun r => ad (rnF rho h.length r)))) := by
    refine ⟨K_blind, ?_, fun U hU hW => ⟨by rw [hargs], by rw [hU], by rw [hU]; exact hPc, va_K.moved hW.alike hK, hDc, fun w h9 => NW_warm h9 hW (hNW w h9)⟩⟩
    rw [← hqy]
    exact va_recv hK hPc hcl (cW_get hrecv)
  have hrun := va_runV (p := p) (l := l) (e := e) (R := R) (s := s) (m := m) (args := args) (below := below) (meth := meth) (c := c) (H := H) (locs := locs) (cells := k) (slots := n9) (g := F0 m pc ls (((as.map (cV (rnF rho h.length))).reverse ++ rest).map (cV ad))) (rest := rest.map (cV ad)) (Ts := TG) ⟨hx, hcb, rfl, hown, hts⟩ hM hcw hpre rfl (by rw [List.length_map]; exact hlen) hl.2.1
    (by
      show List.map (cV ad) ((as.map (cV (rnF rho h.length))).reverse ++ rest) = _
      rw [stk_eq, hargs, List.reverse_cons, List.append_assoc]; rfl)
    (lv_room (cat_eq hrs)) hdg ⟨by omega, by omega⟩
  exact call_post hr hnd hm hal hn0 had hP hD hS hl (by omega) (by omega) hFc hrun kk
/-- a call of an static method -/
theorem MW_callS (C : CX X b own ini fr lo) (ht : tab.all (okI own ini b) = true) (i : Nat) (hc0 : tab[i]? = some (pc, 3, .invokestatic index, r1, r2, r3, cv)) (hCT : CT y by' nL' ret' fr' lo' mc' ms' as hc K)
    (hw : ∀ w ∈ [Cond.methodLink own index y, .static y, .initialized y.cls, .code y by' nL' ret'], w ∈ TG) (n : Nat)
    (hd : (decide (y.cls ≠ "java/lang/invoke/MethodHandle") && decide (y.cls ≠ "java/lang/invoke/VarHandle") && decide ((parseMethodDescriptor y.desc).map (fun d => d.parameters.length) = some n)) = true)
    (hR : (Nat.ble (fr' + 1) fr && Nat.ble (8 + (nL' + 11) + lo') lo) = true)
    {rest : List Value} (hlen : as.length = n)
    (hst : st = (as.map (cV (rnF rho h.length))).reverse ++ rest) (hrs : Nat.ble (rest.map fun v => v.category).sum 8 = true)
    (hr : Nat.ble hc.length rho.length = true) (hnd : va_nd (rho.take hc.length) = true) (hm : (rho.take hc.length).map (fun i => h[i]?) = hc.map (fun c => some (rE (rnF rho h.length) c)))
    (hal : ∀ v h', K v h' → h'.length = hc.length ∨ (rho.length = hc.length ∧ cellsLt h.length h = true ∧ allLtO h.length vs = true ∧ allLt h.length rest = true ∧ Nat.ble (h.length + (h'.length - hc.length)) 1000 = true))
    (hbk : bk = bk' + mc') (hbn : bn = bn' + ms')
    (kk : ∀ (v : Option Value) (h' : AH), K v h' → MW X (pc + 3, vs, v.toList.map (cV (rnF rho h.length)) ++ rest, jn h rho hc.length h', bk', bn')) : MW X (pc, vs, st, h, bk, bn) := by
  have hi : okI own ini b (pc, 3, .invokestatic index, r1, r2, r3, cv) = true := List.all_eq_true.mp ht _ (List.mem_of_getElem? hc0)
  obtain ⟨p, l, e, R, s, m, args, below, meth, c, D, cA, ad0, n0, A, mc, ms, Q⟩ := X
  obtain ⟨hx, hcb, hown, hts, hK, hlk, hA, hin, hRc, hRs, hfr, hlo, hNW⟩ := C
  have hdg := okI_dec hi
  dsimp only at hdg
  rw [Bool.and_eq_true, Bool.and_eq_true] at hd
  rw [Bool.and_eq_true] at hR
  have hR1 := Nat.le_of_ble_eq_true hR.1
  have hR2 := Nat.le_of_ble_eq_true hR.2
  have hr := Nat.le_of_ble_eq_true hr
  have hrs := Nat.le_of_ble_eq_true hrs
  have hwin := hw
  have hcode := hwin (.code y by' nL' ret') (by simp)
  subst hst hbk hbn
  intro ad H locs ls k n9 hn0 had hP hD hS hl hk hn
  obtain ⟨hPc, hDc, hFc⟩ := call_pre hS hA hr hnd hm hP hD
  have hM := hCT l D cA (fun r => ad (rnF rho h.length r)) H.size
  have hKq : va_K D CL (tysOf cA) s := hK
  have hcw := va_cwS (R := R) (s := s) (args := args) (own := own) (index := index) (y := y) (bytes := by') (maxL := nL') (ret := ret') (ws := .code y by' nL' ret' :: TG) (ws' := TG) (rm := { frames := fr', cells := mc', slots := ms', locals := lo' }) (mc := mc') (ms := ms') (Ts := TG) n hts (fun w h9 => by
    unfold va_wsS at h9
    rcases List.mem_append.mp h9 with z | z
    · have hw2 : w ∈ TG := hwin w (by
        simp only [List.mem_cons, List.not_mem_nil, or_false] at z ⊢
        rcases z with z | z | z <;> simp [z])
      exact ⟨hw2, good_of_word (TG_good w hw2)⟩
    · exact good_pay hcode w z) rfl rfl rfl ⟨of_decide_eq_true hd.1.1, of_decide_eq_true hd.1.2, of_decide_eq_true hd.2⟩ ⟨by show fr' + 1 ≤ R.frames; omega, by show 8 + (nL' + 11) + lo' ≤ R.locals; omega⟩
  have hpre : PreS s H (va_Pc (as.map (cV (fun r => ad (rnF rho h.length r)))) (fun U => U.heap.size = H.size ∧ va_P D CL (cW (fun r => ad (rnF rho h.length r)) cA hc) U.heap ∧ va_K D CL (tysOf cA) U ∧ va_D (fun _ => True) (cW (fun r => ad (rnF rho h.length r)) cA hc) ∧ ∀ w ∈ NW, va_Nw w U)) (as.map (cV (fun r => ad (rnF rho h.length r)))) :=
    ⟨K_blind, fun U hU hW => ⟨rfl, by rw [hU], by rw [hU]; exact hPc, va_K.moved hW.alike hK, hDc, fun w h9 => NW_warm h9 hW (hNW w h9)⟩⟩
  have hrun := va_runS (p := p) (l := l) (e := e) (R := R) (s := s) (m := m) (args := args) (below := below) (meth := meth) (c := c) (H := H) (locs := locs) (cells := k) (slots := n9) (g := F0 m pc ls (((as.map (cV (rnF rho h.length))).reverse ++ rest).map (cV ad))) (rest := rest.map (cV ad)) (Ts := TG) ⟨hx, hcb, rfl, hown, hts⟩ hM hcw hpre rfl (by rw [List.length_map]; exact hlen) hl.2.1
    (by
      show List.map (cV ad) ((as.map (cV (rnF rho h.length))).reverse ++ rest) = _
      rw [stk_eq])
    (lv_room (cat_eq hrs)) hdg ⟨by omega, by omega⟩
  exact call_post hr hnd hm hal hn0 had hP hD hS hl (by omega) (by omega) hFc hrun kk
/-- a call of an nest mate's static method -/
theorem MW_callSN (C : CX X b own ini fr lo) (ht : tab.all (okI own ini b) = true) (i : Nat) (hc0 : tab[i]? = some (pc, 3, .invokestatic index, r1, r2, r3, cv)) (hCT : CT y by' nL' ret' fr' lo' mc' ms' as hc K)
    (hw : ∀ w ∈ [Cond.static y, .initialized y.cls, .code y by' nL' ret'], w ∈ TG) (n : Nat)
    (hd : (decide (y.cls ≠ "java/lang/invoke/MethodHandle") && decide (y.cls ≠ "java/lang/invoke/VarHandle") && decide ((parseMethodDescriptor y.desc).map (fun d => d.parameters.length) = some n)) = true)
    (hR : (Nat.ble (fr' + 1) fr && Nat.ble (8 + (nL' + 11) + lo') lo) = true)
    {rest : List Value} {host : String} (hlen : as.length = n) (hnw : decide (Cond.methodLinkNest own index y host ∈ NW) = true)
    (hst : st = (as.map (cV (rnF rho h.length))).reverse ++ rest) (hrs : Nat.ble (rest.map fun v => v.category).sum 8 = true)
    (hr : Nat.ble hc.length rho.length = true) (hnd : va_nd (rho.take hc.length) = true) (hm : (rho.take hc.length).map (fun i => h[i]?) = hc.map (fun c => some (rE (rnF rho h.length) c)))
    (hal : ∀ v h', K v h' → h'.length = hc.length ∨ (rho.length = hc.length ∧ cellsLt h.length h = true ∧ allLtO h.length vs = true ∧ allLt h.length rest = true ∧ Nat.ble (h.length + (h'.length - hc.length)) 1000 = true))
    (hbk : bk = bk' + mc') (hbn : bn = bn' + ms')
    (kk : ∀ (v : Option Value) (h' : AH), K v h' → MW X (pc + 3, vs, v.toList.map (cV (rnF rho h.length)) ++ rest, jn h rho hc.length h', bk', bn')) : MW X (pc, vs, st, h, bk, bn) := by
  have hi : okI own ini b (pc, 3, .invokestatic index, r1, r2, r3, cv) = true := List.all_eq_true.mp ht _ (List.mem_of_getElem? hc0)
  obtain ⟨p, l, e, R, s, m, args, below, meth, c, D, cA, ad0, n0, A, mc, ms, Q⟩ := X
  obtain ⟨hx, hcb, hown, hts, hK, hlk, hA, hin, hRc, hRs, hfr, hlo, hNW⟩ := C
  have hdg := okI_dec hi
  dsimp only at hdg
  rw [Bool.and_eq_true, Bool.and_eq_true] at hd
  rw [Bool.and_eq_true] at hR
  have hR1 := Nat.le_of_ble_eq_true hR.1
  have hR2 := Nat.le_of_ble_eq_true hR.2
  have hr := Nat.le_of_ble_eq_true hr
  have hrs := Nat.le_of_ble_eq_true hrs
  have hwin := hw
  have hcode := hwin (.code y by' nL' ret') (by simp)
  subst hst hbk hbn
  intro ad H locs ls k n9 hn0 had hP hD hS hl hk hn
  obtain ⟨hPc, hDc, hFc⟩ := call_pre hS hA hr hnd hm hP hD
  have hM := hCT l D cA (fun r => ad (rnF rho h.length r)) H.size
  have hKq : va_K D CL (tysOf cA) s := hK
  have hcw := va_cnB (R := R) (s := s) (args := args) (own := own) (host := host) (index := index) (y := y) (bytes := by') (maxL := nL') (ret := ret') (ws := .code y by' nL' ret' :: TG) (ws' := TG) (rm := { frames := fr', cells := mc', slots := ms', locals := lo' }) (mc := mc') (ms := ms') (Ts := TG) n hts (good_pay hcode) rfl rfl rfl (hNW _ (of_decide_eq_true hnw)) (hts _ (hwin _ (by simp))) ⟨of_decide_eq_true hd.1.1, of_decide_eq_true hd.1.2, of_decide_eq_true hd.2⟩ ⟨by show fr' + 1 ≤ R.frames; omega, by show 8 + (nL' + 11) + lo' ≤ R.locals; omega⟩
  have hpre : PreS s H (va_Pc (as.map (cV (fun r => ad (rnF rho h.length r)))) (fun U => U.heap.size = H.size ∧ va_P D CL (cW (fun r => ad (rnF rho h.length r)) cA hc) U.heap ∧ va_K D CL (tysOf cA) U ∧ va_D (fun _ => True) (cW (fun r => ad (rnF rho h.length r)) cA hc) ∧ ∀ w ∈ NW, va_Nw w U)) (as.map (cV (fun r => ad (rnF rho h.length r)))) :=
    ⟨K_blind, fun U hU hW => ⟨rfl, by rw [hU], by rw [hU]; exact hPc, va_K.moved hW.alike hK, hDc, fun w h9 => NW_warm h9 hW (hNW w h9)⟩⟩
  have hrun := va_runSN (p := p) (l := l) (e := e) (R := R) (s := s) (m := m) (args := args) (below := below) (meth := meth) (c := c) (H := H) (locs := locs) (cells := k) (slots := n9) (g := F0 m pc ls (((as.map (cV (rnF rho h.length))).reverse ++ rest).map (cV ad))) (rest := rest.map (cV ad)) (Ts := TG) ⟨hx, hcb, rfl, hown, hts⟩ hM ⟨hcw, hts _ (hwin _ (by simp)), trivial⟩ hpre rfl (by rw [List.length_map]; exact hlen) hl.2.1
    (by
      show List.map (cV ad) ((as.map (cV (rnF rho h.length))).reverse ++ rest) = _
      rw [stk_eq])
    (lv_room (cat_eq hrs)) hdg ⟨by omega, by omega⟩
  exact call_post hr hnd hm hal hn0 had hP hD hS hl (by omega) (by omega) hFc hrun kk
/-- a call of an nest mate's constructor -/
theorem MW_callIN (C : CX X b own ini fr lo) (ht : tab.all (okI own ini b) = true) (i : Nat) (hc0 : tab[i]? = some (pc, 3, .invokespecial index, r1, r2, r3, cv)) (hCT : CT y by' nL' none fr' lo' mc' ms' as hc K)
    (hw : ∀ w ∈ [Cond.instanceMethod y, .initialized y.cls, .code y by' nL' none], w ∈ TG) (n : Nat)
    (hd : (decide (y.cls ≠ "java/lang/invoke/MethodHandle") && decide (y.cls ≠ "java/lang/invoke/VarHandle") && decide ((parseMethodDescriptor y.desc).map (fun d => d.parameters.length) = some n)) = true)
    (hR : (Nat.ble (fr' + 1) fr && Nat.ble (8 + (nL' + 11) + lo') lo) = true)
    {rr : Nat} {As rest : List Value} {host : String} (has : as = .ref rr :: As) (hyi : y.name = "<init>") (hlen : As.length = n) (hnw : decide (Cond.methodLinkNest own index y host ∈ NW) = true)
    (hst : st = (as.map (cV (rnF rho h.length))).reverse ++ rest) (hrs : Nat.ble (rest.map fun v => v.category).sum 8 = true)
    (hr : Nat.ble hc.length rho.length = true) (hnd : va_nd (rho.take hc.length) = true) (hm : (rho.take hc.length).map (fun i => h[i]?) = hc.map (fun c => some (rE (rnF rho h.length) c)))
    (hal : ∀ v h', K v h' → h'.length = hc.length ∨ (rho.length = hc.length ∧ cellsLt h.length h = true ∧ allLtO h.length vs = true ∧ allLt h.length rest = true ∧ Nat.ble (h.length + (h'.length - hc.length)) 1000 = true))
    (hbk : bk = bk' + mc') (hbn : bn = bn' + ms')
    (kk : ∀ (v : Option Value) (h' : AH), K v h' → MW X (pc + 3, vs, v.toList.map (cV (rnF rho h.length)) ++ rest, jn h rho hc.length h', bk', bn')) : MW X (pc, vs, st, h, bk, bn) := by
  have hi : okI own ini b (pc, 3, .invokespecial index, r1, r2, r3, cv) = true := List.all_eq_true.mp ht _ (List.mem_of_getElem? hc0)
  obtain ⟨p, l, e, R, s, m, args, below, meth, c, D, cA, ad0, n0, A, mc, ms, Q⟩ := X
  obtain ⟨hx, hcb, hown, hts, hK, hlk, hA, hin, hRc, hRs, hfr, hlo, hNW⟩ := C
  have hdg := okI_dec hi
  dsimp only at hdg
  rw [Bool.and_eq_true, Bool.and_eq_true] at hd
  rw [Bool.and_eq_true] at hR
  have hR1 := Nat.le_of_ble_eq_true hR.1
  have hR2 := Nat.le_of_ble_eq_true hR.2
  have hr := Nat.le_of_ble_eq_true hr
  have hrs := Nat.le_of_ble_eq_true hrs
  have hwin := hw
  have hcode := hwin (.code y by' nL' none) (by simp)
  subst hst hbk hbn
  intro ad H locs ls k n9 hn0 had hP hD hS hl hk hn
  obtain ⟨hPc, hDc, hFc⟩ := call_pre hS hA hr hnd hm hP hD
  have hM := hCT l D cA (fun r => ad (rnF rho h.length r)) H.size
  have hKq : va_K D CL (tysOf cA) s := hK
  have hcw := va_cnB (R := R) (s := s) (args := args) (own := own) (host := host) (index := index) (y := y) (bytes := by') (maxL := nL') (ret := none) (ws := .code y by' nL' none :: TG) (ws' := TG) (rm := { frames := fr', cells := mc', slots := ms', locals := lo' }) (mc := mc') (ms := ms') (Ts := TG) n hts (good_pay hcode) rfl rfl rfl (hNW _ (of_decide_eq_true hnw)) (hts _ (hwin _ (by simp))) ⟨of_decide_eq_true hd.1.1, of_decide_eq_true hd.1.2, of_decide_eq_true hd.2⟩ ⟨by show fr' + 1 ≤ R.frames; omega, by show 8 + (nL' + 11) + lo' ≤ R.locals; omega⟩
  have hargs : as.map (cV (fun r => ad (rnF rho h.length r))) = .ref (ad (rnF rho h.length rr)) :: As.map (cV (fun r => ad (rnF rho h.length r))) := by rw [has]; rfl
  have hpre : PreS s H (va_Pc (as.map (cV (fun r => ad (rnF rho h.length r)))) (fun U => U.heap.size = H.size ∧ va_P D CL (cW (fun r => ad (rnF rho h.length r)) cA hc) U.heap ∧ va_K D CL (tysOf cA) U ∧ va_D (fun _ => True) (cW (fun r => ad (rnF rho h.length r)) cA hc) ∧ ∀ w ∈ NW, va_Nw w U)) (.ref (ad (rnF rho h.length rr)) :: As.map (cV (fun r => ad (rnF rho h.length r)))) :=
    ⟨K_blind, fun U hU hW => ⟨by rw [hargs], by rw [hU], by rw [hU]; exact hPc, va_K.moved hW.alike hK, hDc, fun w h9 => NW_warm h9 hW (hNW w h9)⟩⟩
  have hrun := va_runIN (p := p) (l := l) (e := e) (R := R) (s := s) (m := m) (args := args) (below := below) (meth := meth) (c := c) (H := H) (locs := locs) (cells := k) (slots := n9) (g := F0 m pc ls (((as.map (cV (rnF rho h.length))).reverse ++ rest).map (cV ad))) (rest := rest.map (cV ad)) (Ts := TG) ⟨hx, hcb, rfl, hown, hts⟩ hM ⟨hcw, hyi, hts _ (hwin _ (by simp))⟩ hpre rfl (by rw [List.length_map]; exact hlen) hl.2.1
    (by
      show List.map (cV ad) ((as.map (cV (rnF rho h.length))).reverse ++ rest) = _
      rw [stk_eq, hargs, List.reverse_cons, List.append_assoc]; rfl)
    (lv_room (cat_eq hrs)) hdg ⟨by omega, by omega⟩
  exact call_post hr hnd hm hal hn0 had hP hD hS hl (by omega) (by omega) hFc hrun kk
/-- a call of an constructor -/
theorem MW_callI (C : CX X b own ini fr lo) (ht : tab.all (okI own ini b) = true) (i : Nat) (hc0 : tab[i]? = some (pc, 3, .invokespecial index, r1, r2, r3, cv)) (hCT : CT y by' nL' none fr' lo' mc' ms' as hc K)
    (hw : ∀ w ∈ [Cond.methodLink own index y, .instanceMethod y, .initialized y.cls, .code y by' nL' none], w ∈ TG) (n : Nat)
    (hd : (decide (y.cls ≠ "java/lang/invoke/MethodHandle") && decide (y.cls ≠ "java/lang/invoke/VarHandle") && decide ((parseMethodDescriptor y.desc).map (fun d => d.parameters.length) = some n)) = true)
    (hR : (Nat.ble (fr' + 1) fr && Nat.ble (8 + (nL' + 11) + lo') lo) = true)
    {rr : Nat} {As rest : List Value} (has : as = .ref rr :: As) (hyi : y.name = "<init>") (hlen : As.length = n)
    (hst : st = (as.map (cV (rnF rho h.length))).reverse ++ rest) (hrs : Nat.ble (rest.map fun v => v.category).sum 8 = true)
    (hr : Nat.ble hc.length rho.length = true) (hnd : va_nd (rho.take hc.length) = true) (hm : (rho.take hc.length).map (fun i => h[i]?) = hc.map (fun c => some (rE (rnF rho h.length) c)))
    (hal : ∀ v h', K v h' → h'.length = hc.length ∨ (rho.length = hc.length ∧ cellsLt h.length h = true ∧ allLtO h.length vs = true ∧ allLt h.length rest = true ∧ Nat.ble (h.length + (h'.length - hc.length)) 1000 = true))
    (hbk : bk = bk' + mc') (hbn : bn = bn' + ms')
    (kk : ∀ (v : Option Value) (h' : AH), K v h' → MW X (pc + 3, vs, v.toList.map (cV (rnF rho h.length)) ++ rest, jn h rho hc.length h', bk', bn')) : MW X (pc, vs, st, h, bk, bn) := by
  have hi : okI own ini b (pc, 3, .invokespecial index, r1, r2, r3, cv) = true := List.all_eq_true.mp ht _ (List.mem_of_getElem? hc0)
  obtain ⟨p, l, e, R, s, m, args, below, meth, c, D, cA, ad0, n0, A, mc, ms, Q⟩ := X
  obtain ⟨hx, hcb, hown, hts, hK, hlk, hA, hin, hRc, hRs, hfr, hlo, hNW⟩ := C
  have hdg := okI_dec hi
  dsimp only at hdg
  rw [Bool.and_eq_true, Bool.and_eq_true] at hd
  rw [Bool.and_eq_true] at hR
  have hR1 := Nat.le_of_ble_eq_true hR.1
  have hR2 := Nat.le_of_ble_eq_true hR.2
  have hr := Nat.le_of_ble_eq_true hr
  have hrs := Nat.le_of_ble_eq_true hrs
  have hwin := hw
  have hcode := hwin (.code y by' nL' none) (by simp)
  subst hst hbk hbn
  intro ad H locs ls k n9 hn0 had hP hD hS hl hk hn
  obtain ⟨hPc, hDc, hFc⟩ := call_pre hS hA hr hnd hm hP hD
  have hM := hCT l D cA (fun r => ad (rnF rho h.length r)) H.size
  have hKq : va_K D CL (tysOf cA) s := hK
  have hcw := cwI (R := R) (s := s) (args := args) (own := own) (index := index) (y := y) (bytes := by') (maxL := nL') (ws := .code y by' nL' none :: TG) (ws' := TG) (rm := { frames := fr', cells := mc', slots := ms', locals := lo' }) (mc := mc') (ms := ms') (Ts := TG) n hts (good_pay hcode) rfl rfl rfl (hts _ (hwin _ (by simp))) (hts _ (hwin _ (by simp))) (hts _ (hwin _ (by simp))) hyi ⟨of_decide_eq_true hd.1.1, of_decide_eq_true hd.1.2, of_decide_eq_true hd.2⟩ ⟨by show fr' + 1 ≤ R.frames; omega, by show 8 + (nL' + 11) + lo' ≤ R.locals; omega⟩
  have hargs : as.map (cV (fun r => ad (rnF rho h.length r))) = .ref (ad (rnF rho h.length rr)) :: As.map (cV (fun r => ad (rnF rho h.length r))) := by rw [has]; rfl
  have hpre : PreS s H (va_Pc (as.map (cV (fun r => ad (rnF rho h.length r)))) (fun U => U.heap.size = H.size ∧ va_P D CL (cW (fun r => ad (rnF rho h.length r)) cA hc) U.heap ∧ va_K D CL (tysOf cA) U ∧ va_D (fun _ => True) (cW (fun r => ad (rnF rho h.length r)) cA hc) ∧ ∀ w ∈ NW, va_Nw w U)) (.ref (ad (rnF rho h.length rr)) :: As.map (cV (fun r => ad (rnF rho h.length r)))) :=
    ⟨K_blind, fun U hU hW => ⟨by rw [hargs], by rw [hU], by rw [hU]; exact hPc, va_K.moved hW.alike hK, hDc, fun w h9 => NW_warm h9 hW (hNW w h9)⟩⟩
  have hrun := va_runI (p := p) (l := l) (e := e) (R := R) (s := s) (m := m) (args := args) (below := below) (meth := meth) (c := c) (H := H) (locs := locs) (cells := k) (slots := n9) (g := F0 m pc ls (((as.map (cV (rnF rho h.length))).reverse ++ rest).map (cV ad))) (rest := rest.map (cV ad)) (Ts := TG) ⟨hx, hcb, rfl, hown, hts⟩ hM hcw hpre rfl (by rw [List.length_map]; exact hlen) hl.2.1
    (by
      show List.map (cV ad) ((as.map (cV (rnF rho h.length))).reverse ++ rest) = _
      rw [stk_eq, hargs, List.reverse_cons, List.append_assoc]; rfl)
    (lv_room (cat_eq hrs)) hdg ⟨by omega, by omega⟩
  exact call_post hr hnd hm hal hn0 had hP hD hS hl (by omega) (by omega) hFc hrun kk
end
