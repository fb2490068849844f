/-! WHAT THE WRITTEN-OUT WALKS USE -/
theorem of_guard {α : Type} {c : Prop} [Decidable c] {a : Option α} {r : α} (h : (if c then a else none) = some r) : c ∧ a = some r := by
  by_cases hc : c
  · rw [if_pos hc] at h; exact ⟨hc, h⟩
  · rw [if_neg hc] at h; cases h
theorem of_if {α : Type} {c : Prop} [Decidable c] {a b : Option α} {r : α} (h : (if c then a else b) = some r) : (c → a = some r) ∧ (¬ c → b = some r) := ⟨fun hc => by rw [if_pos hc] at h; exact h, fun hc => by rw [if_neg hc] at h; exact h⟩
theorem of_bind {α β : Type} {x : Option α} {f : α → Option β} {r : β} (h : x.bind f = some r) : ∃ a, x = some a ∧ f a = some r := Option.bind_eq_some_iff.mp h
def rd {α : Type} (f : Nat → α) (i : Int32) : α := f i.toNatClampNeg
def wr (f : Nat → Int32) (i : Int32) (x : Int32) : Nat → Int32 := upd f i.toNatClampNeg x
def wrL (f : Nat → Int64) (i : Int32) (x : Int64) : Nat → Int64 := vp_updL f i.toNatClampNeg x
def N0 : Nat := 1000000
def narB (x : Int32) : Int32 := vp_nar .byte x
def narZ (x : Int32) : Int32 := vp_nar .boolean x
theorem in_by {ws : List Cond} (ps : List Nat) (h : ps.map (fun i => TG[i]?) = ws.map some) : ∀ w ∈ ws, w ∈ TG := by
  intro w hw
  have h1 : some w ∈ ws.map some := List.mem_map.mpr ⟨w, hw, rfl⟩
  rw [← h] at h1
  obtain ⟨i, -, hi⟩ := List.mem_map.mp h1
  exact List.mem_of_getElem? hi
section
variable {X : CTX} {b : ByteArray} {own : String} {ini : Bool} {fr lo : Nat} {tab : List CI} {pc : Nat} {vs : List (Option Value)} {st : List Value} {h hc : AH} {bk bn bk' bn' : Nat} {K : Option Value → AH → Prop} {r1 r2 r3 index : Nat} {cv : Value} {y : MethodName} {by' : ByteArray} {nL' fr' lo' mc' ms' : Nat} {ret' : Option FieldType} {as : List Value}
theorem MW_brT (C : CX X b own ini fr lo) (ht : tab.all (okI own ini b) = true) (i : Nat) {tgt : Nat} {r : List Value} {I : Instr} {P : Prop}
    (hc : tab[i]? = some (pc, 3, I, tgt, r2, r3, cv)) (hb : bcnd I st = some (P, false, r)) (kt : P → MW X (tgt, vs, r, h, bk, bn)) (kf : ¬ P → MW X (pc + 3, vs, r, h, bk, bn)) : MW X (pc, vs, st, h, bk, bn) := MW_br C ht i hc hb kt kf
theorem MW_brF (C : CX X b own ini fr lo) (ht : tab.all (okI own ini b) = true) (i : Nat) {tgt : Nat} {r : List Value} {I : Instr} {P : Prop}
    (hc : tab[i]? = some (pc, 3, I, tgt, r2, r3, cv)) (hb : bcnd I st = some (P, true, r)) (kt : P → MW X (pc + 3, vs, r, h, bk, bn)) (kf : ¬ P → MW X (tgt, vs, r, h, bk, bn)) : MW X (pc, vs, st, h, bk, bn) := MW_br C ht i hc hb kt kf
theorem cV_id {f : Nat → Nat} {N : Nat} (hf : ∀ i, i < N → f i = i) {v : Value} (h : refLt N v = true) : cV f v = v := by
  have h1 := refLt_v (ad := fun i => i) (ad' := f) h hf
  rw [h1]; cases v <;> rfl
theorem allLt_id : ∀ {f : Nat → Nat} {N : Nat}, (∀ i, i < N → f i = i) → ∀ {l : List Value}, allLt N l = true → l.map (cV f) = l
  | f, N, hf, [], _ => rfl
  | f, N, hf, v :: l, h => by
    simp only [allLt, Bool.and_eq_true] at h
    rw [List.map_cons, cV_id hf h.1, allLt_id hf h.2]
theorem cells_id : ∀ {f : Nat → Nat} {N : Nat}, (∀ i, i < N → f i = i) → ∀ {l : AH}, cellsLt N l = true → l.map (rE f) = l
  | f, N, hf, [], _ => rfl
  | f, N, hf, .inl x :: l, h => by
    rw [List.map_cons, cells_id (l := l) hf h]; rfl
  | f, N, hf, .inr x :: l, h => by
    simp only [cellsLt, Bool.and_eq_true] at h
    rw [List.map_cons, cells_id (l := l) hf h.2]
    simp only [rE]
    rw [allLt_id hf h.1]
theorem setAll_range : ∀ (n i : Nat) (h h' : AH), h.length = i + n → h'.length = i + n → (∀ j, j < i → h[j]? = h'[j]?) → setAll h (List.range' i n) (h'.drop i) = h'
  | 0, i, h, h', e1, e2, hp => by
    rw [List.range'_zero]
    have : setAll h [] (h'.drop i) = h := by cases h'.drop i <;> rfl
    rw [this]
    apply List.ext_getElem?
    intro j
    by_cases hj : j < i
    · exact hp j hj
    · rw [List.getElem?_eq_none (by omega), List.getElem?_eq_none (by omega)]
  | n + 1, i, h, h', e1, e2, hp => by
    have hlt : i < h'.length := by omega
    rw [List.range'_succ, List.drop_eq_getElem_cons hlt, setAll]
    apply setAll_range n (i + 1) _ h' (by rw [List.length_set]; omega) (by omega)
    intro j hj
    rw [List.getElem?_set]
    by_cases hij : i = j
    · subst hij
      simp [show i < h.length by omega, List.getElem?_eq_getElem hlt]
    · simp [hij]
      exact hp j (by omega)
theorem jn_id {h h' : AH} (hl : h'.length = h.length) (hc : cellsLt h.length h' = true) : jn h (List.range h.length) h.length h' = h' := by
  have hf : ∀ i, i < h.length → rnF (List.range h.length) h.length i = i := fun i hi => by
    unfold rnF; rw [List.getElem?_range hi]
  unfold jn
  rw [cells_id hf hc, List.take_of_length_le (by simp), List.drop_eq_nil_of_le (by omega), List.map_nil, List.append_nil]
  have := setAll_range h.length 0 h h' (by omega) (by omega) (fun j hj => by omega)
  rw [List.drop_zero] at this
  rw [List.range_eq_range']
  exact this
theorem nd_range (n : Nat) : va_nd ((List.range n).take n) = true := by
  rw [List.take_of_length_le (by simp)]
  have : ∀ l : List Nat, l.Nodup → va_nd l = true := by
    intro l hl
    induction l with
    | nil => rfl
    | cons a l ih =>
      have h2 := List.nodup_cons.mp hl
      simp only [va_nd, Bool.and_eq_true, decide_eq_true_eq]
      exact ⟨h2.1, ih h2.2⟩
  exact this _ List.nodup_range
theorem map_range {h : AH} (hc : cellsLt h.length h = true) : ((List.range h.length).take h.length).map (fun i => h[i]?) = h.map (fun c => some (rE (rnF (List.range h.length) h.length) c)) := by
  have hf : ∀ i, i < h.length → rnF (List.range h.length) h.length i = i := fun i hi => by
    unfold rnF; rw [List.getElem?_range hi]
  have e : h.map (fun c => some (rE (rnF (List.range h.length) h.length) c)) = (h.map (rE (rnF (List.range h.length) h.length))).map some := by rw [List.map_map]; rfl
  rw [e, cells_id hf hc, List.take_of_length_le (by simp)]
  apply List.ext_getElem?
  intro j
  rw [List.getElem?_map, List.getElem?_map]
  by_cases hj : j < h.length
  · rw [List.getElem?_range hj, List.getElem?_eq_getElem hj]; simp
  · rw [List.getElem?_eq_none (by simp; omega), List.getElem?_eq_none (by omega)]; rfl
/-- a call whose cells are all the caller's -/
theorem MW_callV0 (C : CX X b own ini fr lo) (ht : tab.all (okI own ini b) = true) (i : Nat) (hc0 : tab[i]? = some (pc, 3, .invokevirtual index, r1, r2, r3, cv)) {v0 : Option Value} {h0 : AH} (hCT : CT y by' nL' ret' fr' lo' 0 0 as h (fun v h' => v = v0 ∧ h' = h0))
    (hw : ∀ w ∈ [Cond.methodLink own index y, .instanceMethod y, .selects y.cls y y, .initialized y.cls, .code y by' nL' ret'], w ∈ TG) (n : Nat)
    (hd : (decide (y.cls ≠ "java/lang/invoke/MethodHandle") && decide (y.cls ≠ "java/lang/invoke/VarHandle") && decide ((parseMethodDescriptor y.desc).map (fun d => d.parameters.length) = some n)) = true)
    (hR : (Nat.ble (fr' + 1) fr && Nat.ble (8 + (nL' + 11) + lo') lo) = true) {rr ci : Nat} {q : vw_C} {fs : List Value} {As rest : List Value} (has : as = .ref rr :: As) (hlen : As.length = n) (hrecv : h[rr]? = some (.inr (ci, fs))) (hcl : CL[ci]? = some q) (hqy : q.1 = y.cls)
    (hst : st = as.reverse ++ rest) (hrs : Nat.ble (rest.map fun v => v.category).sum 8 = true) (hlt : cellsLt h.length h = true) (hlt0 : cellsLt h.length h0 = true) (hl0 : h0.length = h.length) (halt : allLt h.length as = true) (hvlt : allLt h.length v0.toList = true)
    (kk : MW X (pc + 3, vs, v0.toList ++ rest, h0, bk, bn)) : MW X (pc, vs, st, h, bk, bn) := by
  have hf : ∀ i, i < h.length → rnF (List.range h.length) h.length i = i := fun i hi => by
    unfold rnF; rw [List.getElem?_range hi]
  refine MW_callV (rho := List.range h.length) (hc := h) C ht i hc0 hCT hw n hd hR has hlen hrecv hcl hqy (rest := rest) (by rw [hst, allLt_id hf halt]) hrs (by simp) (nd_range _) (map_range hlt) (fun v h' hk => Or.inl (by rw [hk.2]; exact hl0)) (bk' := bk) (bn' := bn) (by omega) (by omega) (fun v h' hk => ?_)
  obtain ⟨rfl, rfl⟩ := hk
  rw [allLt_id hf hvlt, jn_id hl0 hlt0]
  exact kk
theorem MW_callS0 (C : CX X b own ini fr lo) (ht : tab.all (okI own ini b) = true) (i : Nat) (hc0 : tab[i]? = some (pc, 3, .invokestatic index, r1, r2, r3, cv)) {v0 : Option Value} (hCT : CT y by' nL' ret' fr' lo' 0 0 as [] (fun v h' => v = v0 ∧ h' = []))
    (hw : ∀ w ∈ [Cond.methodLink own index y, .static y, .initialized y.cls, .code y by' nL' ret'], w ∈ TG) (n : Nat)
    (hd : (decide (y.cls ≠ "java/lang/invoke/MethodHandle") && decide (y.cls ≠ "java/lang/invoke/VarHandle") && decide ((parseMethodDescriptor y.desc).map (fun d => d.parameters.length) = some n)) = true)
    (hR : (Nat.ble (fr' + 1) fr && Nat.ble (8 + (nL' + 11) + lo') lo) = true) {rest : List Value} (hlen : as.length = n)
    (hst : st = as.reverse ++ rest) (hrs : Nat.ble (rest.map fun v => v.category).sum 8 = true) (halt : allLt 0 as = true) (hvlt : allLt 0 v0.toList = true)
    (kk : MW X (pc + 3, vs, v0.toList ++ rest, h, bk, bn)) : MW X (pc, vs, st, h, bk, bn) := by
  have hf : ∀ f : Nat → Nat, ∀ i, i < 0 → f i = i := fun f i hi => by omega
  refine MW_callS (rho := []) (hc := []) C ht i hc0 hCT hw n hd hR hlen (rest := rest) (by rw [hst, allLt_id (hf _) halt]) hrs rfl rfl rfl (fun v h' hk => Or.inl (by rw [hk.2])) (bk' := bk) (bn' := bn) (by omega) (by omega) (fun v h' hk => ?_)
  obtain ⟨rfl, rfl⟩ := hk
  rw [allLt_id (hf _) hvlt]
  have : jn h [] (List.length ([] : AH)) [] = h := by
    unfold jn
    cases h <;> simp [setAll]
  rw [this]
  exact kk
/-- calls whose cells are some of the caller's, and whose end is known -/
theorem MW_callV1 (C : CX X b own ini fr lo) (ht : tab.all (okI own ini b) = true) (i : Nat) (hc0 : tab[i]? = some (pc, 3, .invokevirtual index, r1, r2, r3, cv)) (rho : List Nat) {v0 : Option Value} {h0 : AH} (hCT : CT y by' nL' ret' fr' lo' 0 0 as hc (fun v h' => v = v0 ∧ h' = h0))
    (hw : ∀ w ∈ [Cond.methodLink own index y, .instanceMethod y, .selects y.cls y y, .initialized y.cls, .code y by' nL' ret'], w ∈ TG) (n : Nat)
    (hd : (decide (y.cls ≠ "java/lang/invoke/MethodHandle") && decide (y.cls ≠ "java/lang/invoke/VarHandle") && decide ((parseMethodDescriptor y.desc).map (fun d => d.parameters.length) = some n)) = true)
    (hR : (Nat.ble (fr' + 1) fr && Nat.ble (8 + (nL' + 11) + lo') lo) = true) {rr ci : Nat} {q : vw_C} {fs : List Value} {As rest : List Value} (has : as = .ref rr :: As) (hlen : As.length = n) (hrecv : hc[rr]? = some (.inr (ci, fs))) (hcl : CL[ci]? = some q) (hqy : q.1 = y.cls)
    (hst : st = (as.map (cV (rnF rho h.length))).reverse ++ rest) (hrs : Nat.ble (rest.map fun v => v.category).sum 8 = true) (hr : Nat.ble hc.length rho.length = true) (hnd : va_nd (rho.take hc.length) = true) (hm : (rho.take hc.length).map (fun i => h[i]?) = hc.map (fun c => some (rE (rnF rho h.length) c))) (hl0 : h0.length = hc.length)
    {st2 : List Value} {h2 : AH} (hs2 : v0.toList.map (cV (rnF rho h.length)) ++ rest = st2) (hj : jn h rho hc.length h0 = h2)
    (kk : MW X (pc + 3, vs, st2, h2, bk, bn)) : MW X (pc, vs, st, h, bk, bn) := by
  refine MW_callV C ht i hc0 hCT hw n hd hR has hlen hrecv hcl hqy (rest := rest) hst hrs hr hnd hm (fun v h' hk => Or.inl (by rw [hk.2]; exact hl0)) (bk' := bk) (bn' := bn) (by omega) (by omega) (fun v h' hk => ?_)
  obtain ⟨rfl, rfl⟩ := hk
  rw [hs2, hj]
  exact kk
theorem MW_callS1 (C : CX X b own ini fr lo) (ht : tab.all (okI own ini b) = true) (i : Nat) (hc0 : tab[i]? = some (pc, 3, .invokestatic index, r1, r2, r3, cv)) (rho : List Nat) {v0 : Option Value} {h0 : AH} (hCT : CT y by' nL' ret' fr' lo' 0 0 as hc (fun v h' => v = v0 ∧ h' = h0))
    (hw : ∀ w ∈ [Cond.methodLink own index y, .static y, .initialized y.cls, .code y by' nL' ret'], w ∈ TG) (n : Nat)
    (hd : (decide (y.cls ≠ "java/lang/invoke/MethodHandle") && decide (y.cls ≠ "java/lang/invoke/VarHandle") && decide ((parseMethodDescriptor y.desc).map (fun d => d.parameters.length) = some n)) = true)
    (hR : (Nat.ble (fr' + 1) fr && Nat.ble (8 + (nL' + 11) + lo') lo) = true) {rest : List Value} (hlen : as.length = n)
    (hst : st = (as.map (cV (rnF rho h.length))).reverse ++ rest) (hrs : Nat.ble (rest.map fun v => v.category).sum 8 = true) (hr : Nat.ble hc.length rho.length = true) (hnd : va_nd (rho.take hc.length) = true) (hm : (rho.take hc.length).map (fun i => h[i]?) = hc.map (fun c => some (rE (rnF rho h.length) c))) (hl0 : h0.length = hc.length)
    {st2 : List Value} {h2 : AH} (hs2 : v0.toList.map (cV (rnF rho h.length)) ++ rest = st2) (hj : jn h rho hc.length h0 = h2)
    (kk : MW X (pc + 3, vs, st2, h2, bk, bn)) : MW X (pc, vs, st, h, bk, bn) := by
  refine MW_callS C ht i hc0 hCT hw n hd hR hlen (rest := rest) hst hrs hr hnd hm (fun v h' hk => Or.inl (by rw [hk.2]; exact hl0)) (bk' := bk) (bn' := bn) (by omega) (by omega) (fun v h' hk => ?_)
  obtain ⟨rfl, rfl⟩ := hk
  rw [hs2, hj]
  exact kk
theorem MW_callSN1 (C : CX X b own ini fr lo) (ht : tab.all (okI own ini b) = true) (i : Nat) (hc0 : tab[i]? = some (pc, 3, .invokestatic index, r1, r2, r3, cv)) (rho : List Nat) {v0 : Option Value} {h0 : AH} (hCT : CT y by' nL' ret' fr' lo' 0 0 as hc (fun v h' => v = v0 ∧ h' = h0))
    (hw : ∀ w ∈ [Cond.static y, .initialized y.cls, .code y by' nL' ret'], w ∈ TG) (n : Nat)
    (hd : (decide (y.cls ≠ "java/lang/invoke/MethodHandle") && decide (y.cls ≠ "java/lang/invoke/VarHandle") && decide ((parseMethodDescriptor y.desc).map (fun d => d.parameters.length) = some n)) = true)
    (hR : (Nat.ble (fr' + 1) fr && Nat.ble (8 + (nL' + 11) + lo') lo) = true) {rest : List Value} {host : String} (hlen : as.length = n) (hnw : decide (Cond.methodLinkNest own index y host ∈ NW) = true)
    (hst : st = (as.map (cV (rnF rho h.length))).reverse ++ rest) (hrs : Nat.ble (rest.map fun v => v.category).sum 8 = true) (hr : Nat.ble hc.length rho.length = true) (hnd : va_nd (rho.take hc.length) = true) (hm : (rho.take hc.length).map (fun i => h[i]?) = hc.map (fun c => some (rE (rnF rho h.length) c))) (hl0 : h0.length = hc.length)
    {st2 : List Value} {h2 : AH} (hs2 : v0.toList.map (cV (rnF rho h.length)) ++ rest = st2) (hj : jn h rho hc.length h0 = h2)
    (kk : MW X (pc + 3, vs, st2, h2, bk, bn)) : MW X (pc, vs, st, h, bk, bn) := by
  refine MW_callSN C ht i hc0 hCT hw n hd hR hlen hnw (rest := rest) hst hrs hr hnd hm (fun v h' hk => Or.inl (by rw [hk.2]; exact hl0)) (bk' := bk) (bn' := bn) (by omega) (by omega) (fun v h' hk => ?_)
  obtain ⟨rfl, rfl⟩ := hk
  rw [hs2, hj]
  exact kk
end
