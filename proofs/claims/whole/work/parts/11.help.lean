/-! WHAT THE WRITTEN-OUT WALKS USE -/
theorem of_guard {α : Type} {c : Prop} [Decidable c] {a : Option α} {r : α} (h : (if c then a else none) = some r) : c ∧ a = some r := by
  by_cases hc : c
  · rw [if_pos hc] at h; exact ⟨hc, h⟩
  · rw [if_neg hc] at h; cases h
theorem of_if {α : Type} {c : Prop} [Decidable c] {a b : Option α} {r : α} (h : (if c then a else b) = some r) : (c → a = some r) ∧ (¬ c → b = some r) := ⟨fun hc => by rw [if_pos hc] at h; exact h, fun hc => by rw [if_neg hc] at h; exact h⟩
theorem of_bind {α β : Type} {x : Option α} {f : α → Option β} {r : β} (h : x.bind f = some r) : ∃ a, x = some a ∧ f a = some r := Option.bind_eq_some_iff.mp h
def rd {α : Type} (f : Nat → α) (i : Int32) : α := f i.toNatClampNeg
def wr (f : Nat → Int32) (i : Int32) (x : Int32) : Nat → Int32 := upd f i.toNatClampNeg x
def wrL (f : Nat → Int64) (i : Int32) (x : Int64) : Nat → Int64 := vp_updL f i.toNatClampNeg x
def N0 : Nat := 1000000
def narB (x : Int32) : Int32 := vp_nar .byte x
def narZ (x : Int32) : Int32 := vp_nar .boolean x
section
variable {X : CTX} {b : ByteArray} {own : String} {ini : Bool} {fr lo : Nat} {tab : List CI} {pc : Nat} {vs : List (Option Value)} {st : List Value} {h hc : AH} {bk bn bk' bn' : Nat} {K : Option Value → AH → Prop} {r1 r2 r3 index : Nat} {cv : Value} {y : MethodName} {by' : ByteArray} {nL' fr' lo' mc' ms' : Nat} {ret' : Option FieldType} {as : List Value}
theorem MW_brT (C : CX X b own ini fr lo) (ht : tab.all (okI own ini b) = true) (i : Nat) {tgt : Nat} {r : List Value} {I : Instr} {P : Prop}
    (hc : tab[i]? = some (pc, 3, I, tgt, r2, r3, cv)) (hb : bcnd I st = some (P, false, r)) (kt : P → MW X (tgt, vs, r, h, bk, bn)) (kf : ¬ P → MW X (pc + 3, vs, r, h, bk, bn)) : MW X (pc, vs, st, h, bk, bn) := MW_br C ht i hc hb kt kf
theorem MW_brF (C : CX X b own ini fr lo) (ht : tab.all (okI own ini b) = true) (i : Nat) {tgt : Nat} {r : List Value} {I : Instr} {P : Prop}
    (hc : tab[i]? = some (pc, 3, I, tgt, r2, r3, cv)) (hb : bcnd I st = some (P, true, r)) (kt : P → MW X (pc + 3, vs, r, h, bk, bn)) (kf : ¬ P → MW X (tgt, vs, r, h, bk, bn)) : MW X (pc, vs, st, h, bk, bn) := MW_br C ht i hc hb kt kf
theorem rnF_range (N r : Nat) : rnF (List.range N) N r = r := by
  unfold rnF
  by_cases h : r < N
  · rw [List.getElem?_range h]
  · rw [List.getElem?_eq_none (by simp; omega)]
    simp; omega
theorem cV_idf {f : Nat → Nat} (hf : ∀ i, f i = i) (v : Value) : cV f v = v := by cases v <;> simp [cV, hf]
theorem l_idf {f : Nat → Nat} (hf : ∀ i, f i = i) (l : List Value) : l.map (cV f) = l := by
  have : cV f = id := by funext v; exact cV_idf hf v
  rw [this, List.map_id]
theorem rE_idf {f : Nat → Nat} (hf : ∀ i, f i = i) (e : AE) : rE f e = e := by
  cases e with
  | inl x => rfl
  | inr x => simp only [rE]; rw [l_idf hf]
theorem cells_idf {f : Nat → Nat} (hf : ∀ i, f i = i) (l : AH) : l.map (rE f) = l := by
  have : rE f = id := by funext v; exact rE_idf hf v
  rw [this, List.map_id]
theorem posAt_range : ∀ (n k : Nat) (cs : AH) (j : Nat), cs.length = n → j < n → posAt (List.range' k n) cs (k + j) = cs[j]?
  | 0, k, cs, j, _, hj => by omega
  | n + 1, k, [], j, hl, _ => by simp at hl
  | n + 1, k, c :: cs, 0, hl, _ => by
    rw [List.range'_succ, posAt]
    simp
  | n + 1, k, c :: cs, j + 1, hl, hj => by
    rw [List.range'_succ, posAt]
    have : Nat.beq k (k + (j + 1)) = false := by
      cases h : Nat.beq k (k + (j + 1)) with
      | false => rfl
      | true => exact absurd (Nat.eq_of_beq_eq_true h) (by omega)
    rw [this]
    have := posAt_range n (k + 1) cs j (by simpa using hl) (by omega)
    rw [show k + 1 + j = k + (j + 1) by omega] at this
    simpa using this
theorem jnA_id {f : Nat → Nat} (hf : ∀ i, f i = i) (cs : AH) : ∀ (h : AH) (k : Nat), k + h.length = cs.length → jnA f (List.range cs.length) cs k h = cs.drop k
  | [], k, hk => by
    rw [jnA, List.drop_eq_nil_of_le (by simp at hk; omega)]
  | c :: r, k, hk => by
    have hlt : k < cs.length := by simp at hk; omega
    have h1 := posAt_range cs.length 0 cs k rfl hlt
    rw [Nat.zero_add, ← List.range_eq_range', List.getElem?_eq_getElem hlt] at h1
    rw [jnA, h1, jnA_id hf cs r (k + 1) (by simp at hk; omega), List.drop_eq_getElem_cons hlt]
    simp only
    rw [rE_idf hf]
theorem jn_id {h h' : AH} (hl : h'.length = h.length) : jn h (List.range h.length) h.length h' = h' := by
  unfold jn
  rw [List.take_of_length_le (by simp), List.drop_eq_nil_of_le (by omega), List.map_nil, apn_eq, List.append_nil]
  have := jnA_id (rnF_range h.length) h' h 0 (by omega)
  rw [hl] at this
  exact this
theorem nd_range (n : Nat) : va_nd ((List.range n).take n) = true := by
  rw [List.take_of_length_le (by simp)]
  have : ∀ l : List Nat, l.Nodup → va_nd l = true := by
    intro l hl
    induction l with
    | nil => rfl
    | cons a l ih =>
      have h2 := List.nodup_cons.mp hl
      simp only [va_nd, Bool.and_eq_true, decide_eq_true_eq]
      exact ⟨h2.1, ih h2.2⟩
  exact this _ List.nodup_range
theorem map_range (h : AH) : ((List.range h.length).take h.length).map (fun i => h[i]?) = h.map (fun c => some (rE (rnF (List.range h.length) h.length) c)) := by
  have e : h.map (fun c => some (rE (rnF (List.range h.length) h.length) c)) = (h.map (rE (rnF (List.range h.length) h.length))).map some := by rw [List.map_map]; rfl
  rw [e, cells_idf (rnF_range _), List.take_of_length_le (by simp)]
  apply List.ext_getElem?
  intro j
  rw [List.getElem?_map, List.getElem?_map]
  by_cases hj : j < h.length
  · rw [List.getElem?_range hj, List.getElem?_eq_getElem hj]; simp
  · rw [List.getElem?_eq_none (by simp; omega), List.getElem?_eq_none (by omega)]; rfl
/-- a call whose cells are all the caller's -/
theorem MW_callV0 (C : CX X b own ini fr lo) (ht : tab.all (okI own ini b) = true) (i : Nat) (hc0 : tab[i]? = some (pc, 3, .invokevirtual index, r1, r2, r3, cv)) {v0 : Option Value} {h0 : AH} (hCT : CT y by' nL' ret' fr' lo' 0 0 as h (fun v h' => v = v0 ∧ h' = h0))
    (hw : ∀ w ∈ [Cond.methodLink own index y, .instanceMethod y, .selects y.cls y y, .initialized y.cls, .code y by' nL' ret'], w ∈ TG) (n : Nat)
    (hd : (decide (y.cls ≠ "java/lang/invoke/MethodHandle") && decide (y.cls ≠ "java/lang/invoke/VarHandle") && decide ((parseMethodDescriptor y.desc).map (fun d => d.parameters.length) = some n)) = true)
    (hR : (Nat.ble (fr' + 1) fr && Nat.ble (8 + (nL' + 11) + lo') lo) = true) {rr ci : Nat} {q : vw_C} {fs : List Value} {As rest : List Value} (has : as = .ref rr :: As) (hlen : As.length = n) (hrecv : h[rr]? = some (.inr (ci, fs))) (hcl : CL[ci]? = some q) (hqy : q.1 = y.cls)
    (hst : st = as.reverse ++ rest) (hrs : Nat.ble (rest.map fun v => v.category).sum 8 = true) (hl0 : h0.length = h.length)
    (kk : MW X (pc + 3, vs, v0.toList ++ rest, h0, bk, bn)) : MW X (pc, vs, st, h, bk, bn) := by
  refine MW_callV (rho := List.range h.length) (hc := h) C ht i hc0 hCT hw n hd hR has hlen hrecv hcl hqy (rest := rest) (by rw [hst, l_idf (rnF_range _)]) hrs (by simp) (nd_range _) (map_range h) (fun v h' hk => Or.inl (by rw [hk.2]; exact hl0)) (bk' := bk) (bn' := bn) (by omega) (by omega) (fun v h' hk => ?_)
  obtain ⟨rfl, rfl⟩ := hk
  rw [l_idf (rnF_range _), jn_id hl0]
  exact kk
theorem MW_callS0 (C : CX X b own ini fr lo) (ht : tab.all (okI own ini b) = true) (i : Nat) (hc0 : tab[i]? = some (pc, 3, .invokestatic index, r1, r2, r3, cv)) {v0 : Option Value} (hCT : CT y by' nL' ret' fr' lo' 0 0 as [] (fun v h' => v = v0 ∧ h' = []))
    (hw : ∀ w ∈ [Cond.methodLink own index y, .static y, .initialized y.cls, .code y by' nL' ret'], w ∈ TG) (n : Nat)
    (hd : (decide (y.cls ≠ "java/lang/invoke/MethodHandle") && decide (y.cls ≠ "java/lang/invoke/VarHandle") && decide ((parseMethodDescriptor y.desc).map (fun d => d.parameters.length) = some n)) = true)
    (hR : (Nat.ble (fr' + 1) fr && Nat.ble (8 + (nL' + 11) + lo') lo) = true) {rest : List Value} (hlen : as.length = n)
    (hst : st = as.reverse ++ rest) (hrs : Nat.ble (rest.map fun v => v.category).sum 8 = true) (halt : as.all (fun v => match v with | .ref _ => false | _ => true) = true) (hvlt : v0.toList.all (fun v => match v with | .ref _ => false | _ => true) = true)
    (kk : MW X (pc + 3, vs, v0.toList ++ rest, h, bk, bn)) : MW X (pc, vs, st, h, bk, bn) := by
  have hf : ∀ (f : Nat → Nat) (l : List Value), l.all (fun v => match v with | .ref _ => false | _ => true) = true → l.map (cV f) = l := fun f l hl => by
    have : l.map (cV f) = l.map id := by
      apply List.map_congr_left
      intro v hv
      have := List.all_eq_true.mp hl v hv
      cases v <;> simp at this <;> rfl
    rw [this, List.map_id]
  refine MW_callS (rho := []) (hc := []) C ht i hc0 hCT hw n hd hR hlen (rest := rest) (by rw [hst, hf _ _ halt]) hrs rfl rfl rfl (fun v h' hk => Or.inl (by rw [hk.2])) (bk' := bk) (bn' := bn) (by omega) (by omega) (fun v h' hk => ?_)
  obtain ⟨rfl, rfl⟩ := hk
  rw [hf _ _ hvlt]
  have : jn h [] (List.length ([] : AH)) [] = h := by
    unfold jn
    rw [apn_eq, List.drop_nil, List.map_nil, List.append_nil]
    have : ∀ (k : Nat) (g : AH), jnA (rnF [] h.length) (List.take 0 []) [] k g = g := by
      intro k g
      induction g generalizing k with
      | nil => rfl
      | cons c r ih => rw [jnA, ih]; rfl
    exact this 0 h
  rw [this]
  exact kk
/-- calls whose cells are some of the caller's, and whose end is known -/
theorem MW_callV1 (C : CX X b own ini fr lo) (ht : tab.all (okI own ini b) = true) (i : Nat) (hc0 : tab[i]? = some (pc, 3, .invokevirtual index, r1, r2, r3, cv)) (rho : List Nat) {v0 : Option Value} {h0 : AH} (hCT : CT y by' nL' ret' fr' lo' 0 0 as hc (fun v h' => v = v0 ∧ h' = h0))
    (hw : ∀ w ∈ [Cond.methodLink own index y, .instanceMethod y, .selects y.cls y y, .initialized y.cls, .code y by' nL' ret'], w ∈ TG) (n : Nat)
    (hd : (decide (y.cls ≠ "java/lang/invoke/MethodHandle") && decide (y.cls ≠ "java/lang/invoke/VarHandle") && decide ((parseMethodDescriptor y.desc).map (fun d => d.parameters.length) = some n)) = true)
    (hR : (Nat.ble (fr' + 1) fr && Nat.ble (8 + (nL' + 11) + lo') lo) = true) {rr ci : Nat} {q : vw_C} {fs : List Value} {As rest : List Value} (has : as = .ref rr :: As) (hlen : As.length = n) (hrecv : hc[rr]? = some (.inr (ci, fs))) (hcl : CL[ci]? = some q) (hqy : q.1 = y.cls)
    (hst : st = (as.map (cV (rnF rho h.length))).reverse ++ rest) (hrs : Nat.ble (rest.map fun v => v.category).sum 8 = true) (hr : Nat.ble hc.length rho.length = true) (hnd : va_nd (rho.take hc.length) = true) (hm : (rho.take hc.length).map (fun i => h[i]?) = hc.map (fun c => some (rE (rnF rho h.length) c))) (hl0 : h0.length = hc.length)
    {st2 : List Value} {h2 : AH} (hs2 : v0.toList.map (cV (rnF rho h.length)) ++ rest = st2) (hj : jn h rho hc.length h0 = h2)
    (kk : MW X (pc + 3, vs, st2, h2, bk, bn)) : MW X (pc, vs, st, h, bk, bn) := by
  refine MW_callV C ht i hc0 hCT hw n hd hR has hlen hrecv hcl hqy (rest := rest) hst hrs hr hnd hm (fun v h' hk => Or.inl (by rw [hk.2]; exact hl0)) (bk' := bk) (bn' := bn) (by omega) (by omega) (fun v h' hk => ?_)
  obtain ⟨rfl, rfl⟩ := hk
  rw [hs2, hj]
  exact kk
theorem MW_callS1 (C : CX X b own ini fr lo) (ht : tab.all (okI own ini b) = true) (i : Nat) (hc0 : tab[i]? = some (pc, 3, .invokestatic index, r1, r2, r3, cv)) (rho : List Nat) {v0 : Option Value} {h0 : AH} (hCT : CT y by' nL' ret' fr' lo' 0 0 as hc (fun v h' => v = v0 ∧ h' = h0))
    (hw : ∀ w ∈ [Cond.methodLink own index y, .static y, .initialized y.cls, .code y by' nL' ret'], w ∈ TG) (n : Nat)
    (hd : (decide (y.cls ≠ "java/lang/invoke/MethodHandle") && decide (y.cls ≠ "java/lang/invoke/VarHandle") && decide ((parseMethodDescriptor y.desc).map (fun d => d.parameters.length) = some n)) = true)
    (hR : (Nat.ble (fr' + 1) fr && Nat.ble (8 + (nL' + 11) + lo') lo) = true) {rest : List Value} (hlen : as.length = n)
    (hst : st = (as.map (cV (rnF rho h.length))).reverse ++ rest) (hrs : Nat.ble (rest.map fun v => v.category).sum 8 = true) (hr : Nat.ble hc.length rho.length = true) (hnd : va_nd (rho.take hc.length) = true) (hm : (rho.take hc.length).map (fun i => h[i]?) = hc.map (fun c => some (rE (rnF rho h.length) c))) (hl0 : h0.length = hc.length)
    {st2 : List Value} {h2 : AH} (hs2 : v0.toList.map (cV (rnF rho h.length)) ++ rest = st2) (hj : jn h rho hc.length h0 = h2)
    (kk : MW X (pc + 3, vs, st2, h2, bk, bn)) : MW X (pc, vs, st, h, bk, bn) := by
  refine MW_callS C ht i hc0 hCT hw n hd hR hlen (rest := rest) hst hrs hr hnd hm (fun v h' hk => Or.inl (by rw [hk.2]; exact hl0)) (bk' := bk) (bn' := bn) (by omega) (by omega) (fun v h' hk => ?_)
  obtain ⟨rfl, rfl⟩ := hk
  rw [hs2, hj]
  exact kk
theorem MW_callSN1 (C : CX X b own ini fr lo) (ht : tab.all (okI own ini b) = true) (i : Nat) (hc0 : tab[i]? = some (pc, 3, .invokestatic index, r1, r2, r3, cv)) (rho : List Nat) {v0 : Option Value} {h0 : AH} (hCT : CT y by' nL' ret' fr' lo' 0 0 as hc (fun v h' => v = v0 ∧ h' = h0))
    (hw : ∀ w ∈ [Cond.static y, .initialized y.cls, .code y by' nL' ret'], w ∈ TG) (n : Nat)
    (hd : (decide (y.cls ≠ "java/lang/invoke/MethodHandle") && decide (y.cls ≠ "java/lang/invoke/VarHandle") && decide ((parseMethodDescriptor y.desc).map (fun d => d.parameters.length) = some n)) = true)
    (hR : (Nat.ble (fr' + 1) fr && Nat.ble (8 + (nL' + 11) + lo') lo) = true) {rest : List Value} {host : String} (hlen : as.length = n) (hnw : decide (Cond.methodLinkNest own index y host ∈ NW) = true)
    (hst : st = (as.map (cV (rnF rho h.length))).reverse ++ rest) (hrs : Nat.ble (rest.map fun v => v.category).sum 8 = true) (hr : Nat.ble hc.length rho.length = true) (hnd : va_nd (rho.take hc.length) = true) (hm : (rho.take hc.length).map (fun i => h[i]?) = hc.map (fun c => some (rE (rnF rho h.length) c))) (hl0 : h0.length = hc.length)
    {st2 : List Value} {h2 : AH} (hs2 : v0.toList.map (cV (rnF rho h.length)) ++ rest = st2) (hj : jn h rho hc.length h0 = h2)
    (kk : MW X (pc + 3, vs, st2, h2, bk, bn)) : MW X (pc, vs, st, h, bk, bn) := by
  refine MW_callSN C ht i hc0 hCT hw n hd hR hlen hnw (rest := rest) hst hrs hr hnd hm (fun v h' hk => Or.inl (by rw [hk.2]; exact hl0)) (bk' := bk) (bn' := bn) (by omega) (by omega) (fun v h' hk => ?_)
  obtain ⟨rfl, rfl⟩ := hk
  rw [hs2, hj]
  exact kk
end
