/-! CALLS: the callee's cells lie among the caller's -/
def rE (f : Nat → Nat) : AE → AE
  | .inl x => .inl x
  | .inr x => .inr (x.1, x.2.map (cV f))
theorem cV_comp {ad ad' f : Nat → Nat} (hf : ∀ r, ad (f r) = ad' r) (v : Value) : cV ad' v = cV ad (cV f v) := by cases v <;> simp [cV, hf]
theorem cE_comp {ad ad' f : Nat → Nat} (hf : ∀ r, ad (f r) = ad' r) (cA : Nat → ClassId) (e : AE) : cE ad' cA e = cE ad cA (rE f e) := by
  cases e with
  | inl x => rfl
  | inr x =>
    simp only [cE, rE, List.map_map]
    congr 2
    apply List.map_congr_left
    intro v _
    exact cV_comp hf v
/-- what of cs stands at place j, by the places is -/
def posAt : List Nat → AH → Nat → Option AE
  | i :: is, c :: cs, j => match Nat.beq i j with
    | true => some c
    | false => posAt is cs j
  | _, _, _ => none
theorem posAt_some : ∀ (is : List Nat) (cs : AH) (j : Nat) (c : AE), posAt is cs j = some c → ∃ i : Nat, is[i]? = some j ∧ cs[i]? = some c
  | [], cs, j, c, h => by cases h
  | i :: is, [], j, c, h => by cases h
  | i :: is, d :: cs, j, c, h => by
    unfold posAt at h
    split at h
    · rename_i hb
      have hb := Nat.eq_of_beq_eq_true hb
      cases h
      exact ⟨0, by simp [hb], rfl⟩
    · obtain ⟨k, h1, h2⟩ := posAt_some is cs j c h
      exact ⟨k + 1, by simpa using h1, by simpa using h2⟩
theorem posAt_none : ∀ (is : List Nat) (cs : AH) (j : Nat), is.length ≤ cs.length → posAt is cs j = none → j ∉ is
  | [], cs, j, _, h => by simp
  | i :: is, [], j, hl, h => by simp at hl
  | i :: is, d :: cs, j, hl, h => by
    unfold posAt at h
    split at h
    · cases h
    · rename_i hb
      have h1 := posAt_none is cs j (by simpa using hl) h
      have h2 : ¬ i = j := Nat.ne_of_beq_eq_false hb
      simp [h1]
      exact fun e => h2 e.symm
def jnA (f : Nat → Nat) (is : List Nat) (cs : AH) : Nat → AH → AH
  | _, [] => []
  | j, c :: r => (match posAt is cs j with
    | some d => rE f d
    | none => c) :: jnA f is cs (j + 1) r
theorem jnA_len (f : Nat → Nat) (is : List Nat) (cs : AH) : ∀ (j : Nat) (h : AH), (jnA f is cs j h).length = h.length
  | _, [] => rfl
  | j, c :: r => by rw [jnA, List.length_cons, jnA_len f is cs (j + 1) r, List.length_cons]
theorem jnA_get (f : Nat → Nat) (is : List Nat) (cs : AH) (hl : is.length ≤ cs.length) : ∀ (h : AH) (k j : Nat) (e : AE), (jnA f is cs k h)[j]? = some e → (∃ (i : Nat) (c : AE), is[i]? = some (k + j) ∧ cs[i]? = some c ∧ e = rE f c) ∨ (h[j]? = some e ∧ (k + j) ∉ is)
  | [], k, j, e, he => by simp [jnA] at he
  | c :: r, k, 0, e, he => by
    unfold jnA at he
    simp only [List.getElem?_cons_zero] at he
    have he := Option.some.inj he
    split at he
    · rename_i d hp
      obtain ⟨i, h1, h2⟩ := posAt_some is cs k d hp
      exact Or.inl ⟨i, d, h1, h2, he.symm⟩
    · rename_i hp
      exact Or.inr ⟨by simp [he], posAt_none is cs k hl hp⟩
  | c :: r, k, j + 1, e, he => by
    unfold jnA at he
    simp only [List.getElem?_cons_succ] at he
    rcases jnA_get f is cs hl r (k + 1) j e he with ⟨i, d, h1, h2⟩ | ⟨h1, h2⟩
    · exact Or.inl ⟨i, d, by rw [h1]; congr 1; omega, h2⟩
    · exact Or.inr ⟨by simpa using h1, by rw [show k + (j + 1) = k + 1 + j by omega]; exact h2⟩
/-- the callee's place r in the caller's cells -/
def rnF (rho : List Nat) (N : Nat) (r : Nat) : Nat := match rho[r]? with
  | some x => x
  | none => N + (r - rho.length)
/-- ++, under a name of its own -/
def apn : AH → AH → AH
  | [], b => b
  | a :: r, b => a :: apn r b
theorem apn_eq : ∀ a b : AH, apn a b = a ++ b
  | [], b => rfl
  | a :: r, b => by rw [apn, apn_eq r b]; rfl
def jn (h : AH) (rho : List Nat) (nc : Nat) (h' : AH) : AH := apn (jnA (rnF rho h.length) (rho.take nc) h' 0 h) ((h'.drop nc).map (rE (rnF rho h.length)))
theorem jn_len (h : AH) (rho : List Nat) (nc : Nat) (h' : AH) : (jn h rho nc h').length = h.length + (h'.length - nc) := by
  simp [jn, apn_eq, jnA_len]
theorem jn_get {h : AH} {rho : List Nat} {nc : Nat} {h' : AH} (hnc : nc ≤ h'.length) (hr : nc ≤ rho.length) (hnd : va_nd (rho.take nc) = true) (hal : h'.length = nc ∨ rho.length = nc) {j : Nat} {e : AE} (he : (jn h rho nc h')[j]? = some e) :
    (∃ i c, h'[i]? = some c ∧ j = rnF rho h.length i ∧ e = rE (rnF rho h.length) c) ∨ (h[j]? = some e ∧ j ∉ rho.take nc) := by
  unfold jn at he
  rw [apn_eq, List.getElem?_append] at he
  split at he
  · rcases jnA_get _ _ _ (by rw [List.length_take]; omega) h 0 j e he with ⟨i, c, h1, h2, h3⟩ | h1
    · refine Or.inl ⟨i, c, h2, ?_, h3⟩
      rw [List.getElem?_take] at h1
      split at h1
      · unfold rnF; rw [h1]; simp
      · simp at h1
    · rw [Nat.zero_add] at h1; exact Or.inr h1
  · rename_i hj
    rw [jnA_len] at hj he
    rw [List.getElem?_map, List.getElem?_drop] at he
    cases hc : h'[nc + (j - h.length)]? with
    | none => rw [hc] at he; cases he
    | some c =>
      rw [hc] at he
      refine Or.inl ⟨_, c, hc, ?_, (Option.some.inj he).symm⟩
      have hl := (List.getElem?_eq_some_iff.mp hc).1
      have hr2 : rho.length = nc := by rcases hal with h1 | h1 <;> omega
      unfold rnF
      rw [List.getElem?_eq_none (by omega)]
      simp only
      omega
/-- no reference beyond N, but those to things outside (1000 and on) -/
def refLt (N : Nat) : Value → Bool
  | .ref i => Nat.blt i N || Nat.ble 1000 i
  | _ => true
def allLt (N : Nat) : List Value → Bool
  | [] => true
  | v :: r => refLt N v && allLt N r
def allLtO (N : Nat) : List (Option Value) → Bool
  | [] => true
  | none :: r => allLtO N r
  | some v :: r => refLt N v && allLtO N r
def cellsLt (N : Nat) : AH → Bool
  | [] => true
  | .inl _ :: r => cellsLt N r
  | .inr x :: r => allLt N x.2 && cellsLt N r
theorem refLt_v {N : Nat} {v : Value} (h : refLt N v = true) {ad ad' : Nat → Nat} (ha : ∀ i, i < N ∨ 1000 ≤ i → ad' i = ad i) : cV ad' v = cV ad v := by
  cases v <;> simp [cV]
  exact ha _ (by simpa [refLt, Nat.blt_eq, Nat.ble_eq] using h)
theorem allLt_v : ∀ {N : Nat} {l : List Value}, allLt N l = true → ∀ {ad ad' : Nat → Nat}, (∀ i, i < N ∨ 1000 ≤ i → ad' i = ad i) → l.map (cV ad') = l.map (cV ad)
  | N, [], _, ad, ad', _ => rfl
  | N, v :: r, h, ad, ad', ha => by
    simp only [allLt, Bool.and_eq_true] at h
    rw [List.map_cons, List.map_cons, refLt_v h.1 ha, allLt_v h.2 ha]
theorem allLtO_v : ∀ {N : Nat} {l : List (Option Value)}, allLtO N l = true → ∀ {i : Nat} {v : Value}, l[i]? = some (some v) → refLt N v = true
  | N, [], _, i, v, h => by simp at h
  | N, none :: r, hl, 0, v, h => by simp at h
  | N, none :: r, hl, i + 1, v, h => allLtO_v (l := r) hl (by simpa using h)
  | N, some w :: r, hl, 0, v, h => by
    simp only [allLtO, Bool.and_eq_true] at hl
    simp at h
    subst h
    exact hl.1
  | N, some w :: r, hl, i + 1, v, h => by
    simp only [allLtO, Bool.and_eq_true] at hl
    exact allLtO_v (l := r) hl.2 (by simpa using h)
theorem cellsLt_v : ∀ {N : Nat} {h : AH}, cellsLt N h = true → ∀ {i : Nat} {e : AE}, h[i]? = some e → ∀ {ad ad' : Nat → Nat}, (∀ i, i < N ∨ 1000 ≤ i → ad' i = ad i) → ∀ cA, cE ad' cA e = cE ad cA e
  | N, [], _, i, e, he, ad, ad', _, cA => by simp at he
  | N, .inl x :: r, hl, 0, e, he, ad, ad', ha, cA => by simp at he; subst he; rfl
  | N, .inl x :: r, hl, i + 1, e, he, ad, ad', ha, cA => cellsLt_v (h := r) hl (by simpa using he) ha cA
  | N, .inr x :: r, hl, 0, e, he, ad, ad', ha, cA => by
    simp only [cellsLt, Bool.and_eq_true] at hl
    simp at he
    subst he
    simp only [cE]
    rw [allLt_v hl.1 ha]
  | N, .inr x :: r, hl, i + 1, e, he, ad, ad', ha, cA => by
    simp only [cellsLt, Bool.and_eq_true] at hl
    exact cellsLt_v (h := r) hl.2 (by simpa using he) ha cA
theorem jn_world {D : va_G} {cA : Nat → ClassId} {A : Nat → Prop} {ad ad' ad2 : Nat → Nat} {h hc h' : AH} {rho : List Nat} {H H1 : Heap}
    (hr : hc.length ≤ rho.length) (hnd : va_nd (rho.take hc.length) = true) (hnc : hc.length ≤ h'.length) (hal : h'.length = hc.length ∨ rho.length = hc.length)
    (hm : (rho.take hc.length).map (fun i => h[i]?) = hc.map (fun c => some (rE (rnF rho h.length) c)))
    (hP : va_P D CL (cW ad cA h) H) (hD : va_D A (cW ad cA h))
    (hk : ∀ q : Nat, q < H.size → ¬ va_A (cW (fun r => ad (rnF rho h.length r)) cA hc) H.size q → H1[q]? = H[q]?) (hF : ∀ q, va_A (cW (fun r => ad (rnF rho h.length r)) cA hc) H.size q → A q)
    (hP1 : va_P D CL (cW ad' cA h') H1) (hD1 : va_D (va_A (cW (fun r => ad (rnF rho h.length r)) cA hc) H.size) (cW ad' cA h'))
    (h2 : ∀ r, ad2 (rnF rho h.length r) = ad' r) (h3 : ∀ j, j < h.length → ad2 j = ad j) (h4 : ∀ (j : Nat) (e : AE), h[j]? = some e → cE ad2 cA e = cE ad cA e) :
    va_P D CL (cW ad2 cA (jn h rho hc.length h')) H1 ∧ va_D A (cW ad2 cA (jn h rho hc.length h')) := by
  have one : ∀ (k : Nat) (q : Nat × va_E), (cW ad2 cA (jn h rho hc.length h'))[k]? = some q → (∃ i c, h'[i]? = some c ∧ k = rnF rho h.length i ∧ q = (ad' i, cE ad' cA c)) ∨ (∃ e, h[k]? = some e ∧ k ∉ rho.take hc.length ∧ q = (ad k, cE ad cA e)) := by
    intro k q hq
    obtain ⟨e, he, hqe⟩ := cW_of hq
    rcases jn_get hnc hr hnd hal he with ⟨i, c, h5, h6, h7⟩ | ⟨h5, h6⟩
    · refine Or.inl ⟨i, c, h5, h6, ?_⟩
      rw [hqe, h6, h2, h7, ← cE_comp h2]
    · refine Or.inr ⟨e, h5, h6, ?_⟩
      rw [hqe, h3 k (List.getElem?_eq_some_iff.mp h5).1, h4 k e h5]
  have apart : ∀ (k : Nat) (e : AE), h[k]? = some e → k ∉ rho.take hc.length → ad k < H.size ∧ ¬ va_A (cW (fun r => ad (rnF rho h.length r)) cA hc) H.size (ad k) := by
    intro k e he hk2
    have hlt : ad k < H.size := (hP k _ (cW_get he)).lt
    refine ⟨hlt, fun hz => ?_⟩
    rcases hz with ⟨k3, e3, h5⟩ | h5
    · obtain ⟨c, hcc, hq⟩ := cW_of h5
      have e1 : ad k = ad (rnF rho h.length k3) := congrArg Prod.fst hq
      have hl3 := (List.getElem?_eq_some_iff.mp hcc).1
      have hx : ((rho.take hc.length).map (fun i => h[i]?))[k3]? = some (some (rE (rnF rho h.length) c)) := by rw [hm, List.getElem?_map, hcc]; rfl
      rw [List.getElem?_map] at hx
      cases hr3 : (rho.take hc.length)[k3]? with
      | none => rw [hr3] at hx; cases hx
      | some j =>
        rw [hr3] at hx
        have hj := Option.some.inj hx
        have hfj : rnF rho h.length k3 = j := by
          have hr4 := hr3
          rw [List.getElem?_take] at hr4
          split at hr4
          · unfold rnF; rw [hr4]
          · omega
        rw [hfj] at e1
        have : k = j := hD.1 k j _ _ (cW_get he) (cW_get hj) e1
        subst this
        exact hk2 (List.mem_of_getElem? hr3)
    · omega
  refine ⟨fun k q hq => ?_, fun i j p q hi hj hpq => ?_, fun k q hq => ?_⟩
  · rcases one k q hq with ⟨i, c, h5, -, h7⟩ | ⟨e, h5, h6, h7⟩
    · rw [h7]; exact hP1 i _ (cW_get h5)
    · rw [h7]
      obtain ⟨g1, g2⟩ := apart k e h5 h6
      exact (hP k _ (cW_get h5)).kept (hk _ g1 g2)
  · rcases one i p hi with ⟨i1, c1, a1, a2, a3⟩ | ⟨e1, a1, a2, a3⟩ <;> rcases one j q hj with ⟨i2, c2, b1, b2, b3⟩ | ⟨e2, b1, b2, b3⟩
    · have : i1 = i2 := hD1.1 i1 i2 _ _ (cW_get a1) (cW_get b1) (by rw [a3, b3] at hpq; exact hpq)
      rw [a2, b2, this]
    · exfalso
      have e : ad' i1 = ad j := by rw [a3, b3] at hpq; exact hpq
      exact (apart j e2 b1 b2).2 (by rw [← e]; exact hD1.2 i1 _ (cW_get a1))
    · exfalso
      have e : ad i = ad' i2 := by rw [a3, b3] at hpq; exact hpq
      exact (apart i e1 a1 a2).2 (by rw [e]; exact hD1.2 i2 _ (cW_get b1))
    · exact hD.1 i j _ _ (cW_get a1) (cW_get b1) (by rw [a3, b3] at hpq; exact hpq)
  · rcases one k q hq with ⟨i, c, h5, -, h7⟩ | ⟨e, h5, h6, h7⟩
    · rw [h7]; exact hF _ (hD1.2 i _ (cW_get h5))
    · rw [h7]; exact hD.2 k _ (cW_get h5)
