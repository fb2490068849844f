/-! MAKING, AND THE LIBRARY's OWN ROWS -/
section
variable {X : CTX} {b : ByteArray} {own : String} {ini : Bool} {fr lo : Nat} {tab : List CI} {pc : Nat} {vs : List (Option Value)} {st rest : List Value} {h : AH} {bk bn : Nat} {r1 r2 r3 index : Nat} {cv : Value}
theorem MW_objInit (C : CX X b own ini fr lo) (ht : tab.all (okI own ini b) = true) (i : Nat) (hc0 : tab[i]? = some (pc, 3, .invokespecial index, r1, r2, r3, cv)) {a : Nat}
    (hw : ∀ w ∈ [Cond.methodLink own index objectInit, .instanceMethod objectInit, .code objectInit ⟨#[0xb1]⟩ 1 none], w ∈ TG) (hR : (Nat.ble 1 fr && Nat.ble ((rest.map fun v => v.category).sum + 12) lo) = true)
    (kk : MW X (pc + 3, vs, rest, h, bk, bn)) : MW X (pc, vs, .ref a :: rest, h, bk, bn) := by
  have hi : okI own ini b (pc, 3, .invokespecial index, r1, r2, r3, cv) = true := List.all_eq_true.mp ht _ (List.mem_of_getElem? hc0)
  obtain ⟨p, l, e, R, s, m, args, below, meth, c, D, cA, ad0, n0, A, mc, ms, Q⟩ := X
  obtain ⟨hx, hcb, hown, hts, hK, hlk, hA, hin, hRc, hRs, hfr, hlo, hNW⟩ := C
  have hdg := okI_dec hi
  rw [Bool.and_eq_true] at hR
  have hR1 := Nat.le_of_ble_eq_true hR.1
  have hR2 := Nat.le_of_ble_eq_true hR.2
  have hwin := hw
  intro ad H locs ls k n hn0 had hP hD hS hl hk hn
  refine W.objInit hx hcb hown (hts _ (hwin _ (by simp))) (hts _ (hwin _ (by simp))) (hts _ (hwin _ (by simp))) rfl hl.2.1 rfl hdg (by omega) ?_ (kk ad H locs ls k n hn0 had hP hD hS hl hk hn)
  show 2 * 0 + ((rest.map (cV ad)).map fun v => v.category).sum + 12 ≤ R.locals
  have e1 : ((rest.map (cV ad)).map fun v => v.category) = rest.map fun v => v.category := by
    rw [List.map_map]; apply List.map_congr_left; intro v _; exact cV_cat ad v
  rw [e1]; omega
/-- the map of places with a new one -/
theorem ad_push {D : va_G} {cA : Nat → ClassId} {A : Nat → Prop} {ad : Nat → Nat} {h : AH} {e0 : AE} {q : Nat} {H1 : Heap} (hN : h.length < 1000) (hc1 : cellsLt h.length h = true) (he0 : ∀ ad' : Nat → Nat, cE ad' cA e0 = cE ad cA e0)
    (hP : va_P D CL (cW ad cA h ++ [(q, cE ad cA e0)]) H1) (hD : va_D A (cW ad cA h ++ [(q, cE ad cA e0)])) :
    va_P D CL (cW (fun j => if j = h.length then q else ad j) cA (h ++ [e0])) H1 ∧ va_D A (cW (fun j => if j = h.length then q else ad j) cA (h ++ [e0])) := by
  have e : cW (fun j => if j = h.length then q else ad j) cA (h ++ [e0]) = cW ad cA h ++ [(q, cE ad cA e0)] := by
    apply List.ext_getElem?
    intro j
    rw [List.getElem?_append, cW_len]
    split
    · rename_i hj
      have h1 : (h ++ [e0])[j]? = some h[j] := by rw [List.getElem?_append_left hj, List.getElem?_eq_getElem hj]
      rw [cW_get h1, cW_get (List.getElem?_eq_getElem hj)]
      have h2 : ¬ j = h.length := by omega
      rw [if_neg h2, cellsLt_v hc1 (List.getElem?_eq_getElem hj) (ad := ad) (fun i hi => by rw [if_neg (by omega)]) cA]
    · rename_i hj
      by_cases hjl : j = h.length
      · subst hjl
        have h1 : (h ++ [e0])[h.length]? = some e0 := by simp
        rw [cW_get h1, he0]
        simp
      · rw [List.getElem?_eq_none (by rw [cW_len, List.length_append]; simp; omega), List.getElem?_eq_none (by simp; omega)]
  rw [e]
  exact ⟨hP, hD⟩
def dfl : FieldType → Value
  | .long => .long 0
  | .object _ => .null
  | .array _ => .null
  | _ => .int 0
theorem MW_new (C : CX X b own ini fr lo) (ht : tab.all (okI own ini b) = true) (i : Nat) (hc0 : tab[i]? = some (pc, 3, .new index, r1, r2, r3, cv)) {ci : Nat} {Cn : String} {T : u_T} {N : Nat} (hcl : CL[ci]? = some (Cn, T, N)) {fs : List Value}
    (hw : ∀ w ∈ [Cond.classLink own index Cn, .instantiable Cn N, .initialized Cn], w ∈ TG)
    (hfs : ∀ k, k < N → (parseFieldDescriptor (T k).2.2.1).map defaultValue = some (fs.getD k .null)) (hf0 : fs.all (fun v => match v with | .ref _ => false | _ => true) = true)
    (hN0 : Nat.blt h.length 1000 = true) (hc1 : cellsLt h.length h = true) (hc2 : allLtO h.length vs = true) (hc3 : allLt h.length st = true)
    (kk : MW X (pc + 3, vs, .ref h.length :: st, h ++ [.inr (ci, fs)], bk, bn)) : MW X (pc, vs, st, h, bk + 1, bn + N) := by
  have hi : okI own ini b (pc, 3, .new index, r1, r2, r3, cv) = true := List.all_eq_true.mp ht _ (List.mem_of_getElem? hc0)
  obtain ⟨p, l, e, R, s, m, args, below, meth, c, D, cA, ad0, n0, A, mc, ms, Q⟩ := X
  obtain ⟨hx, hcb, hown, hts, hK, hlk, hA, hin, hRc, hRs, hfr, hlo, hNW⟩ := C
  have hdg := okI_dec hi
  have hN1 : h.length < 1000 := by simpa [Nat.blt_eq] using hN0
  have hwin := hw
  obtain ⟨ty0, hty0, hnm0⟩ := CL_ty _ _ _ _ hcl
  have hnor : ∀ ad1 ad2 : Nat → Nat, fs.map (cV ad1) = fs.map (cV ad2) := fun ad1 ad2 => by
    apply List.map_congr_left
    intro v hv
    have := List.all_eq_true.mp hf0 v hv
    cases v <;> simp at this <;> rfl
  intro ad H locs ls k n hn0 had hP hD hS hl hk hn
  refine va_new (D := D) (ci := ci) (fs := fs.map (cV ad)) (C := Cn) (T := T) (N := N) hx hcb hts (CL_in _ _ _ _ hcl) ty0 hty0 hown (hts _ (hwin _ (by simp))) (hts _ (hwin _ (by simp))) (hts _ (hwin _ (by simp))) hK hP hD hS hA hcl (fun j hj => ?_) (by omega) (by omega) hdg (fun q H1 hP1 hD1 hS1 => ?_)
  · have h1 := hfs j hj
    rw [hty0 j hj] at h1
    have h2 := Option.some.inj h1
    show defaultValue (ty0 j) = (fs.map (cV ad)).getD j .null
    rw [h2, List.getD_eq_getElem?_getD, List.getD_eq_getElem?_getD, List.getElem?_map]
    cases hv : fs[j]? with
    | none => rfl
    | some v =>
      have := List.all_eq_true.mp hf0 v (List.mem_of_getElem? hv)
      cases v <;> simp at this <;> rfl
  · obtain ⟨hP2, hD2⟩ := ad_push (e0 := .inr (ci, fs)) hN1 hc1 (fun ad' => by simp only [cE]; rw [hnor ad' ad]) hP1 hD1
    have hag : ∀ i, i < h.length ∨ 1000 ≤ i → (fun j => if j = h.length then q else ad j) i = ad i := fun i hi => if_neg (by omega)
    have := kk (fun j => if j = h.length then q else ad j) H1 locs ls (k + 1) (n + N) (by simp; omega) (fun i hi => by
      have : ¬ i = h.length := by simp at hi; omega
      simp only [this, if_false]
      exact had i (by simp at hi; omega)) hP2 hD2 hS1 ⟨hl.1, hl.2.1, hl.2.2.1, fun i v hv => by rw [refLt_v (allLtO_v hc2 hv) hag]; exact hl.2.2.2 i v hv⟩ (by omega) (by omega)
    have e9 : List.map (cV (fun j => if j = h.length then q else ad j)) (.ref h.length :: st) = .ref q :: st.map (cV ad) := by
      rw [List.map_cons, allLt_v hc3 hag]; simp [cV]
    rw [e9] at this
    exact this
theorem MW_newa (C : CX X b own ini fr lo) (ht : tab.all (okI own ini b) = true) (i : Nat) {at9 : ArrayType} (hc0 : tab[i]? = some (pc, 2, .newarray at9, r1, r2, r3, cv)) {n : Int32} {N : Nat} {t : Nat} {ty : FieldType} {a0 : vp_A} (hty : newarray.typeOf at9 = ty) (htt : (tysOf (fun j => (j : ClassId)))[t]? = some ((t : ClassId), ty))
    (hw : ∀ w ∈ [Cond.arrayClass ty], w ∈ TG) (ha : ∀ cA : ClassId, vp_cell cA a0 = arrV cA N (fun _ => defaultValue ty)) (hn9 : ¬ n < 0) (hN : n.toNatClampNeg = N) (hb9 : Nat.ble (N * componentBytes ty) 536870912 = true)
    (hN0 : Nat.blt h.length 1000 = true) (hc1 : cellsLt h.length h = true) (hc2 : allLtO h.length vs = true) (hc3 : allLt h.length st = true)
    (kk : MW X (pc + 2, vs, .ref h.length :: st, h ++ [.inl (t, a0)], bk, bn)) : MW X (pc, vs, .int n :: st, h, bk + 1, bn + N) := by
  have hi : okI own ini b (pc, 2, .newarray at9, r1, r2, r3, cv) = true := List.all_eq_true.mp ht _ (List.mem_of_getElem? hc0)
  obtain ⟨p, l, e, R, s, m, args, below, meth, c, D, cA, ad0, n0, A, mc, ms, Q⟩ := X
  obtain ⟨hx, hcb, hown, hts, hK, hlk, hA, hin, hRc, hRs, hfr, hlo, hNW⟩ := C
  have hdg := okI_dec hi
  have hN1 : h.length < 1000 := by simpa [Nat.blt_eq] using hN0
  have hw1 := hts _ (hw _ List.mem_cons_self)
  subst hty
  intro ad H locs ls k n2 hn0 had hP hD hS hl hk hn
  refine va_newa hx hcb hw1 rfl hK hP hD hS hA ha hn9 hN (Nat.le_of_ble_eq_true hb9) (by omega) (by omega) hdg (fun q cQ H1 hK1 hP1 hD1 hS1 => ?_)
  -- the new row's class is the known one of its type
  have hcls : cQ = cA t := by
    have h1 := hK1.2 4 (cQ, newarray.typeOf at9) rfl
    match t, htt with
    | 0, htt =>
      have e1 : newarray.typeOf at9 = .int := (congrArg Prod.snd (Option.some.inj htt)).symm
      have h2 := hK.2 0 (cA 0, .int) rfl
      rw [e1] at h1
      exact Option.some.inj (h1.2.symm.trans h2.2)
    | 1, htt =>
      have e1 : newarray.typeOf at9 = .long := (congrArg Prod.snd (Option.some.inj htt)).symm
      have h2 := hK.2 1 (cA 1, .long) rfl
      rw [e1] at h1
      exact Option.some.inj (h1.2.symm.trans h2.2)
    | 2, htt =>
      have e1 : newarray.typeOf at9 = .byte := (congrArg Prod.snd (Option.some.inj htt)).symm
      have h2 := hK.2 2 (cA 2, .byte) rfl
      rw [e1] at h1
      exact Option.some.inj (h1.2.symm.trans h2.2)
    | 3, htt =>
      have e1 : newarray.typeOf at9 = .boolean := (congrArg Prod.snd (Option.some.inj htt)).symm
      have h2 := hK.2 3 (cA 3, .boolean) rfl
      rw [e1] at h1
      exact Option.some.inj (h1.2.symm.trans h2.2)
    | t + 4, htt => simp at htt
  subst hcls
  obtain ⟨hP2, hD2⟩ := ad_push (e0 := .inl (t, a0)) hN1 hc1 (fun ad' => rfl) hP1 hD1
  have hag : ∀ i, i < h.length ∨ 1000 ≤ i → (fun j => if j = h.length then q else ad j) i = ad i := fun i hi => if_neg (by omega)
  have := kk (fun j => if j = h.length then q else ad j) H1 locs ls (k + 1) (n2 + N) (by simp; omega) (fun i hi => by
    have : ¬ i = h.length := by simp at hi; omega
    simp only [this, if_false]
    exact had i (by simp at hi; omega)) hP2 hD2 hS1 ⟨hl.1, hl.2.1, hl.2.2.1, fun i v hv => by rw [refLt_v (allLtO_v hc2 hv) hag]; exact hl.2.2.2 i v hv⟩ (by omega) (by omega)
  have e9 : List.map (cV (fun j => if j = h.length then q else ad j)) (.ref h.length :: st) = .ref q :: st.map (cV ad) := by
    rw [List.map_cons, allLt_v hc3 hag]; simp [cV]
  rw [e9] at this
  exact this
end
section
variable {X : CTX} {b : ByteArray} {own : String} {ini : Bool} {fr lo : Nat} {tab : List CI} {pc : Nat} {vs : List (Option Value)} {st rest : List Value} {h : AH} {bk bn : Nat} {r1 r2 r3 index : Nat} {cv : Value}
def imax (x y : Int32) : Int32 := if x < y then y else x
def imin (x y : Int32) : Int32 := if y < x then y else x
theorem cat_sum {ad : Nat → Nat} {rest : List Value} : ((rest.map (cV ad)).map fun v => v.category) = rest.map fun v => v.category := by
  rw [List.map_map]; apply List.map_congr_left; intro v _; exact cV_cat ad v
theorem MW_mmax (C : CX X b own ini fr lo) (ht : tab.all (okI own ini b) = true) (i : Nat) (hc0 : tab[i]? = some (pc, 3, .invokestatic index, r1, r2, r3, cv)) {x y : Int32}
    (hw : ∀ w ∈ [Cond.methodLink own index Lib.Math.max.name, .static Lib.Math.max.name, .initialized "java/lang/Math", .code Lib.Math.max.name Lib.Math.max.code 2 (some .int)], w ∈ TG) (hR : (Nat.ble 1 fr && Nat.ble ((rest.map fun v => v.category).sum + 13) lo) = true)
    (kk : MW X (pc + 3, vs, .int (imax x y) :: rest, h, bk, bn)) : MW X (pc, vs, .int y :: .int x :: rest, h, bk, bn) := by
  have hi : okI own ini b (pc, 3, .invokestatic index, r1, r2, r3, cv) = true := List.all_eq_true.mp ht _ (List.mem_of_getElem? hc0)
  obtain ⟨p, l, e, R, s, m, args, below, meth, c, D, cA, ad0, n0, A, mc, ms, Q⟩ := X
  obtain ⟨hx, hcb, hown, hts, hK, hlk, hA, hin, hRc, hRs, hfr, hlo, hNW⟩ := C
  have hdg := okI_dec hi
  rw [Bool.and_eq_true] at hR
  have hR1 := Nat.le_of_ble_eq_true hR.1
  have hR2 := Nat.le_of_ble_eq_true hR.2
  have hwin := hw
  intro ad H locs ls k n hn0 had hP hD hS hl hk hn
  exact va_mmax hx hcb hl.2.1.symm hown (hts _ (hwin _ (by simp))) (hts _ (hwin _ (by simp))) (hts _ (hwin _ (by simp))) (hts _ (hwin _ (by simp))) (by omega) (by rw [cat_sum]; omega) (by omega) (by omega) hdg (kk ad H locs ls k n hn0 had hP hD hS hl hk hn)
theorem MW_mmin (C : CX X b own ini fr lo) (ht : tab.all (okI own ini b) = true) (i : Nat) (hc0 : tab[i]? = some (pc, 3, .invokestatic index, r1, r2, r3, cv)) {x y : Int32}
    (hw : ∀ w ∈ [Cond.methodLink own index Lib.Math.min.name, .static Lib.Math.min.name, .initialized "java/lang/Math", .code Lib.Math.min.name Lib.Math.min.code 2 (some .int)], w ∈ TG) (hR : (Nat.ble 1 fr && Nat.ble ((rest.map fun v => v.category).sum + 13) lo) = true)
    (kk : MW X (pc + 3, vs, .int (imin x y) :: rest, h, bk, bn)) : MW X (pc, vs, .int y :: .int x :: rest, h, bk, bn) := by
  have hi : okI own ini b (pc, 3, .invokestatic index, r1, r2, r3, cv) = true := List.all_eq_true.mp ht _ (List.mem_of_getElem? hc0)
  obtain ⟨p, l, e, R, s, m, args, below, meth, c, D, cA, ad0, n0, A, mc, ms, Q⟩ := X
  obtain ⟨hx, hcb, hown, hts, hK, hlk, hA, hin, hRc, hRs, hfr, hlo, hNW⟩ := C
  have hdg := okI_dec hi
  rw [Bool.and_eq_true] at hR
  have hR1 := Nat.le_of_ble_eq_true hR.1
  have hR2 := Nat.le_of_ble_eq_true hR.2
  have hwin := hw
  intro ad H locs ls k n hn0 had hP hD hS hl hk hn
  exact va_mmin hx hcb hl.2.1.symm hown (hts _ (hwin _ (by simp))) (hts _ (hwin _ (by simp))) (hts _ (hwin _ (by simp))) (hts _ (hwin _ (by simp))) (by omega) (by rw [cat_sum]; omega) (by omega) (by omega) hdg (kk ad H locs ls k n hn0 had hP hD hS hl hk hn)
theorem MW_copyi (C : CX X b own ini fr lo) (ht : tab.all (okI own ini b) = true) (i : Nat) (hc0 : tab[i]? = some (pc, 3, .invokestatic index, r1, r2, r3, cv)) {sp dp nn : Int32} {a0 a : Nat} {m0 m1 : Nat} {f g : Nat → Int32} (ha0 : h[a0]? = some (.inl (0, m0, .inl f))) (ha : h[a]? = some (.inl (0, m1, .inl g)))
    (hw : ∀ w ∈ [Cond.methodLink own index arraycopyName, .native arraycopyName, .static arraycopyName, .initialized "java/lang/System"], w ∈ TG) (hR : (Nat.ble 1 fr && Nat.ble ((rest.map fun v => v.category).sum + 18) lo) = true)
    (hg : ¬ sp < 0 ∧ ¬ dp < 0 ∧ ¬ nn < 0 ∧ sp.toNatClampNeg + nn.toNatClampNeg ≤ m0 ∧ dp.toNatClampNeg + nn.toNatClampNeg ≤ m1)
    (kk : MW X (pc + 3, vs, rest, h.set a (.inl (0, m1, .inl (va_cpy f g sp.toNatClampNeg dp.toNatClampNeg nn.toNatClampNeg))), bk, bn)) : MW X (pc, vs, .int nn :: .int dp :: .ref a :: .int sp :: .ref a0 :: rest, h, bk, bn) := by
  have hi : okI own ini b (pc, 3, .invokestatic index, r1, r2, r3, cv) = true := List.all_eq_true.mp ht _ (List.mem_of_getElem? hc0)
  obtain ⟨p, l, e, R, s, m, args, below, meth, c, D, cA, ad0, n0, A, mc, ms, Q⟩ := X
  obtain ⟨hx, hcb, hown, hts, hK, hlk, hA, hin, hRc, hRs, hfr, hlo, hNW⟩ := C
  have hdg := okI_dec hi
  rw [Bool.and_eq_true] at hR
  have hR1 := Nat.le_of_ble_eq_true hR.1
  have hR2 := Nat.le_of_ble_eq_true hR.2
  have hwin := hw
  intro ad H locs ls k n hn0 had hP hD hS hl hk hn
  refine va_copyi hx hcb hl.2.1.symm hown (hts _ (hwin _ (by simp))) (hts _ (hwin _ (by simp))) (hts _ (hwin _ (by simp))) (hts _ (hwin _ (by simp))) hK hP hD hS a0 a 0 0 (cW_get ha0) (cW_get ha) rfl rfl rfl hg.1 hg.2.1 hg.2.2.1 hg.2.2.2.1 hg.2.2.2.2 (fun _ _ => rfl) (by omega) (by rw [cat_sum]; simp [nativeFrameWords]; omega) hdg (fun H1 locs1 hP1 hD1 hS1 => ?_)
  have e1 := cW_set ad cA h a (.inl (0, m1, .inl (va_cpy f g sp.toNatClampNeg dp.toNatClampNeg nn.toNatClampNeg)))
  refine kk ad H1 locs1 ls k n (by rw [List.length_set]; exact hn0) (by rw [List.length_set]; exact had) ?_ ?_ hS1 hl hk hn
  · rw [← e1]; exact hP1
  · rw [← e1]; exact hD1
theorem MW_tsw (C : CX X b own ini fr lo) (ht : tab.all (okI own ini b) = true) (i : Nat) {len : Nat} {df hi9 : Int} {offs : Array Int} (hc0 : tab[i]? = some (pc, len, .tableswitch df 0 hi9 offs, r1, r2, r3, cv)) {x : Int32} (tgts : List Nat) (dt : Nat)
    (hw : (decide (hi9 = (tgts.length : Int) - 1) && decide (offs.toList.map (fun o => (pc : Int) + o) = tgts.map Int.ofNat) && decide ((pc : Int) + df = (dt : Int)) && Nat.ble tgts.length 1000) = true)
    (kin : ∀ (j t : Nat), tgts[j]? = some t → x = Int32.ofNat j → MW X (t, vs, rest, h, bk, bn)) (kout : (∀ j, j < tgts.length → ¬ x = Int32.ofNat j) → MW X (dt, vs, rest, h, bk, bn)) : MW X (pc, vs, .int x :: rest, h, bk, bn) := by
  have hi : okI own ini b (pc, len, .tableswitch df 0 hi9 offs, r1, r2, r3, cv) = true := List.all_eq_true.mp ht _ (List.mem_of_getElem? hc0)
  have hdg := okI_dec hi
  dsimp only at hdg
  clear hi
  simp only [Bool.and_eq_true, decide_eq_true_eq] at hw
  obtain ⟨⟨⟨w1, w2⟩, w3⟩, w4⟩ := hw
  have w4 := Nat.le_of_ble_eq_true w4
  by_cases hin9 : x.toInt < 0 ∨ hi9 < x.toInt
  · have hk9 := kout (fun j hj e => by
      subst e
      have : (Int32.ofNat j).toInt = j := nI_toInt (by omega)
      omega)
    obtain ⟨p, l, e, R, s, m, args, below, meth, c, D, cA, ad0, n0, A, mc, ms, Q⟩ := X
    obtain ⟨hx, hcb, hown, hts, hK, hlk, hA, hin, hRc, hRs, hfr, hlo, hNW⟩ := C
    intro ad H locs ls k n hn0 had hP hD hS hl hk hn
    exact lv_tableOut (dflt := df) (lo := 0) (hi := hi9) (offs := offs) (len := len) hx hcb hdg hin9 w3 (hk9 ad H locs ls k n hn0 had hP hD hS hl hk hn)
  · have a1 : ¬ x.toInt < 0 := fun z => hin9 (Or.inl z)
    have a2 : ¬ hi9 < x.toInt := fun z => hin9 (Or.inr z)
    have hl9 : offs.toList.length = tgts.length := by
      have := congrArg List.length w2
      simpa using this
    have hj : x.toInt.toNat < tgts.length := by omega
    have hx9 : x = Int32.ofNat x.toInt.toNat := by
      apply Int32.toInt_inj.mp
      rw [show (Int32.ofNat x.toInt.toNat).toInt = (x.toInt.toNat : Int) from nI_toInt (by omega)]
      omega
    have hk9 := kin x.toInt.toNat tgts[x.toInt.toNat] (List.getElem?_eq_getElem hj) hx9
    have hlo9 : x.toInt.toNat < offs.toList.length := by omega
    have ho : offs[(x.toInt - 0).toNat]? = some (offs.toList[x.toInt.toNat]) := by
      rw [show (x.toInt - 0).toNat = x.toInt.toNat by omega, ← Array.getElem?_toList, List.getElem?_eq_getElem hlo9]
    have htg : (pc : Int) + offs.toList[x.toInt.toNat] = (tgts[x.toInt.toNat] : Int) := by
      have := congrArg (fun l => l[x.toInt.toNat]?) w2
      simp only [List.getElem?_map, List.getElem?_eq_getElem hlo9, List.getElem?_eq_getElem hj] at this
      exact Option.some.inj this
    obtain ⟨p, l, e, R, s, m, args, below, meth, c, D, cA, ad0, n0, A, mc, ms, Q⟩ := X
    obtain ⟨hx, hcb, hown, hts, hK, hlk, hA, hin, hRc, hRs, hfr, hlo, hNW⟩ := C
    intro ad H locs ls k n hn0 had hP hD hS hl hk hn
    exact lv_tableIn (dflt := df) (lo := 0) (hi := hi9) (offs := offs) (len := len) hx hcb hdg a1 a2 ho htg (hk9 ad H locs ls k n hn0 had hP hD hS hl hk hn)
end
