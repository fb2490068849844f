/-! CONTRACTS: a method's start, its end, its calls -/
def RQ (X : CTX) (ret : Option FieldType) (K : Option Value → AH → Prop) : Prop :=
  match X with
  | (_, _, _, _, s, _, args, below, meth, _, D, cA, ad0, n0, A, mc, ms, Q) => meth.sig.returnType = ret ∧ Q = MQ below (QK D cA n0 ad0 A K) args s mc ms A
/-- the contract: from the cells h and the arguments as, the method ends, and K says how -/
def CT (y : MethodName) (b : ByteArray) (nL : Nat) (ret : Option FieldType) (fr lo mc ms : Nat) (as : List Value) (h : AH) (K : Option Value → AH → Prop) : Prop :=
  ∀ (l : Launch) (D : va_G) (cA : Nat → ClassId) (ad : Nat → Nat) (sz : Nat), Met l y (.code y b nL ret :: TG) { frames := fr, cells := mc, slots := ms, locals := lo }
    (va_Pc (as.map (cV ad)) (fun U => U.heap.size = sz ∧ va_P D CL (cW ad cA h) U.heap ∧ va_K D CL (tysOf cA) U ∧ va_D (fun _ => True) (cW ad cA h) ∧ ∀ w ∈ NW, va_Nw w U))
    (QK D cA h.length ad (va_A (cW ad cA h) sz) K) mc ms (va_A (cW ad cA h) sz)
def ent : List Value → List (Option Value)
  | [] => []
  | v :: r => match v with
    | .long x => some (.long x) :: none :: ent r
    | .double x => some (.double x) :: none :: ent r
    | v => some v :: ent r
theorem ent_of (ad : Nat → Nat) : ∀ (as : List Value) (i0 j : Nat) (v : Value), (ent as)[j]? = some (some v) → (i0 + j, cV ad v) ∈ lv_args i0 (as.map (cV ad))
  | [], i0, j, v, h => by simp [ent] at h
  | a :: r, i0, j, v, h => by
    cases a with
    | long x =>
      dsimp only [ent] at h
      match j, h with
      | 0, h => cases h; exact List.mem_cons_self
      | 1, h => cases h
      | j + 2, h =>
        have h1 := ent_of ad r (i0 + 2) j v (by simpa using h)
        rw [show i0 + (j + 2) = i0 + 2 + j by omega]
        exact List.mem_cons_of_mem _ h1
    | double x =>
      dsimp only [ent] at h
      match j, h with
      | 0, h => cases h; exact List.mem_cons_self
      | 1, h => cases h
      | j + 2, h =>
        have h1 := ent_of ad r (i0 + 2) j v (by simpa using h)
        rw [show i0 + (j + 2) = i0 + 2 + j by omega]
        exact List.mem_cons_of_mem _ h1
    | int x =>
      dsimp only [ent] at h
      match j, h with
      | 0, h => cases h; exact List.mem_cons_self
      | j + 1, h =>
        have h1 := ent_of ad r (i0 + 1) j v (by simpa using h)
        rw [show i0 + (j + 1) = i0 + 1 + j by omega]
        exact List.mem_cons_of_mem _ h1
    | ref x =>
      dsimp only [ent] at h
      match j, h with
      | 0, h => cases h; exact List.mem_cons_self
      | j + 1, h =>
        have h1 := ent_of ad r (i0 + 1) j v (by simpa using h)
        rw [show i0 + (j + 1) = i0 + 1 + j by omega]
        exact List.mem_cons_of_mem _ h1
    | float x =>
      dsimp only [ent] at h
      match j, h with
      | 0, h => cases h; exact List.mem_cons_self
      | j + 1, h =>
        have h1 := ent_of ad r (i0 + 1) j v (by simpa using h)
        rw [show i0 + (j + 1) = i0 + 1 + j by omega]
        exact List.mem_cons_of_mem _ h1
    | null =>
      dsimp only [ent] at h
      match j, h with
      | 0, h => cases h; exact List.mem_cons_self
      | j + 1, h =>
        have h1 := ent_of ad r (i0 + 1) j v (by simpa using h)
        rw [show i0 + (j + 1) = i0 + 1 + j by omega]
        exact List.mem_cons_of_mem _ h1
    | retAddr x =>
      dsimp only [ent] at h
      match j, h with
      | 0, h => cases h; exact List.mem_cons_self
      | j + 1, h =>
        have h1 := ent_of ad r (i0 + 1) j v (by simpa using h)
        rw [show i0 + (j + 1) = i0 + 1 + j by omega]
        exact List.mem_cons_of_mem _ h1
theorem lg_sl_len (ad : Nat → Nat) : ∀ as : List Value, (lg_sl (as.map (cV ad))).length = (ent as).length
  | [] => rfl
  | a :: r => by
    have ih := lg_sl_len ad r
    cases a <;> simp [lg_sl, ent, cV, Value.category] at ih ⊢ <;> simp [ih]
theorem CT_of {y : MethodName} {b : ByteArray} {nL : Nat} {ret : Option FieldType} {fr lo mc ms : Nat} {as : List Value} {h : AH} {K : Option Value → AH → Prop} (hy : plainName y.cls = true) {vs0 : List (Option Value)} (hvs : ent as ++ List.replicate (nL - (ent as).length) none = vs0) (hle : Nat.ble (ent as).length nL = true)
    (kk : ∀ X : CTX, CX X b y.cls (decide (y.name = "<init>")) fr lo → RQ X ret K → MW X (0, vs0, [], h, mc, ms)) : CT y b nL ret fr lo mc ms as h K := by
  intro l D cA ad sz
  refine Met.ofW (cc := b) (maxL := nL) (ret := ret) hy rfl ?_
  intro p e s m args below meth c s₁ B hml hv
  obtain ⟨rfl, hsz, hP, hK, hD0, hNW⟩ := hv
  subst hsz
  have hts := atoms_spec (ws := .code y b nL ret :: TG) B.pre
  have C : CX (p, l, e, { frames := fr, cells := mc, slots := ms, locals := lo }, s, m, (as.map (cV ad)).toArray, below, meth, c, D, cA, ad, h.length, va_A (cW ad cA h) s.heap.size, mc, ms, MQ below (QK D cA h.length ad (va_A (cW ad cA h) s.heap.size) K) (as.map (cV ad)).toArray s mc ms (va_A (cW ad cA h) s.heap.size)) b y.cls (decide (y.name = "<init>")) fr lo :=
    ⟨B.exec, B.bytes, findClass_of_methodNamed B.named, fun w hw => hts w (List.mem_cons_of_mem _ hw), hK, B.notSynchronized, fun q hq => Or.inr hq, fun hi => by rw [(name_of_methodNamed B.named B.method).1]; exact of_decide_eq_true hi, rfl, rfl, Nat.le_refl _, Nat.le_refl _, hNW⟩
  have hrq : RQ (p, l, e, { frames := fr, cells := mc, slots := ms, locals := lo }, s, m, (as.map (cV ad)).toArray, below, meth, c, D, cA, ad, h.length, va_A (cW ad cA h) s.heap.size, mc, ms, MQ below (QK D cA h.length ad (va_A (cW ad cA h) s.heap.size) K) (as.map (cV ad)).toArray s mc ms (va_A (cW ad cA h) s.heap.size)) ret K := ⟨B.returns, rfl⟩
  have hle := Nat.le_of_ble_eq_true hle
  have hl := lv_entry (as.map (cV ad)) (n := nL) (by rw [lg_sl_len]; exact hle)
  rw [lg_entry_eq]
  generalize hls : (lg_sl (as.map (cV ad)) ++ List.replicate (nL - (lg_sl (as.map (cV ad))).length) Slot.unset).toArray = ls at hl ⊢
  have hLH : LH ad c.maxLocals vs0 ls := by
    rw [hml, ← hvs]
    refine ⟨?_, hl.1, hl.2.1, fun i v hv => ?_⟩
    · rw [List.length_append, List.length_replicate]; omega
    · rw [List.getElem?_append] at hv
      split at hv
      · have h1 := ent_of ad as 0 i v hv
        rw [Nat.zero_add] at h1
        exact hl.2.2 _ h1
      · rw [List.getElem?_replicate] at hv
        split at hv <;> cases hv
  exact kk _ C hrq ad s.heap [] ls 0 0 (Nat.le_refl _) (fun _ _ => rfl) hP (hD0.self) va_S.rf hLH (by omega) (by omega)
section
variable {X : CTX} {b : ByteArray} {own : String} {ini : Bool} {fr lo : Nat} {tab : List CI} {pc : Nat} {vs : List (Option Value)} {h : AH} {bk bn : Nat} {K : Option Value → AH → Prop} {r1 r2 r3 : Nat} {cv : Value}
theorem MW_iret (C : CX X b own ini fr lo) (ht : tab.all (okI own ini b) = true) (hq : RQ X (some .int) K) (i : Nat) (hc : tab[i]? = some (pc, 1, .ireturn, r1, r2, r3, cv)) {v : Int32} (hk : K (some (.int v)) h) : MW X (pc, vs, [.int v], h, bk, bn) := by
  have hi : okI own ini b (pc, 1, .ireturn, r1, r2, r3, cv) = true := List.all_eq_true.mp ht _ (List.mem_of_getElem? hc)
  obtain ⟨p, l, e, R, s, m, args, below, meth, c, D, cA, ad0, n0, A, mc, ms, Q⟩ := X
  obtain ⟨hx, hcb, hown, hts, hK, hlk, hA, hin, hRc, hRs, hfr, hlo, hNW⟩ := C
  obtain ⟨hr, hQ⟩ := hq
  subst hQ
  have hd := okI_dec hi
  intro ad H locs ls k n hn0 had hP hD hS hl hk1 hn1
  refine W.widen (k := mc) (n := ms) (by omega) (by omega) ?_
  exact W.iret hx hcb hr (fun t ht hW => ⟨⟨some (.int v), ad, h, rfl, had, hn0, hk, by rw [ht]; exact hP, va_K.moved hW.alike hK, hD⟩, hS.F ht⟩) hS.2.2 hd hlk
theorem MW_zret (C : CX X b own ini fr lo) (ht : tab.all (okI own ini b) = true) (hq : RQ X (some .boolean) K) (i : Nat) (hc : tab[i]? = some (pc, 1, .ireturn, r1, r2, r3, cv)) {v : Int32} (hz : isZ v) (hk : K (some (.int v)) h) : MW X (pc, vs, [.int v], h, bk, bn) := by
  have hi : okI own ini b (pc, 1, .ireturn, r1, r2, r3, cv) = true := List.all_eq_true.mp ht _ (List.mem_of_getElem? hc)
  obtain ⟨p, l, e, R, s, m, args, below, meth, c, D, cA, ad0, n0, A, mc, ms, Q⟩ := X
  obtain ⟨hx, hcb, hown, hts, hK, hlk, hA, hin, hRc, hRs, hfr, hlo, hNW⟩ := C
  obtain ⟨hr, hQ⟩ := hq
  subst hQ
  have hd := okI_dec hi
  intro ad H locs ls k n hn0 had hP hD hS hl hk1 hn1
  refine W.widen (k := mc) (n := ms) (by omega) (by omega) ?_
  exact W.zret hx hcb hr hz (fun t ht hW => ⟨⟨some (.int v), ad, h, rfl, had, hn0, hk, by rw [ht]; exact hP, va_K.moved hW.alike hK, hD⟩, hS.F ht⟩) hS.2.2 hd hlk
theorem MW_lret (C : CX X b own ini fr lo) (ht : tab.all (okI own ini b) = true) (hq : RQ X (some .long) K) (i : Nat) (hc : tab[i]? = some (pc, 1, .lreturn, r1, r2, r3, cv)) {v : Int64} (hk : K (some (.long v)) h) : MW X (pc, vs, [.long v], h, bk, bn) := by
  have hi : okI own ini b (pc, 1, .lreturn, r1, r2, r3, cv) = true := List.all_eq_true.mp ht _ (List.mem_of_getElem? hc)
  obtain ⟨p, l, e, R, s, m, args, below, meth, c, D, cA, ad0, n0, A, mc, ms, Q⟩ := X
  obtain ⟨hx, hcb, hown, hts, hK, hlk, hA, hin, hRc, hRs, hfr, hlo, hNW⟩ := C
  obtain ⟨hr, hQ⟩ := hq
  subst hQ
  have hd := okI_dec hi
  intro ad H locs ls k n hn0 had hP hD hS hl hk1 hn1
  refine W.widen (k := mc) (n := ms) (by omega) (by omega) ?_
  exact W.lret hx hcb hr (fun t ht hW => ⟨⟨some (.long v), ad, h, rfl, had, hn0, hk, by rw [ht]; exact hP, va_K.moved hW.alike hK, hD⟩, hS.F ht⟩) hS.2.2 hd hlk
theorem MW_vret (C : CX X b own ini fr lo) (ht : tab.all (okI own ini b) = true) (hq : RQ X none K) (i : Nat) (hc : tab[i]? = some (pc, 1, .return_, r1, r2, r3, cv)) (hk : K none h) : MW X (pc, vs, [], h, bk, bn) := by
  have hi : okI own ini b (pc, 1, .return_, r1, r2, r3, cv) = true := List.all_eq_true.mp ht _ (List.mem_of_getElem? hc)
  obtain ⟨p, l, e, R, s, m, args, below, meth, c, D, cA, ad0, n0, A, mc, ms, Q⟩ := X
  obtain ⟨hx, hcb, hown, hts, hK, hlk, hA, hin, hRc, hRs, hfr, hlo, hNW⟩ := C
  obtain ⟨hr, hQ⟩ := hq
  subst hQ
  have hd := okI_dec hi
  intro ad H locs ls k n hn0 had hP hD hS hl hk1 hn1
  refine W.widen (k := mc) (n := ms) (by omega) (by omega) ?_
  exact W.vret hx hcb hr (fun t ht hW => ⟨⟨none, ad, h, rfl, had, hn0, hk, by rw [ht]; exact hP, va_K.moved hW.alike hK, hD⟩, hS.F ht⟩) hS.2.2 hd hlk
theorem MW_aret (C : CX X b own ini fr lo) (ht : tab.all (okI own ini b) = true) {ty : FieldType} (hq : RQ X (some ty) K) (hty : isOT (some ty) = true) (i : Nat) (hc : tab[i]? = some (pc, 1, .areturn, r1, r2, r3, cv)) {a : Nat} (hk : K (some (.ref a)) h) : MW X (pc, vs, [.ref a], h, bk, bn) := by
  have hi : okI own ini b (pc, 1, .areturn, r1, r2, r3, cv) = true := List.all_eq_true.mp ht _ (List.mem_of_getElem? hc)
  obtain ⟨p, l, e, R, s, m, args, below, meth, c, D, cA, ad0, n0, A, mc, ms, Q⟩ := X
  obtain ⟨hx, hcb, hown, hts, hK, hlk, hA, hin, hRc, hRs, hfr, hlo, hNW⟩ := C
  obtain ⟨hr, hQ⟩ := hq
  subst hQ
  have hd := okI_dec hi
  have hrt : (∃ n, ty = .object n) ∨ ∃ t, ty = .array t := by
    unfold isOT at hty
    split at hty
    · rename_i q e; cases e; exact Or.inl ⟨_, rfl⟩
    · rename_i q e; cases e; exact Or.inr ⟨_, rfl⟩
    · cases hty
  intro ad H locs ls k n hn0 had hP hD hS hl hk1 hn1
  refine W.widen (k := mc) (n := ms) (by omega) (by omega) ?_
  exact W.aret (v := .ref (ad a)) hx hcb hr hrt (Or.inr ⟨_, rfl⟩) (fun t ht hW => ⟨⟨some (.ref a), ad, h, rfl, had, hn0, hk, by rw [ht]; exact hP, va_K.moved hW.alike hK, hD⟩, hS.F ht⟩) hS.2.2 hd hlk
end
