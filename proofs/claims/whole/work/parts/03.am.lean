/-! THE ABSTRACT MACHINE: cells in a list, references by their places in it; straight stretches of code as a function -/
abbrev AE : Type := (Nat × vp_A) ⊕ (Nat × List Value)
abbrev AH : Type := List AE
/-- pc, locals, stack, cells, cells and slots that may still be made -/
abbrev AC : Type := Nat × List (Option Value) × List Value × AH × Nat × Nat
/-- pc, length, instruction, three numbers that the link gives, a constant -/
abbrev CI : Type := Nat × Nat × Instr × Nat × Nat × Nat × Value
def cV (ad : Nat → Nat) : Value → Value
  | .ref i => .ref (ad i)
  | .int v => .int v
  | .long v => .long v
  | .float v => .float v
  | .double v => .double v
  | .null => .null
  | .retAddr q => .retAddr q
def cE (ad : Nat → Nat) (cA : Nat → ClassId) : AE → va_E
  | .inl x => .inl (cA x.1, x.2)
  | .inr x => .inr (x.1, x.2.map (cV ad))
def cW (ad : Nat → Nat) (cA : Nat → ClassId) (h : AH) : va_W := h.mapIdx (fun i e => (ad i, cE ad cA e))
theorem cV_cat (ad : Nat → Nat) (v : Value) : (cV ad v).category = v.category := by cases v <;> rfl
theorem cW_get {ad : Nat → Nat} {cA : Nat → ClassId} {h : AH} {i : Nat} {e : AE} (he : h[i]? = some e) : (cW ad cA h)[i]? = some (ad i, cE ad cA e) := by
  simp [cW, he]
theorem cW_len (ad : Nat → Nat) (cA : Nat → ClassId) (h : AH) : (cW ad cA h).length = h.length := by simp [cW]
theorem cW_of {ad : Nat → Nat} {cA : Nat → ClassId} {h : AH} {i : Nat} {q : Nat × va_E} (hq : (cW ad cA h)[i]? = some q) : ∃ e, h[i]? = some e ∧ q = (ad i, cE ad cA e) := by
  rw [cW, List.getElem?_mapIdx] at hq
  cases he : h[i]? with
  | none => rw [he] at hq; cases hq
  | some e => rw [he] at hq; exact ⟨e, rfl, (Option.some.inj hq).symm⟩
theorem cW_set (ad : Nat → Nat) (cA : Nat → ClassId) (h : AH) (i : Nat) (e : AE) : (cW ad cA h).set i (ad i, cE ad cA e) = cW ad cA (h.set i e) := by
  apply List.ext_getElem?
  intro j
  rw [cW, cW, List.getElem?_mapIdx, List.getElem?_set, List.getElem?_set, List.getElem?_mapIdx, List.length_mapIdx]
  by_cases hj : i = j
  · subst hj
    by_cases hl : i < h.length <;> simp [hl]
  · simp [hj]
theorem cE_fields {ad : Nat → Nat} {cA : Nat → ClassId} {ci k : Nat} {fs : List Value} {v : Value} : (.inr (ci, (fs.map (cV ad)).set k (cV ad v)) : va_E) = cE ad cA (.inr (ci, fs.set k v)) := by
  simp [cE, List.map_set]
abbrev tysOf (cA : Nat → ClassId) : List (ClassId × FieldType) := [(cA 0, .int), (cA 1, .long), (cA 2, .byte), (cA 3, .boolean)]
abbrev inb (i : Int32) (n : Nat) : Prop := ¬ (i < 0 ∨ n ≤ i.toNatClampNeg)
abbrev isZ (v : Int32) : Prop := narrow .boolean (.int v) = .int v
def irm (x y : Int32) : Int32 := x - x / y * y
def lrm (x y : Int64) : Int64 := x - x / y * y
def iush (x y : Int32) : Int32 := (x.toUInt32 >>> (y.toUInt32 &&& Int32.toUInt32 31)).toInt32
/-- the locals: what is known of them -/
def LH (ad : Nat → Nat) (nL : Nat) (vs : List (Option Value)) (ls : Array Slot) : Prop := vs.length = nL ∧ ls.size = nL ∧ lv_wf ls ∧ ∀ (i : Nat) (v : Value), vs[i]? = some (some v) → ls[i]? = some (.val (cV ad v))
def lvp (ad : Nat → Nat) (vs : List (Option Value)) : List (Nat × Value) := (vs.mapIdx (fun i o => o.map (fun v => (i, cV ad v)))).filterMap id
theorem lvp_mem {ad : Nat → Nat} {vs : List (Option Value)} {q : Nat × Value} : q ∈ lvp ad vs ↔ ∃ v, vs[q.1]? = some (some v) ∧ q.2 = cV ad v := by
  unfold lvp
  rw [List.mem_filterMap]
  constructor
  · rintro ⟨o, ho, hq⟩
    obtain ⟨i, hi⟩ := List.getElem?_of_mem ho
    rw [List.getElem?_mapIdx] at hi
    cases hv : vs[i]? with
    | none => rw [hv] at hi; cases hi
    | some o2 =>
      rw [hv] at hi
      have h1 := Option.some.inj hi
      subst h1
      cases o2 with
      | none => cases hq
      | some v => cases hq; exact ⟨v, hv, rfl⟩
  · rintro ⟨v, hv, hq⟩
    refine ⟨some q, List.mem_of_getElem? (i := q.1) ?_, rfl⟩
    rw [List.getElem?_mapIdx, hv]
    obtain ⟨a, b⟩ := q
    simp at hq
    simp [hq]
theorem LH_has {ad : Nat → Nat} {nL : Nat} {vs : List (Option Value)} {ls : Array Slot} (h : LH ad nL vs ls) : lv_has ls nL (lvp ad vs) := by
  refine ⟨h.2.1, h.2.2.1, fun q hq => ?_⟩
  obtain ⟨v, hv, e⟩ := lvp_mem.mp hq
  rw [e]
  exact h.2.2.2 _ _ hv
/-- what is written at i goes over a long that stands at i - 1 -/
def clr (vs : List (Option Value)) (i : Nat) : List (Option Value) := match i with
  | 0 => vs
  | j + 1 => match vs[j]? with
    | some (some (.long _)) => vs.set j none
    | some (some (.double _)) => vs.set j none
    | _ => vs
theorem clr_len (vs : List (Option Value)) (i : Nat) : (clr vs i).length = vs.length := by
  unfold clr; split
  · rfl
  · split <;> simp
theorem clr_of {vs : List (Option Value)} {i j : Nat} {v : Value} (h : (clr vs i)[j]? = some (some v)) : vs[j]? = some (some v) ∧ ¬ (j + 1 = i ∧ v.category = 2) := by
  unfold clr at h
  split at h
  · exact ⟨h, by omega⟩
  · rename_i i
    split at h
    · rw [List.getElem?_set] at h
      by_cases hij : i = j
      · simp [hij] at h
      · simp [hij] at h; exact ⟨h, by omega⟩
    · rw [List.getElem?_set] at h
      by_cases hij : i = j
      · simp [hij] at h
      · simp [hij] at h; exact ⟨h, by omega⟩
    · rename_i h1 h2
      refine ⟨h, ?_⟩
      rintro ⟨e, hc⟩
      have : i = j := by omega
      subst this
      cases v <;> simp [Value.category] at hc
      · exact h1 _ h
      · exact h2 _ h
theorem LH_store1 {ad : Nat → Nat} {nL : Nat} {vs : List (Option Value)} {ls : Array Slot} (h : LH ad nL vs ls) {i : Nat} {v : Value} (hi : i < nL) {ls' : Array Slot} (h' : lv_has ls' nL ((i, cV ad v) :: (lvp ad vs).filter (fun q => !(q.1 == i) && !(q.1 + 1 == i && q.2.category == 2)))) : LH ad nL ((clr vs i).set i (some v)) ls' := by
  refine ⟨by rw [List.length_set, clr_len]; exact h.1, h'.1, h'.2.1, fun j w hw => ?_⟩
  rw [List.getElem?_set] at hw
  by_cases hij : i = j
  · subst hij
    have hl : i < (clr vs i).length := by rw [clr_len, h.1]; exact hi
    simp [hl] at hw
    subst hw
    exact h'.2.2 (i, cV ad v) List.mem_cons_self
  · simp [hij] at hw
    obtain ⟨h1, h2⟩ := clr_of hw
    refine h'.2.2 (j, cV ad w) (List.mem_cons_of_mem _ (List.mem_filter.mpr ⟨lvp_mem.mpr ⟨w, h1, rfl⟩, ?_⟩))
    have : ¬ j = i := fun e => hij e.symm
    simp [this, cV_cat]
    by_cases e : j + 1 = i
    · exact Or.inr (fun hc => h2 ⟨e, hc⟩)
    · exact Or.inl e
theorem LH_store2 {ad : Nat → Nat} {nL : Nat} {vs : List (Option Value)} {ls : Array Slot} (h : LH ad nL vs ls) {i : Nat} {v : Value} (hi : i + 1 < nL) {ls' : Array Slot} (h' : lv_has ls' nL ((i, cV ad v) :: (lvp ad vs).filter (fun q => !(q.1 == i) && (!(q.1 == i + 1) && !(q.1 + 1 == i && q.2.category == 2))))) : LH ad nL (((clr vs i).set i (some v)).set (i + 1) none) ls' := by
  refine ⟨by rw [List.length_set, List.length_set, clr_len]; exact h.1, h'.1, h'.2.1, fun j w hw => ?_⟩
  rw [List.getElem?_set] at hw
  by_cases hij1 : i + 1 = j
  · simp [hij1] at hw
  simp [hij1] at hw
  rw [List.getElem?_set] at hw
  by_cases hij : i = j
  · subst hij
    have hl : i < (clr vs i).length := by rw [clr_len, h.1]; omega
    simp [hl] at hw
    subst hw
    exact h'.2.2 (i, cV ad v) List.mem_cons_self
  · simp [hij] at hw
    obtain ⟨h1, h2⟩ := clr_of hw
    refine h'.2.2 (j, cV ad w) (List.mem_cons_of_mem _ (List.mem_filter.mpr ⟨lvp_mem.mpr ⟨w, h1, rfl⟩, ?_⟩))
    have e1 : ¬ j = i := fun e => hij e.symm
    have e2 : ¬ j = i + 1 := fun e => hij1 e.symm
    simp [e1, e2, cV_cat]
    by_cases e : j + 1 = i
    · exact Or.inr (fun hc => h2 ⟨e, hc⟩)
    · exact Or.inl e
