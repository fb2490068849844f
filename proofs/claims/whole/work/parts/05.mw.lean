/-! WHAT A STRETCH OF CODE DOES, over the machine: MW X conf: from conf the method ends as X says -/
abbrev CTX : Type := Program × Launch × Env × Room × State × MethodId × Array Value × List Frame × Method × Code × va_G × (Nat → ClassId) × (Nat → Nat) × Nat × (Nat → Prop) × Nat × Nat × (State → Prop)
theorem NW_warm {w : Cond} (h : w ∈ NW) {s U : State} (hW : s.WarmedH U.vm) (hZ : va_Nw w s) : va_Nw w U := by
  have h1 := (List.mem_filter.mp h).2
  unfold isNest at h1
  split at h1
  · exact va_Nw.warmM hW hZ
  · cases h1
theorem NW_same {w : Cond} (h : w ∈ NW) {s U : State} (hv : s.vm = U.vm) (hZ : va_Nw w s) : va_Nw w U := by
  have h1 := (List.mem_filter.mp h).2
  unfold isNest at h1
  split at h1
  · exact va_Nw.same rfl hv hZ
  · cases h1
def MW (X : CTX) (c0 : AC) : Prop :=
  match X, c0 with
  | (p, l, e, R, s, m, args, below, meth, c, D, cA, ad0, n0, A, mc, ms, Q), (pc, vs, st, h, bk, bn) =>
    ∀ (ad : Nat → Nat) (H : Heap) (locs : List Loc) (ls : Array Slot) (k n : Nat), n0 ≤ h.length → (∀ i, i < n0 ∨ h.length ≤ i → ad i = ad0 i) → va_P D CL (cW ad cA h) H → va_D A (cW ad cA h) → va_S A s.heap H locs → LH ad c.maxLocals vs ls → k + bk ≤ mc → n + bn ≤ ms →
      W p l e R s m args below meth c H locs k n Q (F0 m pc ls (st.map (cV ad)))
def CX (X : CTX) (b : ByteArray) (own : String) (ini : Bool) (fr lo : Nat) : Prop :=
  match X with
  | (p, _, _, R, s, m, args, _, meth, c, D, cA, _, _, A, mc, ms, _) =>
    p.tables.exec = Jvm.exec ∧ c.code = b ∧ s.vm.findClass own = some m.cls ∧ (∀ w ∈ TG, w.before args s = true) ∧ va_K D CL (tysOf cA) s ∧ meth.locks = false ∧ (∀ q, s.heap.size ≤ q → A q) ∧ (ini = true → meth.name = "<init>") ∧ R.cells = mc ∧ R.slots = ms ∧ fr ≤ R.frames ∧ lo ≤ R.locals ∧ ∀ w ∈ NW, va_Nw w s
theorem CL_in : ∀ (i : Nat) (C : String) (T : u_T) (N : Nat), CL[i]? = some (C, T, N) → ∀ w ∈ u_ws C T N, w ∈ TG := by
  intro i C T N h
  match i, h with
  | 0, h => cases h; exact inX0
  | 1, h => cases h; exact inX1
  | 2, h => cases h; exact inX2
  | 3, h => cases h; exact inX3
  | 4, h => cases h; exact inX4
  | 5, h => cases h; exact inX5
  | 6, h => cases h; exact inX7
  | 7, h => cases h; exact inX8
  | 8, h => cases h; exact inX9
  | 9, h => cases h; exact inX10
  | 10, h => cases h; exact inX11
  | 11, h => cases h; exact inX12
  | n + 12, h => simp [CL] at h
theorem CL_ty : ∀ (i : Nat) (C : String) (T : u_T) (N : Nat), CL[i]? = some (C, T, N) → ∃ ty : Nat → FieldType, (∀ k, k < N → parseFieldDescriptor (T k).2.2.1 = some (ty k)) ∧ ∀ a, a < N → ∀ b, b < N → a ≠ b → (T a).2.1 ≠ (T b).2.1 := by
  intro i C T N h
  match i, h with
  | 0, h => cases h; exact ⟨tyX0, tyX0_ok, nmX0⟩
  | 1, h => cases h; exact ⟨tyX1, tyX1_ok, nmX1⟩
  | 2, h => cases h; exact ⟨tyX2, tyX2_ok, nmX2⟩
  | 3, h => cases h; exact ⟨tyX3, tyX3_ok, nmX3⟩
  | 4, h => cases h; exact ⟨tyX4, tyX4_ok, nmX4⟩
  | 5, h => cases h; exact ⟨tyX5, tyX5_ok, nmX5⟩
  | 6, h => cases h; exact ⟨tyX7, tyX7_ok, nmX7⟩
  | 7, h => cases h; exact ⟨tyX8, tyX8_ok, nmX8⟩
  | 8, h => cases h; exact ⟨tyX9, tyX9_ok, nmX9⟩
  | 9, h => cases h; exact ⟨tyX10, tyX10_ok, nmX10⟩
  | 10, h => cases h; exact ⟨tyX11, tyX11_ok, nmX11⟩
  | 11, h => cases h; exact ⟨tyX12, tyX12_ok, nmX12⟩
  | n + 12, h => simp [CL] at h
theorem okI_dec {own : String} {ini : Bool} {b : ByteArray} {ci : CI} (h : okI own ini b ci = true) : decode b ci.1 = .ok (ci.2.2.1, ci.2.1) := by
  unfold okI at h
  rw [Bool.and_eq_true] at h
  exact of_decide_eq_true h.1
theorem isZ_fits {x : Int32} (h : isZ x) : fits .boolean (.int x) = true := by
  have h1 : x &&& 1 = x := by
    have := h
    unfold isZ at this
    simp [narrow] at this
    exact this
  have h2 : x = 0 ∨ x = 1 := by
    obtain ⟨j, hj, e⟩ := pk_andE x (m := 1) 1 rfl
    rw [h1] at e
    rcases (show j = 0 ∨ j = 1 by omega) with z | z
    · subst z; exact Or.inl e
    · subst z; exact Or.inr e
  rcases h2 with e | e <;> subst e <;> rfl
theorem isOT_spec {d : Option FieldType} (h : isOT d = true) (a : Nat) : ∃ ty, d = some ty ∧ narrow ty (.ref a) = .ref a ∧ fits ty (.ref a) = true := by
  unfold isOT at h
  split at h
  · exact ⟨_, rfl, rfl, rfl⟩
  · exact ⟨_, rfl, rfl, rfl⟩
  · cases h
set_option maxHeartbeats 4000000 in
theorem MW_step {X : CTX} {b : ByteArray} {own : String} {ini : Bool} {fr lo : Nat} (C : CX X b own ini fr lo) {ci : CI} {cf cf' : AC} {gs : List Prop} (hi : okI own ini b ci = true) (hp : ci.1 = cf.1) (he : astp ci cf = some (gs, cf')) (hg : ∀ g ∈ gs, g) (kk : MW X cf') : MW X cf := by
  obtain ⟨p, l, e, R, s, m, args, below, meth, c, D, cA, ad0, n0, A, mc, ms, Q⟩ := X
  obtain ⟨pc, len, I, r1, r2, r3, cv⟩ := ci
  obtain ⟨pc', vs, st, h, bk, bn⟩ := cf
  obtain ⟨hx, hb, hown, hts, hK, hlk, hA, hin, hRc, hRs, hfr, hlo, hNW⟩ := C
  dsimp only at hp
  subst hp
  have hd := okI_dec hi
  dsimp only at hd
  unfold okI at hi
  rw [Bool.and_eq_true] at hi
  have hi := hi.2
  dsimp only at hi
  intro ad H locs ls k n hn0 had hP hD hS hl hk hn
  cases I with
  | iconst n9 =>
    dsimp only [astp] at he
    cases he
    rw [Bool.and_eq_true] at hi
    obtain ⟨h1, h2⟩ := hi
    have h1 := of_decide_eq_true h1
    subst h1
    split at h2
    · exact lv_iconst hx hb hd (of_decide_eq_true h2) (kk ad H locs ls k n hn0 had hP hD hS hl hk hn)
    · cases h2
  | bipush n9 =>
    dsimp only [astp] at he
    cases he
    rw [Bool.and_eq_true] at hi
    obtain ⟨h1, h2⟩ := hi
    have h1 := of_decide_eq_true h1
    subst h1
    split at h2
    · exact lv_bipush hx hb hd (of_decide_eq_true h2) (kk ad H locs ls k n hn0 had hP hD hS hl hk hn)
    · cases h2
  | sipush n9 =>
    dsimp only [astp] at he
    cases he
    rw [Bool.and_eq_true] at hi
    obtain ⟨h1, h2⟩ := hi
    have h1 := of_decide_eq_true h1
    subst h1
    split at h2
    · exact lv_sipush hx hb hd (of_decide_eq_true h2) (kk ad H locs ls k n hn0 had hP hD hS hl hk hn)
    · cases h2
  | lconst n9 =>
    dsimp only [astp] at he
    cases he
    rw [Bool.and_eq_true] at hi
    obtain ⟨h1, h2⟩ := hi
    have h1 := of_decide_eq_true h1
    subst h1
    split at h2
    · exact lv_lconst hx hb hd (of_decide_eq_true h2) (kk ad H locs ls k n hn0 had hP hD hS hl hk hn)
    · cases h2
  | ldc n9 =>
    dsimp only [astp] at he
    cases he
    rw [Bool.and_eq_true] at hi
    obtain ⟨h1, h2⟩ := hi
    have h1 := of_decide_eq_true h1
    subst h1
    split at h2
    · exact lv_ldc hx hb hown (hts _ (List.mem_of_getElem? (of_decide_eq_true h2))) hd (kk ad H locs ls k n hn0 had hP hD hS hl hk hn)
    · cases h2
  | ldc_w n9 =>
    dsimp only [astp] at he
    cases he
    rw [Bool.and_eq_true] at hi
    obtain ⟨h1, h2⟩ := hi
    have h1 := of_decide_eq_true h1
    subst h1
    split at h2
    · exact lv_ldcw hx hb hown (hts _ (List.mem_of_getElem? (of_decide_eq_true h2))) hd (kk ad H locs ls k n hn0 had hP hD hS hl hk hn)
    · cases h2
  | ldc2_w n9 =>
    dsimp only [astp] at he
    cases he
    rw [Bool.and_eq_true] at hi
    obtain ⟨h1, h2⟩ := hi
    have h1 := of_decide_eq_true h1
    subst h1
    split at h2
    · exact lv_ldc2 hx hb hown (hts _ (List.mem_of_getElem? (of_decide_eq_true h2))) hd (kk ad H locs ls k n hn0 had hP hD hS hl hk hn)
    · cases h2
  | iload i9 =>
    dsimp only [astp] at he
    rw [Bool.and_eq_true] at hi
    have h1 := of_decide_eq_true hi.1
    have h2 := of_decide_eq_true hi.2
    subst h1
    subst h2
    split at he
    · rename_i x hx1
      cases he
      exact lv_iload hx hb hd (hl.2.2.2 _ _ hx1) (kk ad H locs ls k n hn0 had hP hD hS hl hk hn)
    · cases he
  | lload i9 =>
    dsimp only [astp] at he
    rw [Bool.and_eq_true] at hi
    have h1 := of_decide_eq_true hi.1
    have h2 := of_decide_eq_true hi.2
    subst h1
    subst h2
    split at he
    · rename_i x hx1
      cases he
      exact lv_lload hx hb hd (hl.2.2.2 _ _ hx1) (kk ad H locs ls k n hn0 had hP hD hS hl hk hn)
    · cases he
  | iload_n i9 =>
    dsimp only [astp] at he
    rw [Bool.and_eq_true] at hi
    have h1 := of_decide_eq_true hi.1
    have h2 := of_decide_eq_true hi.2
    subst h2
    split at he
    · rename_i x hx1
      cases he
      exact lv_iload_n hx hb hd h1 (hl.2.2.2 _ _ hx1) (kk ad H locs ls k n hn0 had hP hD hS hl hk hn)
    · cases he
  | lload_n i9 =>
    dsimp only [astp] at he
    rw [Bool.and_eq_true] at hi
    have h1 := of_decide_eq_true hi.1
    have h2 := of_decide_eq_true hi.2
    subst h2
    split at he
    · rename_i x hx1
      cases he
      exact lv_lload_n hx hb hd h1 (hl.2.2.2 _ _ hx1) (kk ad H locs ls k n hn0 had hP hD hS hl hk hn)
    · cases he
  | aload_n i9 =>
    dsimp only [astp] at he
    rw [Bool.and_eq_true] at hi
    have h1 := of_decide_eq_true hi.1
    have h2 := of_decide_eq_true hi.2
    subst h2
    split at he
    · rename_i x hx1
      cases he
      exact lv_aload_n hx hb hd h1 (hl.2.2.2 _ _ hx1) (kk ad H locs ls k n hn0 had hP hD hS hl hk hn)
    · cases he
  | istore i9 =>
    dsimp only [astp] at he
    rw [Bool.and_eq_true] at hi
    have h1 := of_decide_eq_true hi.1
    have h2 := of_decide_eq_true hi.2
    subst h2
    subst h1
    split at he
    · rename_i x st
      split at he
      · rename_i o ho
        cases he
        have hlt : i9 < c.maxLocals := by rw [← hl.1]; exact (List.getElem?_eq_some_iff.mp ho).1
        exact lv_istore hx hb hd (LH_has hl) hlt rfl (fun ls' h' => kk ad H locs ls' k n hn0 had hP hD hS (LH_store1 (v := .int x) hl hlt h') hk hn)
      · cases he
    · cases he
  | istore_n i9 =>
    dsimp only [astp] at he
    rw [Bool.and_eq_true] at hi
    have h1 := of_decide_eq_true hi.1
    have h2 := of_decide_eq_true hi.2
    subst h2
    split at he
    · rename_i x st
      split at he
      · rename_i o ho
        cases he
        have hlt : r1 < c.maxLocals := by rw [← hl.1]; exact (List.getElem?_eq_some_iff.mp ho).1
        exact lv_istore_n hx hb hd h1 (LH_has hl) hlt rfl (fun ls' h' => kk ad H locs ls' k n hn0 had hP hD hS (LH_store1 (v := .int x) hl hlt h') hk hn)
      · cases he
    · cases he
  | astore_n i9 =>
    dsimp only [astp] at he
    rw [Bool.and_eq_true] at hi
    have h1 := of_decide_eq_true hi.1
    have h2 := of_decide_eq_true hi.2
    subst h2
    split at he
    · rename_i x st
      split at he
      · rename_i o ho
        cases he
        have hlt : r1 < c.maxLocals := by rw [← hl.1]; exact (List.getElem?_eq_some_iff.mp ho).1
        exact lv_astore_n hx hb hd h1 (LH_has hl) hlt rfl (fun ls' h' => kk ad H locs ls' k n hn0 had hP hD hS (LH_store1 (v := .ref x) hl hlt h') hk hn)
      · cases he
    · cases he
  | lstore i9 =>
    dsimp only [astp] at he
    rw [Bool.and_eq_true] at hi
    have h1 := of_decide_eq_true hi.1
    have h2 := of_decide_eq_true hi.2
    subst h2
    subst h1
    split at he
    · rename_i x st
      split at he
      · rename_i o ho
        cases he
        have hlt : i9 + 1 < c.maxLocals := by rw [← hl.1]; exact (List.getElem?_eq_some_iff.mp ho).1
        exact lv_lstore hx hb hd (LH_has hl) hlt rfl (fun ls' h' => kk ad H locs ls' k n hn0 had hP hD hS (LH_store2 (v := .long x) hl hlt h') hk hn)
      · cases he
    · cases he
  | lstore_n i9 =>
    dsimp only [astp] at he
    rw [Bool.and_eq_true] at hi
    have h1 := of_decide_eq_true hi.1
    have h2 := of_decide_eq_true hi.2
    subst h2
    split at he
    · rename_i x st
      split at he
      · rename_i o ho
        cases he
        have hlt : r1 + 1 < c.maxLocals := by rw [← hl.1]; exact (List.getElem?_eq_some_iff.mp ho).1
        exact lv_lstore_n hx hb hd h1 (LH_has hl) hlt rfl (fun ls' h' => kk ad H locs ls' k n hn0 had hP hD hS (LH_store2 (v := .long x) hl hlt h') hk hn)
      · cases he
    · cases he
  | iinc i9 n9 =>
    dsimp only [astp] at he
    rw [Bool.and_eq_true, Bool.and_eq_true] at hi
    have h1 := of_decide_eq_true hi.1.1
    have h2 := of_decide_eq_true hi.1.2
    have h3 := hi.2
    subst h1
    subst h2
    split at he
    · rename_i x y hx1 hi9
      cases he
      have h3 := of_decide_eq_true h3
      have hlt : i9 < c.maxLocals := by rw [← hl.1]; exact (List.getElem?_eq_some_iff.mp hx1).1
      obtain ⟨j, hj⟩ := List.getElem?_of_mem (lvp_mem.mpr ⟨_, hx1, rfl⟩ : (i9, cV ad (.int x)) ∈ lvp ad vs)
      exact lv_iinc (k := j) (v := x + y) hx hb hd (LH_has hl) hj (by rw [h3]) hlt rfl (fun ls' h' => kk ad H locs ls' k n hn0 had hP hD hS (LH_store1 (v := .int (x + y)) hl hlt h') hk hn)
    · cases he
  | iadd =>
    dsimp only [astp] at he
    have h1 := of_decide_eq_true hi
    subst h1
    split at he
    · cases he
      exact lv_iadd hx hb hd (kk ad H locs ls k n hn0 had hP hD hS hl hk hn)
    · cases he
  | isub =>
    dsimp only [astp] at he
    have h1 := of_decide_eq_true hi
    subst h1
    split at he
    · cases he
      exact lv_isub hx hb hd (kk ad H locs ls k n hn0 had hP hD hS hl hk hn)
    · cases he
  | imul =>
    dsimp only [astp] at he
    have h1 := of_decide_eq_true hi
    subst h1
    split at he
    · cases he
      exact lv_imul hx hb hd (kk ad H locs ls k n hn0 had hP hD hS hl hk hn)
    · cases he
  | iand =>
    dsimp only [astp] at he
    have h1 := of_decide_eq_true hi
    subst h1
    split at he
    · cases he
      exact lv_iand hx hb hd (kk ad H locs ls k n hn0 had hP hD hS hl hk hn)
    · cases he
  | ior =>
    dsimp only [astp] at he
    have h1 := of_decide_eq_true hi
    subst h1
    split at he
    · cases he
      exact lv_ior hx hb hd (kk ad H locs ls k n hn0 had hP hD hS hl hk hn)
    · cases he
  | ixor =>
    dsimp only [astp] at he
    have h1 := of_decide_eq_true hi
    subst h1
    split at he
    · cases he
      exact lv_ixor hx hb hd (kk ad H locs ls k n hn0 had hP hD hS hl hk hn)
    · cases he
  | ishl =>
    dsimp only [astp] at he
    have h1 := of_decide_eq_true hi
    subst h1
    split at he
    · cases he
      exact lv_ishl hx hb hd (kk ad H locs ls k n hn0 had hP hD hS hl hk hn)
    · cases he
  | ishr =>
    dsimp only [astp] at he
    have h1 := of_decide_eq_true hi
    subst h1
    split at he
    · cases he
      exact lv_ishr hx hb hd (kk ad H locs ls k n hn0 had hP hD hS hl hk hn)
    · cases he
  | ladd =>
    dsimp only [astp] at he
    have h1 := of_decide_eq_true hi
    subst h1
    split at he
    · cases he
      exact lv_ladd hx hb hd (kk ad H locs ls k n hn0 had hP hD hS hl hk hn)
    · cases he
  | lmul =>
    dsimp only [astp] at he
    have h1 := of_decide_eq_true hi
    subst h1
    split at he
    · cases he
      exact lv_lmul hx hb hd (kk ad H locs ls k n hn0 had hP hD hS hl hk hn)
    · cases he
  | land =>
    dsimp only [astp] at he
    have h1 := of_decide_eq_true hi
    subst h1
    split at he
    · cases he
      exact lv_land hx hb hd (kk ad H locs ls k n hn0 had hP hD hS hl hk hn)
    · cases he
  | idiv =>
    dsimp only [astp] at he
    have h1 := of_decide_eq_true hi
    subst h1
    split at he
    · cases he
      exact lv_idiv hx hb hd (hg _ List.mem_cons_self) (kk ad H locs ls k n hn0 had hP hD hS hl hk hn)
    · cases he
  | irem =>
    dsimp only [astp] at he
    have h1 := of_decide_eq_true hi
    subst h1
    split at he
    · cases he
      exact lv_irem hx hb hd (hg _ List.mem_cons_self) (kk ad H locs ls k n hn0 had hP hD hS hl hk hn)
    · cases he
  | ldiv =>
    dsimp only [astp] at he
    have h1 := of_decide_eq_true hi
    subst h1
    split at he
    · cases he
      exact lv_ldiv hx hb hd (hg _ List.mem_cons_self) (kk ad H locs ls k n hn0 had hP hD hS hl hk hn)
    · cases he
  | lrem =>
    dsimp only [astp] at he
    have h1 := of_decide_eq_true hi
    subst h1
    split at he
    · cases he
      exact lv_lrem hx hb hd (hg _ List.mem_cons_self) (kk ad H locs ls k n hn0 had hP hD hS hl hk hn)
    · cases he
  | iushr =>
    dsimp only [astp] at he
    have h1 := of_decide_eq_true hi
    subst h1
    split at he
    · cases he
      exact lv_iushr hx hb hd rfl (kk ad H locs ls k n hn0 had hP hD hS hl hk hn)
    · cases he
  | lshr =>
    dsimp only [astp] at he
    have h1 := of_decide_eq_true hi
    subst h1
    split at he
    · cases he
      exact lv_lshr hx hb hd rfl (kk ad H locs ls k n hn0 had hP hD hS hl hk hn)
    · cases he
  | lcmp =>
    dsimp only [astp] at he
    have h1 := of_decide_eq_true hi
    subst h1
    split at he
    · cases he
      exact W.lcmp hx hb hd (kk ad H locs ls k n hn0 had hP hD hS hl hk hn)
    · cases he
  | i2l =>
    dsimp only [astp] at he
    have h1 := of_decide_eq_true hi
    subst h1
    split at he
    · cases he
      exact lv_i2l hx hb hd rfl (kk ad H locs ls k n hn0 had hP hD hS hl hk hn)
    · cases he
  | l2i =>
    dsimp only [astp] at he
    have h1 := of_decide_eq_true hi
    subst h1
    split at he
    · cases he
      exact lv_l2i hx hb hd rfl (kk ad H locs ls k n hn0 had hP hD hS hl hk hn)
    · cases he
  | i2b =>
    dsimp only [astp] at he
    have h1 := of_decide_eq_true hi
    subst h1
    split at he
    · cases he
      exact lv_i2b hx hb hd rfl (kk ad H locs ls k n hn0 had hP hD hS hl hk hn)
    · cases he
  | dup =>
    dsimp only [astp] at he
    have h1 := of_decide_eq_true hi
    subst h1
    split at he
    · cases he
      exact lv_dup hx hb hd rfl (kk ad H locs ls k n hn0 had hP hD hS hl hk hn)
    · cases he
      exact lv_dup hx hb hd rfl (kk ad H locs ls k n hn0 had hP hD hS hl hk hn)
    · cases he
  | dup2 =>
    dsimp only [astp] at he
    have h1 := of_decide_eq_true hi
    subst h1
    split at he
    · cases he
      exact lv_dup2_11 hx hb hd rfl rfl (kk ad H locs ls k n hn0 had hP hD hS hl hk hn)
    · cases he
  | pop =>
    dsimp only [astp] at he
    have h1 := of_decide_eq_true hi
    subst h1
    split at he
    · cases he
      exact lv_pop hx hb hd rfl (kk ad H locs ls k n hn0 had hP hD hS hl hk hn)
    · cases he
      exact lv_pop hx hb hd rfl (kk ad H locs ls k n hn0 had hP hD hS hl hk hn)
    · cases he
  | goto o9 =>
    dsimp only [astp] at he
    cases he
    rw [Bool.and_eq_true] at hi
    have h1 := of_decide_eq_true hi.1
    have h2 := of_decide_eq_true hi.2
    subst h2
    exact lv_goto hx hb hd h1 (kk ad H locs ls k n hn0 had hP hD hS hl hk hn)
  | getfield i9 =>
    dsimp only [astp] at he
    rw [Bool.and_eq_true] at hi
    have h1 := of_decide_eq_true hi.1
    have h2 := hi.2
    subst h1
    split at he
    · rename_i o st
      split at he
      · rename_i ci fs ho
        split at he
        · rename_i v hc hv
          cases he
          have hc := Nat.eq_of_beq_eq_true hc
          subst hc
          split at h2
          · rename_i q hq
            obtain ⟨C0, T0, N0⟩ := q
            rw [Bool.and_eq_true] at h2
            exact va_get (D := D) (ci := ci) (C := C0) (T := T0) (N := N0) hx hb hts (CL_in _ _ _ _ hq) hown hK hP o (cW_get ho) hq r2 (of_decide_eq_true h2.1) (hts _ (List.mem_of_getElem? (of_decide_eq_true h2.2))) (fun _ z => z) (by rw [List.getElem?_map, hv]; rfl) hd (kk ad H locs ls k n hn0 had hP hD hS hl hk hn)
          · cases h2
        · cases he
      · cases he
    · cases he
  | putfield i9 =>
    dsimp only [astp] at he
    rw [Bool.and_eq_true] at hi
    have h1 := of_decide_eq_true hi.1
    have h2 := hi.2
    subst h1
    split at he
    · rename_i v o st
      split at he
      · rename_i ci fs ho
        have hPq := cW_get (ad := ad) (cA := cA) ho
        split at h2
        · rename_i q hq
          obtain ⟨C0, T0, N0⟩ := q
          obtain ⟨ty0, hty0, hnm0⟩ := CL_ty _ _ _ _ hq
          rw [Bool.and_eq_true, Bool.and_eq_true] at h2
          obtain ⟨⟨h21, h22⟩, h23⟩ := h2
          have h21 := of_decide_eq_true h21
          have h22 := hts _ (List.mem_of_getElem? (of_decide_eq_true h22))
          split at he
          · rename_i y x hc hv hi9
            cases he
            have hc := Nat.eq_of_beq_eq_true hc
            subst hc
            have hlt : r2 < (fs.map (cV ad)).length := by rw [List.length_map]; exact (List.getElem?_eq_some_iff.mp hv).1
            dsimp only [okP] at h23
            rw [Bool.and_eq_true] at h23
            have h24 := of_decide_eq_true h23.1
            have h25 := of_decide_eq_true h23.2
            refine va_put (D := D) (ci := ci) (v := cV ad (.int x)) (ty := .int) (C := C0) (T := T0) (N := N0) hx hb hts (CL_in _ _ _ _ hq) ty0 hty0 hnm0 hown hK hP hD hS o hPq hq r2 h21 h22 (fun _ z => z) h25 h24 rfl rfl hlt hd (fun H1 locs1 hP1 hD1 hS1 => ?_)
            rw [cE_fields, cW_set] at hP1 hD1
            exact kk ad H1 locs1 ls k n (by rw [List.length_set]; exact hn0) (by rw [List.length_set]; exact had) hP1 hD1 hS1 hl hk hn
          · rename_i y x hc hv hi9
            cases he
            have hc := Nat.eq_of_beq_eq_true hc
            subst hc
            have hlt : r2 < (fs.map (cV ad)).length := by rw [List.length_map]; exact (List.getElem?_eq_some_iff.mp hv).1
            dsimp only [okP] at h23
            rw [Bool.and_eq_true] at h23
            have h24 := of_decide_eq_true h23.1
            have h25 := of_decide_eq_true h23.2
            refine va_put (D := D) (ci := ci) (v := cV ad (.int x)) (ty := .boolean) (C := C0) (T := T0) (N := N0) hx hb hts (CL_in _ _ _ _ hq) ty0 hty0 hnm0 hown hK hP hD hS o hPq hq r2 h21 h22 (fun _ z => z) h25 h24 (hg _ List.mem_cons_self) (isZ_fits (hg _ List.mem_cons_self)) hlt hd (fun H1 locs1 hP1 hD1 hS1 => ?_)
            rw [cE_fields, cW_set] at hP1 hD1
            exact kk ad H1 locs1 ls k n (by rw [List.length_set]; exact hn0) (by rw [List.length_set]; exact had) hP1 hD1 hS1 hl hk hn
          · rename_i y x hc hv hi9
            cases he
            have hc := Nat.eq_of_beq_eq_true hc
            subst hc
            have hlt : r2 < (fs.map (cV ad)).length := by rw [List.length_map]; exact (List.getElem?_eq_some_iff.mp hv).1
            dsimp only [okP] at h23
            rw [Bool.and_eq_true] at h23
            obtain ⟨ty, h24, h26⟩ := isOT_spec h23.1 (ad x)
            have h25 := of_decide_eq_true h23.2
            refine va_put (D := D) (ci := ci) (v := cV ad (.ref x)) (ty := ty) (C := C0) (T := T0) (N := N0) hx hb hts (CL_in _ _ _ _ hq) ty0 hty0 hnm0 hown hK hP hD hS o hPq hq r2 h21 h22 (fun _ z => z) h25 h24 h26.1 h26.2 hlt hd (fun H1 locs1 hP1 hD1 hS1 => ?_)
            rw [cE_fields, cW_set] at hP1 hD1
            exact kk ad H1 locs1 ls k n (by rw [List.length_set]; exact hn0) (by rw [List.length_set]; exact had) hP1 hD1 hS1 hl hk hn
          · rename_i x hc hv hi9
            cases he
            have hc := Nat.eq_of_beq_eq_true hc
            subst hc
            have hlt : r2 < (fs.map (cV ad)).length := by rw [List.length_map]; exact (List.getElem?_eq_some_iff.mp hv).1
            dsimp only [okP] at h23
            rw [Bool.and_eq_true, Bool.and_eq_true, Bool.and_eq_true] at h23
            obtain ⟨ty, h24, h26⟩ := isOT_spec h23.1.1.1 (ad x)
            have h25 := of_decide_eq_true h23.1.1.2
            refine va_putF (D := D) (ci := ci) (v := cV ad (.ref x)) (ty := ty) (C := C0) (T := T0) (N := N0) hx hb hts (CL_in _ _ _ _ hq) ty0 hty0 hnm0 hown hK hP hD hS o hPq hq r2 h21 h22 (fun _ z => z) h25 (hin h23.1.2) (of_decide_eq_true h23.2) h24 h26.1 h26.2 hlt hd (fun H1 locs1 hP1 hD1 hS1 => ?_)
            rw [cE_fields, cW_set] at hP1 hD1
            exact kk ad H1 locs1 ls k n (by rw [List.length_set]; exact hn0) (by rw [List.length_set]; exact had) hP1 hD1 hS1 hl hk hn
          · cases he
        · cases h2
      · cases he
    · cases he
  | arraylength =>
    dsimp only [astp] at he
    have h1 := of_decide_eq_true hi
    subst h1
    split at he
    · rename_i a st
      split at he
      · rename_i nn x ha
        cases he
        exact va_alen hx hb hK hP a 0 (cW_get ha) rfl rfl hd (kk ad H locs ls k n hn0 had hP hD hS hl hk hn)
      · cases he
    · cases he
  | iaload =>
    dsimp only [astp] at he
    have h1 := of_decide_eq_true hi
    subst h1
    split at he
    · rename_i i a st
      split at he
      · rename_i nn f ha
        cases he
        exact va_iald hx hb hK hP a 0 (cW_get ha) rfl (hg _ List.mem_cons_self) hd (kk ad H locs ls k n hn0 had hP hD hS hl hk hn)
      · cases he
    · cases he
  | laload =>
    dsimp only [astp] at he
    have h1 := of_decide_eq_true hi
    subst h1
    split at he
    · rename_i i a st
      split at he
      · rename_i nn f ha
        cases he
        exact va_lald hx hb hK hP a 1 (cW_get ha) rfl (hg _ List.mem_cons_self) hd (kk ad H locs ls k n hn0 had hP hD hS hl hk hn)
      · cases he
    · cases he
  | baload =>
    dsimp only [astp] at he
    have h1 := of_decide_eq_true hi
    subst h1
    split at he
    · rename_i i a st
      split at he
      · rename_i nn f ha
        cases he
        exact va_bald hx hb hK hP a 2 (cW_get ha) rfl (hg _ List.mem_cons_self) hd (kk ad H locs ls k n hn0 had hP hD hS hl hk hn)
      · rename_i nn f ha
        cases he
        exact va_zald hx hb hK hP a 3 (cW_get ha) rfl (hg _ List.mem_cons_self) hd (kk ad H locs ls k n hn0 had hP hD hS hl hk hn)
      · cases he
    · cases he
  | iastore =>
    dsimp only [astp] at he
    have h1 := of_decide_eq_true hi
    subst h1
    split at he
    · rename_i x i a st
      split at he
      · rename_i nn f ha
        cases he
        refine va_iast hx hb hK hP hD hS a 0 (cW_get ha) rfl (hg _ List.mem_cons_self) hd (fun H1 locs1 hP1 hD1 hS1 => ?_)
        have e1 := cW_set ad cA h a (.inl (0, nn, .inl (upd f i.toNatClampNeg x)))
        refine kk ad H1 locs1 ls k n (by rw [List.length_set]; exact hn0) (by rw [List.length_set]; exact had) ?_ ?_ hS1 hl hk hn
        · rw [← e1]; exact hP1
        · rw [← e1]; exact hD1
      · cases he
    · cases he
  | lastore =>
    dsimp only [astp] at he
    have h1 := of_decide_eq_true hi
    subst h1
    split at he
    · rename_i x i a st
      split at he
      · rename_i nn f ha
        cases he
        refine va_last hx hb hK hP hD hS a 1 (cW_get ha) rfl (hg _ List.mem_cons_self) hd (fun H1 locs1 hP1 hD1 hS1 => ?_)
        have e1 := cW_set ad cA h a (.inl (1, nn, .inr (.inl (vp_updL f i.toNatClampNeg x))))
        refine kk ad H1 locs1 ls k n (by rw [List.length_set]; exact hn0) (by rw [List.length_set]; exact had) ?_ ?_ hS1 hl hk hn
        · rw [← e1]; exact hP1
        · rw [← e1]; exact hD1
      · cases he
    · cases he
  | bastore =>
    dsimp only [astp] at he
    have h1 := of_decide_eq_true hi
    subst h1
    split at he
    · rename_i x i a st
      split at he
      · rename_i nn f ha
        cases he
        refine va_bast hx hb hK hP hD hS a 2 (cW_get ha) rfl (hg _ List.mem_cons_self) hd (fun H1 locs1 hP1 hD1 hS1 => ?_)
        have e1 := cW_set ad cA h a (.inl (2, nn, .inl (upd f i.toNatClampNeg (vp_nar .byte x))))
        refine kk ad H1 locs1 ls k n (by rw [List.length_set]; exact hn0) (by rw [List.length_set]; exact had) ?_ ?_ hS1 hl hk hn
        · rw [← e1]; exact hP1
        · rw [← e1]; exact hD1
      · rename_i nn f ha
        cases he
        refine va_zast hx hb hK hP hD hS a 3 (cW_get ha) rfl (hg _ List.mem_cons_self) hd (fun H1 locs1 hP1 hD1 hS1 => ?_)
        have e1 := cW_set ad cA h a (.inl (3, nn, .inl (upd f i.toNatClampNeg (vp_nar .boolean x))))
        refine kk ad H1 locs1 ls k n (by rw [List.length_set]; exact hn0) (by rw [List.length_set]; exact had) ?_ ?_ hS1 hl hk hn
        · rw [← e1]; exact hP1
        · rw [← e1]; exact hD1
      · cases he
    · cases he
  | _ =>
    dsimp only [astp] at he
    cases he
