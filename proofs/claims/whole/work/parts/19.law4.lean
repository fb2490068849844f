theorem CL_inst : CL.all (fun q => decide (Cond.instantiable q.1 q.2.2 ∈ TG)) = true := by decide +kernel
theorem AR_in : ∀ ty ∈ [FieldType.int, .long, .byte, .boolean], Cond.arrayClass ty ∈ TG := by decide +kernel
theorem NW_tab : ∀ w ∈ NW, w.onTables = true := by
  intro w hw
  have h := (List.mem_filter.mp hw).2
  cases w <;> simp [isNest] at h <;> rfl
theorem endI : decode code 883 = .ok (.ireturn, 1) := by decide +kernel
theorem MW_app {p : Program} {l : Launch} {e : Env} {R : Room} {s : State} {m : MethodId} {args : Array Value} {below : List Frame} {meth : Method} {c : Code} {D : va_G} {cA : Nat → ClassId} {ad0 : Nat → Nat} {n0 : Nat} {A : Nat → Prop} {mc ms : Nat} {Q : State → Prop} {pc : Nat} {vs : List (Option Value)} {st : List Value} {h : AH} {bk bn : Nat}
    (hw : MW (p, l, e, R, s, m, args, below, meth, c, D, cA, ad0, n0, A, mc, ms, Q) (pc, vs, st, h, bk, bn)) : ∀ (ad : Nat → Nat) (H : Heap) (locs : List Loc) (ls : Array Slot) (k n : Nat), n0 ≤ h.length → (∀ i, i < n0 ∨ h.length ≤ i → ad i = ad0 i) → va_P D CL (cW ad cA h) H → va_D A (cW ad cA h) → va_S A s.heap H locs → LH ad c.maxLocals vs ls → k + bk ≤ mc → n + bn ≤ ms →
      W p l e R s m args below meth c H locs k n Q (F0 m pc ls (st.map (cV ad))) := hw
set_option maxHeartbeats 4000000 in
theorem whole_of (Inv : Nat → SoS → Nat → MS → Prop)
    (HI : ∀ (n : Nat) (s : SoS) (yr : Nat) (σ : MS), n < 512 → Inv n s yr σ → ∀ (k : Nat) (a b c : Int32), k < 28 → k ≠ 7 → k ≠ 11 → ∃ (r : Int32) (s2 : SoS) (yr2 : Nat) (σ2 : MS), callXI k a b c s yr = some (r, s2, yr2) ∧ callMI k a b c σ = some (r, σ2) ∧ Inv (n + 1) s2 yr2 σ2)
    (HL : ∀ (n : Nat) (s : SoS) (yr : Nat) (σ : MS), n < 512 → Inv n s yr σ → ∀ (k : Nat) (a b c : Int32), k = 7 ∨ k = 11 → ∃ (r : Int64) (s2 : SoS) (yr2 : Nat) (σ2 : MS), callXL k a b c s yr = some (r, s2, yr2) ∧ callML k a b c σ = some (r, σ2) ∧ Inv (n + 1) s2 yr2 σ2)
    (HY : ∀ (n : Nat) (s : SoS) (yr : Nat) (σ : MS), Inv n s yr σ → yr = 3 ∨ yr = 80)
    (HM : ∀ (n : Nat) (s : SoS) (yr : Nat) (σ : MS), Inv n s yr σ → Inv (n + 1) s yr σ)
    (H0 : ∃ out, so_init soI = some out ∧ Inv 0 out 3 mI0)
    {p : Program} {e : Env} {s : State} {m : MethodId} {below : List Frame} {meth : Method} {c : Code} (l : Launch) {b L : Nat} {xs : Nat → Int32} (hL : L ≤ 2048) (C0 : lw_At p s m meth c b L xs) : W p l e room_1 s m #[Value.ref b] below meth c s.heap [] 0 0 (lw_Z below #[Value.ref b] s) (entryFrame m ([Value.ref b] : List Value).toArray 4) := by
  obtain ⟨hx, hb, hr, hml, hown, hts, hX, hbl, hlocks, hgv⟩ := id C0
  have hbA : ¬ (fun q : Nat => s.heap.size ≤ q) b := Nat.not_le.mpr hbl
  have htg : ∀ w ∈ TG, w.before #[Value.ref b] s = true := fun w hw => hts w (TG_in w hw)
  have hk1 : ∀ k : Nat, ∃ (c1 : ClassId) (iS : Nat → Nat), ∀ q : vw_C, CL[k]? = some q → u_Kn s q.1 q.2.1 q.2.2 c1 iS := by
    intro k
    cases hq : CL[k]? with
    | none => exact ⟨m.cls, fun _ => 0, fun q h => by cases h⟩
    | some q =>
      obtain ⟨Cn, T, N⟩ := q
      have hi := of_decide_eq_true (List.all_eq_true.mp CL_inst _ (List.mem_of_getElem? hq))
      obtain ⟨c1, iS, h⟩ := u_known (C := Cn) (T := T) (N := N) (n := N) htg (CL_in k Cn T N hq) (htg _ hi)
      exact ⟨c1, iS, fun q h9 => by cases h9; exact h⟩
  have hk2 : ∀ ty ∈ [FieldType.int, .long, .byte, .boolean], ∃ cA : ClassId, ArrOfT s cA ty ∧ s.vm.findClass ("[" ++ ty.toString) = some cA := by
    intro ty hty
    obtain ⟨c1, k1, comp, h1, h2, h3⟩ := Cond.arrayClass_spec (htg _ (AR_in ty hty))
    exact ⟨c1, fun n z => ⟨(fun k h => nomatch h), k1, h2, comp, h3⟩, h1⟩
  obtain ⟨a0, ha0, hb0⟩ := hk2 .int (by simp)
  obtain ⟨a1, ha1, hb1⟩ := hk2 .long (by simp)
  obtain ⟨a2, ha2, hb2⟩ := hk2 .byte (by simp)
  obtain ⟨a3, ha3, hb3⟩ := hk2 .boolean (by simp)
  let dC : Nat → ClassId := fun k => Classical.choose (hk1 k)
  let dI : Nat → Nat → Nat := fun k => Classical.choose (Classical.choose_spec (hk1 k))
  have hdk : ∀ (k : Nat) (q : vw_C), CL[k]? = some q → u_Kn s q.1 q.2.1 q.2.2 (dC k) (dI k) := fun k q hq => Classical.choose_spec (Classical.choose_spec (hk1 k)) q hq
  let cA : Nat → ClassId := fun t => if t = 0 then a0 else if t = 1 then a1 else if t = 2 then a2 else a3
  have hK : va_K (dC, dI) CL (tysOf cA) s := by
    refine ⟨hdk, fun k q hq => ?_⟩
    match k, hq with
    | 0, hq => cases hq; exact ⟨ha0, hb0⟩
    | 1, hq => cases hq; exact ⟨ha1, hb1⟩
    | 2, hq => cases hq; exact ⟨ha2, hb2⟩
    | 3, hq => cases hq; exact ⟨ha3, hb3⟩
    | k + 4, hq => simp [tysOf] at hq
  have C : CX (p, l, e, room_1, s, m, #[Value.ref b], below, meth, c, (dC, dI), cA, (fun _ => b), 0, (fun q => s.heap.size ≤ q), 600000, 7302250, lw_Z below #[Value.ref b] s) code RL false 2048 84000 :=
    ⟨hx, hb, hown, htg, hK, hlocks, fun q h => h, (fun h => nomatch h), rfl, rfl, Nat.le_refl _, Nat.le_refl _, fun w hw => va_Nw.of (NW_tab w hw) (hts w (List.mem_filter.mp hw).1)⟩
  have hS : SX (p, l, e, room_1, s, m, #[Value.ref b], below, meth, c, (dC, dI), cA, (fun _ => b), 0, (fun q => s.heap.size ≤ q), 600000, 7302250, lw_Z below #[Value.ref b] s) b L xs := ⟨hX, hbl, hbA, rfl⟩
  have hw := law_all C hS hL Inv HI HL HY HM H0 (fun vs h => MW_lend hx hb hr hlocks endI)
  have hw := MW_app hw
  have hl := lv_entry ([.ref b]) (n := 4) (Nat.le_of_ble_eq_true rfl)
  rw [lg_entry_eq]
  generalize (lg_sl ([.ref b]) ++ List.replicate (4 - (lg_sl ([.ref b])).length) Slot.unset).toArray = ls at hl ⊢
  have hLH : LH (fun _ => b) c.maxLocals [some (.ref 1000), none, none, none] ls := by
    rw [hml]
    refine ⟨rfl, hl.1, hl.2.1, fun i v hv => ?_⟩
    match i, hv with
    | 0, hv => cases hv; exact hl.2.2 (0, .ref b) (by simp [lv_args])
    | 1, hv => cases hv
    | 2, hv => cases hv
    | 3, hv => cases hv
    | i + 4, hv => simp at hv
  exact hw (fun _ => b) s.heap [] ls 0 0 (Nat.le_refl _) (fun _ _ => rfl) (fun k q h => by simp [cW] at h) ⟨fun i j p q h => by simp [cW] at h, fun k q h => by simp [cW] at h⟩ va_S.rf hLH (by omega) (by omega)

