/-! STRETCHES, BRANCHES, RETURNS, CONTRACTS -/
theorem MW_runL {X : CTX} {b : ByteArray} {own : String} {ini : Bool} {fr lo : Nat} (C : CX X b own ini fr lo) : ∀ (blk : List CI), (∀ ci ∈ blk, okI own ini b ci = true) → ∀ (cf cf' : AC) (gs : List Prop), brun blk cf = some (gs, cf') → (∀ g ∈ gs, g) → MW X cf' → MW X cf
  | [], _, cf, cf', gs, he, _, k => by cases he; exact k
  | i :: r, hb, cf, cf', gs, he, hg, k => by
    unfold brun at he
    split at he
    · cases he
    · rename_i hpc
      split at he
      · cases he
      · rename_i gs1 c1 h1
        split at he
        · cases he
        · rename_i gs2 c2 h2
          cases he
          exact MW_step C (hb i List.mem_cons_self) (Nat.eq_of_beq_eq_true hpc) h1 (fun g h => hg g (List.mem_append_left _ h)) (MW_runL C r (fun ci h => hb ci (List.mem_cons_of_mem _ h)) c1 cf' gs2 h2 (fun g h => hg g (List.mem_append_right _ h)) k)
theorem MW_run {X : CTX} {b : ByteArray} {own : String} {ini : Bool} {fr lo : Nat} (C : CX X b own ini fr lo) {tab : List CI} (ht : tab.all (okI own ini b) = true) (i n : Nat) {cf cf' : AC} {gs : List Prop} (he : brun ((tab.drop i).take n) cf = some (gs, cf')) (hg : AllP gs) (k : MW X cf') : MW X cf :=
  MW_runL C _ (fun ci h => List.all_eq_true.mp ht ci (List.mem_of_mem_drop (List.mem_of_mem_take h))) cf cf' gs he (AllP_all hg) k
/-- a branch: what is asked, whether 'yes' goes on straight, the rest of the stack -/
def bcnd : Instr → List Value → Option (Prop × Bool × List Value)
  | I, st => match I with
    | .if_icmp c _ => match st with
      | .int y :: .int x :: r => match c with
        | .eq => some (x = y, false, r)
        | .ne => some (x = y, true, r)
        | .lt => some (x < y, false, r)
        | .ge => some (x < y, true, r)
        | .gt => some (y < x, false, r)
        | .le => some (y < x, true, r)
      | _ => none
    | .ifCond c _ => match st with
      | .int x :: r => match c with
        | .eq => some (x = 0, false, r)
        | .ne => some (x = 0, true, r)
        | .lt => some (x < 0, false, r)
        | .ge => some (x < 0, true, r)
        | .gt => some (0 < x, false, r)
        | .le => some (0 < x, true, r)
      | _ => none
    | _ => none
theorem i_nlt {x y : Int32} (h : ¬ x < y) : y ≤ x := Int32.not_lt.mp h
theorem i_nle {x y : Int32} (h : ¬ x ≤ y) : y < x := Int32.not_le.mp h
theorem i_ltn {x y : Int32} (h : y ≤ x) : ¬ x < y := Int32.not_lt.mpr h
theorem MW_br {X : CTX} {b : ByteArray} {own : String} {ini : Bool} {fr lo : Nat} (C : CX X b own ini fr lo) {tab : List CI} (ht : tab.all (okI own ini b) = true) (i : Nat) {pc tgt : Nat} {vs : List (Option Value)} {st r : List Value} {h : AH} {bk bn : Nat} {I : Instr} {r2 r3 : Nat} {cv : Value} {P : Prop} {sw : Bool}
    (hc : tab[i]? = some (pc, 3, I, tgt, r2, r3, cv)) (hb : bcnd I st = some (P, sw, r)) (kt : P → MW X (bif sw then pc + 3 else tgt, vs, r, h, bk, bn)) (kf : ¬ P → MW X (bif sw then tgt else pc + 3, vs, r, h, bk, bn)) : MW X (pc, vs, st, h, bk, bn) := by
  have hi : okI own ini b (pc, 3, I, tgt, r2, r3, cv) = true := List.all_eq_true.mp ht _ (List.mem_of_getElem? hc)
  obtain ⟨p, l, e, R, s, m, args, below, meth, c, D, cA, ad0, n0, A, mc, ms, Q⟩ := X
  obtain ⟨hx, hcb, hown, hts, hK, hlk, hA, hin, hRc, hRs, hfr, hlo, hNW⟩ := C
  have hd := okI_dec hi
  dsimp only at hd
  unfold okI at hi
  rw [Bool.and_eq_true] at hi
  have hi := hi.2
  dsimp only at hi
  intro ad H locs ls k n hn0 had hP hD hS hl hk hn
  cases I with
  | if_icmp cc off =>
    dsimp only at hi
    rw [Bool.and_eq_true] at hi
    have htg := of_decide_eq_true hi.1
    dsimp only [bcnd] at hb
    split at hb
    · rename_i y x r
      cases cc <;> (dsimp only at hb; cases hb)
      · exact lv_icmp_eq hx hcb hd htg (fun q => kt q ad H locs ls k n hn0 had hP hD hS hl hk hn) (fun q => kf q ad H locs ls k n hn0 had hP hD hS hl hk hn)
      · exact lv_icmp_ne hx hcb hd htg (fun q => kf q ad H locs ls k n hn0 had hP hD hS hl hk hn) (fun q => kt q ad H locs ls k n hn0 had hP hD hS hl hk hn)
      · exact lv_icmp_lt hx hcb hd htg (fun q => kt q ad H locs ls k n hn0 had hP hD hS hl hk hn) (fun q => kf q ad H locs ls k n hn0 had hP hD hS hl hk hn)
      · exact lv_icmp_ge hx hcb hd htg (fun q => kf (i_ltn q) ad H locs ls k n hn0 had hP hD hS hl hk hn) (fun q => kt (i_nle q) ad H locs ls k n hn0 had hP hD hS hl hk hn)
      · exact lv_icmp_gt hx hcb hd htg (fun q => kt q ad H locs ls k n hn0 had hP hD hS hl hk hn) (fun q => kf q ad H locs ls k n hn0 had hP hD hS hl hk hn)
      · exact lv_icmp_le hx hcb hd htg (fun q => kf (i_ltn q) ad H locs ls k n hn0 had hP hD hS hl hk hn) (fun q => kt (i_nle q) ad H locs ls k n hn0 had hP hD hS hl hk hn)
    · cases hb
  | ifCond cc off =>
    dsimp only at hi
    rw [Bool.and_eq_true] at hi
    have htg := of_decide_eq_true hi.1
    dsimp only [bcnd] at hb
    split at hb
    · rename_i x r
      cases cc <;> (dsimp only at hb; cases hb)
      · exact lv_if_eq hx hcb hd htg (fun q => kt q ad H locs ls k n hn0 had hP hD hS hl hk hn) (fun q => kf q ad H locs ls k n hn0 had hP hD hS hl hk hn)
      · exact lv_if_ne hx hcb hd htg (fun q => kf q ad H locs ls k n hn0 had hP hD hS hl hk hn) (fun q => kt q ad H locs ls k n hn0 had hP hD hS hl hk hn)
      · exact lv_if_lt hx hcb hd htg (fun q => kt q ad H locs ls k n hn0 had hP hD hS hl hk hn) (fun q => kf q ad H locs ls k n hn0 had hP hD hS hl hk hn)
      · exact lv_if_ge hx hcb hd htg (fun q => kf (i_ltn q) ad H locs ls k n hn0 had hP hD hS hl hk hn) (fun q => kt (i_nle q) ad H locs ls k n hn0 had hP hD hS hl hk hn)
      · exact lv_if_gt hx hcb hd htg (fun q => kt q ad H locs ls k n hn0 had hP hD hS hl hk hn) (fun q => kf q ad H locs ls k n hn0 had hP hD hS hl hk hn)
      · exact lv_if_le hx hcb hd htg (fun q => kf (i_ltn q) ad H locs ls k n hn0 had hP hD hS hl hk hn) (fun q => kt (i_nle q) ad H locs ls k n hn0 had hP hD hS hl hk hn)
    · cases hb
  | _ => dsimp only [bcnd] at hb; cases hb
/-- fewer locals are said -/
def pick : List Bool → List (Option Value) → List (Option Value)
  | [], _ => []
  | _, [] => []
  | c :: cs, v :: vs => (bif c then v else none) :: pick cs vs
theorem pick_of : ∀ (cs : List Bool) (vs : List (Option Value)) (i : Nat) (v : Value), (pick cs vs)[i]? = some (some v) → vs[i]? = some (some v)
  | [], vs, i, v, h => by cases vs <;> simp [pick] at h
  | c :: cs, [], i, v, h => by simp [pick] at h
  | c :: cs, w :: vs, 0, v, h => by
    cases c <;> simp [pick] at h
    simp [h]
  | c :: cs, w :: vs, i + 1, v, h => by
    simp [pick] at h
    simpa using pick_of cs vs i v h
theorem pick_len : ∀ (cs : List Bool) (vs : List (Option Value)), cs.length = vs.length → (pick cs vs).length = vs.length
  | [], [], _ => rfl
  | [], w :: vs, h => by cases h
  | c :: cs, [], h => by cases h
  | c :: cs, w :: vs, h => by simp [pick, pick_len cs vs (by simpa using h)]
theorem MW_pick {X : CTX} {pc : Nat} {vs vs' : List (Option Value)} {st : List Value} {h : AH} {bk bn : Nat} (cs : List Bool) (hl : cs.length = vs.length) (he : pick cs vs = vs') (k : MW X (pc, vs', st, h, bk, bn)) : MW X (pc, vs, st, h, bk, bn) := by
  subst he
  obtain ⟨p, l, e, R, s, m, args, below, meth, c, D, cA, ad0, n0, A, mc, ms, Q⟩ := X
  intro ad H locs ls kk n hn0 had hP hD hS hL hk hn
  exact k ad H locs ls kk n hn0 had hP hD hS ⟨by rw [pick_len cs vs hl]; exact hL.1, hL.2.1, hL.2.2.1, fun i v hv => hL.2.2.2 i v (pick_of cs vs i v hv)⟩ hk hn
theorem MW_eq {X : CTX} {cf cf' : AC} (e : cf = cf') (k : MW X cf') : MW X cf := e ▸ k
/-- the end of a method: its answer and the cells as K says -/
def QK (D : va_G) (cA : Nat → ClassId) (n0 : Nat) (ad0 : Nat → Nat) (A : Nat → Prop) (K : Option Value → AH → Prop) : Array Value → State → Outcome → State → Prop := fun _ st o t =>
  (∃ (v : Option Value) (ad : Nat → Nat) (h : AH), o = .returned (v.map (cV ad)) ∧ (∀ i, i < n0 ∨ h.length ≤ i → ad i = ad0 i) ∧ n0 ≤ h.length ∧ K v h ∧ va_P D CL (cW ad cA h) t.heap ∧ va_K D CL (tysOf cA) t ∧ va_D A (cW ad cA h)) ∧ va_F A st t
