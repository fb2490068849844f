/-! THE CLAIM OUT OF ONE WALK OF THE LAW'S BODY. Your part is whole_start (and what it stands on); all else here is the same for every law, but numbers. -/
def R_law : String := "SidingOrdersLaw"
def lw_P (b : Addr) (xs : List Int32) (args : Array Value) (s : State) : Prop := args = #[.ref b] ∧ s.IntsAt b xs ∧ xs.length ≤ 2048 ∧ (Jvm.Cond.and given_1 narrow_1).before args s = true
def lw_Q (_ : Array Value) (s : State) (o : Outcome) (t : State) : Prop := o = .returned (some (.int 1)) ∧ Framed s o t [] 600000 7302250
def lw_Z (below : List Frame) (a : Array Value) (s : State) : State → Prop := fun t => ∃ o, t.status = .running ∧ Ended t below o ∧ lw_Q a s o t
/-- the law's own end, with 1 on the stack, nothing written that was there before, its room as the claim has it -/
theorem lw_ret {p : Program} {l : Launch} {e : Env} {s : State} {m : MethodId} {below : List Frame} {meth : Method} {c : Code} {b : Nat} (hx : p.tables.exec = Jvm.exec) (hb : c.code = code) (hr : meth.sig.returnType = ret) (hlocks : meth.locks = false) {pc : Nat} {H : Heap} {ls : Array Slot} (hdg : decode code pc = .ok (.ireturn, 1)) : W p l e room_1 s m #[Value.ref b] below meth c H [] 600000 7302250 (lw_Z below #[Value.ref b] s) (F0 m pc ls [.int 1]) := by
  intro T hT X
  obtain ⟨fs, hret, hrun, hended, hW, hframe⟩ := X.leave (v := some (.int 1)) (hlocks := hlocks) (fun h => by rw [hr] at h; cases h)
  have hmeth' : T.vm.method? m = some meth := X.method'
  refine ⟨T.setFrames fs, ?_, .returned (some (.int 1)), hrun, hended, rfl, ⟨_, rfl⟩, hW, hframe⟩
  jvm_step X.here [X.here.top, hx, hb, hdg, hmeth', hr, ret, narrow_b1]
  (try refine ⟨rfl, ?_⟩); (try refine ⟨rfl, ?_⟩)
  first | (intro acts; rw [hret _ acts rfl rfl rfl]) | rw [hret _ _ rfl rfl rfl]
  exact Steps.refl _
/-- what holds at the law's entry: the machine, the code, the tables' words (any of lw_tbl by 'hts w (by decide +kernel)'), the script of L ints xs at the cell b, what the Statement gives of the start (any of its parts by flat_of_before) -/
def lw_At (p : Program) (s : State) (m : MethodId) (meth : Method) (c : Code) (b L : Nat) (xs : Nat → Int32) : Prop :=
  p.tables.exec = Jvm.exec ∧ c.code = code ∧ meth.sig.returnType = ret ∧ c.maxLocals = 4 ∧ s.vm.findClass R_law = some m.cls ∧ (∀ w ∈ lw_tbl, w.before #[Value.ref b] s = true) ∧ va_X b L xs s s.heap ∧ b < s.heap.size ∧ meth.locks = false ∧ (Jvm.Cond.and given_1 narrow_1).before #[Value.ref b] s = true
/-! the script lies outside the cells, as reference 1000 -/
def SX (X : CTX) (b L : Nat) (xs : Nat → Int32) : Prop :=
  match X with
  | (_, _, _, _, s, _, _, _, _, _, _, _, ad0, _, A, _, _, _) => va_X b L xs s s.heap ∧ b < s.heap.size ∧ ¬ A b ∧ ad0 1000 = b
section
variable {X : CTX} {b0 : ByteArray} {own : String} {ini : Bool} {fr lo : Nat} {tab : List CI} {pc r1 r2 r3 : Nat} {cv : Value} {vs : List (Option Value)} {st : List Value} {h : AH} {bk bn b L : Nat} {xs : Nat → Int32}
theorem MW_sld (C : CX X b0 own ini fr lo) (ht : tab.all (okI own ini b0) = true) (i : Nat) (hS : SX X b L xs) (hc0 : tab[i]? = some (pc, 1, .iaload, r1, r2, r3, cv)) {j : Int32} (hj : inb j L) (hl9 : Nat.blt h.length 1000 = true)
    (kk : MW X (pc + 1, vs, .int (xs j.toNatClampNeg) :: st, h, bk, bn)) : MW X (pc, vs, .int j :: .ref 1000 :: st, h, bk, bn) := by
  have hi : okI own ini b0 (pc, 1, .iaload, r1, r2, r3, cv) = true := List.all_eq_true.mp ht _ (List.mem_of_getElem? hc0)
  obtain ⟨p, l, e, R, s, m, args, below, meth, c, D, cA, ad0, n0, A, mc, ms, Q⟩ := X
  obtain ⟨hx, hcb, hown, hts, hK, hlk, hA, hin, hRc, hRs, hfr, hlo, hNW⟩ := C
  obtain ⟨hX, hbl, hbA, h1000⟩ := hS
  have hdg := okI_dec hi
  have hl9 : h.length < 1000 := by simpa [Nat.blt_eq] using hl9
  intro ad H locs ls k n hn0 had hP hD hS1 hl hk hn
  have e9 : ad 1000 = b := by rw [had 1000 (Or.inr (by omega)), h1000]
  have := va_sld (rest := st.map (cV ad)) hx hcb hX hbl hbA hS1 hj hdg (kk ad H locs ls k n hn0 had hP hD hS1 hl hk hn)
  rw [← e9] at this
  exact this
theorem MW_slen (C : CX X b0 own ini fr lo) (ht : tab.all (okI own ini b0) = true) (i : Nat) (hS : SX X b L xs) (hc0 : tab[i]? = some (pc, 1, .arraylength, r1, r2, r3, cv)) (hl9 : Nat.blt h.length 1000 = true)
    (kk : MW X (pc + 1, vs, .int (Int32.ofNat L) :: st, h, bk, bn)) : MW X (pc, vs, .ref 1000 :: st, h, bk, bn) := by
  have hi : okI own ini b0 (pc, 1, .arraylength, r1, r2, r3, cv) = true := List.all_eq_true.mp ht _ (List.mem_of_getElem? hc0)
  obtain ⟨p, l, e, R, s, m, args, below, meth, c, D, cA, ad0, n0, A, mc, ms, Q⟩ := X
  obtain ⟨hx, hcb, hown, hts, hK, hlk, hA, hin, hRc, hRs, hfr, hlo, hNW⟩ := C
  obtain ⟨hX, hbl, hbA, h1000⟩ := hS
  have hdg := okI_dec hi
  have hl9 : h.length < 1000 := by simpa [Nat.blt_eq] using hl9
  intro ad H locs ls k n hn0 had hP hD hS1 hl hk hn
  have e9 : ad 1000 = b := by rw [had 1000 (Or.inr (by omega)), h1000]
  have := va_slen (rest := st.map (cV ad)) hx hcb hX hbl hbA hS1 hdg (kk ad H locs ls k n hn0 had hP hD hS1 hl hk hn)
  rw [← e9] at this
  exact this
end
theorem MW_lend {p : Program} {l : Launch} {e : Env} {s : State} {m : MethodId} {below : List Frame} {meth : Method} {c : Code} {D : va_G} {cA : Nat → ClassId} {ad0 : Nat → Nat} {b : Nat} (hx : p.tables.exec = Jvm.exec) (hb : c.code = code) (hr : meth.sig.returnType = ret) (hlocks : meth.locks = false) {pc : Nat} {vs : List (Option Value)} {h : AH} {bk bn : Nat} (hdg : decode code pc = .ok (.ireturn, 1)) :
    MW (p, l, e, room_1, s, m, #[Value.ref b], below, meth, c, D, cA, ad0, 0, (fun q => s.heap.size ≤ q), 600000, 7302250, lw_Z below #[Value.ref b] s) (pc, vs, [.int 1], h, bk, bn) := by
  intro ad H locs ls k n hn0 had hP hD hS1 hl hk hn
  refine va_forget (fun q hq => hS1.2.2 q hq) ?_
  refine W.widen (k := 600000) (n := 7302250) (by omega) (by omega) ?_
  exact lw_ret hx hb hr hlocks hdg
