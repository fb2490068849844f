section
variable {X : CTX} {b L : Nat} {xs : Nat → Int32} {bk bn : Nat}
set_option maxRecDepth 100000 in
set_option maxHeartbeats 4000000 in
theorem law_case_unlike (C : CX X code RL false 2048 84000) (hS : SX X b L xs) {i : Int32} (h1 : inb (i + 1) L) (h2 : inb (i + 2) L) (h3 : inb (i + 3) L) {s s2 : SoS} {yr yr2 : Nat} {σ σ2 : MS} {r : Int32} (hy : yr = 3 ∨ yr = 80) (hy2 : yr2 = 3 ∨ yr2 = 80) (hx : callXI 14 (xs (i + 1).toNatClampNeg) (xs (i + 2).toNatClampNeg) (xs (i + 3).toNatClampNeg) s yr = some (r, s2, yr2)) (hm : callMI 14 (xs (i + 1).toNatClampNeg) (xs (i + 2).toNatClampNeg) (xs (i + 3).toNatClampNeg) σ = some (r, σ2))
    (kk : MW X (876, [some (.ref 1000), some (.ref 0), some (.ref 92), some (.int i)], [], hSo yr2 s2 ++ hMs σ2, bk, bn)) : MW X (544, [some (.ref 1000), some (.ref 0), some (.ref 92), some (.int i)], [], hSo yr s ++ hMs σ, bk, bn) := by
  refine MW_run C okL_law 322 5 (gs := []) (cf' := (549, [some (.ref 1000), some (.ref 0), some (.ref 92), some (.int i)], [.int (i + 1), .ref 1000, .ref 0], hSo yr s ++ hMs σ, bk, bn)) rfl trivial ?_
  refine MW_sld C okL_law 327 hS rfl h1 rfl ?_
  have hx : (so_unlike s yr (xs (i + 1).toNatClampNeg)).map (fun o => (o.1, o.2, yr)) = some (r, s2, yr2) := hx
  obtain ⟨o, ho, he⟩ := Option.map_eq_some_iff.mp hx
  obtain ⟨e1, e2⟩ := Prod.mk.inj he
  obtain ⟨e2, e3⟩ := Prod.mk.inj e2
  subst e1
  subst e2
  subst e3
  refine MW_callV1 C okL_law 328 rfl rX (v0 := some (.int (o.1))) (h0 := hSo yr o.2) (c_so_unlike s yr (xs (i + 1).toNatClampNeg)  o ho) lkL_74 1 dpX11_unlike (by decide) (rest := []) rfl rfl rfl rfl rfl rfl rfl rfl rfl (lX_m yr hy s σ) rfl (st2 := [.int (o.1)]) (h2 := hSo yr o.2 ++ hMs σ) rfl (lX_j yr yr hy2 s o.2 σ) ?_
  refine MW_run C okL_law 329 5 (gs := []) (cf' := (558, [some (.ref 1000), some (.ref 0), some (.ref 92), some (.int i)], [.int (i + 1), .ref 1000, .ref 92, .int (o.1)], hSo yr o.2 ++ hMs σ, bk, bn)) rfl trivial ?_
  refine MW_sld C okL_law 334 hS rfl h1 rfl ?_
  have hm : (m_unlike σ (xs (i + 1).toNatClampNeg)).map (fun w => (w.1, w.2)) = some (o.1, σ2) := hm
  obtain ⟨w, hw, hv⟩ := Option.map_eq_some_iff.mp hm
  obtain ⟨g1, g2⟩ := Prod.mk.inj hv
  subst g2
  refine MW_callV1 C okL_law 335 rfl rM (v0 := some (.int (w.1))) (h0 := hM w.2) (c_m_unlike σ (xs (i + 1).toNatClampNeg) w hw) lkL_77 1 dpX12_unlike (by decide) (rest := [.int (o.1)]) rfl rfl rfl rfl rfl rfl rfl rfl rfl (lM_m _ _ σ) rfl (st2 := [.int (w.1), .int (o.1)]) (h2 := hSo yr o.2 ++ hMs w.2) rfl (lM_j _ _ σ _) ?_
  exact MW_brT C okL_law 336 rfl rfl (fun _ => kk) (fun h9 => absurd g1.symm h9)
set_option maxRecDepth 100000 in
set_option maxHeartbeats 4000000 in
theorem law_case_play (C : CX X code RL false 2048 84000) (hS : SX X b L xs) {i : Int32} (h1 : inb (i + 1) L) (h2 : inb (i + 2) L) (h3 : inb (i + 3) L) {s s2 : SoS} {yr yr2 : Nat} {σ σ2 : MS} {r : Int32} (hy : yr = 3 ∨ yr = 80) (hy2 : yr2 = 3 ∨ yr2 = 80) (hx : callXI 15 (xs (i + 1).toNatClampNeg) (xs (i + 2).toNatClampNeg) (xs (i + 3).toNatClampNeg) s yr = some (r, s2, yr2)) (hm : callMI 15 (xs (i + 1).toNatClampNeg) (xs (i + 2).toNatClampNeg) (xs (i + 3).toNatClampNeg) σ = some (r, σ2))
    (kk : MW X (876, [some (.ref 1000), some (.ref 0), some (.ref 92), some (.int i)], [], hSo yr2 s2 ++ hMs σ2, bk, bn)) : MW X (567, [some (.ref 1000), some (.ref 0), some (.ref 92), some (.int i)], [], hSo yr s ++ hMs σ, bk, bn) := by
  refine MW_run C okL_law 339 5 (gs := []) (cf' := (572, [some (.ref 1000), some (.ref 0), some (.ref 92), some (.int i)], [.int (i + 1), .ref 1000, .ref 0], hSo yr s ++ hMs σ, bk, bn)) rfl trivial ?_
  refine MW_sld C okL_law 344 hS rfl h1 rfl ?_
  refine MW_run C okL_law 345 4 (gs := []) (cf' := (577, [some (.ref 1000), some (.ref 0), some (.ref 92), some (.int i)], [.int (i + 2), .ref 1000, .int (xs (i + 1).toNatClampNeg), .ref 0], hSo yr s ++ hMs σ, bk, bn)) rfl trivial ?_
  refine MW_sld C okL_law 349 hS rfl h2 rfl ?_
  have hx : (so_play s yr (xs (i + 1).toNatClampNeg) (xs (i + 2).toNatClampNeg)).map (fun o => (o.1, o.2, yr)) = some (r, s2, yr2) := hx
  obtain ⟨o, ho, he⟩ := Option.map_eq_some_iff.mp hx
  obtain ⟨e1, e2⟩ := Prod.mk.inj he
  obtain ⟨e2, e3⟩ := Prod.mk.inj e2
  subst e1
  subst e2
  subst e3
  refine MW_callV1 C okL_law 350 rfl rX (v0 := some (.int (o.1))) (h0 := hSo yr o.2) (c_so_play s yr (xs (i + 1).toNatClampNeg) (xs (i + 2).toNatClampNeg)  o ho) lkL_78 2 dpX11_play (by decide) (rest := []) rfl rfl rfl rfl rfl rfl rfl rfl rfl (lX_m yr hy s σ) rfl (st2 := [.int (o.1)]) (h2 := hSo yr o.2 ++ hMs σ) rfl (lX_j yr yr hy2 s o.2 σ) ?_
  refine MW_run C okL_law 351 5 (gs := []) (cf' := (586, [some (.ref 1000), some (.ref 0), some (.ref 92), some (.int i)], [.int (i + 1), .ref 1000, .ref 92, .int (o.1)], hSo yr o.2 ++ hMs σ, bk, bn)) rfl trivial ?_
  refine MW_sld C okL_law 356 hS rfl h1 rfl ?_
  refine MW_run C okL_law 357 4 (gs := []) (cf' := (591, [some (.ref 1000), some (.ref 0), some (.ref 92), some (.int i)], [.int (i + 2), .ref 1000, .int (xs (i + 1).toNatClampNeg), .ref 92, .int (o.1)], hSo yr o.2 ++ hMs σ, bk, bn)) rfl trivial ?_
  refine MW_sld C okL_law 361 hS rfl h2 rfl ?_
  have hm : (m_play σ (xs (i + 1).toNatClampNeg) (xs (i + 2).toNatClampNeg)).map (fun w => (w.1, w.2)) = some (o.1, σ2) := hm
  obtain ⟨w, hw, hv⟩ := Option.map_eq_some_iff.mp hm
  obtain ⟨g1, g2⟩ := Prod.mk.inj hv
  subst g2
  refine MW_callV1 C okL_law 362 rfl rM (v0 := some (.int (w.1))) (h0 := hM w.2) (c_m_play σ (xs (i + 1).toNatClampNeg) (xs (i + 2).toNatClampNeg) w hw) lkL_81 2 dpX12_play (by decide) (rest := [.int (o.1)]) rfl rfl rfl rfl rfl rfl rfl rfl rfl (lM_m _ _ σ) rfl (st2 := [.int (w.1), .int (o.1)]) (h2 := hSo yr o.2 ++ hMs w.2) rfl (lM_j _ _ σ _) ?_
  exact MW_brT C okL_law 363 rfl rfl (fun _ => kk) (fun h9 => absurd g1.symm h9)
set_option maxRecDepth 100000 in
set_option maxHeartbeats 4000000 in
theorem law_case_move (C : CX X code RL false 2048 84000) (hS : SX X b L xs) {i : Int32} (h1 : inb (i + 1) L) (h2 : inb (i + 2) L) (h3 : inb (i + 3) L) {s s2 : SoS} {yr yr2 : Nat} {σ σ2 : MS} {r : Int32} (hy : yr = 3 ∨ yr = 80) (hy2 : yr2 = 3 ∨ yr2 = 80) (hx : callXI 16 (xs (i + 1).toNatClampNeg) (xs (i + 2).toNatClampNeg) (xs (i + 3).toNatClampNeg) s yr = some (r, s2, yr2)) (hm : callMI 16 (xs (i + 1).toNatClampNeg) (xs (i + 2).toNatClampNeg) (xs (i + 3).toNatClampNeg) σ = some (r, σ2))
    (kk : MW X (876, [some (.ref 1000), some (.ref 0), some (.ref 92), some (.int i)], [], hSo yr2 s2 ++ hMs σ2, bk, bn)) : MW X (600, [some (.ref 1000), some (.ref 0), some (.ref 92), some (.int i)], [], hSo yr s ++ hMs σ, bk, bn) := by
  refine MW_run C okL_law 366 5 (gs := []) (cf' := (605, [some (.ref 1000), some (.ref 0), some (.ref 92), some (.int i)], [.int (i + 1), .ref 1000, .ref 0], hSo yr s ++ hMs σ, bk, bn)) rfl trivial ?_
  refine MW_sld C okL_law 371 hS rfl h1 rfl ?_
  have hx : (so_move s yr (xs (i + 1).toNatClampNeg)).map (fun o => (o.1, o.2, yr)) = some (r, s2, yr2) := hx
  obtain ⟨o, ho, he⟩ := Option.map_eq_some_iff.mp hx
  obtain ⟨e1, e2⟩ := Prod.mk.inj he
  obtain ⟨e2, e3⟩ := Prod.mk.inj e2
  subst e1
  subst e2
  subst e3
  refine MW_callV1 C okL_law 372 rfl rX (v0 := some (.int (o.1))) (h0 := hSo yr o.2) (c_so_move s yr (xs (i + 1).toNatClampNeg)  o ho) lkL_82 1 dpX11_move (by decide) (rest := []) rfl rfl rfl rfl rfl rfl rfl rfl rfl (lX_m yr hy s σ) rfl (st2 := [.int (o.1)]) (h2 := hSo yr o.2 ++ hMs σ) rfl (lX_j yr yr hy2 s o.2 σ) ?_
  refine MW_run C okL_law 373 5 (gs := []) (cf' := (614, [some (.ref 1000), some (.ref 0), some (.ref 92), some (.int i)], [.int (i + 1), .ref 1000, .ref 92, .int (o.1)], hSo yr o.2 ++ hMs σ, bk, bn)) rfl trivial ?_
  refine MW_sld C okL_law 378 hS rfl h1 rfl ?_
  have hm : (m_move σ (xs (i + 1).toNatClampNeg)).map (fun w => (w.1, w.2)) = some (o.1, σ2) := hm
  obtain ⟨w, hw, hv⟩ := Option.map_eq_some_iff.mp hm
  obtain ⟨g1, g2⟩ := Prod.mk.inj hv
  subst g2
  refine MW_callV1 C okL_law 379 rfl rM (v0 := some (.int (w.1))) (h0 := hM w.2) (c_m_move σ (xs (i + 1).toNatClampNeg) w hw) lkL_85 1 dpX12_move (by decide) (rest := [.int (o.1)]) rfl rfl rfl rfl rfl rfl rfl rfl rfl (lM_m _ _ σ) rfl (st2 := [.int (w.1), .int (o.1)]) (h2 := hSo yr o.2 ++ hMs w.2) rfl (lM_j _ _ σ _) ?_
  exact MW_brT C okL_law 380 rfl rfl (fun _ => kk) (fun h9 => absurd g1.symm h9)
set_option maxRecDepth 100000 in
set_option maxHeartbeats 4000000 in
theorem law_case_back (C : CX X code RL false 2048 84000) (hS : SX X b L xs) {i : Int32} (h1 : inb (i + 1) L) (h2 : inb (i + 2) L) (h3 : inb (i + 3) L) {s s2 : SoS} {yr yr2 : Nat} {σ σ2 : MS} {r : Int32} (hy : yr = 3 ∨ yr = 80) (hy2 : yr2 = 3 ∨ yr2 = 80) (hx : callXI 17 (xs (i + 1).toNatClampNeg) (xs (i + 2).toNatClampNeg) (xs (i + 3).toNatClampNeg) s yr = some (r, s2, yr2)) (hm : callMI 17 (xs (i + 1).toNatClampNeg) (xs (i + 2).toNatClampNeg) (xs (i + 3).toNatClampNeg) σ = some (r, σ2))
    (kk : MW X (876, [some (.ref 1000), some (.ref 0), some (.ref 92), some (.int i)], [], hSo yr2 s2 ++ hMs σ2, bk, bn)) : MW X (623, [some (.ref 1000), some (.ref 0), some (.ref 92), some (.int i)], [], hSo yr s ++ hMs σ, bk, bn) := by
  refine MW_run C okL_law 383 1 (gs := []) (cf' := (624, [some (.ref 1000), some (.ref 0), some (.ref 92), some (.int i)], [.ref 0], hSo yr s ++ hMs σ, bk, bn)) rfl trivial ?_
  have hx : (so_back s yr ).map (fun o => (o.1, o.2, yr)) = some (r, s2, yr2) := hx
  obtain ⟨o, ho, he⟩ := Option.map_eq_some_iff.mp hx
  obtain ⟨e1, e2⟩ := Prod.mk.inj he
  obtain ⟨e2, e3⟩ := Prod.mk.inj e2
  subst e1
  subst e2
  subst e3
  refine MW_callV1 C okL_law 384 rfl rX (v0 := some (.int (o.1))) (h0 := hSo yr o.2) (c_so_back s yr   o ho) lkL_86 0 dpX11_back (by decide) (rest := []) rfl rfl rfl rfl rfl rfl rfl rfl rfl (lX_m yr hy s σ) rfl (st2 := [.int (o.1)]) (h2 := hSo yr o.2 ++ hMs σ) rfl (lX_j yr yr hy2 s o.2 σ) ?_
  refine MW_run C okL_law 385 1 (gs := []) (cf' := (628, [some (.ref 1000), some (.ref 0), some (.ref 92), some (.int i)], [.ref 92, .int (o.1)], hSo yr o.2 ++ hMs σ, bk, bn)) rfl trivial ?_
  have hm : (m_back σ ).map (fun w => (w.1, w.2)) = some (o.1, σ2) := hm
  obtain ⟨w, hw, hv⟩ := Option.map_eq_some_iff.mp hm
  obtain ⟨g1, g2⟩ := Prod.mk.inj hv
  subst g2
  refine MW_callV1 C okL_law 386 rfl rM (v0 := some (.int (w.1))) (h0 := hM w.2) (c_m_back σ  w hw) lkL_89 0 dpX12_back (by decide) (rest := [.int (o.1)]) rfl rfl rfl rfl rfl rfl rfl rfl rfl (lM_m _ _ σ) rfl (st2 := [.int (w.1), .int (o.1)]) (h2 := hSo yr o.2 ++ hMs w.2) rfl (lM_j _ _ σ _) ?_
  exact MW_brT C okL_law 387 rfl rfl (fun _ => kk) (fun h9 => absurd g1.symm h9)
set_option maxRecDepth 100000 in
set_option maxHeartbeats 4000000 in
theorem law_case_rest (C : CX X code RL false 2048 84000) (hS : SX X b L xs) {i : Int32} (h1 : inb (i + 1) L) (h2 : inb (i + 2) L) (h3 : inb (i + 3) L) {s s2 : SoS} {yr yr2 : Nat} {σ σ2 : MS} {r : Int32} (hy : yr = 3 ∨ yr = 80) (hy2 : yr2 = 3 ∨ yr2 = 80) (hx : callXI 18 (xs (i + 1).toNatClampNeg) (xs (i + 2).toNatClampNeg) (xs (i + 3).toNatClampNeg) s yr = some (r, s2, yr2)) (hm : callMI 18 (xs (i + 1).toNatClampNeg) (xs (i + 2).toNatClampNeg) (xs (i + 3).toNatClampNeg) σ = some (r, σ2))
    (kk : MW X (876, [some (.ref 1000), some (.ref 0), some (.ref 92), some (.int i)], [], hSo yr2 s2 ++ hMs σ2, bk, bn)) : MW X (636, [some (.ref 1000), some (.ref 0), some (.ref 92), some (.int i)], [], hSo yr s ++ hMs σ, bk, bn) := by
  refine MW_run C okL_law 390 1 (gs := []) (cf' := (637, [some (.ref 1000), some (.ref 0), some (.ref 92), some (.int i)], [.ref 0], hSo yr s ++ hMs σ, bk, bn)) rfl trivial ?_
  have hx : (so_rest s yr ).map (fun o => (o.1, o.2.1, o.2.2)) = some (r, s2, yr2) := hx
  obtain ⟨o, ho, he⟩ := Option.map_eq_some_iff.mp hx
  obtain ⟨e1, e2⟩ := Prod.mk.inj he
  obtain ⟨e2, e3⟩ := Prod.mk.inj e2
  subst e1
  subst e2
  subst e3
  refine MW_callV1 C okL_law 391 rfl rX (v0 := some (.int (o.1))) (h0 := hSo o.2.2 o.2.1) (c_so_rest s yr   o ho) lkL_90 0 dpX11_rest (by decide) (rest := []) rfl rfl rfl rfl rfl rfl rfl rfl rfl (lX_m yr hy s σ) rfl (st2 := [.int (o.1)]) (h2 := hSo o.2.2 o.2.1 ++ hMs σ) rfl (lX_j yr o.2.2 hy2 s o.2.1 σ) ?_
  refine MW_run C okL_law 392 1 (gs := []) (cf' := (641, [some (.ref 1000), some (.ref 0), some (.ref 92), some (.int i)], [.ref 92, .int (o.1)], hSo o.2.2 o.2.1 ++ hMs σ, bk, bn)) rfl trivial ?_
  have hm : (m_rest σ ).map (fun w => (w.1, w.2)) = some (o.1, σ2) := hm
  obtain ⟨w, hw, hv⟩ := Option.map_eq_some_iff.mp hm
  obtain ⟨g1, g2⟩ := Prod.mk.inj hv
  subst g2
  refine MW_callV1 C okL_law 393 rfl rM (v0 := some (.int (w.1))) (h0 := hM w.2) (c_m_rest σ  w hw) lkL_93 0 dpX12_rest (by decide) (rest := [.int (o.1)]) rfl rfl rfl rfl rfl rfl rfl rfl rfl (lM_m _ _ σ) rfl (st2 := [.int (w.1), .int (o.1)]) (h2 := hSo o.2.2 o.2.1 ++ hMs w.2) rfl (lM_j _ _ σ _) ?_
  exact MW_brT C okL_law 394 rfl rfl (fun _ => kk) (fun h9 => absurd g1.symm h9)
set_option maxRecDepth 100000 in
set_option maxHeartbeats 4000000 in
theorem law_case_next (C : CX X code RL false 2048 84000) (hS : SX X b L xs) {i : Int32} (h1 : inb (i + 1) L) (h2 : inb (i + 2) L) (h3 : inb (i + 3) L) {s s2 : SoS} {yr yr2 : Nat} {σ σ2 : MS} {r : Int32} (hy : yr = 3 ∨ yr = 80) (hy2 : yr2 = 3 ∨ yr2 = 80) (hx : callXI 19 (xs (i + 1).toNatClampNeg) (xs (i + 2).toNatClampNeg) (xs (i + 3).toNatClampNeg) s yr = some (r, s2, yr2)) (hm : callMI 19 (xs (i + 1).toNatClampNeg) (xs (i + 2).toNatClampNeg) (xs (i + 3).toNatClampNeg) σ = some (r, σ2))
    (kk : MW X (876, [some (.ref 1000), some (.ref 0), some (.ref 92), some (.int i)], [], hSo yr2 s2 ++ hMs σ2, bk, bn)) : MW X (649, [some (.ref 1000), some (.ref 0), some (.ref 92), some (.int i)], [], hSo yr s ++ hMs σ, bk, bn) := by
  refine MW_run C okL_law 397 1 (gs := []) (cf' := (650, [some (.ref 1000), some (.ref 0), some (.ref 92), some (.int i)], [.ref 0], hSo yr s ++ hMs σ, bk, bn)) rfl trivial ?_
  have hx : (so_next s yr ).map (fun o => (o.1, o.2.1, o.2.2)) = some (r, s2, yr2) := hx
  obtain ⟨o, ho, he⟩ := Option.map_eq_some_iff.mp hx
  obtain ⟨e1, e2⟩ := Prod.mk.inj he
  obtain ⟨e2, e3⟩ := Prod.mk.inj e2
  subst e1
  subst e2
  subst e3
  refine MW_callV1 C okL_law 398 rfl rX (v0 := some (.int (o.1))) (h0 := hSo o.2.2 o.2.1) (c_so_next s yr   o ho) lkL_94 0 dpX11_next (by decide) (rest := []) rfl rfl rfl rfl rfl rfl rfl rfl rfl (lX_m yr hy s σ) rfl (st2 := [.int (o.1)]) (h2 := hSo o.2.2 o.2.1 ++ hMs σ) rfl (lX_j yr o.2.2 hy2 s o.2.1 σ) ?_
  refine MW_run C okL_law 399 1 (gs := []) (cf' := (654, [some (.ref 1000), some (.ref 0), some (.ref 92), some (.int i)], [.ref 92, .int (o.1)], hSo o.2.2 o.2.1 ++ hMs σ, bk, bn)) rfl trivial ?_
  have hm : (m_next σ ).map (fun w => (w.1, w.2)) = some (o.1, σ2) := hm
  obtain ⟨w, hw, hv⟩ := Option.map_eq_some_iff.mp hm
  obtain ⟨g1, g2⟩ := Prod.mk.inj hv
  subst g2
  refine MW_callV1 C okL_law 400 rfl rM (v0 := some (.int (w.1))) (h0 := hM w.2) (c_m_next σ  w hw) lkL_97 0 dpX12_next (by decide) (rest := [.int (o.1)]) rfl rfl rfl rfl rfl rfl rfl rfl rfl (lM_m _ _ σ) rfl (st2 := [.int (w.1), .int (o.1)]) (h2 := hSo o.2.2 o.2.1 ++ hMs w.2) rfl (lM_j _ _ σ _) ?_
  exact MW_brT C okL_law 401 rfl rfl (fun _ => kk) (fun h9 => absurd g1.symm h9)
set_option maxRecDepth 100000 in
set_option maxHeartbeats 4000000 in
theorem law_case_moves (C : CX X code RL false 2048 84000) (hS : SX X b L xs) {i : Int32} (h1 : inb (i + 1) L) (h2 : inb (i + 2) L) (h3 : inb (i + 3) L) {s s2 : SoS} {yr yr2 : Nat} {σ σ2 : MS} {r : Int32} (hy : yr = 3 ∨ yr = 80) (hy2 : yr2 = 3 ∨ yr2 = 80) (hx : callXI 20 (xs (i + 1).toNatClampNeg) (xs (i + 2).toNatClampNeg) (xs (i + 3).toNatClampNeg) s yr = some (r, s2, yr2)) (hm : callMI 20 (xs (i + 1).toNatClampNeg) (xs (i + 2).toNatClampNeg) (xs (i + 3).toNatClampNeg) σ = some (r, σ2))
    (kk : MW X (876, [some (.ref 1000), some (.ref 0), some (.ref 92), some (.int i)], [], hSo yr2 s2 ++ hMs σ2, bk, bn)) : MW X (662, [some (.ref 1000), some (.ref 0), some (.ref 92), some (.int i)], [], hSo yr s ++ hMs σ, bk, bn) := by
  refine MW_run C okL_law 404 5 (gs := []) (cf' := (667, [some (.ref 1000), some (.ref 0), some (.ref 92), some (.int i)], [.int (i + 1), .ref 1000, .ref 0], hSo yr s ++ hMs σ, bk, bn)) rfl trivial ?_
  refine MW_sld C okL_law 409 hS rfl h1 rfl ?_
  have hx : (so_moves s yr (xs (i + 1).toNatClampNeg)).map (fun o => (o, s, yr)) = some (r, s2, yr2) := hx
  obtain ⟨o, ho, he⟩ := Option.map_eq_some_iff.mp hx
  obtain ⟨e1, e2⟩ := Prod.mk.inj he
  obtain ⟨e2, e3⟩ := Prod.mk.inj e2
  subst e1
  subst e2
  subst e3
  refine MW_callV1 C okL_law 410 rfl rX (v0 := some (.int (o))) (h0 := hSo yr s) (c_so_moves s yr (xs (i + 1).toNatClampNeg)  o ho) lkL_98 1 dpX11_moves (by decide) (rest := []) rfl rfl rfl rfl rfl rfl rfl rfl rfl (lX_m yr hy s σ) rfl (st2 := [.int (o)]) (h2 := hSo yr s ++ hMs σ) rfl (lX_j yr yr hy2 s s σ) ?_
  refine MW_run C okL_law 411 5 (gs := []) (cf' := (676, [some (.ref 1000), some (.ref 0), some (.ref 92), some (.int i)], [.int (i + 1), .ref 1000, .ref 92, .int (o)], hSo yr s ++ hMs σ, bk, bn)) rfl trivial ?_
  refine MW_sld C okL_law 416 hS rfl h1 rfl ?_
  have hm : (m_moves σ (xs (i + 1).toNatClampNeg)).map (fun w => (w.1, w.2)) = some (o, σ2) := hm
  obtain ⟨w, hw, hv⟩ := Option.map_eq_some_iff.mp hm
  obtain ⟨g1, g2⟩ := Prod.mk.inj hv
  subst g2
  refine MW_callV1 C okL_law 417 rfl rM (v0 := some (.int (w.1))) (h0 := hM w.2) (c_m_moves σ (xs (i + 1).toNatClampNeg) w hw) lkL_101 1 dpX12_moves (by decide) (rest := [.int (o)]) rfl rfl rfl rfl rfl rfl rfl rfl rfl (lM_m _ _ σ) rfl (st2 := [.int (w.1), .int (o)]) (h2 := hSo yr s ++ hMs w.2) rfl (lM_j _ _ σ _) ?_
  exact MW_brT C okL_law 418 rfl rfl (fun _ => kk) (fun h9 => absurd g1.symm h9)
end
