section
variable {X : CTX} {b L : Nat} {xs : Nat → Int32} {bk bn : Nat}
set_option maxRecDepth 100000 in
set_option maxHeartbeats 4000000 in
theorem law_case_stand (C : CX X code RL false 2048 84000) (hS : SX X b L xs) {i : Int32} (h1 : inb (i + 1) L) (h2 : inb (i + 2) L) (h3 : inb (i + 3) L) {s s2 : SoS} {yr yr2 : Nat} {σ σ2 : MS} {r : Int32} (hy : yr = 3 ∨ yr = 80) (hy2 : yr2 = 3 ∨ yr2 = 80) (hx : callXI 21 (xs (i + 1).toNatClampNeg) (xs (i + 2).toNatClampNeg) (xs (i + 3).toNatClampNeg) s yr = some (r, s2, yr2)) (hm : callMI 21 (xs (i + 1).toNatClampNeg) (xs (i + 2).toNatClampNeg) (xs (i + 3).toNatClampNeg) σ = some (r, σ2))
    (kk : MW X (876, [some (.ref 1000), some (.ref 0), some (.ref 92), some (.int i)], [], hSo yr2 s2 ++ hMs σ2, bk, bn)) : MW X (685, [some (.ref 1000), some (.ref 0), some (.ref 92), some (.int i)], [], hSo yr s ++ hMs σ, bk, bn) := by
  refine MW_run C okL_law 421 5 (gs := []) (cf' := (690, [some (.ref 1000), some (.ref 0), some (.ref 92), some (.int i)], [.int (i + 1), .ref 1000, .ref 0], hSo yr s ++ hMs σ, bk, bn)) rfl trivial ?_
  refine MW_sld C okL_law 426 hS rfl h1 rfl ?_
  have hx : (so_stand s yr (xs (i + 1).toNatClampNeg)).map (fun o => (o, s, yr)) = some (r, s2, yr2) := hx
  obtain ⟨o, ho, he⟩ := Option.map_eq_some_iff.mp hx
  obtain ⟨e1, e2⟩ := Prod.mk.inj he
  obtain ⟨e2, e3⟩ := Prod.mk.inj e2
  subst e1
  subst e2
  subst e3
  refine MW_callV1 C okL_law 427 rfl rX (v0 := some (.int (o))) (h0 := hSo yr s) (c_so_stand s yr (xs (i + 1).toNatClampNeg)  o ho) lkL_102 1 dpX11_stand (by decide) (rest := []) rfl rfl rfl rfl rfl rfl rfl rfl rfl (lX_m yr hy s σ) rfl (st2 := [.int (o)]) (h2 := hSo yr s ++ hMs σ) rfl (lX_j yr yr hy2 s s σ) ?_
  refine MW_run C okL_law 428 5 (gs := []) (cf' := (699, [some (.ref 1000), some (.ref 0), some (.ref 92), some (.int i)], [.int (i + 1), .ref 1000, .ref 92, .int (o)], hSo yr s ++ hMs σ, bk, bn)) rfl trivial ?_
  refine MW_sld C okL_law 433 hS rfl h1 rfl ?_
  have hm : (m_stand σ (xs (i + 1).toNatClampNeg)).map (fun w => (w.1, w.2)) = some (o, σ2) := hm
  obtain ⟨w, hw, hv⟩ := Option.map_eq_some_iff.mp hm
  obtain ⟨g1, g2⟩ := Prod.mk.inj hv
  subst g2
  refine MW_callV1 C okL_law 434 rfl rM (v0 := some (.int (w.1))) (h0 := hM w.2) (c_m_stand σ (xs (i + 1).toNatClampNeg) w hw) lkL_105 1 dpX12_stand (by decide) (rest := [.int (o)]) rfl rfl rfl rfl rfl rfl rfl rfl rfl (lM_m _ _ σ) rfl (st2 := [.int (w.1), .int (o)]) (h2 := hSo yr s ++ hMs w.2) rfl (lM_j _ _ σ _) ?_
  exact MW_brT C okL_law 435 rfl rfl (fun _ => kk) (fun h9 => absurd g1.symm h9)
set_option maxRecDepth 100000 in
set_option maxHeartbeats 4000000 in
theorem law_case_thumb (C : CX X code RL false 2048 84000) (hS : SX X b L xs) {i : Int32} (h1 : inb (i + 1) L) (h2 : inb (i + 2) L) (h3 : inb (i + 3) L) {s s2 : SoS} {yr yr2 : Nat} {σ σ2 : MS} {r : Int32} (hy : yr = 3 ∨ yr = 80) (hy2 : yr2 = 3 ∨ yr2 = 80) (hx : callXI 22 (xs (i + 1).toNatClampNeg) (xs (i + 2).toNatClampNeg) (xs (i + 3).toNatClampNeg) s yr = some (r, s2, yr2)) (hm : callMI 22 (xs (i + 1).toNatClampNeg) (xs (i + 2).toNatClampNeg) (xs (i + 3).toNatClampNeg) σ = some (r, σ2))
    (kk : MW X (876, [some (.ref 1000), some (.ref 0), some (.ref 92), some (.int i)], [], hSo yr2 s2 ++ hMs σ2, bk, bn)) : MW X (708, [some (.ref 1000), some (.ref 0), some (.ref 92), some (.int i)], [], hSo yr s ++ hMs σ, bk, bn) := by
  refine MW_run C okL_law 438 5 (gs := []) (cf' := (713, [some (.ref 1000), some (.ref 0), some (.ref 92), some (.int i)], [.int (i + 1), .ref 1000, .ref 0], hSo yr s ++ hMs σ, bk, bn)) rfl trivial ?_
  refine MW_sld C okL_law 443 hS rfl h1 rfl ?_
  refine MW_run C okL_law 444 4 (gs := []) (cf' := (718, [some (.ref 1000), some (.ref 0), some (.ref 92), some (.int i)], [.int (i + 2), .ref 1000, .int (xs (i + 1).toNatClampNeg), .ref 0], hSo yr s ++ hMs σ, bk, bn)) rfl trivial ?_
  refine MW_sld C okL_law 448 hS rfl h2 rfl ?_
  have hx : (so_thumb s yr (xs (i + 1).toNatClampNeg) (xs (i + 2).toNatClampNeg)).map (fun o => (o.1, o.2, yr)) = some (r, s2, yr2) := hx
  obtain ⟨o, ho, he⟩ := Option.map_eq_some_iff.mp hx
  obtain ⟨e1, e2⟩ := Prod.mk.inj he
  obtain ⟨e2, e3⟩ := Prod.mk.inj e2
  subst e1
  subst e2
  subst e3
  refine MW_callV1 C okL_law 449 rfl rX (v0 := some (.int (o.1))) (h0 := hSo yr o.2) (c_so_thumb s yr (xs (i + 1).toNatClampNeg) (xs (i + 2).toNatClampNeg)  o ho) lkL_106 2 dpX11_thumb (by decide) (rest := []) rfl rfl rfl rfl rfl rfl rfl rfl rfl (lX_m yr hy s σ) rfl (st2 := [.int (o.1)]) (h2 := hSo yr o.2 ++ hMs σ) rfl (lX_j yr yr hy2 s o.2 σ) ?_
  refine MW_run C okL_law 450 5 (gs := []) (cf' := (727, [some (.ref 1000), some (.ref 0), some (.ref 92), some (.int i)], [.int (i + 1), .ref 1000, .ref 92, .int (o.1)], hSo yr o.2 ++ hMs σ, bk, bn)) rfl trivial ?_
  refine MW_sld C okL_law 455 hS rfl h1 rfl ?_
  refine MW_run C okL_law 456 4 (gs := []) (cf' := (732, [some (.ref 1000), some (.ref 0), some (.ref 92), some (.int i)], [.int (i + 2), .ref 1000, .int (xs (i + 1).toNatClampNeg), .ref 92, .int (o.1)], hSo yr o.2 ++ hMs σ, bk, bn)) rfl trivial ?_
  refine MW_sld C okL_law 460 hS rfl h2 rfl ?_
  have hm : (m_thumb σ (xs (i + 1).toNatClampNeg) (xs (i + 2).toNatClampNeg)).map (fun w => (w.1, w.2)) = some (o.1, σ2) := hm
  obtain ⟨w, hw, hv⟩ := Option.map_eq_some_iff.mp hm
  obtain ⟨g1, g2⟩ := Prod.mk.inj hv
  subst g2
  refine MW_callV1 C okL_law 461 rfl rM (v0 := some (.int (w.1))) (h0 := hM w.2) (c_m_thumb σ (xs (i + 1).toNatClampNeg) (xs (i + 2).toNatClampNeg) w hw) lkL_109 2 dpX12_thumb (by decide) (rest := [.int (o.1)]) rfl rfl rfl rfl rfl rfl rfl rfl rfl (lM_m _ _ σ) rfl (st2 := [.int (w.1), .int (o.1)]) (h2 := hSo yr o.2 ++ hMs w.2) rfl (lM_j _ _ σ _) ?_
  exact MW_brT C okL_law 462 rfl rfl (fun _ => kk) (fun h9 => absurd g1.symm h9)
set_option maxRecDepth 100000 in
set_option maxHeartbeats 4000000 in
theorem law_case_sorts (C : CX X code RL false 2048 84000) (hS : SX X b L xs) {i : Int32} (h1 : inb (i + 1) L) (h2 : inb (i + 2) L) (h3 : inb (i + 3) L) {s s2 : SoS} {yr yr2 : Nat} {σ σ2 : MS} {r : Int32} (hy : yr = 3 ∨ yr = 80) (hy2 : yr2 = 3 ∨ yr2 = 80) (hx : callXI 23 (xs (i + 1).toNatClampNeg) (xs (i + 2).toNatClampNeg) (xs (i + 3).toNatClampNeg) s yr = some (r, s2, yr2)) (hm : callMI 23 (xs (i + 1).toNatClampNeg) (xs (i + 2).toNatClampNeg) (xs (i + 3).toNatClampNeg) σ = some (r, σ2))
    (kk : MW X (876, [some (.ref 1000), some (.ref 0), some (.ref 92), some (.int i)], [], hSo yr2 s2 ++ hMs σ2, bk, bn)) : MW X (741, [some (.ref 1000), some (.ref 0), some (.ref 92), some (.int i)], [], hSo yr s ++ hMs σ, bk, bn) := by
  refine MW_run C okL_law 465 5 (gs := []) (cf' := (746, [some (.ref 1000), some (.ref 0), some (.ref 92), some (.int i)], [.int (i + 1), .ref 1000, .ref 0], hSo yr s ++ hMs σ, bk, bn)) rfl trivial ?_
  refine MW_sld C okL_law 470 hS rfl h1 rfl ?_
  refine MW_run C okL_law 471 4 (gs := []) (cf' := (751, [some (.ref 1000), some (.ref 0), some (.ref 92), some (.int i)], [.int (i + 2), .ref 1000, .int (xs (i + 1).toNatClampNeg), .ref 0], hSo yr s ++ hMs σ, bk, bn)) rfl trivial ?_
  refine MW_sld C okL_law 475 hS rfl h2 rfl ?_
  have hx : (so_sorts s yr (xs (i + 1).toNatClampNeg) (xs (i + 2).toNatClampNeg)).map (fun o => (o.1, o.2, yr)) = some (r, s2, yr2) := hx
  obtain ⟨o, ho, he⟩ := Option.map_eq_some_iff.mp hx
  obtain ⟨e1, e2⟩ := Prod.mk.inj he
  obtain ⟨e2, e3⟩ := Prod.mk.inj e2
  subst e1
  subst e2
  subst e3
  refine MW_callV1 C okL_law 476 rfl rX (v0 := some (.int (o.1))) (h0 := hSo yr o.2) (c_so_sorts s yr (xs (i + 1).toNatClampNeg) (xs (i + 2).toNatClampNeg)  o ho) lkL_110 2 dpX11_sorts (by decide) (rest := []) rfl rfl rfl rfl rfl rfl rfl rfl rfl (lX_m yr hy s σ) rfl (st2 := [.int (o.1)]) (h2 := hSo yr o.2 ++ hMs σ) rfl (lX_j yr yr hy2 s o.2 σ) ?_
  refine MW_run C okL_law 477 5 (gs := []) (cf' := (760, [some (.ref 1000), some (.ref 0), some (.ref 92), some (.int i)], [.int (i + 1), .ref 1000, .ref 92, .int (o.1)], hSo yr o.2 ++ hMs σ, bk, bn)) rfl trivial ?_
  refine MW_sld C okL_law 482 hS rfl h1 rfl ?_
  refine MW_run C okL_law 483 4 (gs := []) (cf' := (765, [some (.ref 1000), some (.ref 0), some (.ref 92), some (.int i)], [.int (i + 2), .ref 1000, .int (xs (i + 1).toNatClampNeg), .ref 92, .int (o.1)], hSo yr o.2 ++ hMs σ, bk, bn)) rfl trivial ?_
  refine MW_sld C okL_law 487 hS rfl h2 rfl ?_
  have hm : (m_sorts σ (xs (i + 1).toNatClampNeg) (xs (i + 2).toNatClampNeg)).map (fun w => (w.1, w.2)) = some (o.1, σ2) := hm
  obtain ⟨w, hw, hv⟩ := Option.map_eq_some_iff.mp hm
  obtain ⟨g1, g2⟩ := Prod.mk.inj hv
  subst g2
  refine MW_callV1 C okL_law 488 rfl rM (v0 := some (.int (w.1))) (h0 := hM w.2) (c_m_sorts σ (xs (i + 1).toNatClampNeg) (xs (i + 2).toNatClampNeg) w hw) lkL_113 2 dpX12_sorts (by decide) (rest := [.int (o.1)]) rfl rfl rfl rfl rfl rfl rfl rfl rfl (lM_m _ _ σ) rfl (st2 := [.int (w.1), .int (o.1)]) (h2 := hSo yr o.2 ++ hMs w.2) rfl (lM_j _ _ σ _) ?_
  exact MW_brT C okL_law 489 rfl rfl (fun _ => kk) (fun h9 => absurd g1.symm h9)
set_option maxRecDepth 100000 in
set_option maxHeartbeats 4000000 in
theorem law_case_draw (C : CX X code RL false 2048 84000) (hS : SX X b L xs) {i : Int32} (h1 : inb (i + 1) L) (h2 : inb (i + 2) L) (h3 : inb (i + 3) L) {s s2 : SoS} {yr yr2 : Nat} {σ σ2 : MS} {r : Int32} (hy : yr = 3 ∨ yr = 80) (hy2 : yr2 = 3 ∨ yr2 = 80) (hx : callXI 24 (xs (i + 1).toNatClampNeg) (xs (i + 2).toNatClampNeg) (xs (i + 3).toNatClampNeg) s yr = some (r, s2, yr2)) (hm : callMI 24 (xs (i + 1).toNatClampNeg) (xs (i + 2).toNatClampNeg) (xs (i + 3).toNatClampNeg) σ = some (r, σ2))
    (kk : MW X (876, [some (.ref 1000), some (.ref 0), some (.ref 92), some (.int i)], [], hSo yr2 s2 ++ hMs σ2, bk, bn)) : MW X (774, [some (.ref 1000), some (.ref 0), some (.ref 92), some (.int i)], [], hSo yr s ++ hMs σ, bk, bn) := by
  refine MW_run C okL_law 492 5 (gs := []) (cf' := (779, [some (.ref 1000), some (.ref 0), some (.ref 92), some (.int i)], [.int (i + 1), .ref 1000, .ref 0], hSo yr s ++ hMs σ, bk, bn)) rfl trivial ?_
  refine MW_sld C okL_law 497 hS rfl h1 rfl ?_
  refine MW_run C okL_law 498 4 (gs := []) (cf' := (784, [some (.ref 1000), some (.ref 0), some (.ref 92), some (.int i)], [.int (i + 2), .ref 1000, .int (xs (i + 1).toNatClampNeg), .ref 0], hSo yr s ++ hMs σ, bk, bn)) rfl trivial ?_
  refine MW_sld C okL_law 502 hS rfl h2 rfl ?_
  have hx : (so_draw s yr (xs (i + 1).toNatClampNeg) (xs (i + 2).toNatClampNeg)).map (fun o => (o, s, yr)) = some (r, s2, yr2) := hx
  obtain ⟨o, ho, he⟩ := Option.map_eq_some_iff.mp hx
  obtain ⟨e1, e2⟩ := Prod.mk.inj he
  obtain ⟨e2, e3⟩ := Prod.mk.inj e2
  subst e1
  subst e2
  subst e3
  refine MW_callV1 C okL_law 503 rfl rX (v0 := some (.int (o))) (h0 := hSo yr s) (c_so_draw s yr (xs (i + 1).toNatClampNeg) (xs (i + 2).toNatClampNeg)  o ho) lkL_114 2 dpX11_draw (by decide) (rest := []) rfl rfl rfl rfl rfl rfl rfl rfl rfl (lX_m yr hy s σ) rfl (st2 := [.int (o)]) (h2 := hSo yr s ++ hMs σ) rfl (lX_j yr yr hy2 s s σ) ?_
  refine MW_run C okL_law 504 5 (gs := []) (cf' := (793, [some (.ref 1000), some (.ref 0), some (.ref 92), some (.int i)], [.int (i + 1), .ref 1000, .ref 92, .int (o)], hSo yr s ++ hMs σ, bk, bn)) rfl trivial ?_
  refine MW_sld C okL_law 509 hS rfl h1 rfl ?_
  refine MW_run C okL_law 510 4 (gs := []) (cf' := (798, [some (.ref 1000), some (.ref 0), some (.ref 92), some (.int i)], [.int (i + 2), .ref 1000, .int (xs (i + 1).toNatClampNeg), .ref 92, .int (o)], hSo yr s ++ hMs σ, bk, bn)) rfl trivial ?_
  refine MW_sld C okL_law 514 hS rfl h2 rfl ?_
  have hm : (m_draw σ (xs (i + 1).toNatClampNeg) (xs (i + 2).toNatClampNeg)).map (fun w => (w, σ)) = some (o, σ2) := hm
  obtain ⟨w, hw, hv⟩ := Option.map_eq_some_iff.mp hm
  obtain ⟨g1, g2⟩ := Prod.mk.inj hv
  subst g2
  refine MW_callV1 C okL_law 515 rfl rM (v0 := some (.int (w))) (h0 := hM σ) (c_m_draw σ (xs (i + 1).toNatClampNeg) (xs (i + 2).toNatClampNeg) w hw) lkL_117 2 dpX12_draw (by decide) (rest := [.int (o)]) rfl rfl rfl rfl rfl rfl rfl rfl rfl (lM_m _ _ σ) rfl (st2 := [.int (w), .int (o)]) (h2 := hSo yr s ++ hMs σ) rfl (lM_j _ _ σ _) ?_
  exact MW_brT C okL_law 516 rfl rfl (fun _ => kk) (fun h9 => absurd g1.symm h9)
set_option maxRecDepth 100000 in
set_option maxHeartbeats 4000000 in
theorem law_case_image (C : CX X code RL false 2048 84000) (hS : SX X b L xs) {i : Int32} (h1 : inb (i + 1) L) (h2 : inb (i + 2) L) (h3 : inb (i + 3) L) {s s2 : SoS} {yr yr2 : Nat} {σ σ2 : MS} {r : Int32} (hy : yr = 3 ∨ yr = 80) (hy2 : yr2 = 3 ∨ yr2 = 80) (hx : callXI 25 (xs (i + 1).toNatClampNeg) (xs (i + 2).toNatClampNeg) (xs (i + 3).toNatClampNeg) s yr = some (r, s2, yr2)) (hm : callMI 25 (xs (i + 1).toNatClampNeg) (xs (i + 2).toNatClampNeg) (xs (i + 3).toNatClampNeg) σ = some (r, σ2))
    (kk : MW X (876, [some (.ref 1000), some (.ref 0), some (.ref 92), some (.int i)], [], hSo yr2 s2 ++ hMs σ2, bk, bn)) : MW X (807, [some (.ref 1000), some (.ref 0), some (.ref 92), some (.int i)], [], hSo yr s ++ hMs σ, bk, bn) := by
  refine MW_run C okL_law 519 5 (gs := []) (cf' := (812, [some (.ref 1000), some (.ref 0), some (.ref 92), some (.int i)], [.int (i + 1), .ref 1000, .ref 0], hSo yr s ++ hMs σ, bk, bn)) rfl trivial ?_
  refine MW_sld C okL_law 524 hS rfl h1 rfl ?_
  have hx : (if (xs (i + 1).toNatClampNeg) = 0 then so_image0 s yr (xs (i + 1).toNatClampNeg) else so_image1 s yr (xs (i + 1).toNatClampNeg)).map (fun o => (o.1, o.2, yr)) = some (r, s2, yr2) := hx
  by_cases h0 : (xs (i + 1).toNatClampNeg) = 0
  · rw [if_pos h0] at hx
    obtain ⟨o, ho, he⟩ := Option.map_eq_some_iff.mp hx
    obtain ⟨e1, e2⟩ := Prod.mk.inj he
    obtain ⟨e2, e3⟩ := Prod.mk.inj e2
    subst e1
    subst e2
    subst e3
    refine MW_callV1 C okL_law 525 rfl rX (v0 := some (.int (o.1))) (h0 := hSo yr o.2) (c_so_image0 s yr (xs (i + 1).toNatClampNeg) h0 o ho) lkL_118 1 dpX11_image (by decide) (rest := []) rfl rfl rfl rfl rfl rfl rfl rfl rfl (lX_m yr hy s σ) rfl (st2 := [.int (o.1)]) (h2 := hSo yr o.2 ++ hMs σ) rfl (lX_j yr yr hy2 s o.2 σ) ?_
    refine MW_run C okL_law 526 5 (gs := []) (cf' := (821, [some (.ref 1000), some (.ref 0), some (.ref 92), some (.int i)], [.int (i + 1), .ref 1000, .ref 92, .int (o.1)], hSo yr o.2 ++ hMs σ, bk, bn)) rfl trivial ?_
    refine MW_sld C okL_law 531 hS rfl h1 rfl ?_
    have hm : (m_image σ (xs (i + 1).toNatClampNeg)).map (fun w => (w.1, w.2)) = some (o.1, σ2) := hm
    obtain ⟨w, hw, hv⟩ := Option.map_eq_some_iff.mp hm
    obtain ⟨g1, g2⟩ := Prod.mk.inj hv
    subst g2
    refine MW_callV1 C okL_law 532 rfl rM (v0 := some (.int (w.1))) (h0 := hM w.2) (c_m_image σ (xs (i + 1).toNatClampNeg) w hw) lkL_121 1 dpX12_image (by decide) (rest := [.int (o.1)]) rfl rfl rfl rfl rfl rfl rfl rfl rfl (lM_m _ _ σ) rfl (st2 := [.int (w.1), .int (o.1)]) (h2 := hSo yr o.2 ++ hMs w.2) rfl (lM_j _ _ σ _) ?_
    exact MW_brT C okL_law 533 rfl rfl (fun _ => kk) (fun h9 => absurd g1.symm h9)
  · rw [if_neg h0] at hx
    obtain ⟨o, ho, he⟩ := Option.map_eq_some_iff.mp hx
    obtain ⟨e1, e2⟩ := Prod.mk.inj he
    obtain ⟨e2, e3⟩ := Prod.mk.inj e2
    subst e1
    subst e2
    subst e3
    refine MW_callV1 C okL_law 525 rfl rX (v0 := some (.int (o.1))) (h0 := hSo yr o.2) (c_so_image1 s yr (xs (i + 1).toNatClampNeg) h0 o ho) lkL_118 1 dpX11_image (by decide) (rest := []) rfl rfl rfl rfl rfl rfl rfl rfl rfl (lX_m yr hy s σ) rfl (st2 := [.int (o.1)]) (h2 := hSo yr o.2 ++ hMs σ) rfl (lX_j yr yr hy2 s o.2 σ) ?_
    refine MW_run C okL_law 526 5 (gs := []) (cf' := (821, [some (.ref 1000), some (.ref 0), some (.ref 92), some (.int i)], [.int (i + 1), .ref 1000, .ref 92, .int (o.1)], hSo yr o.2 ++ hMs σ, bk, bn)) rfl trivial ?_
    refine MW_sld C okL_law 531 hS rfl h1 rfl ?_
    have hm : (m_image σ (xs (i + 1).toNatClampNeg)).map (fun w => (w.1, w.2)) = some (o.1, σ2) := hm
    obtain ⟨w, hw, hv⟩ := Option.map_eq_some_iff.mp hm
    obtain ⟨g1, g2⟩ := Prod.mk.inj hv
    subst g2
    refine MW_callV1 C okL_law 532 rfl rM (v0 := some (.int (w.1))) (h0 := hM w.2) (c_m_image σ (xs (i + 1).toNatClampNeg) w hw) lkL_121 1 dpX12_image (by decide) (rest := [.int (o.1)]) rfl rfl rfl rfl rfl rfl rfl rfl rfl (lM_m _ _ σ) rfl (st2 := [.int (w.1), .int (o.1)]) (h2 := hSo yr o.2 ++ hMs w.2) rfl (lM_j _ _ σ _) ?_
    exact MW_brT C okL_law 533 rfl rfl (fun _ => kk) (fun h9 => absurd g1.symm h9)
set_option maxRecDepth 100000 in
set_option maxHeartbeats 4000000 in
theorem law_case_restore (C : CX X code RL false 2048 84000) (hS : SX X b L xs) {i : Int32} (h1 : inb (i + 1) L) (h2 : inb (i + 2) L) (h3 : inb (i + 3) L) {s s2 : SoS} {yr yr2 : Nat} {σ σ2 : MS} {r : Int32} (hy : yr = 3 ∨ yr = 80) (hy2 : yr2 = 3 ∨ yr2 = 80) (hx : callXI 26 (xs (i + 1).toNatClampNeg) (xs (i + 2).toNatClampNeg) (xs (i + 3).toNatClampNeg) s yr = some (r, s2, yr2)) (hm : callMI 26 (xs (i + 1).toNatClampNeg) (xs (i + 2).toNatClampNeg) (xs (i + 3).toNatClampNeg) σ = some (r, σ2))
    (kk : MW X (876, [some (.ref 1000), some (.ref 0), some (.ref 92), some (.int i)], [], hSo yr2 s2 ++ hMs σ2, bk, bn)) : MW X (830, [some (.ref 1000), some (.ref 0), some (.ref 92), some (.int i)], [], hSo yr s ++ hMs σ, bk, bn) := by
  refine MW_run C okL_law 536 5 (gs := []) (cf' := (835, [some (.ref 1000), some (.ref 0), some (.ref 92), some (.int i)], [.int (i + 1), .ref 1000, .ref 0], hSo yr s ++ hMs σ, bk, bn)) rfl trivial ?_
  refine MW_sld C okL_law 541 hS rfl h1 rfl ?_
  have hx : (if (xs (i + 1).toNatClampNeg) = 0 then so_restore0 s yr (xs (i + 1).toNatClampNeg) else so_restore1 s yr (xs (i + 1).toNatClampNeg)).map (fun o => (o.1, o.2, yr)) = some (r, s2, yr2) := hx
  by_cases h0 : (xs (i + 1).toNatClampNeg) = 0
  · rw [if_pos h0] at hx
    obtain ⟨o, ho, he⟩ := Option.map_eq_some_iff.mp hx
    obtain ⟨e1, e2⟩ := Prod.mk.inj he
    obtain ⟨e2, e3⟩ := Prod.mk.inj e2
    subst e1
    subst e2
    subst e3
    refine MW_callV1 C okL_law 542 rfl rX (v0 := some (.int (o.1))) (h0 := hSo yr o.2) (c_so_restore0 s yr (xs (i + 1).toNatClampNeg) h0 o ho) lkL_122 1 dpX11_restore (by decide) (rest := []) rfl rfl rfl rfl rfl rfl rfl rfl rfl (lX_m yr hy s σ) rfl (st2 := [.int (o.1)]) (h2 := hSo yr o.2 ++ hMs σ) rfl (lX_j yr yr hy2 s o.2 σ) ?_
    refine MW_run C okL_law 543 5 (gs := []) (cf' := (844, [some (.ref 1000), some (.ref 0), some (.ref 92), some (.int i)], [.int (i + 1), .ref 1000, .ref 92, .int (o.1)], hSo yr o.2 ++ hMs σ, bk, bn)) rfl trivial ?_
    refine MW_sld C okL_law 548 hS rfl h1 rfl ?_
    have hm : (m_restore σ (xs (i + 1).toNatClampNeg)).map (fun w => (w.1, w.2)) = some (o.1, σ2) := hm
    obtain ⟨w, hw, hv⟩ := Option.map_eq_some_iff.mp hm
    obtain ⟨g1, g2⟩ := Prod.mk.inj hv
    subst g2
    refine MW_callV1 C okL_law 549 rfl rM (v0 := some (.int (w.1))) (h0 := hM w.2) (c_m_restore σ (xs (i + 1).toNatClampNeg) w hw) lkL_125 1 dpX12_restore (by decide) (rest := [.int (o.1)]) rfl rfl rfl rfl rfl rfl rfl rfl rfl (lM_m _ _ σ) rfl (st2 := [.int (w.1), .int (o.1)]) (h2 := hSo yr o.2 ++ hMs w.2) rfl (lM_j _ _ σ _) ?_
    exact MW_brT C okL_law 550 rfl rfl (fun _ => kk) (fun h9 => absurd g1.symm h9)
  · rw [if_neg h0] at hx
    obtain ⟨o, ho, he⟩ := Option.map_eq_some_iff.mp hx
    obtain ⟨e1, e2⟩ := Prod.mk.inj he
    obtain ⟨e2, e3⟩ := Prod.mk.inj e2
    subst e1
    subst e2
    subst e3
    refine MW_callV1 C okL_law 542 rfl rX (v0 := some (.int (o.1))) (h0 := hSo yr o.2) (c_so_restore1 s yr (xs (i + 1).toNatClampNeg) h0 o ho) lkL_122 1 dpX11_restore (by decide) (rest := []) rfl rfl rfl rfl rfl rfl rfl rfl rfl (lX_m yr hy s σ) rfl (st2 := [.int (o.1)]) (h2 := hSo yr o.2 ++ hMs σ) rfl (lX_j yr yr hy2 s o.2 σ) ?_
    refine MW_run C okL_law 543 5 (gs := []) (cf' := (844, [some (.ref 1000), some (.ref 0), some (.ref 92), some (.int i)], [.int (i + 1), .ref 1000, .ref 92, .int (o.1)], hSo yr o.2 ++ hMs σ, bk, bn)) rfl trivial ?_
    refine MW_sld C okL_law 548 hS rfl h1 rfl ?_
    have hm : (m_restore σ (xs (i + 1).toNatClampNeg)).map (fun w => (w.1, w.2)) = some (o.1, σ2) := hm
    obtain ⟨w, hw, hv⟩ := Option.map_eq_some_iff.mp hm
    obtain ⟨g1, g2⟩ := Prod.mk.inj hv
    subst g2
    refine MW_callV1 C okL_law 549 rfl rM (v0 := some (.int (w.1))) (h0 := hM w.2) (c_m_restore σ (xs (i + 1).toNatClampNeg) w hw) lkL_125 1 dpX12_restore (by decide) (rest := [.int (o.1)]) rfl rfl rfl rfl rfl rfl rfl rfl rfl (lM_m _ _ σ) rfl (st2 := [.int (w.1), .int (o.1)]) (h2 := hSo yr o.2 ++ hMs w.2) rfl (lM_j _ _ σ _) ?_
    exact MW_brT C okL_law 550 rfl rfl (fun _ => kk) (fun h9 => absurd g1.symm h9)
set_option maxRecDepth 100000 in
set_option maxHeartbeats 4000000 in
theorem law_case_told (C : CX X code RL false 2048 84000) (hS : SX X b L xs) {i : Int32} (h1 : inb (i + 1) L) (h2 : inb (i + 2) L) (h3 : inb (i + 3) L) {s s2 : SoS} {yr yr2 : Nat} {σ σ2 : MS} {r : Int32} (hy : yr = 3 ∨ yr = 80) (hy2 : yr2 = 3 ∨ yr2 = 80) (hx : callXI 27 (xs (i + 1).toNatClampNeg) (xs (i + 2).toNatClampNeg) (xs (i + 3).toNatClampNeg) s yr = some (r, s2, yr2)) (hm : callMI 27 (xs (i + 1).toNatClampNeg) (xs (i + 2).toNatClampNeg) (xs (i + 3).toNatClampNeg) σ = some (r, σ2))
    (kk : MW X (876, [some (.ref 1000), some (.ref 0), some (.ref 92), some (.int i)], [], hSo yr2 s2 ++ hMs σ2, bk, bn)) : MW X (853, [some (.ref 1000), some (.ref 0), some (.ref 92), some (.int i)], [], hSo yr s ++ hMs σ, bk, bn) := by
  refine MW_run C okL_law 553 5 (gs := []) (cf' := (858, [some (.ref 1000), some (.ref 0), some (.ref 92), some (.int i)], [.int (i + 1), .ref 1000, .ref 0], hSo yr s ++ hMs σ, bk, bn)) rfl trivial ?_
  refine MW_sld C okL_law 558 hS rfl h1 rfl ?_
  have hx : (so_told s yr (xs (i + 1).toNatClampNeg)).map (fun o => (o, s, yr)) = some (r, s2, yr2) := hx
  obtain ⟨o, ho, he⟩ := Option.map_eq_some_iff.mp hx
  obtain ⟨e1, e2⟩ := Prod.mk.inj he
  obtain ⟨e2, e3⟩ := Prod.mk.inj e2
  subst e1
  subst e2
  subst e3
  refine MW_callV1 C okL_law 559 rfl rX (v0 := some (.int (o))) (h0 := hSo yr s) (c_so_told s yr (xs (i + 1).toNatClampNeg)  o ho) lkL_126 1 dpX11_told (by decide) (rest := []) rfl rfl rfl rfl rfl rfl rfl rfl rfl (lX_m yr hy s σ) rfl (st2 := [.int (o)]) (h2 := hSo yr s ++ hMs σ) rfl (lX_j yr yr hy2 s s σ) ?_
  refine MW_run C okL_law 560 5 (gs := []) (cf' := (867, [some (.ref 1000), some (.ref 0), some (.ref 92), some (.int i)], [.int (i + 1), .ref 1000, .ref 92, .int (o)], hSo yr s ++ hMs σ, bk, bn)) rfl trivial ?_
  refine MW_sld C okL_law 565 hS rfl h1 rfl ?_
  have hm : (m_told σ (xs (i + 1).toNatClampNeg)).map (fun w => (w, σ)) = some (o, σ2) := hm
  obtain ⟨w, hw, hv⟩ := Option.map_eq_some_iff.mp hm
  obtain ⟨g1, g2⟩ := Prod.mk.inj hv
  subst g2
  refine MW_callV1 C okL_law 566 rfl rM (v0 := some (.int (w))) (h0 := hM σ) (c_m_told σ (xs (i + 1).toNatClampNeg) w hw) lkL_129 1 dpX12_told (by decide) (rest := [.int (o)]) rfl rfl rfl rfl rfl rfl rfl rfl rfl (lM_m _ _ σ) rfl (st2 := [.int (w), .int (o)]) (h2 := hSo yr s ++ hMs σ) rfl (lM_j _ _ σ _) ?_
  exact MW_brT C okL_law 567 rfl rfl (fun _ => kk) (fun h9 => absurd g1.symm h9)
end
