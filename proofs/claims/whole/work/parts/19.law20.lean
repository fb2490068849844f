section
variable {X : CTX} {b L : Nat} {xs : Nat → Int32} {bk bn : Nat}
set_option maxRecDepth 100000 in
set_option maxHeartbeats 4000000 in
theorem law_case_say (C : CX X code RL false 2048 84000) (hS : SX X b L xs) {i : Int32} (h1 : inb (i + 1) L) (h2 : inb (i + 2) L) (h3 : inb (i + 3) L) {s s2 : SoS} {yr yr2 : Nat} {σ σ2 : MS} {r : Int32} (hy : yr = 3 ∨ yr = 80) (hy2 : yr2 = 3 ∨ yr2 = 80) (hx : callXI 0 (xs (i + 1).toNatClampNeg) (xs (i + 2).toNatClampNeg) (xs (i + 3).toNatClampNeg) s yr = some (r, s2, yr2)) (hm : callMI 0 (xs (i + 1).toNatClampNeg) (xs (i + 2).toNatClampNeg) (xs (i + 3).toNatClampNeg) σ = some (r, σ2))
    (kk : MW X (876, [some (.ref 1000), some (.ref 0), some (.ref 92), some (.int i)], [], hSo yr2 s2 ++ hMs σ2, bk, bn)) : MW X (160, [some (.ref 1000), some (.ref 0), some (.ref 92), some (.int i)], [], hSo yr s ++ hMs σ, bk, bn) := by
  refine MW_run C okL_law 22 5 (gs := []) (cf' := (165, [some (.ref 1000), some (.ref 0), some (.ref 92), some (.int i)], [.int (i + 1), .ref 1000, .ref 0], hSo yr s ++ hMs σ, bk, bn)) rfl trivial ?_
  refine MW_sld C okL_law 27 hS rfl h1 rfl ?_
  have hx : (so_say s yr (xs (i + 1).toNatClampNeg)).map (fun o => (o.1, o.2, yr)) = some (r, s2, yr2) := hx
  obtain ⟨o, ho, he⟩ := Option.map_eq_some_iff.mp hx
  obtain ⟨e1, e2⟩ := Prod.mk.inj he
  obtain ⟨e2, e3⟩ := Prod.mk.inj e2
  subst e1
  subst e2
  subst e3
  refine MW_callV1 C okL_law 28 rfl rX (v0 := some (.int (o.1))) (h0 := hSo yr o.2) (c_so_say s yr (xs (i + 1).toNatClampNeg)  o ho) lkL_13 1 dpX11_say (by decide) (rest := []) rfl rfl rfl rfl rfl rfl rfl rfl rfl (lX_m yr hy s σ) rfl (st2 := [.int (o.1)]) (h2 := hSo yr o.2 ++ hMs σ) rfl (lX_j yr yr hy2 s o.2 σ) ?_
  refine MW_run C okL_law 29 5 (gs := []) (cf' := (174, [some (.ref 1000), some (.ref 0), some (.ref 92), some (.int i)], [.int (i + 1), .ref 1000, .ref 92, .int (o.1)], hSo yr o.2 ++ hMs σ, bk, bn)) rfl trivial ?_
  refine MW_sld C okL_law 34 hS rfl h1 rfl ?_
  have hm : (m_say σ (xs (i + 1).toNatClampNeg)).map (fun w => (w.1, w.2)) = some (o.1, σ2) := hm
  obtain ⟨w, hw, hv⟩ := Option.map_eq_some_iff.mp hm
  obtain ⟨g1, g2⟩ := Prod.mk.inj hv
  subst g2
  refine MW_callV1 C okL_law 35 rfl rM (v0 := some (.int (w.1))) (h0 := hM w.2) (c_m_say σ (xs (i + 1).toNatClampNeg) w hw) lkL_17 1 dpX12_say (by decide) (rest := [.int (o.1)]) rfl rfl rfl rfl rfl rfl rfl rfl rfl (lM_m _ _ σ) rfl (st2 := [.int (w.1), .int (o.1)]) (h2 := hSo yr o.2 ++ hMs w.2) rfl (lM_j _ _ σ _) ?_
  exact MW_brT C okL_law 36 rfl rfl (fun _ => kk) (fun h9 => absurd g1.symm h9)
set_option maxRecDepth 100000 in
set_option maxHeartbeats 4000000 in
theorem law_case_wipe (C : CX X code RL false 2048 84000) (hS : SX X b L xs) {i : Int32} (h1 : inb (i + 1) L) (h2 : inb (i + 2) L) (h3 : inb (i + 3) L) {s s2 : SoS} {yr yr2 : Nat} {σ σ2 : MS} {r : Int32} (hy : yr = 3 ∨ yr = 80) (hy2 : yr2 = 3 ∨ yr2 = 80) (hx : callXI 1 (xs (i + 1).toNatClampNeg) (xs (i + 2).toNatClampNeg) (xs (i + 3).toNatClampNeg) s yr = some (r, s2, yr2)) (hm : callMI 1 (xs (i + 1).toNatClampNeg) (xs (i + 2).toNatClampNeg) (xs (i + 3).toNatClampNeg) σ = some (r, σ2))
    (kk : MW X (876, [some (.ref 1000), some (.ref 0), some (.ref 92), some (.int i)], [], hSo yr2 s2 ++ hMs σ2, bk, bn)) : MW X (183, [some (.ref 1000), some (.ref 0), some (.ref 92), some (.int i)], [], hSo yr s ++ hMs σ, bk, bn) := by
  refine MW_run C okL_law 39 1 (gs := []) (cf' := (184, [some (.ref 1000), some (.ref 0), some (.ref 92), some (.int i)], [.ref 0], hSo yr s ++ hMs σ, bk, bn)) rfl trivial ?_
  have hx : (so_wipe s yr ).map (fun o => (o.1, o.2, yr)) = some (r, s2, yr2) := hx
  obtain ⟨o, ho, he⟩ := Option.map_eq_some_iff.mp hx
  obtain ⟨e1, e2⟩ := Prod.mk.inj he
  obtain ⟨e2, e3⟩ := Prod.mk.inj e2
  subst e1
  subst e2
  subst e3
  refine MW_callV1 C okL_law 40 rfl rX (v0 := some (.int (o.1))) (h0 := hSo yr o.2) (c_so_wipe s yr   o ho) lkL_18 0 dpX11_wipe (by decide) (rest := []) rfl rfl rfl rfl rfl rfl rfl rfl rfl (lX_m yr hy s σ) rfl (st2 := [.int (o.1)]) (h2 := hSo yr o.2 ++ hMs σ) rfl (lX_j yr yr hy2 s o.2 σ) ?_
  refine MW_run C okL_law 41 1 (gs := []) (cf' := (188, [some (.ref 1000), some (.ref 0), some (.ref 92), some (.int i)], [.ref 92, .int (o.1)], hSo yr o.2 ++ hMs σ, bk, bn)) rfl trivial ?_
  have hm : (m_wipe σ ).map (fun w => (w.1, w.2)) = some (o.1, σ2) := hm
  obtain ⟨w, hw, hv⟩ := Option.map_eq_some_iff.mp hm
  obtain ⟨g1, g2⟩ := Prod.mk.inj hv
  subst g2
  refine MW_callV1 C okL_law 42 rfl rM (v0 := some (.int (w.1))) (h0 := hM w.2) (c_m_wipe σ  w hw) lkL_22 0 dpX12_wipe (by decide) (rest := [.int (o.1)]) rfl rfl rfl rfl rfl rfl rfl rfl rfl (lM_m _ _ σ) rfl (st2 := [.int (w.1), .int (o.1)]) (h2 := hSo yr o.2 ++ hMs w.2) rfl (lM_j _ _ σ _) ?_
  exact MW_brT C okL_law 43 rfl rfl (fun _ => kk) (fun h9 => absurd g1.symm h9)
set_option maxRecDepth 100000 in
set_option maxHeartbeats 4000000 in
theorem law_case_fault (C : CX X code RL false 2048 84000) (hS : SX X b L xs) {i : Int32} (h1 : inb (i + 1) L) (h2 : inb (i + 2) L) (h3 : inb (i + 3) L) {s s2 : SoS} {yr yr2 : Nat} {σ σ2 : MS} {r : Int32} (hy : yr = 3 ∨ yr = 80) (hy2 : yr2 = 3 ∨ yr2 = 80) (hx : callXI 2 (xs (i + 1).toNatClampNeg) (xs (i + 2).toNatClampNeg) (xs (i + 3).toNatClampNeg) s yr = some (r, s2, yr2)) (hm : callMI 2 (xs (i + 1).toNatClampNeg) (xs (i + 2).toNatClampNeg) (xs (i + 3).toNatClampNeg) σ = some (r, σ2))
    (kk : MW X (876, [some (.ref 1000), some (.ref 0), some (.ref 92), some (.int i)], [], hSo yr2 s2 ++ hMs σ2, bk, bn)) : MW X (196, [some (.ref 1000), some (.ref 0), some (.ref 92), some (.int i)], [], hSo yr s ++ hMs σ, bk, bn) := by
  refine MW_run C okL_law 46 1 (gs := []) (cf' := (197, [some (.ref 1000), some (.ref 0), some (.ref 92), some (.int i)], [.ref 0], hSo yr s ++ hMs σ, bk, bn)) rfl trivial ?_
  have hx : (so_fault s yr ).map (fun o => (o, s, yr)) = some (r, s2, yr2) := hx
  obtain ⟨o, ho, he⟩ := Option.map_eq_some_iff.mp hx
  obtain ⟨e1, e2⟩ := Prod.mk.inj he
  obtain ⟨e2, e3⟩ := Prod.mk.inj e2
  subst e1
  subst e2
  subst e3
  refine MW_callV1 C okL_law 47 rfl rX (v0 := some (.int (o))) (h0 := hSo yr s) (c_so_fault s yr   o ho) lkL_23 0 dpX11_fault (by decide) (rest := []) rfl rfl rfl rfl rfl rfl rfl rfl rfl (lX_m yr hy s σ) rfl (st2 := [.int (o)]) (h2 := hSo yr s ++ hMs σ) rfl (lX_j yr yr hy2 s s σ) ?_
  refine MW_run C okL_law 48 1 (gs := []) (cf' := (201, [some (.ref 1000), some (.ref 0), some (.ref 92), some (.int i)], [.ref 92, .int (o)], hSo yr s ++ hMs σ, bk, bn)) rfl trivial ?_
  have hm : (m_fault σ ).map (fun w => (w, σ)) = some (o, σ2) := hm
  obtain ⟨w, hw, hv⟩ := Option.map_eq_some_iff.mp hm
  obtain ⟨g1, g2⟩ := Prod.mk.inj hv
  subst g2
  refine MW_callV1 C okL_law 49 rfl rM (v0 := some (.int (w))) (h0 := hM σ) (c_m_fault σ  w hw) lkL_26 0 dpX12_fault (by decide) (rest := [.int (o)]) rfl rfl rfl rfl rfl rfl rfl rfl rfl (lM_m _ _ σ) rfl (st2 := [.int (w), .int (o)]) (h2 := hSo yr s ++ hMs σ) rfl (lM_j _ _ σ _) ?_
  exact MW_brT C okL_law 50 rfl rfl (fun _ => kk) (fun h9 => absurd g1.symm h9)
set_option maxRecDepth 100000 in
set_option maxHeartbeats 4000000 in
theorem law_case_yard (C : CX X code RL false 2048 84000) (hS : SX X b L xs) {i : Int32} (h1 : inb (i + 1) L) (h2 : inb (i + 2) L) (h3 : inb (i + 3) L) {s s2 : SoS} {yr yr2 : Nat} {σ σ2 : MS} {r : Int32} (hy : yr = 3 ∨ yr = 80) (hy2 : yr2 = 3 ∨ yr2 = 80) (hx : callXI 3 (xs (i + 1).toNatClampNeg) (xs (i + 2).toNatClampNeg) (xs (i + 3).toNatClampNeg) s yr = some (r, s2, yr2)) (hm : callMI 3 (xs (i + 1).toNatClampNeg) (xs (i + 2).toNatClampNeg) (xs (i + 3).toNatClampNeg) σ = some (r, σ2))
    (kk : MW X (876, [some (.ref 1000), some (.ref 0), some (.ref 92), some (.int i)], [], hSo yr2 s2 ++ hMs σ2, bk, bn)) : MW X (209, [some (.ref 1000), some (.ref 0), some (.ref 92), some (.int i)], [], hSo yr s ++ hMs σ, bk, bn) := by
  refine MW_run C okL_law 53 1 (gs := []) (cf' := (210, [some (.ref 1000), some (.ref 0), some (.ref 92), some (.int i)], [.ref 0], hSo yr s ++ hMs σ, bk, bn)) rfl trivial ?_
  have hx : (so_yard s yr ).map (fun o => (o.1, o.2, yr)) = some (r, s2, yr2) := hx
  obtain ⟨o, ho, he⟩ := Option.map_eq_some_iff.mp hx
  obtain ⟨e1, e2⟩ := Prod.mk.inj he
  obtain ⟨e2, e3⟩ := Prod.mk.inj e2
  subst e1
  subst e2
  subst e3
  refine MW_callV1 C okL_law 54 rfl rX (v0 := some (.int (o.1))) (h0 := hSo yr o.2) (c_so_yard s yr   o ho) lkL_27 0 dpX11_yard (by decide) (rest := []) rfl rfl rfl rfl rfl rfl rfl rfl rfl (lX_m yr hy s σ) rfl (st2 := [.int (o.1)]) (h2 := hSo yr o.2 ++ hMs σ) rfl (lX_j yr yr hy2 s o.2 σ) ?_
  refine MW_run C okL_law 55 1 (gs := []) (cf' := (214, [some (.ref 1000), some (.ref 0), some (.ref 92), some (.int i)], [.ref 92, .int (o.1)], hSo yr o.2 ++ hMs σ, bk, bn)) rfl trivial ?_
  have hm : (m_yard σ ).map (fun w => (w.1, w.2)) = some (o.1, σ2) := hm
  obtain ⟨w, hw, hv⟩ := Option.map_eq_some_iff.mp hm
  obtain ⟨g1, g2⟩ := Prod.mk.inj hv
  subst g2
  refine MW_callV1 C okL_law 56 rfl rM (v0 := some (.int (w.1))) (h0 := hM w.2) (c_m_yard σ  w hw) lkL_30 0 dpX12_yard (by decide) (rest := [.int (o.1)]) rfl rfl rfl rfl rfl rfl rfl rfl rfl (lM_m _ _ σ) rfl (st2 := [.int (w.1), .int (o.1)]) (h2 := hSo yr o.2 ++ hMs w.2) rfl (lM_j _ _ σ _) ?_
  exact MW_brT C okL_law 57 rfl rfl (fun _ => kk) (fun h9 => absurd g1.symm h9)
set_option maxRecDepth 100000 in
set_option maxHeartbeats 4000000 in
theorem law_case_siding (C : CX X code RL false 2048 84000) (hS : SX X b L xs) {i : Int32} (h1 : inb (i + 1) L) (h2 : inb (i + 2) L) (h3 : inb (i + 3) L) {s s2 : SoS} {yr yr2 : Nat} {σ σ2 : MS} {r : Int32} (hy : yr = 3 ∨ yr = 80) (hy2 : yr2 = 3 ∨ yr2 = 80) (hx : callXI 4 (xs (i + 1).toNatClampNeg) (xs (i + 2).toNatClampNeg) (xs (i + 3).toNatClampNeg) s yr = some (r, s2, yr2)) (hm : callMI 4 (xs (i + 1).toNatClampNeg) (xs (i + 2).toNatClampNeg) (xs (i + 3).toNatClampNeg) σ = some (r, σ2))
    (kk : MW X (876, [some (.ref 1000), some (.ref 0), some (.ref 92), some (.int i)], [], hSo yr2 s2 ++ hMs σ2, bk, bn)) : MW X (222, [some (.ref 1000), some (.ref 0), some (.ref 92), some (.int i)], [], hSo yr s ++ hMs σ, bk, bn) := by
  refine MW_run C okL_law 60 5 (gs := []) (cf' := (227, [some (.ref 1000), some (.ref 0), some (.ref 92), some (.int i)], [.int (i + 1), .ref 1000, .ref 0], hSo yr s ++ hMs σ, bk, bn)) rfl trivial ?_
  refine MW_sld C okL_law 65 hS rfl h1 rfl ?_
  refine MW_run C okL_law 66 4 (gs := []) (cf' := (232, [some (.ref 1000), some (.ref 0), some (.ref 92), some (.int i)], [.int (i + 2), .ref 1000, .int (xs (i + 1).toNatClampNeg), .ref 0], hSo yr s ++ hMs σ, bk, bn)) rfl trivial ?_
  refine MW_sld C okL_law 70 hS rfl h2 rfl ?_
  have hx : (so_siding s yr (xs (i + 1).toNatClampNeg) (xs (i + 2).toNatClampNeg)).map (fun o => (o, s, yr)) = some (r, s2, yr2) := hx
  obtain ⟨o, ho, he⟩ := Option.map_eq_some_iff.mp hx
  obtain ⟨e1, e2⟩ := Prod.mk.inj he
  obtain ⟨e2, e3⟩ := Prod.mk.inj e2
  subst e1
  subst e2
  subst e3
  refine MW_callV1 C okL_law 71 rfl rX (v0 := some (.int (o))) (h0 := hSo yr s) (c_so_siding s yr (xs (i + 1).toNatClampNeg) (xs (i + 2).toNatClampNeg)  o ho) lkL_31 2 dpX11_siding (by decide) (rest := []) rfl rfl rfl rfl rfl rfl rfl rfl rfl (lX_m yr hy s σ) rfl (st2 := [.int (o)]) (h2 := hSo yr s ++ hMs σ) rfl (lX_j yr yr hy2 s s σ) ?_
  refine MW_run C okL_law 72 5 (gs := []) (cf' := (241, [some (.ref 1000), some (.ref 0), some (.ref 92), some (.int i)], [.int (i + 1), .ref 1000, .ref 92, .int (o)], hSo yr s ++ hMs σ, bk, bn)) rfl trivial ?_
  refine MW_sld C okL_law 77 hS rfl h1 rfl ?_
  refine MW_run C okL_law 78 4 (gs := []) (cf' := (246, [some (.ref 1000), some (.ref 0), some (.ref 92), some (.int i)], [.int (i + 2), .ref 1000, .int (xs (i + 1).toNatClampNeg), .ref 92, .int (o)], hSo yr s ++ hMs σ, bk, bn)) rfl trivial ?_
  refine MW_sld C okL_law 82 hS rfl h2 rfl ?_
  have hm : (m_siding σ (xs (i + 1).toNatClampNeg) (xs (i + 2).toNatClampNeg)).map (fun w => (w, σ)) = some (o, σ2) := hm
  obtain ⟨w, hw, hv⟩ := Option.map_eq_some_iff.mp hm
  obtain ⟨g1, g2⟩ := Prod.mk.inj hv
  subst g2
  refine MW_callV1 C okL_law 83 rfl rM (v0 := some (.int (w))) (h0 := hM σ) (c_m_siding σ (xs (i + 1).toNatClampNeg) (xs (i + 2).toNatClampNeg) w hw) lkL_35 2 dpX12_siding (by decide) (rest := [.int (o)]) rfl rfl rfl rfl rfl rfl rfl rfl rfl (lM_m _ _ σ) rfl (st2 := [.int (w), .int (o)]) (h2 := hSo yr s ++ hMs σ) rfl (lM_j _ _ σ _) ?_
  exact MW_brT C okL_law 84 rfl rfl (fun _ => kk) (fun h9 => absurd g1.symm h9)
set_option maxRecDepth 100000 in
set_option maxHeartbeats 4000000 in
theorem law_case_leads (C : CX X code RL false 2048 84000) (hS : SX X b L xs) {i : Int32} (h1 : inb (i + 1) L) (h2 : inb (i + 2) L) (h3 : inb (i + 3) L) {s s2 : SoS} {yr yr2 : Nat} {σ σ2 : MS} {r : Int32} (hy : yr = 3 ∨ yr = 80) (hy2 : yr2 = 3 ∨ yr2 = 80) (hx : callXI 5 (xs (i + 1).toNatClampNeg) (xs (i + 2).toNatClampNeg) (xs (i + 3).toNatClampNeg) s yr = some (r, s2, yr2)) (hm : callMI 5 (xs (i + 1).toNatClampNeg) (xs (i + 2).toNatClampNeg) (xs (i + 3).toNatClampNeg) σ = some (r, σ2))
    (kk : MW X (876, [some (.ref 1000), some (.ref 0), some (.ref 92), some (.int i)], [], hSo yr2 s2 ++ hMs σ2, bk, bn)) : MW X (255, [some (.ref 1000), some (.ref 0), some (.ref 92), some (.int i)], [], hSo yr s ++ hMs σ, bk, bn) := by
  refine MW_run C okL_law 87 5 (gs := []) (cf' := (260, [some (.ref 1000), some (.ref 0), some (.ref 92), some (.int i)], [.int (i + 1), .ref 1000, .ref 0], hSo yr s ++ hMs σ, bk, bn)) rfl trivial ?_
  refine MW_sld C okL_law 92 hS rfl h1 rfl ?_
  refine MW_run C okL_law 93 4 (gs := []) (cf' := (265, [some (.ref 1000), some (.ref 0), some (.ref 92), some (.int i)], [.int (i + 2), .ref 1000, .int (xs (i + 1).toNatClampNeg), .ref 0], hSo yr s ++ hMs σ, bk, bn)) rfl trivial ?_
  refine MW_sld C okL_law 97 hS rfl h2 rfl ?_
  have hx : (so_leads s yr (xs (i + 1).toNatClampNeg) (xs (i + 2).toNatClampNeg)).map (fun o => (o, s, yr)) = some (r, s2, yr2) := hx
  obtain ⟨o, ho, he⟩ := Option.map_eq_some_iff.mp hx
  obtain ⟨e1, e2⟩ := Prod.mk.inj he
  obtain ⟨e2, e3⟩ := Prod.mk.inj e2
  subst e1
  subst e2
  subst e3
  refine MW_callV1 C okL_law 98 rfl rX (v0 := some (.int (o))) (h0 := hSo yr s) (c_so_leads s yr (xs (i + 1).toNatClampNeg) (xs (i + 2).toNatClampNeg)  o ho) lkL_36 2 dpX11_leads (by decide) (rest := []) rfl rfl rfl rfl rfl rfl rfl rfl rfl (lX_m yr hy s σ) rfl (st2 := [.int (o)]) (h2 := hSo yr s ++ hMs σ) rfl (lX_j yr yr hy2 s s σ) ?_
  refine MW_run C okL_law 99 5 (gs := []) (cf' := (274, [some (.ref 1000), some (.ref 0), some (.ref 92), some (.int i)], [.int (i + 1), .ref 1000, .ref 92, .int (o)], hSo yr s ++ hMs σ, bk, bn)) rfl trivial ?_
  refine MW_sld C okL_law 104 hS rfl h1 rfl ?_
  refine MW_run C okL_law 105 4 (gs := []) (cf' := (279, [some (.ref 1000), some (.ref 0), some (.ref 92), some (.int i)], [.int (i + 2), .ref 1000, .int (xs (i + 1).toNatClampNeg), .ref 92, .int (o)], hSo yr s ++ hMs σ, bk, bn)) rfl trivial ?_
  refine MW_sld C okL_law 109 hS rfl h2 rfl ?_
  have hm : (m_leads σ (xs (i + 1).toNatClampNeg) (xs (i + 2).toNatClampNeg)).map (fun w => (w, σ)) = some (o, σ2) := hm
  obtain ⟨w, hw, hv⟩ := Option.map_eq_some_iff.mp hm
  obtain ⟨g1, g2⟩ := Prod.mk.inj hv
  subst g2
  refine MW_callV1 C okL_law 110 rfl rM (v0 := some (.int (w))) (h0 := hM σ) (c_m_leads σ (xs (i + 1).toNatClampNeg) (xs (i + 2).toNatClampNeg) w hw) lkL_39 2 dpX12_leads (by decide) (rest := [.int (o)]) rfl rfl rfl rfl rfl rfl rfl rfl rfl (lM_m _ _ σ) rfl (st2 := [.int (w), .int (o)]) (h2 := hSo yr s ++ hMs σ) rfl (lM_j _ _ σ _) ?_
  exact MW_brT C okL_law 111 rfl rfl (fun _ => kk) (fun h9 => absurd g1.symm h9)
set_option maxRecDepth 100000 in
set_option maxHeartbeats 4000000 in
theorem law_case_least (C : CX X code RL false 2048 84000) (hS : SX X b L xs) {i : Int32} (h1 : inb (i + 1) L) (h2 : inb (i + 2) L) (h3 : inb (i + 3) L) {s s2 : SoS} {yr yr2 : Nat} {σ σ2 : MS} {r : Int32} (hy : yr = 3 ∨ yr = 80) (hy2 : yr2 = 3 ∨ yr2 = 80) (hx : callXI 6 (xs (i + 1).toNatClampNeg) (xs (i + 2).toNatClampNeg) (xs (i + 3).toNatClampNeg) s yr = some (r, s2, yr2)) (hm : callMI 6 (xs (i + 1).toNatClampNeg) (xs (i + 2).toNatClampNeg) (xs (i + 3).toNatClampNeg) σ = some (r, σ2))
    (kk : MW X (876, [some (.ref 1000), some (.ref 0), some (.ref 92), some (.int i)], [], hSo yr2 s2 ++ hMs σ2, bk, bn)) : MW X (288, [some (.ref 1000), some (.ref 0), some (.ref 92), some (.int i)], [], hSo yr s ++ hMs σ, bk, bn) := by
  refine MW_run C okL_law 114 5 (gs := []) (cf' := (293, [some (.ref 1000), some (.ref 0), some (.ref 92), some (.int i)], [.int (i + 1), .ref 1000, .ref 0], hSo yr s ++ hMs σ, bk, bn)) rfl trivial ?_
  refine MW_sld C okL_law 119 hS rfl h1 rfl ?_
  refine MW_run C okL_law 120 4 (gs := []) (cf' := (298, [some (.ref 1000), some (.ref 0), some (.ref 92), some (.int i)], [.int (i + 2), .ref 1000, .int (xs (i + 1).toNatClampNeg), .ref 0], hSo yr s ++ hMs σ, bk, bn)) rfl trivial ?_
  refine MW_sld C okL_law 124 hS rfl h2 rfl ?_
  have hx : (so_least s yr (xs (i + 1).toNatClampNeg) (xs (i + 2).toNatClampNeg)).map (fun o => (o.1, o.2, yr)) = some (r, s2, yr2) := hx
  obtain ⟨o, ho, he⟩ := Option.map_eq_some_iff.mp hx
  obtain ⟨e1, e2⟩ := Prod.mk.inj he
  obtain ⟨e2, e3⟩ := Prod.mk.inj e2
  subst e1
  subst e2
  subst e3
  refine MW_callV1 C okL_law 125 rfl rX (v0 := some (.int (o.1))) (h0 := hSo yr o.2) (c_so_least s yr (xs (i + 1).toNatClampNeg) (xs (i + 2).toNatClampNeg)  o ho) lkL_40 2 dpX11_least (by decide) (rest := []) rfl rfl rfl rfl rfl rfl rfl rfl rfl (lX_m yr hy s σ) rfl (st2 := [.int (o.1)]) (h2 := hSo yr o.2 ++ hMs σ) rfl (lX_j yr yr hy2 s o.2 σ) ?_
  refine MW_run C okL_law 126 5 (gs := []) (cf' := (307, [some (.ref 1000), some (.ref 0), some (.ref 92), some (.int i)], [.int (i + 1), .ref 1000, .ref 92, .int (o.1)], hSo yr o.2 ++ hMs σ, bk, bn)) rfl trivial ?_
  refine MW_sld C okL_law 131 hS rfl h1 rfl ?_
  refine MW_run C okL_law 132 4 (gs := []) (cf' := (312, [some (.ref 1000), some (.ref 0), some (.ref 92), some (.int i)], [.int (i + 2), .ref 1000, .int (xs (i + 1).toNatClampNeg), .ref 92, .int (o.1)], hSo yr o.2 ++ hMs σ, bk, bn)) rfl trivial ?_
  refine MW_sld C okL_law 136 hS rfl h2 rfl ?_
  have hm : (m_least σ (xs (i + 1).toNatClampNeg) (xs (i + 2).toNatClampNeg)).map (fun w => (w.1, w.2)) = some (o.1, σ2) := hm
  obtain ⟨w, hw, hv⟩ := Option.map_eq_some_iff.mp hm
  obtain ⟨g1, g2⟩ := Prod.mk.inj hv
  subst g2
  refine MW_callV1 C okL_law 137 rfl rM (v0 := some (.int (w.1))) (h0 := hM w.2) (c_m_least σ (xs (i + 1).toNatClampNeg) (xs (i + 2).toNatClampNeg) w hw) lkL_43 2 dpX12_least (by decide) (rest := [.int (o.1)]) rfl rfl rfl rfl rfl rfl rfl rfl rfl (lM_m _ _ σ) rfl (st2 := [.int (w.1), .int (o.1)]) (h2 := hSo yr o.2 ++ hMs w.2) rfl (lM_j _ _ σ _) ?_
  exact MW_brT C okL_law 138 rfl rfl (fun _ => kk) (fun h9 => absurd g1.symm h9)
end
