section
variable {X : CTX} {b L : Nat} {xs : Nat → Int32} {bk bn : Nat}
set_option maxRecDepth 100000 in
set_option maxHeartbeats 4000000 in
theorem law_case_ways (C : CX X code RL false 2048 84000) (hS : SX X b L xs) {i : Int32} (h1 : inb (i + 1) L) (h2 : inb (i + 2) L) (h3 : inb (i + 3) L) {s s2 : SoS} {yr yr2 : Nat} {σ σ2 : MS} {r : Int64} (hy : yr = 3 ∨ yr = 80) (hy2 : yr2 = 3 ∨ yr2 = 80) (hx : callXL 7 (xs (i + 1).toNatClampNeg) (xs (i + 2).toNatClampNeg) (xs (i + 3).toNatClampNeg) s yr = some (r, s2, yr2)) (hm : callML 7 (xs (i + 1).toNatClampNeg) (xs (i + 2).toNatClampNeg) (xs (i + 3).toNatClampNeg) σ = some (r, σ2))
    (kk : MW X (876, [some (.ref 1000), some (.ref 0), some (.ref 92), some (.int i)], [], hSo yr2 s2 ++ hMs σ2, bk, bn)) : MW X (321, [some (.ref 1000), some (.ref 0), some (.ref 92), some (.int i)], [], hSo yr s ++ hMs σ, bk, bn) := by
  refine MW_run C okL_law 141 5 (gs := []) (cf' := (326, [some (.ref 1000), some (.ref 0), some (.ref 92), some (.int i)], [.int (i + 1), .ref 1000, .ref 0], hSo yr s ++ hMs σ, bk, bn)) rfl trivial ?_
  refine MW_sld C okL_law 146 hS rfl h1 rfl ?_
  refine MW_run C okL_law 147 4 (gs := []) (cf' := (331, [some (.ref 1000), some (.ref 0), some (.ref 92), some (.int i)], [.int (i + 2), .ref 1000, .int (xs (i + 1).toNatClampNeg), .ref 0], hSo yr s ++ hMs σ, bk, bn)) rfl trivial ?_
  refine MW_sld C okL_law 151 hS rfl h2 rfl ?_
  have hx : (so_ways s yr (xs (i + 1).toNatClampNeg) (xs (i + 2).toNatClampNeg)).map (fun o => (o.1, o.2, yr)) = some (r, s2, yr2) := hx
  obtain ⟨o, ho, he⟩ := Option.map_eq_some_iff.mp hx
  obtain ⟨e1, e2⟩ := Prod.mk.inj he
  obtain ⟨e2, e3⟩ := Prod.mk.inj e2
  subst e1
  subst e2
  subst e3
  refine MW_callV1 C okL_law 152 rfl rX (v0 := some (.long (o.1))) (h0 := hSo yr o.2) (c_so_ways s yr (xs (i + 1).toNatClampNeg) (xs (i + 2).toNatClampNeg)  o ho) lkL_44 2 dpX11_ways (by decide) (rest := []) rfl rfl rfl rfl rfl rfl rfl rfl rfl (lX_m yr hy s σ) rfl (st2 := [.long (o.1)]) (h2 := hSo yr o.2 ++ hMs σ) rfl (lX_j yr yr hy2 s o.2 σ) ?_
  refine MW_run C okL_law 153 5 (gs := []) (cf' := (340, [some (.ref 1000), some (.ref 0), some (.ref 92), some (.int i)], [.int (i + 1), .ref 1000, .ref 92, .long (o.1)], hSo yr o.2 ++ hMs σ, bk, bn)) rfl trivial ?_
  refine MW_sld C okL_law 158 hS rfl h1 rfl ?_
  refine MW_run C okL_law 159 4 (gs := []) (cf' := (345, [some (.ref 1000), some (.ref 0), some (.ref 92), some (.int i)], [.int (i + 2), .ref 1000, .int (xs (i + 1).toNatClampNeg), .ref 92, .long (o.1)], hSo yr o.2 ++ hMs σ, bk, bn)) rfl trivial ?_
  refine MW_sld C okL_law 163 hS rfl h2 rfl ?_
  have hm : (m_ways σ (xs (i + 1).toNatClampNeg) (xs (i + 2).toNatClampNeg)).map (fun w => (w.1, w.2)) = some (o.1, σ2) := hm
  obtain ⟨w, hw, hv⟩ := Option.map_eq_some_iff.mp hm
  obtain ⟨g1, g2⟩ := Prod.mk.inj hv
  subst g2
  refine MW_callV1 C okL_law 164 rfl rM (v0 := some (.long (w.1))) (h0 := hM w.2) (c_m_ways σ (xs (i + 1).toNatClampNeg) (xs (i + 2).toNatClampNeg) w hw) lkL_48 2 dpX12_ways (by decide) (rest := [.long (o.1)]) rfl rfl rfl rfl rfl rfl rfl rfl rfl (lM_m _ _ σ) rfl (st2 := [.long (w.1), .long (o.1)]) (h2 := hSo yr o.2 ++ hMs w.2) rfl (lM_j _ _ σ _) ?_
  refine MW_run C okL_law 165 1 (gs := []) (cf' := (350, [some (.ref 1000), some (.ref 0), some (.ref 92), some (.int i)], [.int (lg_cmp (o.1) (w.1))], hSo yr o.2 ++ hMs w.2, bk, bn)) rfl trivial ?_
  exact MW_brT C okL_law 166 rfl rfl (fun _ => kk) (fun h9 => absurd (by rw [g1]; exact lg_cmp_self _) h9)
set_option maxRecDepth 100000 in
set_option maxHeartbeats 4000000 in
theorem law_case_first (C : CX X code RL false 2048 84000) (hS : SX X b L xs) {i : Int32} (h1 : inb (i + 1) L) (h2 : inb (i + 2) L) (h3 : inb (i + 3) L) {s s2 : SoS} {yr yr2 : Nat} {σ σ2 : MS} {r : Int32} (hy : yr = 3 ∨ yr = 80) (hy2 : yr2 = 3 ∨ yr2 = 80) (hx : callXI 8 (xs (i + 1).toNatClampNeg) (xs (i + 2).toNatClampNeg) (xs (i + 3).toNatClampNeg) s yr = some (r, s2, yr2)) (hm : callMI 8 (xs (i + 1).toNatClampNeg) (xs (i + 2).toNatClampNeg) (xs (i + 3).toNatClampNeg) σ = some (r, σ2))
    (kk : MW X (876, [some (.ref 1000), some (.ref 0), some (.ref 92), some (.int i)], [], hSo yr2 s2 ++ hMs σ2, bk, bn)) : MW X (355, [some (.ref 1000), some (.ref 0), some (.ref 92), some (.int i)], [], hSo yr s ++ hMs σ, bk, bn) := by
  refine MW_run C okL_law 169 5 (gs := []) (cf' := (360, [some (.ref 1000), some (.ref 0), some (.ref 92), some (.int i)], [.int (i + 1), .ref 1000, .ref 0], hSo yr s ++ hMs σ, bk, bn)) rfl trivial ?_
  refine MW_sld C okL_law 174 hS rfl h1 rfl ?_
  refine MW_run C okL_law 175 4 (gs := []) (cf' := (365, [some (.ref 1000), some (.ref 0), some (.ref 92), some (.int i)], [.int (i + 2), .ref 1000, .int (xs (i + 1).toNatClampNeg), .ref 0], hSo yr s ++ hMs σ, bk, bn)) rfl trivial ?_
  refine MW_sld C okL_law 179 hS rfl h2 rfl ?_
  refine MW_run C okL_law 180 4 (gs := []) (cf' := (370, [some (.ref 1000), some (.ref 0), some (.ref 92), some (.int i)], [.int (i + 3), .ref 1000, .int (xs (i + 2).toNatClampNeg), .int (xs (i + 1).toNatClampNeg), .ref 0], hSo yr s ++ hMs σ, bk, bn)) rfl trivial ?_
  refine MW_sld C okL_law 184 hS rfl h3 rfl ?_
  have hx : (so_first s yr (xs (i + 1).toNatClampNeg) (xs (i + 2).toNatClampNeg) (xs (i + 3).toNatClampNeg)).map (fun o => (o.1, o.2.1, o.2.2)) = some (r, s2, yr2) := hx
  obtain ⟨o, ho, he⟩ := Option.map_eq_some_iff.mp hx
  obtain ⟨e1, e2⟩ := Prod.mk.inj he
  obtain ⟨e2, e3⟩ := Prod.mk.inj e2
  subst e1
  subst e2
  subst e3
  refine MW_callV1 C okL_law 185 rfl rX (v0 := some (.int (o.1))) (h0 := hSo o.2.2 o.2.1) (c_so_first s yr (xs (i + 1).toNatClampNeg) (xs (i + 2).toNatClampNeg) (xs (i + 3).toNatClampNeg)  o ho) lkL_49 3 dpX11_first (by decide) (rest := []) rfl rfl rfl rfl rfl rfl rfl rfl rfl (lX_m yr hy s σ) rfl (st2 := [.int (o.1)]) (h2 := hSo o.2.2 o.2.1 ++ hMs σ) rfl (lX_j yr o.2.2 hy2 s o.2.1 σ) ?_
  refine MW_run C okL_law 186 5 (gs := []) (cf' := (379, [some (.ref 1000), some (.ref 0), some (.ref 92), some (.int i)], [.int (i + 1), .ref 1000, .ref 92, .int (o.1)], hSo o.2.2 o.2.1 ++ hMs σ, bk, bn)) rfl trivial ?_
  refine MW_sld C okL_law 191 hS rfl h1 rfl ?_
  refine MW_run C okL_law 192 4 (gs := []) (cf' := (384, [some (.ref 1000), some (.ref 0), some (.ref 92), some (.int i)], [.int (i + 2), .ref 1000, .int (xs (i + 1).toNatClampNeg), .ref 92, .int (o.1)], hSo o.2.2 o.2.1 ++ hMs σ, bk, bn)) rfl trivial ?_
  refine MW_sld C okL_law 196 hS rfl h2 rfl ?_
  refine MW_run C okL_law 197 4 (gs := []) (cf' := (389, [some (.ref 1000), some (.ref 0), some (.ref 92), some (.int i)], [.int (i + 3), .ref 1000, .int (xs (i + 2).toNatClampNeg), .int (xs (i + 1).toNatClampNeg), .ref 92, .int (o.1)], hSo o.2.2 o.2.1 ++ hMs σ, bk, bn)) rfl trivial ?_
  refine MW_sld C okL_law 201 hS rfl h3 rfl ?_
  have hm : (m_first σ (xs (i + 1).toNatClampNeg) (xs (i + 2).toNatClampNeg) (xs (i + 3).toNatClampNeg)).map (fun w => (w.1, w.2)) = some (o.1, σ2) := hm
  obtain ⟨w, hw, hv⟩ := Option.map_eq_some_iff.mp hm
  obtain ⟨g1, g2⟩ := Prod.mk.inj hv
  subst g2
  refine MW_callV1 C okL_law 202 rfl rM (v0 := some (.int (w.1))) (h0 := hM w.2) (c_m_first σ (xs (i + 1).toNatClampNeg) (xs (i + 2).toNatClampNeg) (xs (i + 3).toNatClampNeg) w hw) lkL_53 3 dpX12_first (by decide) (rest := [.int (o.1)]) rfl rfl rfl rfl rfl rfl rfl rfl rfl (lM_m _ _ σ) rfl (st2 := [.int (w.1), .int (o.1)]) (h2 := hSo o.2.2 o.2.1 ++ hMs w.2) rfl (lM_j _ _ σ _) ?_
  exact MW_brT C okL_law 203 rfl rfl (fun _ => kk) (fun h9 => absurd g1.symm h9)
set_option maxRecDepth 100000 in
set_option maxHeartbeats 4000000 in
theorem law_case_orders (C : CX X code RL false 2048 84000) (hS : SX X b L xs) {i : Int32} (h1 : inb (i + 1) L) (h2 : inb (i + 2) L) (h3 : inb (i + 3) L) {s s2 : SoS} {yr yr2 : Nat} {σ σ2 : MS} {r : Int32} (hy : yr = 3 ∨ yr = 80) (hy2 : yr2 = 3 ∨ yr2 = 80) (hx : callXI 9 (xs (i + 1).toNatClampNeg) (xs (i + 2).toNatClampNeg) (xs (i + 3).toNatClampNeg) s yr = some (r, s2, yr2)) (hm : callMI 9 (xs (i + 1).toNatClampNeg) (xs (i + 2).toNatClampNeg) (xs (i + 3).toNatClampNeg) σ = some (r, σ2))
    (kk : MW X (876, [some (.ref 1000), some (.ref 0), some (.ref 92), some (.int i)], [], hSo yr2 s2 ++ hMs σ2, bk, bn)) : MW X (398, [some (.ref 1000), some (.ref 0), some (.ref 92), some (.int i)], [], hSo yr s ++ hMs σ, bk, bn) := by
  refine MW_run C okL_law 206 5 (gs := []) (cf' := (403, [some (.ref 1000), some (.ref 0), some (.ref 92), some (.int i)], [.int (i + 1), .ref 1000, .ref 0], hSo yr s ++ hMs σ, bk, bn)) rfl trivial ?_
  refine MW_sld C okL_law 211 hS rfl h1 rfl ?_
  refine MW_run C okL_law 212 4 (gs := []) (cf' := (408, [some (.ref 1000), some (.ref 0), some (.ref 92), some (.int i)], [.int (i + 2), .ref 1000, .int (xs (i + 1).toNatClampNeg), .ref 0], hSo yr s ++ hMs σ, bk, bn)) rfl trivial ?_
  refine MW_sld C okL_law 216 hS rfl h2 rfl ?_
  have hx : (so_orders s yr (xs (i + 1).toNatClampNeg) (xs (i + 2).toNatClampNeg)).map (fun o => (o.1, o.2, yr)) = some (r, s2, yr2) := hx
  obtain ⟨o, ho, he⟩ := Option.map_eq_some_iff.mp hx
  obtain ⟨e1, e2⟩ := Prod.mk.inj he
  obtain ⟨e2, e3⟩ := Prod.mk.inj e2
  subst e1
  subst e2
  subst e3
  refine MW_callV1 C okL_law 217 rfl rX (v0 := some (.int (o.1))) (h0 := hSo yr o.2) (c_so_orders s yr (xs (i + 1).toNatClampNeg) (xs (i + 2).toNatClampNeg)  o ho) lkL_54 2 dpX11_orders (by decide) (rest := []) rfl rfl rfl rfl rfl rfl rfl rfl rfl (lX_m yr hy s σ) rfl (st2 := [.int (o.1)]) (h2 := hSo yr o.2 ++ hMs σ) rfl (lX_j yr yr hy2 s o.2 σ) ?_
  refine MW_run C okL_law 218 5 (gs := []) (cf' := (417, [some (.ref 1000), some (.ref 0), some (.ref 92), some (.int i)], [.int (i + 1), .ref 1000, .ref 92, .int (o.1)], hSo yr o.2 ++ hMs σ, bk, bn)) rfl trivial ?_
  refine MW_sld C okL_law 223 hS rfl h1 rfl ?_
  refine MW_run C okL_law 224 4 (gs := []) (cf' := (422, [some (.ref 1000), some (.ref 0), some (.ref 92), some (.int i)], [.int (i + 2), .ref 1000, .int (xs (i + 1).toNatClampNeg), .ref 92, .int (o.1)], hSo yr o.2 ++ hMs σ, bk, bn)) rfl trivial ?_
  refine MW_sld C okL_law 228 hS rfl h2 rfl ?_
  have hm : (m_orders σ (xs (i + 1).toNatClampNeg) (xs (i + 2).toNatClampNeg)).map (fun w => (w.1, w.2)) = some (o.1, σ2) := hm
  obtain ⟨w, hw, hv⟩ := Option.map_eq_some_iff.mp hm
  obtain ⟨g1, g2⟩ := Prod.mk.inj hv
  subst g2
  refine MW_callV1 C okL_law 229 rfl rM (v0 := some (.int (w.1))) (h0 := hM w.2) (c_m_orders σ (xs (i + 1).toNatClampNeg) (xs (i + 2).toNatClampNeg) w hw) lkL_57 2 dpX12_orders (by decide) (rest := [.int (o.1)]) rfl rfl rfl rfl rfl rfl rfl rfl rfl (lM_m _ _ σ) rfl (st2 := [.int (w.1), .int (o.1)]) (h2 := hSo yr o.2 ++ hMs w.2) rfl (lM_j _ _ σ _) ?_
  exact MW_brT C okL_law 230 rfl rfl (fun _ => kk) (fun h9 => absurd g1.symm h9)
set_option maxRecDepth 100000 in
set_option maxHeartbeats 4000000 in
theorem law_case_good (C : CX X code RL false 2048 84000) (hS : SX X b L xs) {i : Int32} (h1 : inb (i + 1) L) (h2 : inb (i + 2) L) (h3 : inb (i + 3) L) {s s2 : SoS} {yr yr2 : Nat} {σ σ2 : MS} {r : Int32} (hy : yr = 3 ∨ yr = 80) (hy2 : yr2 = 3 ∨ yr2 = 80) (hx : callXI 10 (xs (i + 1).toNatClampNeg) (xs (i + 2).toNatClampNeg) (xs (i + 3).toNatClampNeg) s yr = some (r, s2, yr2)) (hm : callMI 10 (xs (i + 1).toNatClampNeg) (xs (i + 2).toNatClampNeg) (xs (i + 3).toNatClampNeg) σ = some (r, σ2))
    (kk : MW X (876, [some (.ref 1000), some (.ref 0), some (.ref 92), some (.int i)], [], hSo yr2 s2 ++ hMs σ2, bk, bn)) : MW X (431, [some (.ref 1000), some (.ref 0), some (.ref 92), some (.int i)], [], hSo yr s ++ hMs σ, bk, bn) := by
  refine MW_run C okL_law 233 5 (gs := []) (cf' := (436, [some (.ref 1000), some (.ref 0), some (.ref 92), some (.int i)], [.int (i + 1), .ref 1000, .ref 0], hSo yr s ++ hMs σ, bk, bn)) rfl trivial ?_
  refine MW_sld C okL_law 238 hS rfl h1 rfl ?_
  refine MW_run C okL_law 239 4 (gs := []) (cf' := (441, [some (.ref 1000), some (.ref 0), some (.ref 92), some (.int i)], [.int (i + 2), .ref 1000, .int (xs (i + 1).toNatClampNeg), .ref 0], hSo yr s ++ hMs σ, bk, bn)) rfl trivial ?_
  refine MW_sld C okL_law 243 hS rfl h2 rfl ?_
  have hx : (so_good s yr (xs (i + 1).toNatClampNeg) (xs (i + 2).toNatClampNeg)).map (fun o => (o.1, o.2, yr)) = some (r, s2, yr2) := hx
  obtain ⟨o, ho, he⟩ := Option.map_eq_some_iff.mp hx
  obtain ⟨e1, e2⟩ := Prod.mk.inj he
  obtain ⟨e2, e3⟩ := Prod.mk.inj e2
  subst e1
  subst e2
  subst e3
  refine MW_callV1 C okL_law 244 rfl rX (v0 := some (.int (o.1))) (h0 := hSo yr o.2) (c_so_good s yr (xs (i + 1).toNatClampNeg) (xs (i + 2).toNatClampNeg)  o ho) lkL_58 2 dpX11_good (by decide) (rest := []) rfl rfl rfl rfl rfl rfl rfl rfl rfl (lX_m yr hy s σ) rfl (st2 := [.int (o.1)]) (h2 := hSo yr o.2 ++ hMs σ) rfl (lX_j yr yr hy2 s o.2 σ) ?_
  refine MW_run C okL_law 245 5 (gs := []) (cf' := (450, [some (.ref 1000), some (.ref 0), some (.ref 92), some (.int i)], [.int (i + 1), .ref 1000, .ref 92, .int (o.1)], hSo yr o.2 ++ hMs σ, bk, bn)) rfl trivial ?_
  refine MW_sld C okL_law 250 hS rfl h1 rfl ?_
  refine MW_run C okL_law 251 4 (gs := []) (cf' := (455, [some (.ref 1000), some (.ref 0), some (.ref 92), some (.int i)], [.int (i + 2), .ref 1000, .int (xs (i + 1).toNatClampNeg), .ref 92, .int (o.1)], hSo yr o.2 ++ hMs σ, bk, bn)) rfl trivial ?_
  refine MW_sld C okL_law 255 hS rfl h2 rfl ?_
  have hm : (m_good σ (xs (i + 1).toNatClampNeg) (xs (i + 2).toNatClampNeg)).map (fun w => (w.1, w.2)) = some (o.1, σ2) := hm
  obtain ⟨w, hw, hv⟩ := Option.map_eq_some_iff.mp hm
  obtain ⟨g1, g2⟩ := Prod.mk.inj hv
  subst g2
  refine MW_callV1 C okL_law 256 rfl rM (v0 := some (.int (w.1))) (h0 := hM w.2) (c_m_good σ (xs (i + 1).toNatClampNeg) (xs (i + 2).toNatClampNeg) w hw) lkL_61 2 dpX12_good (by decide) (rest := [.int (o.1)]) rfl rfl rfl rfl rfl rfl rfl rfl rfl (lM_m _ _ σ) rfl (st2 := [.int (w.1), .int (o.1)]) (h2 := hSo yr o.2 ++ hMs w.2) rfl (lM_j _ _ σ _) ?_
  exact MW_brT C okL_law 257 rfl rfl (fun _ => kk) (fun h9 => absurd g1.symm h9)
set_option maxRecDepth 100000 in
set_option maxHeartbeats 4000000 in
theorem law_case_mean (C : CX X code RL false 2048 84000) (hS : SX X b L xs) {i : Int32} (h1 : inb (i + 1) L) (h2 : inb (i + 2) L) (h3 : inb (i + 3) L) {s s2 : SoS} {yr yr2 : Nat} {σ σ2 : MS} {r : Int64} (hy : yr = 3 ∨ yr = 80) (hy2 : yr2 = 3 ∨ yr2 = 80) (hx : callXL 11 (xs (i + 1).toNatClampNeg) (xs (i + 2).toNatClampNeg) (xs (i + 3).toNatClampNeg) s yr = some (r, s2, yr2)) (hm : callML 11 (xs (i + 1).toNatClampNeg) (xs (i + 2).toNatClampNeg) (xs (i + 3).toNatClampNeg) σ = some (r, σ2))
    (kk : MW X (876, [some (.ref 1000), some (.ref 0), some (.ref 92), some (.int i)], [], hSo yr2 s2 ++ hMs σ2, bk, bn)) : MW X (464, [some (.ref 1000), some (.ref 0), some (.ref 92), some (.int i)], [], hSo yr s ++ hMs σ, bk, bn) := by
  refine MW_run C okL_law 260 5 (gs := []) (cf' := (469, [some (.ref 1000), some (.ref 0), some (.ref 92), some (.int i)], [.int (i + 1), .ref 1000, .ref 0], hSo yr s ++ hMs σ, bk, bn)) rfl trivial ?_
  refine MW_sld C okL_law 265 hS rfl h1 rfl ?_
  refine MW_run C okL_law 266 4 (gs := []) (cf' := (474, [some (.ref 1000), some (.ref 0), some (.ref 92), some (.int i)], [.int (i + 2), .ref 1000, .int (xs (i + 1).toNatClampNeg), .ref 0], hSo yr s ++ hMs σ, bk, bn)) rfl trivial ?_
  refine MW_sld C okL_law 270 hS rfl h2 rfl ?_
  have hx : (so_mean s yr (xs (i + 1).toNatClampNeg) (xs (i + 2).toNatClampNeg)).map (fun o => (o.1, o.2, yr)) = some (r, s2, yr2) := hx
  obtain ⟨o, ho, he⟩ := Option.map_eq_some_iff.mp hx
  obtain ⟨e1, e2⟩ := Prod.mk.inj he
  obtain ⟨e2, e3⟩ := Prod.mk.inj e2
  subst e1
  subst e2
  subst e3
  refine MW_callV1 C okL_law 271 rfl rX (v0 := some (.long (o.1))) (h0 := hSo yr o.2) (c_so_mean s yr (xs (i + 1).toNatClampNeg) (xs (i + 2).toNatClampNeg)  o ho) lkL_62 2 dpX11_mean (by decide) (rest := []) rfl rfl rfl rfl rfl rfl rfl rfl rfl (lX_m yr hy s σ) rfl (st2 := [.long (o.1)]) (h2 := hSo yr o.2 ++ hMs σ) rfl (lX_j yr yr hy2 s o.2 σ) ?_
  refine MW_run C okL_law 272 5 (gs := []) (cf' := (483, [some (.ref 1000), some (.ref 0), some (.ref 92), some (.int i)], [.int (i + 1), .ref 1000, .ref 92, .long (o.1)], hSo yr o.2 ++ hMs σ, bk, bn)) rfl trivial ?_
  refine MW_sld C okL_law 277 hS rfl h1 rfl ?_
  refine MW_run C okL_law 278 4 (gs := []) (cf' := (488, [some (.ref 1000), some (.ref 0), some (.ref 92), some (.int i)], [.int (i + 2), .ref 1000, .int (xs (i + 1).toNatClampNeg), .ref 92, .long (o.1)], hSo yr o.2 ++ hMs σ, bk, bn)) rfl trivial ?_
  refine MW_sld C okL_law 282 hS rfl h2 rfl ?_
  have hm : (m_mean σ (xs (i + 1).toNatClampNeg) (xs (i + 2).toNatClampNeg)).map (fun w => (w.1, w.2)) = some (o.1, σ2) := hm
  obtain ⟨w, hw, hv⟩ := Option.map_eq_some_iff.mp hm
  obtain ⟨g1, g2⟩ := Prod.mk.inj hv
  subst g2
  refine MW_callV1 C okL_law 283 rfl rM (v0 := some (.long (w.1))) (h0 := hM w.2) (c_m_mean σ (xs (i + 1).toNatClampNeg) (xs (i + 2).toNatClampNeg) w hw) lkL_65 2 dpX12_mean (by decide) (rest := [.long (o.1)]) rfl rfl rfl rfl rfl rfl rfl rfl rfl (lM_m _ _ σ) rfl (st2 := [.long (w.1), .long (o.1)]) (h2 := hSo yr o.2 ++ hMs w.2) rfl (lM_j _ _ σ _) ?_
  refine MW_run C okL_law 284 1 (gs := []) (cf' := (493, [some (.ref 1000), some (.ref 0), some (.ref 92), some (.int i)], [.int (lg_cmp (o.1) (w.1))], hSo yr o.2 ++ hMs w.2, bk, bn)) rfl trivial ?_
  exact MW_brT C okL_law 285 rfl rfl (fun _ => kk) (fun h9 => absurd (by rw [g1]; exact lg_cmp_self _) h9)
set_option maxRecDepth 100000 in
set_option maxHeartbeats 4000000 in
theorem law_case_need (C : CX X code RL false 2048 84000) (hS : SX X b L xs) {i : Int32} (h1 : inb (i + 1) L) (h2 : inb (i + 2) L) (h3 : inb (i + 3) L) {s s2 : SoS} {yr yr2 : Nat} {σ σ2 : MS} {r : Int32} (hy : yr = 3 ∨ yr = 80) (hy2 : yr2 = 3 ∨ yr2 = 80) (hx : callXI 12 (xs (i + 1).toNatClampNeg) (xs (i + 2).toNatClampNeg) (xs (i + 3).toNatClampNeg) s yr = some (r, s2, yr2)) (hm : callMI 12 (xs (i + 1).toNatClampNeg) (xs (i + 2).toNatClampNeg) (xs (i + 3).toNatClampNeg) σ = some (r, σ2))
    (kk : MW X (876, [some (.ref 1000), some (.ref 0), some (.ref 92), some (.int i)], [], hSo yr2 s2 ++ hMs σ2, bk, bn)) : MW X (498, [some (.ref 1000), some (.ref 0), some (.ref 92), some (.int i)], [], hSo yr s ++ hMs σ, bk, bn) := by
  refine MW_run C okL_law 288 5 (gs := []) (cf' := (503, [some (.ref 1000), some (.ref 0), some (.ref 92), some (.int i)], [.int (i + 1), .ref 1000, .ref 0], hSo yr s ++ hMs σ, bk, bn)) rfl trivial ?_
  refine MW_sld C okL_law 293 hS rfl h1 rfl ?_
  refine MW_run C okL_law 294 4 (gs := []) (cf' := (508, [some (.ref 1000), some (.ref 0), some (.ref 92), some (.int i)], [.int (i + 2), .ref 1000, .int (xs (i + 1).toNatClampNeg), .ref 0], hSo yr s ++ hMs σ, bk, bn)) rfl trivial ?_
  refine MW_sld C okL_law 298 hS rfl h2 rfl ?_
  have hx : (so_need s yr (xs (i + 1).toNatClampNeg) (xs (i + 2).toNatClampNeg)).map (fun o => (o.1, o.2.1, o.2.2)) = some (r, s2, yr2) := hx
  obtain ⟨o, ho, he⟩ := Option.map_eq_some_iff.mp hx
  obtain ⟨e1, e2⟩ := Prod.mk.inj he
  obtain ⟨e2, e3⟩ := Prod.mk.inj e2
  subst e1
  subst e2
  subst e3
  refine MW_callV1 C okL_law 299 rfl rX (v0 := some (.int (o.1))) (h0 := hSo o.2.2 o.2.1) (c_so_need s yr (xs (i + 1).toNatClampNeg) (xs (i + 2).toNatClampNeg)  o ho) lkL_66 2 dpX11_need (by decide) (rest := []) rfl rfl rfl rfl rfl rfl rfl rfl rfl (lX_m yr hy s σ) rfl (st2 := [.int (o.1)]) (h2 := hSo o.2.2 o.2.1 ++ hMs σ) rfl (lX_j yr o.2.2 hy2 s o.2.1 σ) ?_
  refine MW_run C okL_law 300 5 (gs := []) (cf' := (517, [some (.ref 1000), some (.ref 0), some (.ref 92), some (.int i)], [.int (i + 1), .ref 1000, .ref 92, .int (o.1)], hSo o.2.2 o.2.1 ++ hMs σ, bk, bn)) rfl trivial ?_
  refine MW_sld C okL_law 305 hS rfl h1 rfl ?_
  refine MW_run C okL_law 306 4 (gs := []) (cf' := (522, [some (.ref 1000), some (.ref 0), some (.ref 92), some (.int i)], [.int (i + 2), .ref 1000, .int (xs (i + 1).toNatClampNeg), .ref 92, .int (o.1)], hSo o.2.2 o.2.1 ++ hMs σ, bk, bn)) rfl trivial ?_
  refine MW_sld C okL_law 310 hS rfl h2 rfl ?_
  have hm : (m_need σ (xs (i + 1).toNatClampNeg) (xs (i + 2).toNatClampNeg)).map (fun w => (w.1, w.2)) = some (o.1, σ2) := hm
  obtain ⟨w, hw, hv⟩ := Option.map_eq_some_iff.mp hm
  obtain ⟨g1, g2⟩ := Prod.mk.inj hv
  subst g2
  refine MW_callV1 C okL_law 311 rfl rM (v0 := some (.int (w.1))) (h0 := hM w.2) (c_m_need σ (xs (i + 1).toNatClampNeg) (xs (i + 2).toNatClampNeg) w hw) lkL_69 2 dpX12_need (by decide) (rest := [.int (o.1)]) rfl rfl rfl rfl rfl rfl rfl rfl rfl (lM_m _ _ σ) rfl (st2 := [.int (w.1), .int (o.1)]) (h2 := hSo o.2.2 o.2.1 ++ hMs w.2) rfl (lM_j _ _ σ _) ?_
  exact MW_brT C okL_law 312 rfl rfl (fun _ => kk) (fun h9 => absurd g1.symm h9)
set_option maxRecDepth 100000 in
set_option maxHeartbeats 4000000 in
theorem law_case_keep (C : CX X code RL false 2048 84000) (hS : SX X b L xs) {i : Int32} (h1 : inb (i + 1) L) (h2 : inb (i + 2) L) (h3 : inb (i + 3) L) {s s2 : SoS} {yr yr2 : Nat} {σ σ2 : MS} {r : Int32} (hy : yr = 3 ∨ yr = 80) (hy2 : yr2 = 3 ∨ yr2 = 80) (hx : callXI 13 (xs (i + 1).toNatClampNeg) (xs (i + 2).toNatClampNeg) (xs (i + 3).toNatClampNeg) s yr = some (r, s2, yr2)) (hm : callMI 13 (xs (i + 1).toNatClampNeg) (xs (i + 2).toNatClampNeg) (xs (i + 3).toNatClampNeg) σ = some (r, σ2))
    (kk : MW X (876, [some (.ref 1000), some (.ref 0), some (.ref 92), some (.int i)], [], hSo yr2 s2 ++ hMs σ2, bk, bn)) : MW X (531, [some (.ref 1000), some (.ref 0), some (.ref 92), some (.int i)], [], hSo yr s ++ hMs σ, bk, bn) := by
  refine MW_run C okL_law 315 1 (gs := []) (cf' := (532, [some (.ref 1000), some (.ref 0), some (.ref 92), some (.int i)], [.ref 0], hSo yr s ++ hMs σ, bk, bn)) rfl trivial ?_
  have hx : (so_keep s yr ).map (fun o => (o.1, o.2, yr)) = some (r, s2, yr2) := hx
  obtain ⟨o, ho, he⟩ := Option.map_eq_some_iff.mp hx
  obtain ⟨e1, e2⟩ := Prod.mk.inj he
  obtain ⟨e2, e3⟩ := Prod.mk.inj e2
  subst e1
  subst e2
  subst e3
  refine MW_callV1 C okL_law 316 rfl rX (v0 := some (.int (o.1))) (h0 := hSo yr o.2) (c_so_keep s yr   o ho) lkL_70 0 dpX11_keep (by decide) (rest := []) rfl rfl rfl rfl rfl rfl rfl rfl rfl (lX_m yr hy s σ) rfl (st2 := [.int (o.1)]) (h2 := hSo yr o.2 ++ hMs σ) rfl (lX_j yr yr hy2 s o.2 σ) ?_
  refine MW_run C okL_law 317 1 (gs := []) (cf' := (536, [some (.ref 1000), some (.ref 0), some (.ref 92), some (.int i)], [.ref 92, .int (o.1)], hSo yr o.2 ++ hMs σ, bk, bn)) rfl trivial ?_
  have hm : (m_keep σ ).map (fun w => (w.1, w.2)) = some (o.1, σ2) := hm
  obtain ⟨w, hw, hv⟩ := Option.map_eq_some_iff.mp hm
  obtain ⟨g1, g2⟩ := Prod.mk.inj hv
  subst g2
  refine MW_callV1 C okL_law 318 rfl rM (v0 := some (.int (w.1))) (h0 := hM w.2) (c_m_keep σ  w hw) lkL_73 0 dpX12_keep (by decide) (rest := [.int (o.1)]) rfl rfl rfl rfl rfl rfl rfl rfl rfl (lM_m _ _ σ) rfl (st2 := [.int (w.1), .int (o.1)]) (h2 := hSo yr o.2 ++ hMs w.2) rfl (lM_j _ _ σ _) ?_
  exact MW_brT C okL_law 319 rfl rfl (fun _ => kk) (fun h9 => absurd g1.symm h9)
end
