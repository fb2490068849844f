theorem law_lim {n L : Nat} (hn : n ≤ 512) (hL : L ≤ 2048) : (Int32.ofNat (4 * n)).toInt = (4 * n : Nat) ∧ (Int32.ofNat L - 4).toInt = (L : Int) - 4 := by
  refine ⟨nI_toInt (by omega), ?_⟩
  have h1 : (Int32.ofNat L).toInt = (L : Int) := nI_toInt (by omega)
  rw [Int32.toInt_sub, h1, show (4 : Int32).toInt = 4 from rfl]
  simp only [Int.bmod]
  omega
theorem law_out {n L : Nat} (hn : n = 512) (hL : L ≤ 2048) : Int32.ofNat L - 4 < Int32.ofNat (4 * n) := by
  obtain ⟨h1, h2⟩ := law_lim (n := n) (by omega) hL
  rw [Int32.lt_iff_toInt_lt, h1, h2]
  omega
theorem law_in {n L : Nat} (hn : n < 512) (hL : L ≤ 2048) (h : ¬ Int32.ofNat L - 4 < Int32.ofNat (4 * n)) : 4 * n + 4 ≤ L := by
  obtain ⟨h1, h2⟩ := law_lim (n := n) (by omega) hL
  rw [Int32.lt_iff_toInt_lt, h1, h2] at h
  omega
theorem law_inb {n L j : Nat} (hn : 4 * n + 4 ≤ L) (hL : L ≤ 2048) (hj : j < 4) : inb (Int32.ofNat (4 * n) + Int32.ofNat j) L := by
  rw [← Int32.ofNat_add]
  have h1 : (Int32.ofNat (4 * n + j)).toInt = (4 * n + j : Nat) := nI_toInt (by omega)
  intro h
  rcases h with h | h
  · rw [Int32.lt_iff_toInt_lt, h1] at h
    have : (0 : Int32).toInt = 0 := rfl
    omega
  · rw [show (Int32.ofNat (4 * n + j)).toNatClampNeg = (Int32.ofNat (4 * n + j)).toInt.toNat from rfl, h1] at h
    omega
section
variable {X : CTX} {b L : Nat} {xs : Nat → Int32} {bk bn : Nat}
set_option maxRecDepth 100000 in
set_option maxHeartbeats 4000000 in
theorem law_loop (C : CX X code RL false 2048 84000) (hS : SX X b L xs) (hL : L ≤ 2048) (Inv : Nat → SoS → Nat → MS → Prop)
    (HI : ∀ (n : Nat) (s : SoS) (yr : Nat) (σ : MS), n < 512 → Inv n s yr σ → ∀ (k : Nat) (a b c : Int32), k < 28 → k ≠ 7 → k ≠ 11 → ∃ (r : Int32) (s2 : SoS) (yr2 : Nat) (σ2 : MS), callXI k a b c s yr = some (r, s2, yr2) ∧ callMI k a b c σ = some (r, σ2) ∧ Inv (n + 1) s2 yr2 σ2)
    (HL : ∀ (n : Nat) (s : SoS) (yr : Nat) (σ : MS), n < 512 → Inv n s yr σ → ∀ (k : Nat) (a b c : Int32), k = 7 ∨ k = 11 → ∃ (r : Int64) (s2 : SoS) (yr2 : Nat) (σ2 : MS), callXL k a b c s yr = some (r, s2, yr2) ∧ callML k a b c σ = some (r, σ2) ∧ Inv (n + 1) s2 yr2 σ2)
    (HY : ∀ (n : Nat) (s : SoS) (yr : Nat) (σ : MS), Inv n s yr σ → yr = 3 ∨ yr = 80)
    (HM : ∀ (n : Nat) (s : SoS) (yr : Nat) (σ : MS), Inv n s yr σ → Inv (n + 1) s yr σ)
    (hend : ∀ (vs : List (Option Value)) (h : AH), MW X (883, vs, [.int 1], h, bk, bn)) :
    ∀ (m n : Nat) (s : SoS) (yr : Nat) (σ : MS), n + m = 512 → Inv n s yr σ → MW X (18, [some (.ref 1000), some (.ref 0), some (.ref 92), some (.int (Int32.ofNat (4 * n)))], [], hSo yr s ++ hMs σ, bk, bn) := by
  intro m
  induction m with
  | zero =>
    intro n s yr σ hnm hI
    refine MW_run C okL_law 10 2 (gs := []) (cf' := (20, [some (.ref 1000), some (.ref 0), some (.ref 92), some (.int (Int32.ofNat (4 * n)))], [.ref 1000, .int (Int32.ofNat (4 * n))], hSo yr s ++ hMs σ, bk, bn)) rfl trivial ?_
    refine MW_slen C okL_law 12 hS rfl rfl ?_
    refine MW_run C okL_law 13 2 (gs := []) (cf' := (23, [some (.ref 1000), some (.ref 0), some (.ref 92), some (.int (Int32.ofNat (4 * n)))], [.int (Int32.ofNat L - 4), .int (Int32.ofNat (4 * n))], hSo yr s ++ hMs σ, bk, bn)) rfl trivial ?_
    refine MW_brT C okL_law 15 rfl rfl (fun hb8 => ?_) (fun hb8 => ?_)
    · refine MW_run C okL_law 572 1 (gs := []) (cf' := (883, [some (.ref 1000), some (.ref 0), some (.ref 92), some (.int (Int32.ofNat (4 * n)))], [.int 1], hSo yr s ++ hMs σ, bk, bn)) rfl trivial (hend _ _)
    · exact absurd (law_out (by omega) hL) hb8
  | succ m ih =>
    intro n s yr σ hnm hI
    have tail : ∀ (s2 : SoS) (yr2 : Nat) (σ2 : MS), Inv (n + 1) s2 yr2 σ2 → MW X (876, [some (.ref 1000), some (.ref 0), some (.ref 92), some (.int (Int32.ofNat (4 * n)))], [], hSo yr2 s2 ++ hMs σ2, bk, bn) := by
      intro s2 yr2 σ2 h2
      refine MW_run C okL_law 570 2 (gs := []) (cf' := (18, [some (.ref 1000), some (.ref 0), some (.ref 92), some (.int (Int32.ofNat (4 * n) + 4))], [], hSo yr2 s2 ++ hMs σ2, bk, bn)) rfl trivial ?_
      have e : Int32.ofNat (4 * n) + 4 = Int32.ofNat (4 * (n + 1)) := by
        rw [show (4 : Int32) = Int32.ofNat 4 from rfl, ← Int32.ofNat_add]
        rfl
      rw [e]
      exact ih (n + 1) s2 yr2 σ2 (by omega) h2
    refine MW_run C okL_law 10 2 (gs := []) (cf' := (20, [some (.ref 1000), some (.ref 0), some (.ref 92), some (.int (Int32.ofNat (4 * n)))], [.ref 1000, .int (Int32.ofNat (4 * n))], hSo yr s ++ hMs σ, bk, bn)) rfl trivial ?_
    refine MW_slen C okL_law 12 hS rfl rfl ?_
    refine MW_run C okL_law 13 2 (gs := []) (cf' := (23, [some (.ref 1000), some (.ref 0), some (.ref 92), some (.int (Int32.ofNat (4 * n)))], [.int (Int32.ofNat L - 4), .int (Int32.ofNat (4 * n))], hSo yr s ++ hMs σ, bk, bn)) rfl trivial ?_
    refine MW_brT C okL_law 15 rfl rfl (fun hb8 => ?_) (fun hb8 => ?_)
    · refine MW_run C okL_law 572 1 (gs := []) (cf' := (883, [some (.ref 1000), some (.ref 0), some (.ref 92), some (.int (Int32.ofNat (4 * n)))], [.int 1], hSo yr s ++ hMs σ, bk, bn)) rfl trivial (hend _ _)
    · have hn4 := law_in (show n < 512 by omega) hL hb8
      have h0 : inb (Int32.ofNat (4 * n)) L := by
        have := law_inb (j := 0) hn4 hL (by omega)
        rwa [show (Int32.ofNat 0) = 0 from rfl, Int32.add_zero] at this
      have h1 : inb (Int32.ofNat (4 * n) + 1) L := law_inb (j := 1) hn4 hL (by omega)
      have h2 : inb (Int32.ofNat (4 * n) + 2) L := law_inb (j := 2) hn4 hL (by omega)
      have h3 : inb (Int32.ofNat (4 * n) + 3) L := law_inb (j := 3) hn4 hL (by omega)
      refine MW_run C okL_law 16 2 (gs := []) (cf' := (28, [some (.ref 1000), some (.ref 0), some (.ref 92), some (.int (Int32.ofNat (4 * n)))], [.int (Int32.ofNat (4 * n)), .ref 1000], hSo yr s ++ hMs σ, bk, bn)) rfl trivial ?_
      refine MW_sld C okL_law 18 hS rfl h0 rfl ?_
      refine MW_run C okL_law 19 2 (gs := []) (cf' := (32, [some (.ref 1000), some (.ref 0), some (.ref 92), some (.int (Int32.ofNat (4 * n)))], [.int ((xs (Int32.ofNat (4 * n)).toNatClampNeg) &&& 31)], hSo yr s ++ hMs σ, bk, bn)) rfl trivial ?_
      refine MW_tsw C okL_law 21 rfl (tgts := [160, 183, 196, 209, 222, 255, 288, 321, 355, 398, 431, 464, 498, 531, 544, 567, 600, 623, 636, 649, 662, 685, 708, 741, 774, 807, 830, 853]) (dt := 876) (by decide) (fun j t hj hx => ?_) (fun _ => tail _ _ _ (HM _ _ _ _ hI))
      match j, hj with
      | 0, hj =>
        cases hj
        obtain ⟨r, s2, yr2, σ2, hx2, hm2, hI2⟩ := HI n s yr σ (by omega) hI 0 _ _ _ (by omega) (by omega) (by omega)
        exact law_case_say C hS h1 h2 h3 (HY _ _ _ _ hI) (HY _ _ _ _ hI2) hx2 hm2 (tail _ _ _ hI2)
      | 1, hj =>
        cases hj
        obtain ⟨r, s2, yr2, σ2, hx2, hm2, hI2⟩ := HI n s yr σ (by omega) hI 1 _ _ _ (by omega) (by omega) (by omega)
        exact law_case_wipe C hS h1 h2 h3 (HY _ _ _ _ hI) (HY _ _ _ _ hI2) hx2 hm2 (tail _ _ _ hI2)
      | 2, hj =>
        cases hj
        obtain ⟨r, s2, yr2, σ2, hx2, hm2, hI2⟩ := HI n s yr σ (by omega) hI 2 _ _ _ (by omega) (by omega) (by omega)
        exact law_case_fault C hS h1 h2 h3 (HY _ _ _ _ hI) (HY _ _ _ _ hI2) hx2 hm2 (tail _ _ _ hI2)
      | 3, hj =>
        cases hj
        obtain ⟨r, s2, yr2, σ2, hx2, hm2, hI2⟩ := HI n s yr σ (by omega) hI 3 _ _ _ (by omega) (by omega) (by omega)
        exact law_case_yard C hS h1 h2 h3 (HY _ _ _ _ hI) (HY _ _ _ _ hI2) hx2 hm2 (tail _ _ _ hI2)
      | 4, hj =>
        cases hj
        obtain ⟨r, s2, yr2, σ2, hx2, hm2, hI2⟩ := HI n s yr σ (by omega) hI 4 _ _ _ (by omega) (by omega) (by omega)
        exact law_case_siding C hS h1 h2 h3 (HY _ _ _ _ hI) (HY _ _ _ _ hI2) hx2 hm2 (tail _ _ _ hI2)
      | 5, hj =>
        cases hj
        obtain ⟨r, s2, yr2, σ2, hx2, hm2, hI2⟩ := HI n s yr σ (by omega) hI 5 _ _ _ (by omega) (by omega) (by omega)
        exact law_case_leads C hS h1 h2 h3 (HY _ _ _ _ hI) (HY _ _ _ _ hI2) hx2 hm2 (tail _ _ _ hI2)
      | 6, hj =>
        cases hj
        obtain ⟨r, s2, yr2, σ2, hx2, hm2, hI2⟩ := HI n s yr σ (by omega) hI 6 _ _ _ (by omega) (by omega) (by omega)
        exact law_case_least C hS h1 h2 h3 (HY _ _ _ _ hI) (HY _ _ _ _ hI2) hx2 hm2 (tail _ _ _ hI2)
      | 7, hj =>
        cases hj
        obtain ⟨r, s2, yr2, σ2, hx2, hm2, hI2⟩ := HL n s yr σ (by omega) hI 7 _ _ _ (by omega)
        exact law_case_ways C hS h1 h2 h3 (HY _ _ _ _ hI) (HY _ _ _ _ hI2) hx2 hm2 (tail _ _ _ hI2)
      | 8, hj =>
        cases hj
        obtain ⟨r, s2, yr2, σ2, hx2, hm2, hI2⟩ := HI n s yr σ (by omega) hI 8 _ _ _ (by omega) (by omega) (by omega)
        exact law_case_first C hS h1 h2 h3 (HY _ _ _ _ hI) (HY _ _ _ _ hI2) hx2 hm2 (tail _ _ _ hI2)
      | 9, hj =>
        cases hj
        obtain ⟨r, s2, yr2, σ2, hx2, hm2, hI2⟩ := HI n s yr σ (by omega) hI 9 _ _ _ (by omega) (by omega) (by omega)
        exact law_case_orders C hS h1 h2 h3 (HY _ _ _ _ hI) (HY _ _ _ _ hI2) hx2 hm2 (tail _ _ _ hI2)
      | 10, hj =>
        cases hj
        obtain ⟨r, s2, yr2, σ2, hx2, hm2, hI2⟩ := HI n s yr σ (by omega) hI 10 _ _ _ (by omega) (by omega) (by omega)
        exact law_case_good C hS h1 h2 h3 (HY _ _ _ _ hI) (HY _ _ _ _ hI2) hx2 hm2 (tail _ _ _ hI2)
      | 11, hj =>
        cases hj
        obtain ⟨r, s2, yr2, σ2, hx2, hm2, hI2⟩ := HL n s yr σ (by omega) hI 11 _ _ _ (by omega)
        exact law_case_mean C hS h1 h2 h3 (HY _ _ _ _ hI) (HY _ _ _ _ hI2) hx2 hm2 (tail _ _ _ hI2)
      | 12, hj =>
        cases hj
        obtain ⟨r, s2, yr2, σ2, hx2, hm2, hI2⟩ := HI n s yr σ (by omega) hI 12 _ _ _ (by omega) (by omega) (by omega)
        exact law_case_need C hS h1 h2 h3 (HY _ _ _ _ hI) (HY _ _ _ _ hI2) hx2 hm2 (tail _ _ _ hI2)
      | 13, hj =>
        cases hj
        obtain ⟨r, s2, yr2, σ2, hx2, hm2, hI2⟩ := HI n s yr σ (by omega) hI 13 _ _ _ (by omega) (by omega) (by omega)
        exact law_case_keep C hS h1 h2 h3 (HY _ _ _ _ hI) (HY _ _ _ _ hI2) hx2 hm2 (tail _ _ _ hI2)
      | 14, hj =>
        cases hj
        obtain ⟨r, s2, yr2, σ2, hx2, hm2, hI2⟩ := HI n s yr σ (by omega) hI 14 _ _ _ (by omega) (by omega) (by omega)
        exact law_case_unlike C hS h1 h2 h3 (HY _ _ _ _ hI) (HY _ _ _ _ hI2) hx2 hm2 (tail _ _ _ hI2)
      | 15, hj =>
        cases hj
        obtain ⟨r, s2, yr2, σ2, hx2, hm2, hI2⟩ := HI n s yr σ (by omega) hI 15 _ _ _ (by omega) (by omega) (by omega)
        exact law_case_play C hS h1 h2 h3 (HY _ _ _ _ hI) (HY _ _ _ _ hI2) hx2 hm2 (tail _ _ _ hI2)
      | 16, hj =>
        cases hj
        obtain ⟨r, s2, yr2, σ2, hx2, hm2, hI2⟩ := HI n s yr σ (by omega) hI 16 _ _ _ (by omega) (by omega) (by omega)
        exact law_case_move C hS h1 h2 h3 (HY _ _ _ _ hI) (HY _ _ _ _ hI2) hx2 hm2 (tail _ _ _ hI2)
      | 17, hj =>
        cases hj
        obtain ⟨r, s2, yr2, σ2, hx2, hm2, hI2⟩ := HI n s yr σ (by omega) hI 17 _ _ _ (by omega) (by omega) (by omega)
        exact law_case_back C hS h1 h2 h3 (HY _ _ _ _ hI) (HY _ _ _ _ hI2) hx2 hm2 (tail _ _ _ hI2)
      | 18, hj =>
        cases hj
        obtain ⟨r, s2, yr2, σ2, hx2, hm2, hI2⟩ := HI n s yr σ (by omega) hI 18 _ _ _ (by omega) (by omega) (by omega)
        exact law_case_rest C hS h1 h2 h3 (HY _ _ _ _ hI) (HY _ _ _ _ hI2) hx2 hm2 (tail _ _ _ hI2)
      | 19, hj =>
        cases hj
        obtain ⟨r, s2, yr2, σ2, hx2, hm2, hI2⟩ := HI n s yr σ (by omega) hI 19 _ _ _ (by omega) (by omega) (by omega)
        exact law_case_next C hS h1 h2 h3 (HY _ _ _ _ hI) (HY _ _ _ _ hI2) hx2 hm2 (tail _ _ _ hI2)
      | 20, hj =>
        cases hj
        obtain ⟨r, s2, yr2, σ2, hx2, hm2, hI2⟩ := HI n s yr σ (by omega) hI 20 _ _ _ (by omega) (by omega) (by omega)
        exact law_case_moves C hS h1 h2 h3 (HY _ _ _ _ hI) (HY _ _ _ _ hI2) hx2 hm2 (tail _ _ _ hI2)
      | 21, hj =>
        cases hj
        obtain ⟨r, s2, yr2, σ2, hx2, hm2, hI2⟩ := HI n s yr σ (by omega) hI 21 _ _ _ (by omega) (by omega) (by omega)
        exact law_case_stand C hS h1 h2 h3 (HY _ _ _ _ hI) (HY _ _ _ _ hI2) hx2 hm2 (tail _ _ _ hI2)
      | 22, hj =>
        cases hj
        obtain ⟨r, s2, yr2, σ2, hx2, hm2, hI2⟩ := HI n s yr σ (by omega) hI 22 _ _ _ (by omega) (by omega) (by omega)
        exact law_case_thumb C hS h1 h2 h3 (HY _ _ _ _ hI) (HY _ _ _ _ hI2) hx2 hm2 (tail _ _ _ hI2)
      | 23, hj =>
        cases hj
        obtain ⟨r, s2, yr2, σ2, hx2, hm2, hI2⟩ := HI n s yr σ (by omega) hI 23 _ _ _ (by omega) (by omega) (by omega)
        exact law_case_sorts C hS h1 h2 h3 (HY _ _ _ _ hI) (HY _ _ _ _ hI2) hx2 hm2 (tail _ _ _ hI2)
      | 24, hj =>
        cases hj
        obtain ⟨r, s2, yr2, σ2, hx2, hm2, hI2⟩ := HI n s yr σ (by omega) hI 24 _ _ _ (by omega) (by omega) (by omega)
        exact law_case_draw C hS h1 h2 h3 (HY _ _ _ _ hI) (HY _ _ _ _ hI2) hx2 hm2 (tail _ _ _ hI2)
      | 25, hj =>
        cases hj
        obtain ⟨r, s2, yr2, σ2, hx2, hm2, hI2⟩ := HI n s yr σ (by omega) hI 25 _ _ _ (by omega) (by omega) (by omega)
        exact law_case_image C hS h1 h2 h3 (HY _ _ _ _ hI) (HY _ _ _ _ hI2) hx2 hm2 (tail _ _ _ hI2)
      | 26, hj =>
        cases hj
        obtain ⟨r, s2, yr2, σ2, hx2, hm2, hI2⟩ := HI n s yr σ (by omega) hI 26 _ _ _ (by omega) (by omega) (by omega)
        exact law_case_restore C hS h1 h2 h3 (HY _ _ _ _ hI) (HY _ _ _ _ hI2) hx2 hm2 (tail _ _ _ hI2)
      | 27, hj =>
        cases hj
        obtain ⟨r, s2, yr2, σ2, hx2, hm2, hI2⟩ := HI n s yr σ (by omega) hI 27 _ _ _ (by omega) (by omega) (by omega)
        exact law_case_told C hS h1 h2 h3 (HY _ _ _ _ hI) (HY _ _ _ _ hI2) hx2 hm2 (tail _ _ _ hI2)
      | j + 28, hj => simp at hj
set_option maxRecDepth 100000 in
set_option maxHeartbeats 4000000 in
theorem law_begin (C : CX X code RL false 2048 84000) (out : SoS) (hm : so_init soI = some out)
    (kk : MW X (18, [some (.ref 1000), some (.ref 0), some (.ref 92), some (.int (Int32.ofNat (4 * 0)))], [], hSo 3 out ++ hMs mI0, 599878, 6951156)) : MW X (0, [some (.ref 1000), none, none, none], [], [], 600000, 7302250) := by
  refine MW_new (bk := 599999) (bn := 7302240) C okL_law 0 rfl (ci := 10) (Cn := RX11) (T := TX11) (N := 10) rfl (fs := [.null, .null, .null, .null, .null, .null, .null, .null, .null, .null]) nwL_7 hfX11 rfl rfl rfl rfl rfl ?_
  refine MW_run C okL_law 1 1 (gs := []) (cf' := (4, [some (.ref 1000), none, none, none], [.ref 0, .ref 0], [.inr (10, [.null, .null, .null, .null, .null, .null, .null, .null, .null, .null])], 599999, 7302240)) rfl trivial ?_
  refine MW_callI C okL_law 2 rfl (rho := [0]) (c_so_init out hm) lkL_9 0 dpX11_init (by decide) (rest := [.ref 0]) rfl rfl rfl rfl rfl rfl rfl rfl (fun v h' hk => Or.inr ⟨rfl, rfl, rfl, rfl, by rw [hk.2]; rfl⟩) (bk' := 599908) (bn' := 7248140) rfl rfl (fun v h' hk => ?_)
  obtain ⟨rfl, rfl⟩ := hk
  refine MW_eq (cf' := (7, [some (.ref 1000), none, none, none], [.ref 0], hSo 3 out, 599908, 7248140)) rfl ?_
  refine MW_run C okL_law 3 1 (gs := []) (cf' := (8, [some (.ref 1000), some (.ref 0), none, none], [], hSo 3 out, 599908, 7248140)) rfl trivial ?_
  refine MW_new (bk := 599907) (bn := 7248096) C okL_law 4 rfl (ci := 11) (Cn := RX12) (T := TX12) (N := 44) rfl (fs := [.null, .null, .null, .null, .int 0, .int 0, .null, .null, .null, .null, .int 0, .int 0, .null, .int 0, .null, .null, .int 0, .null, .null, .null, .null, .null, .int 0, .int 0, .null, .int 0, .null, .null, .null, .null, .null, .null, .null, .null, .null, .int 0, .int 0, .int 0, .null, .int 0, .null, .null, .int 0, .int 0]) nwL_10 hfX12 rfl rfl rfl rfl rfl ?_
  refine MW_eq (cf' := (11, [some (.ref 1000), some (.ref 0), none, none], [.ref 92], hSo 3 out ++ [.inr (11, [.null, .null, .null, .null, .int 0, .int 0, .null, .null, .null, .null, .int 0, .int 0, .null, .int 0, .null, .null, .int 0, .null, .null, .null, .null, .null, .int 0, .int 0, .null, .int 0, .null, .null, .null, .null, .null, .null, .null, .null, .null, .int 0, .int 0, .int 0, .null, .int 0, .null, .null, .int 0, .int 0])], 599907, 7248096)) rfl ?_
  refine MW_run C okL_law 5 1 (gs := []) (cf' := (12, [some (.ref 1000), some (.ref 0), none, none], [.ref 92, .ref 92], hSo 3 out ++ [.inr (11, [.null, .null, .null, .null, .int 0, .int 0, .null, .null, .null, .null, .int 0, .int 0, .null, .int 0, .null, .null, .int 0, .null, .null, .null, .null, .null, .int 0, .int 0, .null, .int 0, .null, .null, .null, .null, .null, .null, .null, .null, .null, .int 0, .int 0, .int 0, .null, .int 0, .null, .null, .int 0, .int 0])], 599907, 7248096)) rfl trivial ?_
  refine MW_callI C okL_law 6 rfl (rho := [92]) c_m_init lkL_12 0 dpX12_init (by decide) (rest := [.ref 92]) rfl rfl rfl rfl rfl rfl rfl rfl (fun v h' hk => Or.inr ⟨rfl, rfl, rfl, rfl, by rw [hk.2]; rfl⟩) (bk' := 599878) (bn' := 6951156) rfl rfl (fun v h' hk => ?_)
  obtain ⟨rfl, rfl⟩ := hk
  refine MW_eq (cf' := (15, [some (.ref 1000), some (.ref 0), none, none], [.ref 92], hSo 3 out ++ hMs mI0, 599878, 6951156)) rfl ?_
  refine MW_run C okL_law 7 3 (gs := []) (cf' := (18, [some (.ref 1000), some (.ref 0), some (.ref 92), some (.int 0)], [], hSo 3 out ++ hMs mI0, 599878, 6951156)) rfl trivial ?_
  exact kk
theorem law_all (C : CX X code RL false 2048 84000) (hS : SX X b L xs) (hL : L ≤ 2048) (Inv : Nat → SoS → Nat → MS → Prop)
    (HI : ∀ (n : Nat) (s : SoS) (yr : Nat) (σ : MS), n < 512 → Inv n s yr σ → ∀ (k : Nat) (a b c : Int32), k < 28 → k ≠ 7 → k ≠ 11 → ∃ (r : Int32) (s2 : SoS) (yr2 : Nat) (σ2 : MS), callXI k a b c s yr = some (r, s2, yr2) ∧ callMI k a b c σ = some (r, σ2) ∧ Inv (n + 1) s2 yr2 σ2)
    (HL : ∀ (n : Nat) (s : SoS) (yr : Nat) (σ : MS), n < 512 → Inv n s yr σ → ∀ (k : Nat) (a b c : Int32), k = 7 ∨ k = 11 → ∃ (r : Int64) (s2 : SoS) (yr2 : Nat) (σ2 : MS), callXL k a b c s yr = some (r, s2, yr2) ∧ callML k a b c σ = some (r, σ2) ∧ Inv (n + 1) s2 yr2 σ2)
    (HY : ∀ (n : Nat) (s : SoS) (yr : Nat) (σ : MS), Inv n s yr σ → yr = 3 ∨ yr = 80)
    (HM : ∀ (n : Nat) (s : SoS) (yr : Nat) (σ : MS), Inv n s yr σ → Inv (n + 1) s yr σ)
    (H0 : ∃ out, so_init soI = some out ∧ Inv 0 out 3 mI0)
    (hend : ∀ (vs : List (Option Value)) (h : AH), MW X (883, vs, [.int 1], h, 599878, 6951156)) : MW X (0, [some (.ref 1000), none, none, none], [], [], 600000, 7302250) := by
  obtain ⟨out, ho, hI0⟩ := H0
  exact law_begin C out ho (law_loop C hS hL Inv HI HL HY HM hend 512 0 out 3 mI0 rfl hI0)
end
