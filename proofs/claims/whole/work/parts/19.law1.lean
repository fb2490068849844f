/-! each call, in one form -/
def callXI (k : Nat) (a b c : Int32) (s : SoS) (yr : Nat) : Option (Int32 × SoS × Nat) := match k with
  | 0 => (so_say s yr a).map fun o => (o.1, o.2, yr)
  | 1 => (so_wipe s yr).map fun o => (o.1, o.2, yr)
  | 2 => (so_fault s yr).map fun o => (o, s, yr)
  | 3 => (so_yard s yr).map fun o => (o.1, o.2, yr)
  | 4 => (so_siding s yr a b).map fun o => (o, s, yr)
  | 5 => (so_leads s yr a b).map fun o => (o, s, yr)
  | 6 => (so_least s yr a b).map fun o => (o.1, o.2, yr)
  | 8 => (so_first s yr a b c).map fun o => (o.1, o.2.1, o.2.2)
  | 9 => (so_orders s yr a b).map fun o => (o.1, o.2, yr)
  | 10 => (so_good s yr a b).map fun o => (o.1, o.2, yr)
  | 12 => (so_need s yr a b).map fun o => (o.1, o.2.1, o.2.2)
  | 13 => (so_keep s yr).map fun o => (o.1, o.2, yr)
  | 14 => (so_unlike s yr a).map fun o => (o.1, o.2, yr)
  | 15 => (so_play s yr a b).map fun o => (o.1, o.2, yr)
  | 16 => (so_move s yr a).map fun o => (o.1, o.2, yr)
  | 17 => (so_back s yr).map fun o => (o.1, o.2, yr)
  | 18 => (so_rest s yr).map fun o => (o.1, o.2.1, o.2.2)
  | 19 => (so_next s yr).map fun o => (o.1, o.2.1, o.2.2)
  | 20 => (so_moves s yr a).map fun o => (o, s, yr)
  | 21 => (so_stand s yr a).map fun o => (o, s, yr)
  | 22 => (so_thumb s yr a b).map fun o => (o.1, o.2, yr)
  | 23 => (so_sorts s yr a b).map fun o => (o.1, o.2, yr)
  | 24 => (so_draw s yr a b).map fun o => (o, s, yr)
  | 25 => (if a = 0 then so_image0 s yr a else so_image1 s yr a).map fun o => (o.1, o.2, yr)
  | 26 => (if a = 0 then so_restore0 s yr a else so_restore1 s yr a).map fun o => (o.1, o.2, yr)
  | 27 => (so_told s yr a).map fun o => (o, s, yr)
  | _ => none
def callXL (k : Nat) (a b c : Int32) (s : SoS) (yr : Nat) : Option (Int64 × SoS × Nat) := match k with
  | 7 => (so_ways s yr a b).map fun o => (o.1, o.2, yr)
  | 11 => (so_mean s yr a b).map fun o => (o.1, o.2, yr)
  | _ => none
def callMI (k : Nat) (a b c : Int32) (σ : MS) : Option (Int32 × MS) := match k with
  | 0 => (m_say σ a).map fun o => (o.1, o.2)
  | 1 => (m_wipe σ).map fun o => (o.1, o.2)
  | 2 => (m_fault σ).map fun o => (o, σ)
  | 3 => (m_yard σ).map fun o => (o.1, o.2)
  | 4 => (m_siding σ a b).map fun o => (o, σ)
  | 5 => (m_leads σ a b).map fun o => (o, σ)
  | 6 => (m_least σ a b).map fun o => (o.1, o.2)
  | 8 => (m_first σ a b c).map fun o => (o.1, o.2)
  | 9 => (m_orders σ a b).map fun o => (o.1, o.2)
  | 10 => (m_good σ a b).map fun o => (o.1, o.2)
  | 12 => (m_need σ a b).map fun o => (o.1, o.2)
  | 13 => (m_keep σ).map fun o => (o.1, o.2)
  | 14 => (m_unlike σ a).map fun o => (o.1, o.2)
  | 15 => (m_play σ a b).map fun o => (o.1, o.2)
  | 16 => (m_move σ a).map fun o => (o.1, o.2)
  | 17 => (m_back σ).map fun o => (o.1, o.2)
  | 18 => (m_rest σ).map fun o => (o.1, o.2)
  | 19 => (m_next σ).map fun o => (o.1, o.2)
  | 20 => (m_moves σ a).map fun o => (o.1, o.2)
  | 21 => (m_stand σ a).map fun o => (o.1, o.2)
  | 22 => (m_thumb σ a b).map fun o => (o.1, o.2)
  | 23 => (m_sorts σ a b).map fun o => (o.1, o.2)
  | 24 => (m_draw σ a b).map fun o => (o, σ)
  | 25 => (m_image σ a).map fun o => (o.1, o.2)
  | 26 => (m_restore σ a).map fun o => (o.1, o.2)
  | 27 => (m_told σ a).map fun o => (o, σ)
  | _ => none
def callML (k : Nat) (a b c : Int32) (σ : MS) : Option (Int64 × MS) := match k with
  | 7 => (m_ways σ a b).map fun o => (o.1, o.2)
  | 11 => (m_mean σ a b).map fun o => (o.1, o.2)
  | _ => none
def hMs (σ : MS) : AH := (hM σ).map (rE (fun r => 92 + r))
def rX : List Nat := [0, 1, 2, 3, 4, 5, 6, 7, 8, 9, 10, 11, 12, 13, 14, 15, 16, 17, 18, 19, 20, 21, 22, 23, 24, 25, 26, 27, 28, 29, 30, 31, 32, 33, 34, 35, 36, 37, 38, 39, 40, 41, 42, 43, 44, 45, 46, 47, 48, 49, 50, 51, 52, 53, 54, 55, 56, 57, 58, 59, 60, 61, 62, 63, 64, 65, 66, 67, 68, 69, 70, 71, 72, 73, 74, 75, 76, 77, 78, 79, 80, 81, 82, 83, 84, 85, 86, 87, 88, 89, 90, 91]
def rM : List Nat := [92, 93, 94, 95, 96, 97, 98, 99, 100, 101, 102, 103, 104, 105, 106, 107, 108, 109, 110, 111, 112, 113, 114, 115, 116, 117, 118, 119, 120, 121]
set_option maxRecDepth 100000 in
set_option maxHeartbeats 4000000 in
theorem lX_m (yr : Nat) (hy : yr = 3 ∨ yr = 80) (s : SoS) (σ : MS) : (rX.take (hSo yr s).length).map (fun i => (hSo yr s ++ hMs σ)[i]?) = (hSo yr s).map (fun c => some (rE (rnF rX (hSo yr s ++ hMs σ).length) c)) := by
  rcases hy with rfl | rfl <;> rfl
set_option maxRecDepth 100000 in
set_option maxHeartbeats 4000000 in
theorem lX_j (yr yr' : Nat) (hy' : yr' = 3 ∨ yr' = 80) (s s' : SoS) (σ : MS) : jn (hSo yr s ++ hMs σ) rX (hSo yr s).length (hSo yr' s') = hSo yr' s' ++ hMs σ := by
  rcases hy' with rfl | rfl <;> rfl
set_option maxRecDepth 100000 in
set_option maxHeartbeats 4000000 in
theorem lM_m (yr : Nat) (s : SoS) (σ : MS) : (rM.take (hM σ).length).map (fun i => (hSo yr s ++ hMs σ)[i]?) = (hM σ).map (fun c => some (rE (rnF rM (hSo yr s ++ hMs σ).length) c)) := by
  rfl
set_option maxRecDepth 100000 in
set_option maxHeartbeats 4000000 in
theorem lM_j (yr : Nat) (s : SoS) (σ σ' : MS) : jn (hSo yr s ++ hMs σ) rM (hM σ).length (hM σ') = hSo yr s ++ hMs σ' := by
  rfl
theorem lg_cmp_self (x : Int64) : lg_cmp x x = 0 := by
  simp [lg_cmp]
