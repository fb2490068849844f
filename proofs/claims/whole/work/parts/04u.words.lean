theorem in_by {ws : List Cond} (ps : List Nat) (h : ps.map (fun i => TG[i]?) = ws.map some) : ∀ w ∈ ws, w ∈ TG := by
  intro w hw
  have h1 : some w ∈ ws.map some := List.mem_map.mpr ⟨w, hw, rfl⟩
  rw [← h] at h1
  obtain ⟨i, -, hi⟩ := List.mem_map.mp h1
  exact List.mem_of_getElem? hi
def isNest : Cond → Bool
  | .methodLinkNest _ _ _ _ => true
  | _ => false
/-- the words that a callee's words can't hold: they come with the start -/
def NW : List Cond := lw_tbl.filter isNest
