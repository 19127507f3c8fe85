def jIsNest : Cond → Bool
  | .fieldLinkNest .. => true
  | .methodLinkNest .. => true
  | _ => false
def AW : List Cond := lw_tbl.filter goodWord
def nestL : List Cond := lw_tbl.filter jIsNest
theorem nestL_is : ∀ w ∈ nestL, jIsNest w = true := fun w h => (List.mem_filter.mp h).2
theorem nestL_on : ∀ w ∈ nestL, w.onTables = true := by
  intro w hw
  have h2 := nestL_is w hw
  cases w <;> first | rfl | exact absurd h2 (by simp [jIsNest])
