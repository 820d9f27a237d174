/-- the tables' words that keep while a method runs -/
def vg_T : List Cond := lw_tbl.filter goodWord
theorem vg_in {w : Cond} (h : w ∈ lw_tbl) (g : goodWord w = true) : w ∈ vg_T := List.mem_filter.mpr ⟨h, g⟩
theorem vg_tn {w : Cond} {i : Nat} (h : tables_1[i]? = some w) (g : goodWord w = true) : w ∈ vg_T := vg_in (List.mem_append_right _ (List.mem_of_getElem? h)) g
theorem vg_Tgood : ∀ w ∈ vg_T, goodWord w = true := fun _ h => (List.mem_filter.mp h).2
