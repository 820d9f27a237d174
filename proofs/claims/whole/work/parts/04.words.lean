/-- private methods of AbstractStringBuilder, selected on a StringBuilder -/
def vg_sel : List Cond := [Cond.selects RJ4 yJ5_ensureCapacityInternal_d00df yJ5_ensureCapacityInternal_d00df, Cond.selects RJ4 yJ5_newCapacity_0f7a4 yJ5_newCapacity_0f7a4, Cond.selects RJ4 yJ5_inflate_da8c8 yJ5_inflate_da8c8, Cond.selects RJ4 yJ5_appendNull_278bc yJ5_appendNull_278bc, Cond.selects RJ4 yJ5_putStringAt_47b60 yJ5_putStringAt_47b60, Cond.selects RJ4 yJ5_inflateIfNeededFor_a7421 yJ5_inflateIfNeededFor_a7421]
/-- the tables' words that keep while a method runs -/
def vg_T : List Cond := (vg_sel ++ lw_tbl).filter goodWord
theorem vg_in {w : Cond} (h : w ∈ lw_tbl) (g : goodWord w = true) : w ∈ vg_T := List.mem_filter.mpr ⟨List.mem_append_right _ h, g⟩
theorem vg_sn {w : Cond} {i : Nat} (h : vg_sel[i]? = some w) (g : goodWord w = true) : w ∈ vg_T := List.mem_filter.mpr ⟨List.mem_append_left _ (List.mem_of_getElem? h), g⟩
theorem vg_tn {w : Cond} {i : Nat} (h : tables_1[i]? = some w) (g : goodWord w = true) : w ∈ vg_T := vg_in (List.mem_append_right _ (List.mem_of_getElem? h)) g
theorem vg_Tgood : ∀ w ∈ vg_T, goodWord w = true := fun _ h => (List.mem_filter.mp h).2
theorem vg_selP {C : String} {y : MethodName} {s : State} {args : Array Value} {n : Nat} (hy : y.cls ≠ "java/lang/invoke/MethodHandle" ∧ y.cls ≠ "java/lang/invoke/VarHandle")
    (hins : (Cond.instantiable C n).before args s = true) (hpriv : (Cond.privateMethod y).before args s = true) (hinst : (Cond.instanceMethod y).before args s = true) (hni0 : ∀ mk, s.methodNamed? y = some mk → ∃ k, s.vm.classes[mk.cls]? = some k ∧ k.isInterface = false) :
    (Cond.selects C y y).before args s = true := by
  obtain ⟨c, k, hc, hk, -, hniab, -, -⟩ := Cond.instantiable_spec hins
  obtain ⟨mk, methM, hnamed, hmethM, -, -⟩ := Cond.instanceMethod_spec hinst
  obtain ⟨k0, hk0, hni⟩ := hni0 mk hnamed
  have hfound : s.methodFound? y.cls y.name y.desc = some mk := State.methodFound?_of_named hnamed hy
  have hsel : selectMethod {} s.vm c mk = .method mk := selectMethod_private hmethM (Cond.privateMethod_at hpriv mk methM hnamed hmethM)
  simp only [Cond.before, Cond.holds, Cond.value, hc, hfound, hnamed, hsel, hk0]
  simp; exact hni
