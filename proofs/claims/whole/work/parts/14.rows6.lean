/-! Rows: natives (arraycopy, clone, getClass), arrays of references. -/
def vg_cpB (μ : vg_M) (a0 : Nat) (sp : Int32) (a : Nat) (dp n : Int32) : Option vg_M := match μ.1 a0 with
  | some (.inl (t0, n0, .inl f)) => (match μ.1 a with
    | some (.inl (t1, n1, .inl g)) => if t0 = 0 ∧ t1 = 0 ∧ ¬ sp < 0 ∧ ¬ dp < 0 ∧ ¬ n < 0 ∧ sp.toNatClampNeg + n.toNatClampNeg ≤ n0 ∧ dp.toNatClampNeg + n.toNatClampNeg ≤ n1 ∧ μ.2.2.1 ≤ a ∧ (∀ i, i < n.toNatClampNeg → vp_nar .byte (f (sp.toNatClampNeg + i)) = f (sp.toNatClampNeg + i)) then
        some (va_up μ.1 a (some (.inl (0, n1, .inl (va_cpy f g sp.toNatClampNeg dp.toNatClampNeg n.toNatClampNeg)))), μ.2) else none
    | _ => none)
  | _ => none
def vg_ob (μ : vg_M) (y : Nat) : Bool := match μ.1 y with
  | some (.inr o) => decide (o.1 = 4 ∨ o.1 = 5 ∨ o.1 = 7 ∨ o.1 = 9 ∨ o.1 = 10)
  | _ => false
def vg_cpR (μ : vg_M) (a0 : Nat) (sp : Int32) (a : Nat) (dp n : Int32) : Option vg_M := match μ.1 a0 with
  | some (.inl (t0, n0, .inr (.inr (.inr (.inr f))))) => (match μ.1 a with
    | some (.inl (t1, n1, .inr (.inr (.inr (.inr g))))) => if t0 = 5 ∧ t1 = 5 ∧ ¬ sp < 0 ∧ ¬ dp < 0 ∧ ¬ n < 0 ∧ sp.toNatClampNeg + n.toNatClampNeg ≤ n0 ∧ dp.toNatClampNeg + n.toNatClampNeg ≤ n1 ∧ μ.2.2.1 ≤ a ∧ (∀ i, i < n.toNatClampNeg → (f (sp.toNatClampNeg + i)).all (vg_ob μ) = true) then
        some (va_up μ.1 a (some (.inl (5, n1, .inr (.inr (.inr (.inr (va_cpy f g sp.toNatClampNeg dp.toNatClampNeg n.toNatClampNeg))))))), μ.2) else none
    | _ => none)
  | _ => none
theorem vg_cpB_inv {μ μ' : vg_M} {a0 a : Nat} {sp dp n : Int32} (h : vg_cpB μ a0 sp a dp n = some μ') : ∃ (n0 n1 : Nat) (f g : Nat → Int32), μ.1 a0 = some (.inl (0, n0, .inl f)) ∧ μ.1 a = some (.inl (0, n1, .inl g)) ∧ ¬ sp < 0 ∧ ¬ dp < 0 ∧ ¬ n < 0 ∧ sp.toNatClampNeg + n.toNatClampNeg ≤ n0 ∧ dp.toNatClampNeg + n.toNatClampNeg ≤ n1 ∧ μ.2.2.1 ≤ a ∧
    (∀ i, i < n.toNatClampNeg → vp_nar .byte (f (sp.toNatClampNeg + i)) = f (sp.toNatClampNeg + i)) ∧ μ' = (va_up μ.1 a (some (.inl (0, n1, .inl (va_cpy f g sp.toNatClampNeg dp.toNatClampNeg n.toNatClampNeg)))), μ.2) := by
  unfold vg_cpB at h
  split at h
  · next t0 n0 f hq0 =>
    split at h
    · next t1 n1 g hq1 =>
      split at h
      · next hc =>
        obtain ⟨rfl, rfl, c1, c2, c3, c4, c5, c6, c7⟩ := hc
        cases h
        exact ⟨n0, n1, f, g, hq0, hq1, c1, c2, c3, c4, c5, c6, c7, rfl⟩
      · cases h
    · cases h
  · cases h
theorem vg_cpR_inv {μ μ' : vg_M} {a0 a : Nat} {sp dp n : Int32} (h : vg_cpR μ a0 sp a dp n = some μ') : ∃ (n0 n1 : Nat) (f g : Nat → Option Nat), μ.1 a0 = some (.inl (5, n0, .inr (.inr (.inr (.inr f))))) ∧ μ.1 a = some (.inl (5, n1, .inr (.inr (.inr (.inr g))))) ∧ ¬ sp < 0 ∧ ¬ dp < 0 ∧ ¬ n < 0 ∧ sp.toNatClampNeg + n.toNatClampNeg ≤ n0 ∧ dp.toNatClampNeg + n.toNatClampNeg ≤ n1 ∧ μ.2.2.1 ≤ a ∧
    (∀ i, i < n.toNatClampNeg → (f (sp.toNatClampNeg + i)).all (vg_ob μ) = true) ∧ μ' = (va_up μ.1 a (some (.inl (5, n1, .inr (.inr (.inr (.inr (va_cpy f g sp.toNatClampNeg dp.toNatClampNeg n.toNatClampNeg))))))), μ.2) := by
  unfold vg_cpR at h
  split at h
  · next t0 n0 f hq0 =>
    split at h
    · next t1 n1 g hq1 =>
      split at h
      · next hc =>
        obtain ⟨rfl, rfl, c1, c2, c3, c4, c5, c6, c7⟩ := hc
        cases h
        exact ⟨n0, n1, f, g, hq0, hq1, c1, c2, c3, c4, c5, c6, c7, rfl⟩
      · cases h
    · cases h
  · cases h
theorem vg_ob_inv {μ : vg_M} {y : Nat} (h : vg_ob μ y = true) : ∃ (ci : Nat) (fs : List Value), (ci = 4 ∨ ci = 5 ∨ ci = 7 ∨ ci = 9 ∨ ci = 10) ∧ μ.1 y = some (.inr (ci, fs)) := by
  unfold vg_ob at h
  split at h
  · next o ho => exact ⟨o.1, o.2, of_decide_eq_true h, ho⟩
  · cases h
theorem vg_nn (z : Int32) (hz : ¬ z < 0) : z.toInt = (z.toNatClampNeg : Int) := by
  have hz0 : (0 : Int) ≤ z.toInt := by
    have := Int32.not_lt.mp hz
    simpa using Int32.le_iff_toInt_le.mp this
  show z.toInt = ((z.toInt.toNat : Nat) : Int)
  omega
section VG
variable {p : Program} {l : Launch} {e : Env} {R : Room} {s : State} {m : MethodId} {args : Array Value} {below : List Frame} {meth : Method} {c : Code} {H : Heap} {locs : List Loc} {cells slots : Nat} {Q : State → Prop}
variable {cc : ByteArray} {pc : Nat} {ls : Array Slot} {rest : List Value} {D : va_G} {cy : Nat → ClassId} {H0 : Heap} {μ μ' : vg_M} {own : String} {a cn nn C0 N0 nL : Nat} {lv lv' : List (Nat × Value)}
/-- an object of the lists is a reference that an array of objects takes -/
theorem vg_any (hG : vg_G D cy H0 s) (hH : vg_H D cy H0 μ H) {y : Nat} (h : vg_ob μ y = true) : va_Any "java/lang/Object" s H y := by
  obtain ⟨ci, fs, hci, hy⟩ := vg_ob_inv h
  have hK := hG.1
  obtain ⟨cellV, g1, -, g3, r', hr', g2, -⟩ := hH.rd hy
  have hcls := (hK.1 ci r' hr').2
  have hcast : va_Nw (.castable r'.1 "java/lang/Object") s := by
    have hn := hG.2.2.2.2.2.2.1
    rcases hci with rfl | rfl | rfl | rfl | rfl <;> cases hr'
    · exact hn _ (List.mem_of_getElem? (i := 10) rfl)
    · exact hn _ (List.mem_of_getElem? (i := 11) rfl)
    · exact hn _ (List.mem_of_getElem? (i := 12) rfl)
    · exact hn _ (List.mem_of_getElem? (i := 13) rfl)
    · exact hn _ (List.mem_of_getElem? (i := 14) rfl)
  obtain ⟨c0, t1, f1, f2, f3⟩ := Cond.castable_spec (va_Nw.use (A := #[]) rfl hcast)
  cases hcls.1.symm.trans f1
  obtain ⟨kC, hkC, -⟩ := hcls.2
  refine ⟨cellV, g1, g3, ⟨kC, by rw [g2]; exact hkC⟩, fun comp hcomp => ?_⟩
  cases hcomp.symm.trans f2
  rw [g2]
  exact f3
theorem vg_acopyB (X : vg_X D cy H0 p s m args c cc own) (hml : c.maxLocals = nL) (hl : vg_l ls nL lv) (hH : vg_H D cy H0 μ H) (hL : ∀ z ∈ locs, H0.size ≤ z.base) {index a0 : Nat} {sp dp n : Int32} (hlink : Cond.methodLink own index arraycopyName ∈ vg_T) (hnat : Cond.native arraycopyName ∈ vg_T) (hstat : Cond.static arraycopyName ∈ vg_T) (hini : Cond.initialized "java/lang/System" ∈ vg_T) (hcat : (rest.map fun v => v.category).sum ≤ 8) (hRf : 1 ≤ R.frames) (hRl : 60 ≤ R.locals) (hdg : decode cc pc = .ok (.invokestatic index, 3))
    {β : Type} {kont : vg_M → vg_R β} {res : β × vg_M × Nat × Nat} (hf : vg_o (vg_cpB μ a0 sp a dp n) kont = some res)
    (kk : ∀ (μ1 : vg_M) (H1 : Heap) (locs1 : List Loc), kont μ1 = some res → vg_H D cy H0 μ1 H1 → (∀ z ∈ locs1, H0.size ≤ z.base) → W p l e R s m args below meth c H1 locs1 cells slots Q (F0 m (pc + 3) ls rest)) : W p l e R s m args below meth c H locs cells slots Q (F0 m pc ls (.int n :: .int dp :: .ref a :: .int sp :: .ref a0 :: rest)) := by
  obtain ⟨hx, hb, hts, hown, hG⟩ := X
  have hK := hG.1
  obtain ⟨μ1, hq, hf⟩ := vg_o_inv hf
  obtain ⟨n0, n1, f, g, hm0, hm1, h1, h2, h3, h4, h5, ha, hfit, rfl⟩ := vg_cpB_inv hq
  obtain ⟨cs, hc0, hs1, hs2, hs3, hs4, -, hs5⟩ := vgw_arr (t := 0) hG rfl (hH.rd hm0)
  obtain ⟨hs6, k9, hk9, cm9, hkk9⟩ := hs3
  have hs4 : n0 ≤ cs.slots.size := hs4
  have hs5 : ∀ j, j < n0 → cs.slots[j]? = some (.int (f j)) := fun j hj => by rw [hs5 j hj, vp_cell_i, arrV_read _ _ hj]
  have hc1 : H[a]? = some (vp_cell (cy 0) (n1, .inl g)) := hH.ex hm1 ha
  obtain ⟨-, k0, hk0, cm0, hkk0⟩ := (hK.2 0 _ rfl).1 n0 (fun j => .int (f j))
  intro T hT X
  obtain ⟨vm', X', step⟩ := X.arraycopy hx hown (hts _ hlink) (hts _ hnat) (hts _ hstat) (hts _ hini) (src := a0) (dst := a) (cs := cs) (cd := vp_cell (cy 0) (n1, .inl g)) (srcPos := sp) (destPos := dp) (n := n) (by rw [hT]; exact hc0) (by rw [hT]; exact hc1)
    hs6 (fun _ h => by cases h) hs1 (fun h => by cases h) hk9 hk0 hkk9 hkk0 rfl h1 h2 h3
    (by rw [vg_nn sp h1, vg_nn n h3]; show ¬ _ > (cs.slots.size : Int); omega)
    (by rw [vg_nn dp h2, vg_nn n h3]; show ¬ _ > ((arrV (cy 0) n1 (fun j => .int (g j))).slots.size : Int); rw [arrV_size]; omega)
    (fun vm₁ hal i hi => by
      have e : cs.slots.getD (sp.toNatClampNeg + i) .null = .int (f (sp.toNatClampNeg + i)) := by
        rw [Array.getD_eq_getD_getElem?, hs5 _ (by omega)]
        rfl
      rw [e]
      exact ⟨(vg_fit (Or.inr (Or.inr (Or.inl rfl))) (hfit i hi)).2, trivial⟩)
    (g := F0 m pc ls (.int n :: .int dp :: .ref a :: .int sp :: .ref a0 :: rest)) rfl (by rw [hml]; exact hl.1.1) (rest := rest) rfl (by rw [hb]; exact hdg) hRf (by have hw : nativeFrameWords "java/lang/System" "arraycopy" 5 ≤ 20 := (by decide); show 2 * 0 + _ + _ ≤ _; omega)
  have e1 : copied cs (vp_cell (cy 0) (n1, .inl g)) sp dp n = vp_cell (cy 0) (n1, .inl (va_cpy f g sp.toNatClampNeg dp.toNatClampNeg n.toNatClampNeg)) := va_copiedX (fun z => .int z) cs (cy 0) f g hs5 h4
  rw [e1] at X' step
  have hlt : a < H.size := (Array.getElem?_eq_some_iff.mp hc1).1
  have hheap : ((T.setVm vm').setCell a (vp_cell (cy 0) (n1, .inl (va_cpy f g sp.toNatClampNeg dp.toNatClampNeg n.toNatClampNeg)))).heap = H.setIfInBounds a (vp_cell (cy 0) (n1, .inl (va_cpy f g sp.toNatClampNeg dp.toNatClampNeg n.toNatClampNeg))) := by rw [← hT]; rfl
  obtain ⟨t, a1, b1⟩ := kk _ _ _ hf (hH.put (e := .inl (0, n1, .inl (va_cpy f g sp.toNatClampNeg dp.toNatClampNeg n.toNatClampNeg))) ha (show (H.setIfInBounds a _)[a]? = some _ by simp [Array.getElem?_setIfInBounds, hlt]) (by simp) (fun q hq => by simp [Array.getElem?_setIfInBounds, Ne.symm hq])) (fun q hq => by
      rcases List.mem_append.mp hq with h | h
      · exact hL q h
      · obtain ⟨z, -, hz⟩ := List.mem_map.mp h
        rw [← hz, ← hH.2.1]
        exact ha) _ hheap X'
  exact ⟨t, step t a1, b1⟩
theorem vg_acopyR (X : vg_X D cy H0 p s m args c cc own) (hml : c.maxLocals = nL) (hl : vg_l ls nL lv) (hH : vg_H D cy H0 μ H) (hL : ∀ z ∈ locs, H0.size ≤ z.base) {index a0 : Nat} {sp dp n : Int32} (hlink : Cond.methodLink own index arraycopyName ∈ vg_T) (hnat : Cond.native arraycopyName ∈ vg_T) (hstat : Cond.static arraycopyName ∈ vg_T) (hini : Cond.initialized "java/lang/System" ∈ vg_T) (hcat : (rest.map fun v => v.category).sum ≤ 8) (hRf : 1 ≤ R.frames) (hRl : 60 ≤ R.locals) (hdg : decode cc pc = .ok (.invokestatic index, 3))
    {β : Type} {kont : vg_M → vg_R β} {res : β × vg_M × Nat × Nat} (hf : vg_o (vg_cpR μ a0 sp a dp n) kont = some res)
    (kk : ∀ (μ1 : vg_M) (H1 : Heap) (locs1 : List Loc), kont μ1 = some res → vg_H D cy H0 μ1 H1 → (∀ z ∈ locs1, H0.size ≤ z.base) → W p l e R s m args below meth c H1 locs1 cells slots Q (F0 m (pc + 3) ls rest)) : W p l e R s m args below meth c H locs cells slots Q (F0 m pc ls (.int n :: .int dp :: .ref a :: .int sp :: .ref a0 :: rest)) := by
  obtain ⟨hx, hb, hts, hown, hG⟩ := X
  have hK := hG.1
  obtain ⟨μ1, hq, hf⟩ := vg_o_inv hf
  obtain ⟨n0, n1, f, g, hm0, hm1, h1, h2, h3, h4, h5, ha, hel, rfl⟩ := vg_cpR_inv hq
  obtain ⟨cs, hc0, hs1, hs2, hs3, hs4, -, hs5⟩ := vgw_arr (t := 5) hG rfl (hH.rd hm0)
  obtain ⟨hs6, k9, hk9, cm9, hkk9⟩ := hs3
  have hs4 : n0 ≤ cs.slots.size := hs4
  have hs5 : ∀ j, j < n0 → cs.slots[j]? = some (va_rf (f j)) := fun j hj => by rw [hs5 j hj, vp_cell_q, arrV_read _ _ hj]
  have hc1 : H[a]? = some (vp_cell (cy 5) (n1, .inr (.inr (.inr (.inr g))))) := hH.ex hm1 ha
  obtain ⟨-, k0, hk0, cm0, hkk0⟩ := (hK.2 5 _ rfl).1 n0 (fun j => va_rf (f j))
  intro T hT X
  obtain ⟨vm', X', step⟩ := X.arraycopy hx hown (hts _ hlink) (hts _ hnat) (hts _ hstat) (hts _ hini) (src := a0) (dst := a) (cs := cs) (cd := vp_cell (cy 5) (n1, .inr (.inr (.inr (.inr g))))) (srcPos := sp) (destPos := dp) (n := n) (by rw [hT]; exact hc0) (by rw [hT]; exact hc1)
    hs6 (fun _ h => by cases h) hs1 (fun h => by cases h) hk9 hk0 hkk9 hkk0 rfl h1 h2 h3
    (by rw [vg_nn sp h1, vg_nn n h3]; show ¬ _ > (cs.slots.size : Int); omega)
    (by rw [vg_nn dp h2, vg_nn n h3]; show ¬ _ > ((arrV (cy 5) n1 (fun j => va_rf (g j))).slots.size : Int); rw [arrV_size]; omega)
    (fun vm₁ hal i hi => by
      have e : cs.slots.getD (sp.toNatClampNeg + i) .null = va_rf (f (sp.toNatClampNeg + i)) := by
        rw [Array.getD_eq_getD_getElem?, hs5 _ (by omega)]
        rfl
      rw [e]
      cases hy : f (sp.toNatClampNeg + i) with
      | none => exact ⟨rfl, trivial⟩
      | some y =>
        have hob : vg_ob μ y = true := by have := hel i hi; rw [hy] at this; exact this
        obtain ⟨cellV, g1, g2, ⟨kC, hkC⟩, hasg⟩ := vg_any hG hH hob
        obtain ⟨kA, comp, r1, r2, r3, -⟩ := (hK.2 5 _ rfl).2
        cases hk0.symm.trans r1
        cases hkk0.symm.trans r2
        obtain ⟨kE, hkE, -⟩ := Vm.findClass_spec r3
        obtain ⟨kC', hkC', -⟩ := hal.2.2 _ _ hkC
        obtain ⟨kE', hkE', -⟩ := hal.2.2 _ _ hkE
        refine ⟨rfl, cellV, (show T.heap[y]? = some cellV by rw [hT]; exact g1), (fun q h => by rw [h] at g2; cases g2), ⟨kC', hkC'⟩, ?_, ?_⟩
        · exact ⟨kE', hkE'⟩
        · show vm₁.assignable _ _ = true
          rw [hal.assignable]
          exact hasg _ r3)
    (g := F0 m pc ls (.int n :: .int dp :: .ref a :: .int sp :: .ref a0 :: rest)) rfl (by rw [hml]; exact hl.1.1) (rest := rest) rfl (by rw [hb]; exact hdg) hRf (by have hw : nativeFrameWords "java/lang/System" "arraycopy" 5 ≤ 20 := (by decide); show 2 * 0 + _ + _ ≤ _; omega)
  have e1 : copied cs (vp_cell (cy 5) (n1, .inr (.inr (.inr (.inr g))))) sp dp n = vp_cell (cy 5) (n1, .inr (.inr (.inr (.inr (va_cpy f g sp.toNatClampNeg dp.toNatClampNeg n.toNatClampNeg))))) := va_copiedX (fun z => va_rf z) cs (cy 5) f g hs5 h4
  rw [e1] at X' step
  have hlt : a < H.size := (Array.getElem?_eq_some_iff.mp hc1).1
  have hheap : ((T.setVm vm').setCell a (vp_cell (cy 5) (n1, .inr (.inr (.inr (.inr (va_cpy f g sp.toNatClampNeg dp.toNatClampNeg n.toNatClampNeg))))))).heap = H.setIfInBounds a (vp_cell (cy 5) (n1, .inr (.inr (.inr (.inr (va_cpy f g sp.toNatClampNeg dp.toNatClampNeg n.toNatClampNeg)))))) := by rw [← hT]; rfl
  obtain ⟨t, a1, b1⟩ := kk _ _ _ hf (hH.put (e := .inl (5, n1, .inr (.inr (.inr (.inr (va_cpy f g sp.toNatClampNeg dp.toNatClampNeg n.toNatClampNeg)))))) ha (show (H.setIfInBounds a _)[a]? = some _ by simp [Array.getElem?_setIfInBounds, hlt]) (by simp) (fun q hq => by simp [Array.getElem?_setIfInBounds, Ne.symm hq])) (fun q hq => by
      rcases List.mem_append.mp hq with h | h
      · exact hL q h
      · obtain ⟨z, -, hz⟩ := List.mem_map.mp h
        rw [← hz, ← hH.2.1]
        exact ha) _ hheap X'
  exact ⟨t, step t a1, b1⟩
end VG
