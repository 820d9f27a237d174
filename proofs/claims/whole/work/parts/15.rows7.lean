/-! Rows: clone of a byte array, a new array of objects, getClass. -/
/-- a copy of the byte array at a -/
def vg_cl {β : Type} (μ : vg_M) (a : Nat) (f : Nat → vg_M → vg_R β) : vg_R β := match μ.1 a with
  | some (.inl (t, n, .inl g)) => if t = 0 ∧ μ.2.2.1 ≤ a ∧ (∀ i, i < n → vp_nar .byte (g i) = g i) then vg_nw n μ.2.1 (va_up μ.1 μ.2.1 (some (.inl (0, n, .inl g))), μ.2.1 + 1, μ.2.2) f else none
  | _ => none
theorem vg_cl_inv {β : Type} {μ : vg_M} {a : Nat} {f : Nat → vg_M → vg_R β} {r : β × vg_M × Nat × Nat} (h : vg_cl μ a f = some r) : ∃ (n : Nat) (g : Nat → Int32), μ.1 a = some (.inl (0, n, .inl g)) ∧ μ.2.2.1 ≤ a ∧ (∀ i, i < n → vp_nar .byte (g i) = g i) ∧ vg_nw n μ.2.1 (va_up μ.1 μ.2.1 (some (.inl (0, n, .inl g))), μ.2.1 + 1, μ.2.2) f = some r := by
  unfold vg_cl at h
  split at h
  · next t n g hq =>
    split at h
    · next hc =>
      obtain ⟨rfl, ha, hb⟩ := hc
      exact ⟨n, g, hq, ha, hb, h⟩
    · cases h
  · cases h
section VG
variable {p : Program} {l : Launch} {e : Env} {R : Room} {s : State} {m : MethodId} {args : Array Value} {below : List Frame} {meth : Method} {c : Code} {H : Heap} {locs : List Loc} {cells slots : Nat} {Q : State → Prop}
variable {cc : ByteArray} {pc : Nat} {ls : Array Slot} {rest : List Value} {D : va_G} {cy : Nat → ClassId} {H0 : Heap} {μ μ' : vg_M} {own : String} {a cn nn C0 N0 nL : Nat} {lv lv' : List (Nat × Value)}
theorem vg_clone (X : vg_X D cy H0 p s m args c cc own) (hml : c.maxLocals = nL) (hl : vg_l ls nL lv) (hH : vg_H D cy H0 μ H) {index : Nat} (hlink : Cond.methodLink own index ⟨"[B", "clone", "()Ljava/lang/Object;"⟩ ∈ vg_T) (hsame : Cond.sameMethod "[B" "java/lang/Object" "clone" "()Ljava/lang/Object;" ∈ vg_T) (hnat : Cond.native ⟨"java/lang/Object", "clone", "()Ljava/lang/Object;"⟩ ∈ vg_T) (hinst : Cond.instanceMethod ⟨"java/lang/Object", "clone", "()Ljava/lang/Object;"⟩ ∈ vg_T)
    (hsel : Cond.selects "[B" ⟨"[B", "clone", "()Ljava/lang/Object;"⟩ ⟨"java/lang/Object", "clone", "()Ljava/lang/Object;"⟩ ∈ vg_T) (hcat : (rest.map fun v => v.category).sum ≤ 8) (hRf : 1 ≤ R.frames) (hRl : 60 ≤ R.locals) (hdg : decode cc pc = .ok (.invokevirtual index, 3))
    {β : Type} {kont : Nat → vg_M → vg_R β} {r : β} (hf : vg_cl μ a kont = some (r, μ', cn, nn)) (hC : cells + cn = C0) (hN : slots + nn = N0) (hRc : C0 ≤ R.cells) (hRs : N0 ≤ R.slots)
    (kk : ∀ (q : Nat) (μ1 : vg_M) (cn nn : Nat) (H1 : Heap) (cells slots : Nat), kont q μ1 = some (r, μ', cn, nn) → cells + cn = C0 → slots + nn = N0 → vg_H D cy H0 μ1 H1 → W p l e R s m args below meth c H1 locs cells slots Q (F0 m (pc + 3) ls (.ref q :: rest))) : W p l e R s m args below meth c H locs cells slots Q (F0 m pc ls (.ref a :: rest)) := by
  obtain ⟨hx, hb, hts, hown, hG⟩ := X
  have hK := hG.1
  obtain ⟨n, g, hm, hold, hfit, hf⟩ := vg_cl_inv hf
  obtain ⟨c2, n2, hf2, rfl, rfl⟩ := vg_n_inv hf
  have hcell : H[a]? = some (vp_cell (cy 0) (n, .inl g)) := hH.ex hm hold
  have hnm : s.vm.findClass "[B" = some (cy 0) := (hK.2 0 _ rfl).2
  have hsz : (vp_cell (cy 0) (n, .inl g)).slots.size = n := arrV_size _ _ _
  obtain ⟨c0, t0', f1, f2, f3⟩ := Cond.castable_spec (va_Nw.use (A := args) rfl (hG.2.2.2.2.2.2.1 _ (List.mem_of_getElem? (i := 15) rfl)))
  cases hnm.symm.trans f1
  intro T hT X
  have hcellT : T.heap[a]? = some (vp_cell (cy 0) (n, .inl g)) := by rw [hT]; exact hcell
  obtain ⟨-, kA, hkA, comp, hkind⟩ := State.isArrayOf_alike X.warmed.alike ((hK.2 0 _ rfl).1 0 (fun _ => .null))
  obtain ⟨-, kS, hkS, compS, hkindS⟩ := (hK.2 0 _ rfl).1 0 (fun _ => .null)
  obtain ⟨vm', X', st⟩ := X.cloneArray hx hown (hts _ hlink) (hts _ hsame) (hts _ hnat) (hts _ hinst) (hts _ hsel) (a := a) (cell := vp_cell (cy 0) (n, .inl g)) hcellT (fun k h => by cases h) (fun h => by cases h) hnm f2 f3
    (fun i v hv => by
      have hk' : T.vm.classes[cy 0]? = some kA := hkA
      have hv' : (arrV (cy 0) n (fun j => .int (g j))).slots[i]? = some v := hv
      have hi : i < n := by
        have h9 := (Array.getElem?_eq_some_iff.mp hv').1
        rw [arrV_size] at h9
        exact h9
      rw [arrV_read _ _ hi] at hv'
      cases hv'
      show T.fitsSlot (cy 0) .none i _ = true
      simpa [State.fitsSlot, State.slotType?, hk', hkind] using (vg_fit (Or.inr (Or.inr (Or.inl rfl))) (hfit i hi)).2)
    (g := F0 m pc ls (.ref a :: rest)) rfl (by rw [hml]; exact hl.1.1) rfl (by rw [hb]; exact hdg) hRf (by show 2 * 0 + _ + 14 ≤ _; omega) (by omega) (by rw [hsz]; omega) (hloader := Vm.clonesLoader_of_array hkS hkindS)
  have hcellE : ({ cls := (vp_cell (cy 0) (n, .inl g)).cls, slots := (vp_cell (cy 0) (n, .inl g)).slots } : Cell) = vp_cell (cy 0) (n, .inl g) := rfl
  rw [hcellE, hsz] at X'
  generalize hH1 : H.push (vp_cell (cy 0) (n, .inl g)) = H1
  have z1 : H1.size = μ.2.1 + 1 := by rw [← hH1, Array.size_push, hH.1]
  have e1 : H1[μ.2.1]? = some (vp_cell (cy 0) (n, .inl g)) := by rw [← hH1, ← hH.1, Array.getElem?_push_size]
  have o1 : ∀ q : Nat, q < μ.2.1 → H1[q]? = H[q]? := fun q hq => by rw [← hH1, Array.getElem?_push, if_neg (by rw [hH.1]; exact Nat.ne_of_lt hq)]
  obtain ⟨t, b1, b2⟩ := kk μ.2.1 _ c2 n2 H1 _ _ hf2 (by omega) (by omega) (hH.new (e := .inl (0, n, .inl g)) e1 z1 o1) ((T.setVm vm').pushCell (vp_cell (cy 0) (n, .inl g))) (by rw [← hH1, ← hT]; rfl) X'
  refine ⟨t, st t ?_, b2⟩
  rw [hcellE, hT, hH.1]
  exact b1
theorem vg_anew (X : vg_X D cy H0 p s m args c cc own) (hH : vg_H D cy H0 μ H) {index : Nat} {n : Int32} (hlink : Cond.classLink own index "java/lang/Object" ∈ vg_T) (hdg : decode cc pc = .ok (.anewarray index, 3)) {β : Type} {kont : Nat → vg_M → vg_R β} {r : β} (hf : vg_o (vg_len n) (fun N => vg_nw N μ.2.1 (vg_nR μ N) kont) = some (r, μ', cn, nn)) (hC : cells + cn = C0) (hN : slots + nn = N0) (hRc : C0 ≤ R.cells) (hRs : N0 ≤ R.slots)
    (kk : ∀ (q : Nat) (μ1 : vg_M) (cn nn : Nat) (H1 : Heap) (cells slots : Nat), kont q μ1 = some (r, μ', cn, nn) → cells + cn = C0 → slots + nn = N0 → vg_H D cy H0 μ1 H1 → W p l e R s m args below meth c H1 locs cells slots Q (F0 m (pc + 3) ls (.ref q :: rest))) : W p l e R s m args below meth c H locs cells slots Q (F0 m pc ls (.int n :: rest)) := by
  obtain ⟨hx, hb, hts, hown, hG⟩ := X
  have hK := hG.1
  obtain ⟨N, h0, hf⟩ := vg_o_inv hf
  obtain ⟨hn, hNn, hle⟩ := vg_len_inv h0
  obtain ⟨c2, n2, hf2, rfl, rfl⟩ := vg_n_inv hf
  subst hNn
  refine W.anew hx hb (C := "java/lang/Object") hown (hts _ hlink) (hG.2.2.2.2.2.2.2.2.2.1.use) rfl hdg rfl hn (by omega) (by omega) (by omega) fun cA kA comp f1 f2 f3 f4 => ?_
  generalize hH1 : H.push _ = H1
  have hcA : cA = cy 5 := by
    have h5 := va_nmO (hK.2 5 _ rfl).2 (C := "java/lang/Object") rfl
    exact Option.some.inj (f1.symm.trans h5)
  subst hcA
  have z1 : H1.size = μ.2.1 + 1 := by rw [← hH1, Array.size_push, hH.1]
  have e1 : H1[μ.2.1]? = some (vp_cell (cy 5) (n.toNatClampNeg, .inr (.inr (.inr (.inr (fun _ => none)))))) := by
    rw [← hH1, ← hH.1, Array.getElem?_push_size, vp_cell_q]
    exact congrArg some (arrV_new _ _ _)
  have o1 : ∀ q : Nat, q < μ.2.1 → H1[q]? = H[q]? := fun q hq => by rw [← hH1, Array.getElem?_push, if_neg (by rw [hH.1]; exact Nat.ne_of_lt hq)]
  refine W.eq (g2 := F0 m (pc + 3) ls (.ref μ.2.1 :: rest)) (by rw [← hH.1]) ?_
  exact kk μ.2.1 _ c2 n2 H1 _ _ hf2 (by omega) (by omega) (hH.new (e := .inl (5, n.toNatClampNeg, .inr (.inr (.inr (.inr (fun _ => none)))))) e1 z1 o1)
end VG
section VG
variable {p : Program} {l : Launch} {e : Env} {R : Room} {s : State} {m : MethodId} {args : Array Value} {below : List Frame} {meth : Method} {c : Code} {H : Heap} {locs : List Loc} {cells slots : Nat} {Q : State → Prop}
variable {cc : ByteArray} {pc : Nat} {ls : Array Slot} {rest : List Value} {D : va_G} {cy : Nat → ClassId} {H0 : Heap} {μ μ' : vg_M} {own : String} {a cn nn C0 N0 nL : Nat} {lv lv' : List (Nat × Value)}
theorem vg_getC (X : vg_X D cy H0 p s m args c cc own) (hml : c.maxLocals = nL) (hl : vg_l ls nL lv) (hH : vg_H D cy H0 μ H) {index : Nat} (hlink : Cond.methodLink own index ⟨"java/lang/Object", "getClass", "()Ljava/lang/Class;"⟩ ∈ vg_T) (hsel : Cond.selects "[Ljava/lang/Object;" ⟨"java/lang/Object", "getClass", "()Ljava/lang/Class;"⟩ ⟨"java/lang/Object", "getClass", "()Ljava/lang/Class;"⟩ ∈ vg_T) (hinst : Cond.instanceMethod ⟨"java/lang/Object", "getClass", "()Ljava/lang/Class;"⟩ ∈ vg_T) (hnat : Cond.native ⟨"java/lang/Object", "getClass", "()Ljava/lang/Class;"⟩ ∈ vg_T)
    (hcat : (rest.map fun v => v.category).sum ≤ 8) (hRf : 1 ≤ R.frames) (hRl : 60 ≤ R.locals) (hdg : decode cc pc = .ok (.invokevirtual index, 3)) {β : Type} {kont : Nat → vg_R β} {res : β × vg_M × Nat × Nat} (hf : vg_cka μ a 5 (vg_k μ 32 kont) = some res)
    (kk : ∀ x : Nat, kont x = some res → W p l e R s m args below meth c H locs cells slots Q (F0 m (pc + 3) ls (.ref x :: rest))) : W p l e R s m args below meth c H locs cells slots Q (F0 m pc ls (.ref a :: rest)) := by
  obtain ⟨hx, hb, hts, hown, hG⟩ := X
  obtain ⟨⟨x, h1⟩, -, hf⟩ := vg_cka_inv hf
  obtain ⟨cell, g1, -, g3, g4, -⟩ := hH.rd h1
  have g4 : cell.cls = cy 5 := g4.resolve_right (fun q => absurd (show (5 : Nat) = 0 from q.1) (by decide))
  have e := hH.2.2.2.2.2 32
  have e' : cy 132 = μ.2.2.2 32 := e.symm
  refine va_getC hx hb (hml.trans hl.1.1.symm) hown (hts _ hlink) (va_Nw.use rfl (hG.2.2.2.2.2.2.1 _ (List.mem_of_getElem? (i := 16) rfl))) (hts _ hsel) (hts _ hinst) (hts _ hnat) hG.2.2.2.2.2.1 ⟨cell, g1, g3, ?_⟩ hRf (by omega) hdg ?_
  · rw [g4]
    exact va_nmO (hG.1.2 5 _ rfl).2 rfl
  · rw [e']
    exact kk _ hf
end VG
theorem vg_cs : ∀ {rest : List Value} {k : Nat}, (∀ v ∈ rest, v.category = 1) → rest.length ≤ k → (rest.map fun v => v.category).sum ≤ k
  | [], _, _, _ => Nat.zero_le _
  | v :: rest, 0, _, hl => absurd hl (Nat.not_succ_le_zero _)
  | v :: rest, k + 1, h, hl => by
    have h1 := vg_cs (rest := rest) (k := k) (fun w hw => h w (List.mem_cons_of_mem _ hw)) (Nat.le_of_succ_le_succ hl)
    have h2 := h v List.mem_cons_self
    simp only [List.map_cons, List.sum_cons, h2]
    omega
/-- entry index of own's pool is field k of class ci: to be read -/
def vg_Fr (own : String) (index ci k : Nat) : Prop := ∃ (ref C : String) (T : u_T) (N : Nat) (ty0 : Nat → FieldType), vg_Cl ci C T N ty0 ∧ k < N ∧ Cond.fieldLink own index ref (T k).2.1 (T k).2.2.1 ∈ vg_T ∧ ref = (T k).1
section VG
variable {p : Program} {l : Launch} {e : Env} {R : Room} {s : State} {m : MethodId} {args : Array Value} {below : List Frame} {meth : Method} {c : Code} {H : Heap} {locs : List Loc} {cells slots : Nat} {Q : State → Prop}
variable {cc : ByteArray} {pc : Nat} {ls : Array Slot} {rest : List Value} {D : va_G} {cy : Nat → ClassId} {H0 : Heap} {μ μ' : vg_M} {own : String} {a cn nn C0 N0 nL : Nat} {lv lv' : List (Nat × Value)}
theorem vg_getVr (X : vg_X D cy H0 p s m args c cc own) (hH : vg_H D cy H0 μ H) {index ci k : Nat} (hF : vg_Fr own index ci k) {fs : List Value} (h1 : μ.1 a = some (.inr (ci, fs))) {v : Value} (h2 : fs[k]? = some v) (hdg : decode cc pc = .ok (.getfield index, 3))
    (kk : W p l e R s m args below meth c H locs cells slots Q (F0 m (pc + 3) ls (v :: rest))) : W p l e R s m args below meth c H locs cells slots Q (F0 m pc ls (.ref a :: rest)) := by
  obtain ⟨hx, hb, hts, hown, hG⟩ := X
  obtain ⟨ref, C, T, N, ty0, ⟨hc, hin, -, -⟩, hk, hl, rfl⟩ := hF
  exact vgw_get (ci := ci) (C := C) (T := T) (N := N) (ref := (T k).1) hx hb hts hin hown hG.1 (hH.rd h1) hc k hk (hts _ hl) (fun _ h => h) h2 hdg kk
theorem vg_getIr (X : vg_X D cy H0 p s m args c cc own) (hH : vg_H D cy H0 μ H) {index ci k : Nat} (hF : vg_Fr own index ci k) (hdg : decode cc pc = .ok (.getfield index, 3)) {β : Type} {kont : Int32 → vg_R β} {res : β × vg_M × Nat × Nat} (hf : vg_o (vg_gI μ a ci k) kont = some res)
    (kk : ∀ x : Int32, kont x = some res → W p l e R s m args below meth c H locs cells slots Q (F0 m (pc + 3) ls (.int x :: rest))) : W p l e R s m args below meth c H locs cells slots Q (F0 m pc ls (.ref a :: rest)) := by
  obtain ⟨x, h0, hf⟩ := vg_o_inv hf
  obtain ⟨fs, h1, h2⟩ := vg_gI_inv h0
  exact vg_getVr X hH hF h1 h2 hdg (kk x hf)
theorem vg_getRr (X : vg_X D cy H0 p s m args c cc own) (hH : vg_H D cy H0 μ H) {index ci k : Nat} (hF : vg_Fr own index ci k) (hdg : decode cc pc = .ok (.getfield index, 3)) {β : Type} {kont : Option Nat → vg_R β} {res : β × vg_M × Nat × Nat} (hf : vg_o (vg_gR μ a ci k) kont = some res)
    (kk : ∀ x : Option Nat, kont x = some res → W p l e R s m args below meth c H locs cells slots Q (F0 m (pc + 3) ls (va_rf x :: rest))) : W p l e R s m args below meth c H locs cells slots Q (F0 m pc ls (.ref a :: rest)) := by
  obtain ⟨x, h0, hf⟩ := vg_o_inv hf
  obtain ⟨fs, h1, h2⟩ := vg_gR_inv h0
  exact vg_getVr X hH hF h1 h2 hdg (kk x hf)
end VG
