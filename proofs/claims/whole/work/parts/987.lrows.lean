/-! Rows for the law's own body. -/
section VYL
variable {p : Program} {l : Launch} {e : Env} {R : Room} {s : State} {m : MethodId} {args : Array Value} {below : List Frame} {meth : Method} {c : Code} {H : Heap} {locs : List Loc} {cells slots : Nat} {Q : State → Prop}
variable {cc : ByteArray} {pc : Nat} {ls : Array Slot} {rest : List Value} {D : va_G} {cy : Nat → ClassId} {H0 : Heap} {μ μ' : vg_M} {own : String} {a cn nn nL : Nat} {lv : List (Nat × Value)}
theorem vy_cVi (X : vg_X D cy H0 p s m args c cc own) (hml : c.maxLocals = nL) (hl : vg_l ls nL lv) (hH : vg_H D cy H0 μ H) (hL : ∀ z ∈ locs, H0.size ≤ z.base) {index ci maxL n h : Nat} {C : String} {y : MethodName} {bytes : ByteArray} {ret : Option FieldType} (hS : vg_CV own index C y bytes maxL ret n) {T : u_T} {N : Nat} (hci : vwCl[ci]? = some (C, T, N))
    (As : List Value) (hn : As.length = n) {st0 : List Value} (hst : st0 = As.reverse ++ .ref a :: rest) (hcat : (rest.map fun v => v.category).sum ≤ 8) (hdg : decode cc pc = .ok (.invokevirtual index, 3)) (ha : ∃ fs, μ.1 a = some (.inr (ci, fs))) {x : Int32} (hRc : cells + cn ≤ R.cells) (hRs : slots + nn ≤ R.slots) {h1 : Nat} (hRf : h1 ≤ R.frames) (hRl : 60 * h1 ≤ R.locals) (hh : h + 1 ≤ h1)
    (hM : vg_Met l D cy H0 y bytes maxL ret h μ (.ref a :: As) (some (.int x)) μ' cn nn)
    (kk : ∀ (H1 : Heap) (locs1 : List Loc), vg_H D cy H0 μ' H1 → (∀ z ∈ locs1, H0.size ≤ z.base) → W p l e R s m args below meth c H1 locs1 (cells + cn) (slots + nn) Q (F0 m (pc + 3) ls (.int x :: rest))) : W p l e R s m args below meth c H locs cells slots Q (F0 m pc ls st0) := by
  obtain ⟨fs, ha⟩ := ha
  refine vg_callVi X hml hl hH hL hS hci As hn hst hcat hdg (fy := some (x, μ', cn, nn)) (kont := fun x μ => vg_ret x μ) (r := x) (μ' := μ') (cn := cn) (nn := nn) (pg_cv ha) rfl rfl hRc hRs hRf hRl hh (fun x' μ1 c1 n1 e => ?_) (fun x' μ1 cn' nn' H1 locs1 cells' slots' hf hC hN hH1 hL1 => ?_)
  · cases e; exact hM
  · obtain ⟨rfl, rfl, rfl, rfl⟩ : x' = x ∧ μ1 = μ' ∧ 0 = cn' ∧ 0 = nn' := by
      have := Option.some.inj hf
      simp only [Prod.mk.injEq] at this
      exact this
    have e1 : cells' = cells + cn := hC
    have e2 : slots' = slots + nn := hN
    rw [e1, e2]
    exact kk H1 locs1 hH1 hL1
theorem vy_cVv (X : vg_X D cy H0 p s m args c cc own) (hml : c.maxLocals = nL) (hl : vg_l ls nL lv) (hH : vg_H D cy H0 μ H) (hL : ∀ z ∈ locs, H0.size ≤ z.base) {index ci maxL n h : Nat} {C : String} {y : MethodName} {bytes : ByteArray} {ret : Option FieldType} (hS : vg_CV own index C y bytes maxL ret n) {T : u_T} {N : Nat} (hci : vwCl[ci]? = some (C, T, N))
    (As : List Value) (hn : As.length = n) {st0 : List Value} (hst : st0 = As.reverse ++ .ref a :: rest) (hcat : (rest.map fun v => v.category).sum ≤ 8) (hdg : decode cc pc = .ok (.invokevirtual index, 3)) (ha : ∃ fs, μ.1 a = some (.inr (ci, fs))) (hRc : cells + cn ≤ R.cells) (hRs : slots + nn ≤ R.slots) {h1 : Nat} (hRf : h1 ≤ R.frames) (hRl : 60 * h1 ≤ R.locals) (hh : h + 1 ≤ h1)
    (hM : vg_Met l D cy H0 y bytes maxL ret h μ (.ref a :: As) none μ' cn nn)
    (kk : ∀ (H1 : Heap) (locs1 : List Loc), vg_H D cy H0 μ' H1 → (∀ z ∈ locs1, H0.size ≤ z.base) → W p l e R s m args below meth c H1 locs1 (cells + cn) (slots + nn) Q (F0 m (pc + 3) ls rest)) : W p l e R s m args below meth c H locs cells slots Q (F0 m pc ls st0) := by
  obtain ⟨fs, ha⟩ := ha
  refine vg_callVv X hml hl hH hL hS hci As hn hst hcat hdg (fy := some ((), μ', cn, nn)) (kont := fun x μ => vg_ret x μ) (r := ()) (μ' := μ') (cn := cn) (nn := nn) (pg_cv ha) rfl rfl hRc hRs hRf hRl hh (fun x' μ1 c1 n1 e => ?_) (fun x' μ1 cn' nn' H1 locs1 cells' slots' hf hC hN hH1 hL1 => ?_)
  · cases e; exact hM
  · obtain ⟨-, rfl, rfl, rfl⟩ : True ∧ μ1 = μ' ∧ 0 = cn' ∧ 0 = nn' := by
      have := Option.some.inj hf
      simp only [Prod.mk.injEq] at this
      exact ⟨trivial, this.2⟩
    have e1 : cells' = cells + cn := hC
    have e2 : slots' = slots + nn := hN
    rw [e1, e2]
    exact kk H1 locs1 hH1 hL1
theorem vy_cI (X : vg_X D cy H0 p s m args c cc own) (hml : c.maxLocals = nL) (hl : vg_l ls nL lv) (hH : vg_H D cy H0 μ H) (hL : ∀ z ∈ locs, H0.size ≤ z.base) {index maxL n h : Nat} {y : MethodName} {bytes : ByteArray} (hS : vg_CI own index y bytes maxL n)
    (As : List Value) (hn : As.length = n) {st0 : List Value} (hst : st0 = As.reverse ++ .ref a :: rest) (hcat : (rest.map fun v => v.category).sum ≤ 8) (hdg : decode cc pc = .ok (.invokespecial index, 3)) (hRc : cells + cn ≤ R.cells) (hRs : slots + nn ≤ R.slots) {h1 : Nat} (hRf : h1 ≤ R.frames) (hRl : 60 * h1 ≤ R.locals) (hh : h + 1 ≤ h1)
    (hM : vg_Met l D cy H0 y bytes maxL none h μ (.ref a :: As) none μ' cn nn)
    (kk : ∀ (H1 : Heap) (locs1 : List Loc), vg_H D cy H0 μ' H1 → (∀ z ∈ locs1, H0.size ≤ z.base) → W p l e R s m args below meth c H1 locs1 (cells + cn) (slots + nn) Q (F0 m (pc + 3) ls rest)) : W p l e R s m args below meth c H locs cells slots Q (F0 m pc ls st0) := by
  refine vg_callIv X hml hl hH hL hS As hn hst hcat hdg (fy := some ((), μ', cn, nn)) (kont := fun x μ => vg_ret x μ) (r := ()) (μ' := μ') (cn := cn) (nn := nn) rfl rfl rfl hRc hRs hRf hRl hh (fun x' μ1 c1 n1 e => ?_) (fun x' μ1 cn' nn' H1 locs1 cells' slots' hf hC hN hH1 hL1 => ?_)
  · cases e; exact hM
  · obtain ⟨-, rfl, rfl, rfl⟩ : True ∧ μ1 = μ' ∧ 0 = cn' ∧ 0 = nn' := by
      have := Option.some.inj hf
      simp only [Prod.mk.injEq] at this
      exact ⟨trivial, this.2⟩
    have e1 : cells' = cells + cn := hC
    have e2 : slots' = slots + nn := hN
    rw [e1, e2]
    exact kk H1 locs1 hH1 hL1
/-- a call of a method of the law's own that catches -/
theorem vy_callS {α : Type} (X : vg_X D cy H0 p s m args c cc own) (hNc : va_Nc "java/lang/IllegalStateException" "java/lang/IllegalArgumentException" s) (hml : c.maxLocals = nL) (hl : vg_l ls nL lv) (hH : vg_H D cy H0 μ H) (hL : ∀ z ∈ locs, H0.size ≤ z.base) {index maxL n : Nat} {y : MethodName} {bytes : ByteArray} {hh : List (Nat × Nat × Nat × Nat)} (hlink : Cond.methodLink own index y ∈ vg_T) (hstat : Cond.static y ∈ vg_T) (hcode : Cond.codeWith y bytes maxL (some .int) hh ∈ vg_T) (hini : Cond.initialized y.cls ∈ vg_T) (hd : y.cls ≠ "java/lang/invoke/MethodHandle" ∧ y.cls ≠ "java/lang/invoke/VarHandle" ∧ (parseMethodDescriptor y.desc).map (fun d => d.parameters.length) = some n) (hmx : maxL ≤ 41)
    (As : List Value) (hn : As.length = n) {st0 : List Value} (hst : st0 = As.reverse ++ rest) (hcat : (rest.map fun v => v.category).sum ≤ 8) (hdg : decode cc pc = .ok (.invokestatic index, 3)) {r : α ⊕ Nat} {μo : α → vg_M} (hRc : cells + cn ≤ R.cells) (hRs : slots + nn ≤ R.slots) (hRf : 46 ≤ R.frames) (hRl : 2760 ≤ R.locals)
    (hM : Met l y (.codeWith y bytes maxL (some .int) hh :: vg_T) (vg_rm 45 cn nn) (vy_Pc D cy H0 μ As) (vy_Qc D cy H0 r μo μ') cn nn (vg_fr H0))
    (kk : ∀ (v : α) (H1 : Heap) (locs1 : List Loc), r = .inl v → vg_H D cy H0 (μo v) H1 → (∀ z ∈ locs1, H0.size ≤ z.base) → W p l e R s m args below meth c H1 locs1 (cells + cn) (slots + nn) Q (F0 m (pc + 3) ls (.int 0 :: rest)))
    (kx : ∀ (k z : Nat) (H1 : Heap) (locs1 : List Loc), r = .inr k → vg_H D cy H0 (μ'.1, z, μ'.2.2) H1 → (∀ z ∈ locs1, H0.size ≤ z.base) → W p l e R s m args below meth c H1 locs1 (cells + cn) (slots + nn) Q (F0 m (pc + 3) ls (.int (nI k) :: rest))) : W p l e R s m args below meth c H locs cells slots Q (F0 m pc ls st0) := by
  subst hst
  obtain ⟨hx, hb, hts, hown, hG⟩ := X
  have hGd : GoodIn vg_T (va_wsS own index y (Cond.codeWith y bytes maxL (some .int) hh :: vg_T)) := by
    intro w hw
    have hw' : w ∈ ([.methodLink own index y, .static y, .initialized y.cls] : List Cond) ++ (Cond.codeWith y bytes maxL (some .int) hh :: vg_T) := hw
    rcases List.mem_append.mp hw' with h1 | h1
    · simp only [List.mem_cons, List.not_mem_nil, or_false] at h1
      rcases h1 with rfl | rfl | rfl
      · exact vg_goodT hlink _ List.mem_cons_self
      · exact vg_goodT hstat _ List.mem_cons_self
      · exact vg_goodT hini _ List.mem_cons_self
    · exact vg_goodC hcode w h1
  have hr := vx_runSW (g := F0 m pc ls (As.reverse ++ rest)) (As := As) (rest := rest) ⟨hx, hb, hml, hown, hts⟩ hM (vx_cwSW n hts hGd rfl rfl rfl hd ⟨by show 45 + 1 ≤ R.frames; omega, by show 8 + (maxL + 11) + 60 * 45 ≤ R.locals; omega⟩) ⟨vy_blind, fun U hU hW => ⟨⟨rfl, by rw [hU]; exact hH, hG.warm hW⟩, va_Nc.moved hW.alike hNc⟩⟩ rfl hn hl.1.1 rfl (lv_room hcat) hdg (e := e) (below := below) (meth := meth) (H := H) (locs := locs) (cells := cells) (slots := slots) ⟨hRc, hRs⟩
  intro T hT Y
  obtain ⟨v, st₀, t, T', L, h0, X', hL', e1, e2, hq, st⟩ := hr T hT Y
  have hLL : ∀ z ∈ locs ++ L, H0.size ≤ z.base := fun q hq => by
    rcases List.mem_append.mp hq with h | h
    · exact hL q h
    · exact hL' q h
  cases r with
  | inl x =>
    obtain ⟨hv, hh1⟩ := hq
    cases hv
    obtain ⟨t2, a1, b1⟩ := kk x T'.heap (locs ++ L) rfl (by rw [e1]; exact hh1) hLL T' rfl X'
    exact ⟨t2, st t2 a1, b1⟩
  | inr k =>
    obtain ⟨hv, z, hh1⟩ := hq
    cases hv
    obtain ⟨t2, a1, b1⟩ := kx k z T'.heap (locs ++ L) rfl (by rw [e1]; exact hh1) hLL T' rfl X'
    exact ⟨t2, st t2 a1, b1⟩
theorem vy_newL (X : vg_X D cy H0 p s m args c cc own) (hH : vg_H D cy H0 μ H) (hdg : decode cc pc = .ok (.newarray .long, 2)) (hRc : cells + 1 ≤ R.cells) (hRs : slots + 1 ≤ R.slots)
    (kk : ∀ (H1 : Heap), vg_H D cy H0 (va_up μ.1 μ.2.1 (some (.inl (4, 1, .inr (.inl (fun _ => 0))))), μ.2.1 + 1, μ.2.2) H1 → W p l e R s m args below meth c H1 locs (cells + 1) (slots + 1) Q (F0 m (pc + 2) ls (.ref μ.2.1 :: rest))) : W p l e R s m args below meth c H locs cells slots Q (F0 m pc ls (.int 1 :: rest)) := by
  obtain ⟨hx, hb, hts, hown, hG⟩ := X
  have hK := hG.1
  refine va_newaK (atype := .long) hx hb (hts _ kLa) rfl hdg rfl (by decide) (N := 1) (by decide) (by decide) hRc hRs hH.1 fun H1 cA e1 z1 o1 hAr hNm => ?_
  refine kk H1 (hH.new (e := .inl (4, 1, .inr (.inl (fun _ => 0)))) ?_ z1 o1)
  have hcA : cA = cy 4 := Option.some.inj (hNm.symm.trans (hK.2 4 _ rfl).2)
  subst hcA
  show H1[μ.2.1]? = some (vp_cell (cy 4) (1, .inr (.inl (fun _ => 0))))
  rw [e1, vp_cell_l]
  rfl
theorem lv_lcmpE (hexec : p.tables.exec = Jvm.exec) (hb : c.code = cc) {x : Int64} (hdg : decode cc pc = .ok (.lcmp, 1))
    (k : W p l e R s m args below meth c H locs cells slots Q (F0 m (pc + 1) ls (.int 0 :: rest))) : W p l e R s m args below meth c H locs cells slots Q (F0 m pc ls (.long x :: .long x :: rest)) := by
  intro T hT X
  obtain ⟨t, a, b⟩ := k T hT X
  refine ⟨t, ?_, b⟩
  jvm_step X.here [X.here.top, hexec, hb, hdg]
  exact a
theorem vg_H.S (h : vg_H D cy H0 μ H) (hL : ∀ z ∈ locs, H0.size ≤ z.base) : va_S (fun q => H0.size ≤ q) H0 H locs := ⟨h.2.2.1, fun q hq _ => h.2.2.2.2.1 q hq, hL⟩
end VYL
