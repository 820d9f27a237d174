/-! Rows of what throws: answers, calls, the start. -/
def vg_ZX (D : va_G) (cy : Nat → ClassId) (H0 : Heap) (l : Launch) (p : Program) (s : State) (m : MethodId) (args : Array Value) (c : Code) (cc : ByteArray) (own : String) (meth : Method) (nL : Nat) (ret : Option FieldType) (R : Room) (h C0 N0 : Nat) (nm : String) : Prop :=
  vg_X D cy H0 p s m args c cc own ∧ c.maxLocals = nL ∧ meth.sig.returnType = ret ∧ meth.locks = false ∧ h ≤ R.frames ∧ 60 * h ≤ R.locals ∧ C0 ≤ R.cells ∧ N0 ≤ R.slots ∧ meth.name = nm ∧ l.stackTraces = false ∧ H0.size ≤ s.heap.size ∧ ∀ x ∈ c.exceptionTable.toList, False
section VG
variable {p : Program} {l : Launch} {e : Env} {R : Room} {s : State} {m : MethodId} {args : Array Value} {below : List Frame} {meth : Method} {c : Code} {H : Heap} {locs : List Loc} {cells slots : Nat} {Q : State → Prop}
variable {cc : ByteArray} {pc : Nat} {ls : Array Slot} {rest : List Value} {D : va_G} {cy : Nat → ClassId} {H0 : Heap} {μ μ' : vg_M} {own : String} {a cn nn C0 N0 nL : Nat} {lv lv' : List (Nat × Value)}
theorem vg_throwX {α : Type} {rv : α → Option Value} {r : α ⊕ Nat} (X : vg_X D cy H0 p s m args c cc own) (hls : l.stackTraces = false) (hml : c.maxLocals = nL) (hl : vg_l ls nL lv) (hs0 : vg_H D cy H0 μ H) (hsz : H0.size ≤ s.heap.size) (hL : ∀ z ∈ locs, H0.size ≤ z.base) {ik is ic k i : Nat} {tx : String} (hS : vg_TS own ik is ic k i tx) (hnt : ∀ x ∈ c.exceptionTable.toList, False) (hlk : meth.locks = false)
    (d0 : decode cc pc = .ok (.new ik, 3)) (d3 : decode cc (pc + 3) = .ok (.dup, 1)) (d4 : decode cc (pc + 4) = .ok (.ldc is, 2)) (d6 : decode cc (pc + 6) = .ok (.invokespecial ic, 3)) (d9 : decode cc (pc + 9) = .ok (.athrow, 1)) (hcat : (rest.map fun v => v.category).sum ≤ 8)
    (hf : vg_thr k μ = some (r, μ', cn, nn)) (hC : cells + cn = C0) (hN : slots + nn = N0) (hRc : C0 ≤ R.cells) (hRs : N0 ≤ R.slots) (hRf : 12 ≤ R.frames) (hRl : 60 * 12 ≤ R.locals) :
    W p l e R s m args below meth c H locs cells slots (vg_MX below D cy H0 μ' rv r args s C0 N0) (F0 m pc ls rest) := by
  intro T hT Y
  have hfrm := vx_frame (s := s) (U := T) Y.same
  rw [hT] at hfrm
  refine vg_throw X hls hml hl hs0 (fun b hb => ?_) hsz hfrm.1 hL hS hnt hlk d0 d3 d4 d6 d9 hcat hf hC hN hRc hRs hRf hRl T hT Y
  rw [← hfrm.2 b (by omega) (fun z hz e9 => absurd (hL z hz) (by rw [e9]; exact Nat.not_le.mpr hb))]
  exact hs0.2.2.2.2.1 b hb
theorem vg_retiX {r : Int32 ⊕ Nat} (X : vg_X D cy H0 p s m args c cc own) (hr : meth.sig.returnType = some .int) (hlocks : meth.locks = false) (hH : vg_H D cy H0 μ H) (hL : ∀ z ∈ locs, H0.size ≤ z.base) (hdg : decode cc pc = .ok (.ireturn, 1)) {v : Int32} (hf : vg_ret (.inl v) μ = some (r, μ', cn, nn)) (hC : cells + cn = C0) (hN : slots + nn = N0) :
    W p l e R s m args below meth c H locs cells slots (vg_MX below D cy H0 μ' (fun x => some (.int x)) r args s C0 N0) (F0 m pc ls [.int v]) := by
  cases hf
  subst hC hN
  exact vx_ret (W.iret X.1 X.2.1 hr (fun t ht _ => ⟨v, rfl, rfl, by rw [ht]; exact hH⟩) hL hdg hlocks)
theorem vg_retvX {r : Unit ⊕ Nat} (X : vg_X D cy H0 p s m args c cc own) (hr : meth.sig.returnType = none) (hlocks : meth.locks = false) (hH : vg_H D cy H0 μ H) (hL : ∀ z ∈ locs, H0.size ≤ z.base) (hdg : decode cc pc = .ok (.return_, 1)) (hf : vg_ret (.inl ()) μ = some (r, μ', cn, nn)) (hC : cells + cn = C0) (hN : slots + nn = N0) :
    W p l e R s m args below meth c H locs cells slots (vg_MX below D cy H0 μ' (fun _ => none) r args s C0 N0) (F0 m pc ls []) := by
  cases hf
  subst hC hN
  exact vx_ret (W.vret X.1 X.2.1 hr (fun t ht _ => ⟨(), rfl, rfl, by rw [ht]; exact hH⟩) hL hdg hlocks)
theorem vg_retaX {r : Option Nat ⊕ Nat} (X : vg_X D cy H0 p s m args c cc own) {rt : FieldType} (hrt : (∃ n, rt = .object n) ∨ ∃ t, rt = .array t) (hr : meth.sig.returnType = some rt) (hlocks : meth.locks = false) (hH : vg_H D cy H0 μ H) (hL : ∀ z ∈ locs, H0.size ≤ z.base) (hdg : decode cc pc = .ok (.areturn, 1)) {v : Option Nat} (hf : vg_ret (.inl v) μ = some (r, μ', cn, nn)) (hC : cells + cn = C0) (hN : slots + nn = N0) :
    W p l e R s m args below meth c H locs cells slots (vg_MX below D cy H0 μ' (fun x => some (va_rf x)) r args s C0 N0) (F0 m pc ls [va_rf v]) := by
  cases hf
  subst hC hN
  exact vx_ret (W.aret X.1 X.2.1 hr hrt (by cases v <;> simp [va_rf]) (fun t ht _ => ⟨v, rfl, rfl, by rw [ht]; exact hH⟩) hL hdg hlocks)
theorem vg_callXi (X : vg_X D cy H0 p s m args c cc own) (hml : c.maxLocals = nL) (hl : vg_l ls nL lv) (hH : vg_H D cy H0 μ H) (hL : ∀ z ∈ locs, H0.size ≤ z.base) {index ci maxL n h : Nat} {C : String} {y : MethodName} {bytes : ByteArray} {ret : Option FieldType} (hS : vg_CV own index C y bytes maxL ret n) {T0 : u_T} {N : Nat} (hci : vwCl[ci]? = some (C, T0, N)) (hnt : ∀ x ∈ c.exceptionTable.toList, False) (hlk : meth.locks = false)
    (As : List Value) (hn : As.length = n) {st0 : List Value} (hst : st0 = As.reverse ++ .ref a :: rest) (hcat : (rest.map fun v => v.category).sum ≤ 8) (hdg : decode cc pc = .ok (.invokevirtual index, 3))
    {β : Type} {rb : β → Option Value} {fy : vg_R (Int32 ⊕ Nat)} {kont : Int32 → vg_M → vg_R (β ⊕ Nat)} {r : β ⊕ Nat} (hf : vg_cx ci a μ fy kont = some (r, μ', cn, nn)) (hC : cells + cn = C0) (hN : slots + nn = N0) (hRc : C0 ≤ R.cells) (hRs : N0 ≤ R.slots) {h1 : Nat} (hRf : h1 ≤ R.frames) (hRl : 60 * h1 ≤ R.locals) (hh : h + 1 ≤ h1)
    (hM : ∀ (z : Int32 ⊕ Nat) (μ1 : vg_M) (c1 n1 : Nat), fy = some (z, μ1, c1, n1) → vg_MetX l D cy H0 y bytes maxL ret h μ (.ref a :: As) (fun x => (some (.int x))) z μ1 c1 n1)
    (kk : ∀ (x : Int32) (μ1 : vg_M) (cn nn : Nat) (H1 : Heap) (locs1 : List Loc) (cells slots : Nat), kont x μ1 = some (r, μ', cn, nn) → cells + cn = C0 → slots + nn = N0 → vg_H D cy H0 μ1 H1 → (∀ z ∈ locs1, H0.size ≤ z.base) → W p l e R s m args below meth c H1 locs1 cells slots (vg_MX below D cy H0 μ' rb r args s C0 N0) (F0 m (pc + 3) ls (.int x :: rest))) : W p l e R s m args below meth c H locs cells slots (vg_MX below D cy H0 μ' rb r args s C0 N0) (F0 m pc ls st0) := by
  subst hst
  obtain ⟨hx, hb, hts, hown, hG⟩ := X
  have hK := hG.1
  obtain ⟨hmk, hins, hsel, hini, hcode, hd, hmx⟩ := hS
  obtain ⟨fs, hrc, hf⟩ := vg_cx_inv hf
  obtain ⟨z, μ1, c1, n1, hfy, hcase⟩ := vg_bx_inv hf
  have hrecv := vgw_recv hK (hH.rd hrc) hci
  have hGd : GoodIn vg_T (wsV own index C y (Cond.code y bytes maxL ret :: vg_T)) := by
    intro w hw
    have hw' : w ∈ ([.methodLink own index y, .instanceMethod y, .selects C y y, .initialized C] : List Cond) ++ (Cond.code y bytes maxL ret :: vg_T) := hw
    rcases List.mem_append.mp hw' with h1 | h1
    · simp only [List.mem_cons, List.not_mem_nil, or_false] at h1
      rcases h1 with rfl | rfl | rfl | rfl
      · exact vg_goodT hmk _ List.mem_cons_self
      · exact vg_goodT hins _ List.mem_cons_self
      · exact vg_goodT hsel _ List.mem_cons_self
      · exact vg_goodT hini _ List.mem_cons_self
    · exact vg_goodC hcode w h1
  have hle : cells + c1 ≤ C0 ∧ slots + n1 ≤ N0 := by
    rcases hcase with ⟨x, c2, n2, -, -, e1, e2⟩ | ⟨k, -, -, -, e1, e2⟩ <;> omega
  have hr := vx_runV (g := F0 m pc ls (As.reverse ++ .ref a :: rest)) (As := As) (rest := rest) ⟨hx, hb, hml, hown, hts⟩ (hM z μ1 c1 n1 hfy) (cwV n hts hGd rfl rfl rfl hd ⟨Nat.le_trans hh hRf, by show 8 + (maxL + 11) + 60 * h ≤ R.locals; omega⟩) ⟨vg_blind, hrecv, fun U hU hW => ⟨rfl, by rw [hU]; exact hH, hG.warm hW⟩⟩ rfl hn hl.1.1 rfl (lv_room hcat) hdg (e := e) (below := below) (meth := meth) (H := H) (locs := locs) (cells := cells) (slots := slots) ⟨by omega, by omega⟩
  intro T hT Y
  rcases hr T hT Y with ⟨v, st₀, t, T', L, h0, X', hL', e1, e2, ⟨x, hz, hv, hh1⟩, st⟩ | ⟨q, st₀, t, T', L, E, ce, h0, X', hL', e1, e2, ⟨k, zz, hz, hE, hh1⟩, hce, hcv, hcl, st⟩
  · subst hz
    cases hv
    rcases hcase with ⟨x', c2, n2, hx', hk2, rfl, rfl⟩ | ⟨k, hk, -⟩
    · cases hx'
      obtain ⟨t2, a1, b1⟩ := kk x μ1 c2 n2 T'.heap (locs ++ L) _ _ hk2 (by omega) (by omega) (by rw [e1]; exact hh1) (fun q hq => by
        rcases List.mem_append.mp hq with h | h
        · exact hL q h
        · exact hL' q h) T' rfl X'
      exact ⟨t2, st t2 a1, b1⟩
    · cases hk
  · subst hz
    rcases hcase with ⟨x', c2, n2, hx', -⟩ | ⟨k', hk, rfl, rfl, rfl, rfl⟩
    · cases hx'
    · cases hk
      subst hE
      obtain ⟨t2, a1, b1⟩ := vx_out (s := s) (H := T'.heap) (locs := locs ++ L) (cells := cells + cn) (slots := slots + nn) (pc := pc) (ls := ls) (rest := rest) (mc := C0) (ms := N0) (Qc := vg_Qx D cy H0 μ' rb (.inr k)) (XC := vg_Xx D cy H0 μ' (.inr k : β ⊕ Nat)) (free := vg_fr H0) (fun x hx => (hnt x hx).elim) hlk (by rw [e1]; exact hce) hcv hcl (fun t' ht' _ => ⟨k, zz, rfl, rfl, by rw [ht', e1]; exact hh1⟩) (fun q hq => by
        rcases List.mem_append.mp hq with h | h
        · exact hL q h
        · exact hL' q h) (by omega) (by omega) T' rfl X'
      exact ⟨t2, st.trans a1, b1⟩
theorem vg_callXr (X : vg_X D cy H0 p s m args c cc own) (hml : c.maxLocals = nL) (hl : vg_l ls nL lv) (hH : vg_H D cy H0 μ H) (hL : ∀ z ∈ locs, H0.size ≤ z.base) {index ci maxL n h : Nat} {C : String} {y : MethodName} {bytes : ByteArray} {ret : Option FieldType} (hS : vg_CV own index C y bytes maxL ret n) {T0 : u_T} {N : Nat} (hci : vwCl[ci]? = some (C, T0, N)) (hnt : ∀ x ∈ c.exceptionTable.toList, False) (hlk : meth.locks = false)
    (As : List Value) (hn : As.length = n) {st0 : List Value} (hst : st0 = As.reverse ++ .ref a :: rest) (hcat : (rest.map fun v => v.category).sum ≤ 8) (hdg : decode cc pc = .ok (.invokevirtual index, 3))
    {β : Type} {rb : β → Option Value} {fy : vg_R ((Option Nat) ⊕ Nat)} {kont : (Option Nat) → vg_M → vg_R (β ⊕ Nat)} {r : β ⊕ Nat} (hf : vg_cx ci a μ fy kont = some (r, μ', cn, nn)) (hC : cells + cn = C0) (hN : slots + nn = N0) (hRc : C0 ≤ R.cells) (hRs : N0 ≤ R.slots) {h1 : Nat} (hRf : h1 ≤ R.frames) (hRl : 60 * h1 ≤ R.locals) (hh : h + 1 ≤ h1)
    (hM : ∀ (z : (Option Nat) ⊕ Nat) (μ1 : vg_M) (c1 n1 : Nat), fy = some (z, μ1, c1, n1) → vg_MetX l D cy H0 y bytes maxL ret h μ (.ref a :: As) (fun x => (some (va_rf x))) z μ1 c1 n1)
    (kk : ∀ (x : (Option Nat)) (μ1 : vg_M) (cn nn : Nat) (H1 : Heap) (locs1 : List Loc) (cells slots : Nat), kont x μ1 = some (r, μ', cn, nn) → cells + cn = C0 → slots + nn = N0 → vg_H D cy H0 μ1 H1 → (∀ z ∈ locs1, H0.size ≤ z.base) → W p l e R s m args below meth c H1 locs1 cells slots (vg_MX below D cy H0 μ' rb r args s C0 N0) (F0 m (pc + 3) ls (va_rf x :: rest))) : W p l e R s m args below meth c H locs cells slots (vg_MX below D cy H0 μ' rb r args s C0 N0) (F0 m pc ls st0) := by
  subst hst
  obtain ⟨hx, hb, hts, hown, hG⟩ := X
  have hK := hG.1
  obtain ⟨hmk, hins, hsel, hini, hcode, hd, hmx⟩ := hS
  obtain ⟨fs, hrc, hf⟩ := vg_cx_inv hf
  obtain ⟨z, μ1, c1, n1, hfy, hcase⟩ := vg_bx_inv hf
  have hrecv := vgw_recv hK (hH.rd hrc) hci
  have hGd : GoodIn vg_T (wsV own index C y (Cond.code y bytes maxL ret :: vg_T)) := by
    intro w hw
    have hw' : w ∈ ([.methodLink own index y, .instanceMethod y, .selects C y y, .initialized C] : List Cond) ++ (Cond.code y bytes maxL ret :: vg_T) := hw
    rcases List.mem_append.mp hw' with h1 | h1
    · simp only [List.mem_cons, List.not_mem_nil, or_false] at h1
      rcases h1 with rfl | rfl | rfl | rfl
      · exact vg_goodT hmk _ List.mem_cons_self
      · exact vg_goodT hins _ List.mem_cons_self
      · exact vg_goodT hsel _ List.mem_cons_self
      · exact vg_goodT hini _ List.mem_cons_self
    · exact vg_goodC hcode w h1
  have hle : cells + c1 ≤ C0 ∧ slots + n1 ≤ N0 := by
    rcases hcase with ⟨x, c2, n2, -, -, e1, e2⟩ | ⟨k, -, -, -, e1, e2⟩ <;> omega
  have hr := vx_runV (g := F0 m pc ls (As.reverse ++ .ref a :: rest)) (As := As) (rest := rest) ⟨hx, hb, hml, hown, hts⟩ (hM z μ1 c1 n1 hfy) (cwV n hts hGd rfl rfl rfl hd ⟨Nat.le_trans hh hRf, by show 8 + (maxL + 11) + 60 * h ≤ R.locals; omega⟩) ⟨vg_blind, hrecv, fun U hU hW => ⟨rfl, by rw [hU]; exact hH, hG.warm hW⟩⟩ rfl hn hl.1.1 rfl (lv_room hcat) hdg (e := e) (below := below) (meth := meth) (H := H) (locs := locs) (cells := cells) (slots := slots) ⟨by omega, by omega⟩
  intro T hT Y
  rcases hr T hT Y with ⟨v, st₀, t, T', L, h0, X', hL', e1, e2, ⟨x, hz, hv, hh1⟩, st⟩ | ⟨q, st₀, t, T', L, E, ce, h0, X', hL', e1, e2, ⟨k, zz, hz, hE, hh1⟩, hce, hcv, hcl, st⟩
  · subst hz
    cases hv
    rcases hcase with ⟨x', c2, n2, hx', hk2, rfl, rfl⟩ | ⟨k, hk, -⟩
    · cases hx'
      obtain ⟨t2, a1, b1⟩ := kk x μ1 c2 n2 T'.heap (locs ++ L) _ _ hk2 (by omega) (by omega) (by rw [e1]; exact hh1) (fun q hq => by
        rcases List.mem_append.mp hq with h | h
        · exact hL q h
        · exact hL' q h) T' rfl X'
      exact ⟨t2, st t2 a1, b1⟩
    · cases hk
  · subst hz
    rcases hcase with ⟨x', c2, n2, hx', -⟩ | ⟨k', hk, rfl, rfl, rfl, rfl⟩
    · cases hx'
    · cases hk
      subst hE
      obtain ⟨t2, a1, b1⟩ := vx_out (s := s) (H := T'.heap) (locs := locs ++ L) (cells := cells + cn) (slots := slots + nn) (pc := pc) (ls := ls) (rest := rest) (mc := C0) (ms := N0) (Qc := vg_Qx D cy H0 μ' rb (.inr k)) (XC := vg_Xx D cy H0 μ' (.inr k : β ⊕ Nat)) (free := vg_fr H0) (fun x hx => (hnt x hx).elim) hlk (by rw [e1]; exact hce) hcv hcl (fun t' ht' _ => ⟨k, zz, rfl, rfl, by rw [ht', e1]; exact hh1⟩) (fun q hq => by
        rcases List.mem_append.mp hq with h | h
        · exact hL q h
        · exact hL' q h) (by omega) (by omega) T' rfl X'
      exact ⟨t2, st.trans a1, b1⟩
end VG
section VGS
variable {l : Launch} {D : va_G} {cy : Nat → ClassId} {H0 : Heap} {μ μ' : vg_M}
theorem vg_startX {α : Type} {y : MethodName} {bytes : ByteArray} {maxL h c1 n1 : Nat} {ret : Option FieldType} {av : List Value} {rv : α → Option Value} {r : α ⊕ Nat} (hls : l.stackTraces = false) (hy : plainName y.cls = true) (hav : ∀ v ∈ av, v.category = 1) (hlen : av.length ≤ maxL)
    (body : ∀ (p : Program) (e : Env) (s : State) (m : MethodId) (below : List Frame) (meth : Method) (c : Code) (ls : Array Slot), vg_ZX D cy H0 l p s m av.toArray c bytes y.cls meth maxL ret (vg_rm h c1 n1) h c1 n1 y.name → vg_H D cy H0 μ s.heap → vg_l ls maxL ((av.zipIdx 0).map (fun q => (q.2, q.1))) →
      W p l e (vg_rm h c1 n1) s m av.toArray below meth c s.heap [] 0 0 (vg_MX below D cy H0 μ' rv r av.toArray s c1 n1) (F0 m 0 ls [])) : vg_MetX l D cy H0 y bytes maxL ret h μ av rv r μ' c1 n1 := by
  refine vx_ofW (cc := bytes) (maxL := maxL) (ret := ret) hy rfl ?_
  intro p e s m args below meth c s₁ B hml hnt hv
  obtain ⟨rfl, hH, hG⟩ := hv
  have hts := atoms_spec (ws := Cond.code y bytes maxL ret :: vg_T) B.pre
  have hown : s.vm.findClass y.cls = some m.cls := findClass_of_methodNamed B.named
  have hl := lv_entry av (n := maxL) (by rw [vg_sl av hav]; exact hlen)
  rw [lg_entry_eq]
  rw [vg_largs av hav] at hl
  exact body p e s m below meth c _ ⟨⟨B.exec, B.bytes, fun w hw => hts w (List.mem_cons_of_mem _ hw), hown, hG⟩, hml, B.returns, B.notSynchronized, Nat.le_refl _, Nat.le_refl _, Nat.le_refl _, Nat.le_refl _, (name_of_methodNamed B.named B.method).1, hls, hH.2.2.1, hnt⟩ hH ⟨hl, fun q hq => by
    obtain ⟨z, hz, rfl⟩ := List.mem_map.mp hq
    exact hav z.1 (List.fst_mem_of_mem_zipIdx hz)⟩
end VGS
