/-! Rows: calls across a nest, of superclasses' methods; natives. Written by rows5.py. -/
section VG
variable {p : Program} {l : Launch} {e : Env} {R : Room} {s : State} {m : MethodId} {args : Array Value} {below : List Frame} {meth : Method} {c : Code} {H : Heap} {locs : List Loc} {cells slots : Nat} {Q : State → Prop}
variable {cc : ByteArray} {pc : Nat} {ls : Array Slot} {rest : List Value} {D : va_G} {cy : Nat → ClassId} {H0 : Heap} {μ μ' : vg_M} {own : String} {a cn nn C0 N0 nL : Nat} {lv lv' : List (Nat × Value)}
theorem vg_go {st0 : List Value} {α β : Type} {fy : vg_R α} {kont : α → vg_M → vg_R β} {r : β} {av : Array Value} (hL : ∀ z ∈ locs, H0.size ≤ z.base) (hf : vg_b fy kont = some (r, μ', cn, nn)) (hC : cells + cn = C0) (hN : slots + nn = N0) (rv : α → Option Value)
    (hr : ∀ (x : α) (μ1 : vg_M) (c1 n1 : Nat), fy = some (x, μ1, c1, n1) → cells + c1 ≤ C0 → slots + n1 ≤ N0 → va_Run p l e R s m args below meth c H locs cells slots c1 n1 (F0 m pc ls st0) rest (vg_Qc D cy H0 μ1 (rv x) av) (vg_fr H0))
    (kk : ∀ (x : α) (μ1 : vg_M) (cn nn : Nat) (H1 : Heap) (locs1 : List Loc) (cells slots : Nat), kont x μ1 = some (r, μ', cn, nn) → cells + cn = C0 → slots + nn = N0 → vg_H D cy H0 μ1 H1 → (∀ z ∈ locs1, H0.size ≤ z.base) → W p l e R s m args below meth c H1 locs1 cells slots Q (F0 m (pc + 3) ls ((rv x).toList ++ rest))) : W p l e R s m args below meth c H locs cells slots Q (F0 m pc ls st0) := by
  obtain ⟨x, μ1, c1, n1, c2, n2, hfy, hf2, rfl, rfl⟩ := vg_b_inv hf
  exact vg_after (hr x μ1 c1 n1 hfy (by omega) (by omega)) hL (fun H1 locs1 h1 h2 => kk x μ1 c2 n2 H1 locs1 _ _ hf2 (by omega) (by omega) h1 h2)
def vg_CSN (own : String) (index : Nat) (y : MethodName) (host : String) (bytes : ByteArray) (maxL : Nat) (ret : Option FieldType) (n : Nat) : Prop := Cond.methodLinkNest own index y host ∈ vg_nest ∧ Cond.static y ∈ vg_T ∧ Cond.initialized y.cls ∈ vg_T ∧ Cond.code y bytes maxL ret ∈ vg_T ∧
  (y.cls ≠ "java/lang/invoke/MethodHandle" ∧ y.cls ≠ "java/lang/invoke/VarHandle" ∧ (parseMethodDescriptor y.desc).map (fun d => d.parameters.length) = some n) ∧ maxL ≤ 41
def vg_CIN (own : String) (index : Nat) (y : MethodName) (host : String) (bytes : ByteArray) (maxL : Nat) (n : Nat) : Prop := Cond.methodLinkNest own index y host ∈ vg_nest ∧ Cond.instanceMethod y ∈ vg_T ∧ Cond.initialized y.cls ∈ vg_T ∧ Cond.code y bytes maxL none ∈ vg_T ∧ y.name = "<init>" ∧
  (y.cls ≠ "java/lang/invoke/MethodHandle" ∧ y.cls ≠ "java/lang/invoke/VarHandle" ∧ (parseMethodDescriptor y.desc).map (fun d => d.parameters.length) = some n) ∧ maxL ≤ 41
def vg_CVN (own : String) (index : Nat) (C : String) (y : MethodName) (host : String) (bytes : ByteArray) (maxL : Nat) (ret : Option FieldType) (n : Nat) : Prop := Cond.methodLinkNest own index y host ∈ vg_nest ∧ Cond.instanceMethod y ∈ vg_T ∧ Cond.selects C y y ∈ vg_T ∧ Cond.initialized y.cls ∈ vg_T ∧ Cond.code y bytes maxL ret ∈ vg_T ∧
  (y.cls ≠ "java/lang/invoke/MethodHandle" ∧ y.cls ≠ "java/lang/invoke/VarHandle" ∧ (parseMethodDescriptor y.desc).map (fun d => d.parameters.length) = some n) ∧ maxL ≤ 41
/-- a method x of a superclass, selected as y on an object of class C -/
def vg_CW (own : String) (index : Nat) (C : String) (x y : MethodName) (bytes : ByteArray) (maxL : Nat) (ret : Option FieldType) (n : Nat) : Prop := Cond.methodLink own index x ∈ vg_T ∧ Cond.sameMethod x.cls x.cls x.name x.desc ∈ vg_T ∧ Cond.instanceMethod x ∈ vg_T ∧ (∃ b0 m0 r0, Cond.code x b0 m0 r0 ∈ vg_T) ∧ Cond.selects C x y ∈ vg_T ∧ Cond.instanceMethod y ∈ vg_T ∧ Cond.initialized y.cls ∈ vg_T ∧ Cond.code y bytes maxL ret ∈ vg_T ∧
  (x.cls ≠ "java/lang/invoke/MethodHandle" ∧ x.cls ≠ "java/lang/invoke/VarHandle" ∧ (parseMethodDescriptor x.desc).map (fun d => d.parameters.length) = some n) ∧ maxL ≤ 41
/-- super.y(..) -/
def vg_CU (own : String) (index : Nat) (y : MethodName) (bytes : ByteArray) (maxL : Nat) (ret : Option FieldType) (n : Nat) : Prop := Cond.methodLink own index y ∈ vg_T ∧ Cond.sameMethod y.cls y.cls y.name y.desc ∈ vg_T ∧ Cond.superclass own y.cls ∈ vg_T ∧ Cond.instanceMethod y ∈ vg_T ∧ Cond.initialized y.cls ∈ vg_T ∧ Cond.code y bytes maxL ret ∈ vg_T ∧
  (y.name ≠ "<init>" ∧ (parseMethodDescriptor y.desc).map (fun d => d.parameters.length) = some n) ∧ maxL ≤ 41
theorem vg_callSNi (X : vg_X D cy H0 p s m args c cc own) (hml : c.maxLocals = nL) (hl : vg_l ls nL lv) (hH : vg_H D cy H0 μ H) (hL : ∀ z ∈ locs, H0.size ≤ z.base) {index maxL n h : Nat} {y : MethodName} {host : String} {bytes : ByteArray} {ret : Option FieldType} (hS : vg_CSN own index y host bytes maxL ret n)
    (As : List Value) (hn : As.length = n) {st0 : List Value} (hst : st0 = As.reverse ++ rest) (hcat : (rest.map fun v => v.category).sum ≤ 8) (hdg : decode cc pc = .ok (.invokestatic index, 3))
    {β : Type} {fy : vg_R Int32} {kont : Int32 → vg_M → vg_R β} {r : β} (hf : vg_b fy kont = some (r, μ', cn, nn)) (hC : cells + cn = C0) (hN : slots + nn = N0) (hRc : C0 ≤ R.cells) (hRs : N0 ≤ R.slots) {h1 : Nat} (hRf : h1 ≤ R.frames) (hRl : 60 * h1 ≤ R.locals) (hh : h + 1 ≤ h1)
    (hM : ∀ (x : Int32) (μ1 : vg_M) (c1 n1 : Nat), fy = some (x, μ1, c1, n1) → vg_Met l D cy H0 y bytes maxL ret h μ As (some (.int x)) μ1 c1 n1)
    (kk : ∀ (x : Int32) (μ1 : vg_M) (cn nn : Nat) (H1 : Heap) (locs1 : List Loc) (cells slots : Nat), kont x μ1 = some (r, μ', cn, nn) → cells + cn = C0 → slots + nn = N0 → vg_H D cy H0 μ1 H1 → (∀ z ∈ locs1, H0.size ≤ z.base) → W p l e R s m args below meth c H1 locs1 cells slots Q (F0 m (pc + 3) ls (.int x :: rest))) : W p l e R s m args below meth c H locs cells slots Q (F0 m pc ls st0) := by
  subst hst
  obtain ⟨hx, hb, hts, hown, hG⟩ := X
  have hK := hG.1
  have hlo : ∀ maxL, maxL ≤ 41 → 8 + (maxL + 11) + 60 * h ≤ R.locals := fun z hz => by omega
  refine vg_go (av := As.toArray) hL hf hC hN (fun x => (some (.int x))) (fun x μ1 c1 n1 hfy hc1 hn1 => ?_) kk
  obtain ⟨hmk, hstt, hini, hcode, hd, hmx⟩ := hS
  exact va_runSN (As := As) (rest := rest) ⟨hx, hb, hml, hown, hts⟩ (hM x μ1 c1 n1 hfy) ⟨va_cnB n hts (vg_goodC hcode) rfl rfl rfl (hG.2.2.2.2.2.2.1 _ hmk) (hts _ hini) hd ⟨Nat.le_trans hh hRf, hlo _ hmx⟩, hts _ hstt, trivial⟩ ⟨vg_blind, fun U hU hW => ⟨rfl, by rw [hU]; exact hH, hG.warm hW⟩⟩ rfl hn hl.1.1 rfl (lv_room hcat) hdg ⟨by omega, by omega⟩
theorem vg_callINv (X : vg_X D cy H0 p s m args c cc own) (hml : c.maxLocals = nL) (hl : vg_l ls nL lv) (hH : vg_H D cy H0 μ H) (hL : ∀ z ∈ locs, H0.size ≤ z.base) {index maxL n h : Nat} {y : MethodName} {host : String} {bytes : ByteArray} (hS : vg_CIN own index y host bytes maxL n)
    (As : List Value) (hn : As.length = n) {st0 : List Value} (hst : st0 = As.reverse ++ .ref a :: rest) (hcat : (rest.map fun v => v.category).sum ≤ 8) (hdg : decode cc pc = .ok (.invokespecial index, 3))
    {β : Type} {fy : vg_R Unit} {kont : Unit → vg_M → vg_R β} {r : β} (hf : vg_b fy kont = some (r, μ', cn, nn)) (hC : cells + cn = C0) (hN : slots + nn = N0) (hRc : C0 ≤ R.cells) (hRs : N0 ≤ R.slots) {h1 : Nat} (hRf : h1 ≤ R.frames) (hRl : 60 * h1 ≤ R.locals) (hh : h + 1 ≤ h1)
    (hM : ∀ (x : Unit) (μ1 : vg_M) (c1 n1 : Nat), fy = some (x, μ1, c1, n1) → vg_Met l D cy H0 y bytes maxL none h μ (.ref a :: As) none μ1 c1 n1)
    (kk : ∀ (x : Unit) (μ1 : vg_M) (cn nn : Nat) (H1 : Heap) (locs1 : List Loc) (cells slots : Nat), kont x μ1 = some (r, μ', cn, nn) → cells + cn = C0 → slots + nn = N0 → vg_H D cy H0 μ1 H1 → (∀ z ∈ locs1, H0.size ≤ z.base) → W p l e R s m args below meth c H1 locs1 cells slots Q (F0 m (pc + 3) ls rest)) : W p l e R s m args below meth c H locs cells slots Q (F0 m pc ls st0) := by
  subst hst
  obtain ⟨hx, hb, hts, hown, hG⟩ := X
  have hK := hG.1
  have hlo : ∀ maxL, maxL ≤ 41 → 8 + (maxL + 11) + 60 * h ≤ R.locals := fun z hz => by omega
  refine vg_go (av := (Value.ref a :: As).toArray) hL hf hC hN (fun x => none) (fun x μ1 c1 n1 hfy hc1 hn1 => ?_) kk
  obtain ⟨hmk, hins, hini, hcode, hnm, hd, hmx⟩ := hS
  exact va_runIN (As := As) (rest := rest) ⟨hx, hb, hml, hown, hts⟩ (hM x μ1 c1 n1 hfy) ⟨va_cnB n hts (vg_goodC hcode) rfl rfl rfl (hG.2.2.2.2.2.2.1 _ hmk) (hts _ hini) hd ⟨Nat.le_trans hh hRf, hlo _ hmx⟩, hnm, hts _ hins⟩ ⟨vg_blind, fun U hU hW => ⟨rfl, by rw [hU]; exact hH, hG.warm hW⟩⟩ rfl hn hl.1.1 rfl (lv_room hcat) hdg ⟨by omega, by omega⟩
theorem vg_callVNv (X : vg_X D cy H0 p s m args c cc own) (hml : c.maxLocals = nL) (hl : vg_l ls nL lv) (hH : vg_H D cy H0 μ H) (hL : ∀ z ∈ locs, H0.size ≤ z.base) {index ci maxL n h : Nat} {C : String} {y : MethodName} {host : String} {bytes : ByteArray} {ret : Option FieldType} (hS : vg_CVN own index C y host bytes maxL ret n) {T : u_T} {N : Nat} (hci : vwCl[ci]? = some (C, T, N))
    (As : List Value) (hn : As.length = n) {st0 : List Value} (hst : st0 = As.reverse ++ .ref a :: rest) (hcat : (rest.map fun v => v.category).sum ≤ 8) (hdg : decode cc pc = .ok (.invokevirtual index, 3))
    {β : Type} {fy : vg_R Unit} {kont : Unit → vg_M → vg_R β} {r : β} (hf : vg_cv ci a μ fy kont = some (r, μ', cn, nn)) (hC : cells + cn = C0) (hN : slots + nn = N0) (hRc : C0 ≤ R.cells) (hRs : N0 ≤ R.slots) {h1 : Nat} (hRf : h1 ≤ R.frames) (hRl : 60 * h1 ≤ R.locals) (hh : h + 1 ≤ h1)
    (hM : ∀ (x : Unit) (μ1 : vg_M) (c1 n1 : Nat), fy = some (x, μ1, c1, n1) → vg_Met l D cy H0 y bytes maxL ret h μ (.ref a :: As) none μ1 c1 n1)
    (kk : ∀ (x : Unit) (μ1 : vg_M) (cn nn : Nat) (H1 : Heap) (locs1 : List Loc) (cells slots : Nat), kont x μ1 = some (r, μ', cn, nn) → cells + cn = C0 → slots + nn = N0 → vg_H D cy H0 μ1 H1 → (∀ z ∈ locs1, H0.size ≤ z.base) → W p l e R s m args below meth c H1 locs1 cells slots Q (F0 m (pc + 3) ls rest)) : W p l e R s m args below meth c H locs cells slots Q (F0 m pc ls st0) := by
  subst hst
  obtain ⟨hx, hb, hts, hown, hG⟩ := X
  have hK := hG.1
  have hlo : ∀ maxL, maxL ≤ 41 → 8 + (maxL + 11) + 60 * h ≤ R.locals := fun z hz => by omega
  obtain ⟨fs, hrc, hf⟩ := vg_cv_inv hf
  have hrecv := vgw_recv hK (hH.rd hrc) hci
  refine vg_go (av := (Value.ref a :: As).toArray) hL hf hC hN (fun x => none) (fun x μ1 c1 n1 hfy hc1 hn1 => ?_) kk
  obtain ⟨hmk, hins, hsel, hini, hcode, hd, hmx⟩ := hS
  exact va_runVN (As := As) (rest := rest) ⟨hx, hb, hml, hown, hts⟩ (hM x μ1 c1 n1 hfy) ⟨va_cnB n hts (vg_goodC hcode) rfl rfl rfl (hG.2.2.2.2.2.2.1 _ hmk) (hts _ hini) hd ⟨Nat.le_trans hh hRf, hlo _ hmx⟩, hts _ hins, hts _ hsel⟩ ⟨vg_blind, hrecv, fun U hU hW => ⟨rfl, by rw [hU]; exact hH, hG.warm hW⟩⟩ rfl hn hl.1.1 rfl (lv_room hcat) hdg ⟨by omega, by omega⟩
theorem vg_callWi (X : vg_X D cy H0 p s m args c cc own) (hml : c.maxLocals = nL) (hl : vg_l ls nL lv) (hH : vg_H D cy H0 μ H) (hL : ∀ z ∈ locs, H0.size ≤ z.base) {index ci maxL n h : Nat} {C : String} {x0 y : MethodName} {bytes : ByteArray} {ret : Option FieldType} (hS : vg_CW own index C x0 y bytes maxL ret n) {T : u_T} {N : Nat} (hci : vwCl[ci]? = some (C, T, N))
    (As : List Value) (hn : As.length = n) {st0 : List Value} (hst : st0 = As.reverse ++ .ref a :: rest) (hcat : (rest.map fun v => v.category).sum ≤ 8) (hdg : decode cc pc = .ok (.invokevirtual index, 3))
    {β : Type} {fy : vg_R Int32} {kont : Int32 → vg_M → vg_R β} {r : β} (hf : vg_cv ci a μ fy kont = some (r, μ', cn, nn)) (hC : cells + cn = C0) (hN : slots + nn = N0) (hRc : C0 ≤ R.cells) (hRs : N0 ≤ R.slots) {h1 : Nat} (hRf : h1 ≤ R.frames) (hRl : 60 * h1 ≤ R.locals) (hh : h + 1 ≤ h1)
    (hM : ∀ (x : Int32) (μ1 : vg_M) (c1 n1 : Nat), fy = some (x, μ1, c1, n1) → vg_Met l D cy H0 y bytes maxL ret h μ (.ref a :: As) (some (.int x)) μ1 c1 n1)
    (kk : ∀ (x : Int32) (μ1 : vg_M) (cn nn : Nat) (H1 : Heap) (locs1 : List Loc) (cells slots : Nat), kont x μ1 = some (r, μ', cn, nn) → cells + cn = C0 → slots + nn = N0 → vg_H D cy H0 μ1 H1 → (∀ z ∈ locs1, H0.size ≤ z.base) → W p l e R s m args below meth c H1 locs1 cells slots Q (F0 m (pc + 3) ls (.int x :: rest))) : W p l e R s m args below meth c H locs cells slots Q (F0 m pc ls st0) := by
  subst hst
  obtain ⟨hx, hb, hts, hown, hG⟩ := X
  have hK := hG.1
  have hlo : ∀ maxL, maxL ≤ 41 → 8 + (maxL + 11) + 60 * h ≤ R.locals := fun z hz => by omega
  obtain ⟨fs, hrc, hf⟩ := vg_cv_inv hf
  have hrecv := vgw_recv hK (hH.rd hrc) hci
  refine vg_go (av := (Value.ref a :: As).toArray) hL hf hC hN (fun x => (some (.int x))) (fun x μ1 c1 n1 hfy hc1 hn1 => ?_) kk
  obtain ⟨hmk, hsame, hins0, ⟨b0, m0, r0, hc0⟩, hsel, hins, hini, hcode, hd, hmx⟩ := hS
  have hGd : GoodIn vg_T (va_wsO own index C x0.cls x0 y (Cond.code y bytes maxL ret :: vg_T)) := by
    intro w hw
    have hw' : w ∈ ([.methodLink own index x0, .sameMethod x0.cls x0.cls x0.name x0.desc, .instanceMethod ⟨x0.cls, x0.name, x0.desc⟩, .selects C x0 y, .instanceMethod y, .initialized y.cls] : List Cond) ++ (Cond.code y bytes maxL ret :: vg_T) := hw
    rcases List.mem_append.mp hw' with h1 | h1
    · simp only [List.mem_cons, List.not_mem_nil, or_false] at h1
      rcases h1 with rfl | rfl | rfl | rfl | rfl | rfl
      · exact vg_goodT hmk _ List.mem_cons_self
      · exact vg_goodT hsame _ List.mem_cons_self
      · exact vg_goodT hins0 _ List.mem_cons_self
      · exact vg_goodT hsel _ List.mem_cons_self
      · exact vg_goodT hins _ List.mem_cons_self
      · exact vg_goodT hini _ List.mem_cons_self
    · exact vg_goodC hcode w h1
  exact va_runU (As := As) (rest := rest) ⟨hx, hb, hml, hown, hts⟩ (hM x μ1 c1 n1 hfy) (va_cwO n hts hGd rfl rfl rfl hc0 hd ⟨Nat.le_trans hh hRf, hlo _ hmx⟩) ⟨vg_blind, hrecv, fun U hU hW => ⟨rfl, by rw [hU]; exact hH, hG.warm hW⟩⟩ rfl hn hl.1.1 rfl (lv_room hcat) hdg ⟨by omega, by omega⟩
theorem vg_callWr (X : vg_X D cy H0 p s m args c cc own) (hml : c.maxLocals = nL) (hl : vg_l ls nL lv) (hH : vg_H D cy H0 μ H) (hL : ∀ z ∈ locs, H0.size ≤ z.base) {index ci maxL n h : Nat} {C : String} {x0 y : MethodName} {bytes : ByteArray} {ret : Option FieldType} (hS : vg_CW own index C x0 y bytes maxL ret n) {T : u_T} {N : Nat} (hci : vwCl[ci]? = some (C, T, N))
    (As : List Value) (hn : As.length = n) {st0 : List Value} (hst : st0 = As.reverse ++ .ref a :: rest) (hcat : (rest.map fun v => v.category).sum ≤ 8) (hdg : decode cc pc = .ok (.invokevirtual index, 3))
    {β : Type} {fy : vg_R (Option Nat)} {kont : (Option Nat) → vg_M → vg_R β} {r : β} (hf : vg_cv ci a μ fy kont = some (r, μ', cn, nn)) (hC : cells + cn = C0) (hN : slots + nn = N0) (hRc : C0 ≤ R.cells) (hRs : N0 ≤ R.slots) {h1 : Nat} (hRf : h1 ≤ R.frames) (hRl : 60 * h1 ≤ R.locals) (hh : h + 1 ≤ h1)
    (hM : ∀ (x : (Option Nat)) (μ1 : vg_M) (c1 n1 : Nat), fy = some (x, μ1, c1, n1) → vg_Met l D cy H0 y bytes maxL ret h μ (.ref a :: As) (some (va_rf x)) μ1 c1 n1)
    (kk : ∀ (x : (Option Nat)) (μ1 : vg_M) (cn nn : Nat) (H1 : Heap) (locs1 : List Loc) (cells slots : Nat), kont x μ1 = some (r, μ', cn, nn) → cells + cn = C0 → slots + nn = N0 → vg_H D cy H0 μ1 H1 → (∀ z ∈ locs1, H0.size ≤ z.base) → W p l e R s m args below meth c H1 locs1 cells slots Q (F0 m (pc + 3) ls (va_rf x :: rest))) : W p l e R s m args below meth c H locs cells slots Q (F0 m pc ls st0) := by
  subst hst
  obtain ⟨hx, hb, hts, hown, hG⟩ := X
  have hK := hG.1
  have hlo : ∀ maxL, maxL ≤ 41 → 8 + (maxL + 11) + 60 * h ≤ R.locals := fun z hz => by omega
  obtain ⟨fs, hrc, hf⟩ := vg_cv_inv hf
  have hrecv := vgw_recv hK (hH.rd hrc) hci
  refine vg_go (av := (Value.ref a :: As).toArray) hL hf hC hN (fun x => (some (va_rf x))) (fun x μ1 c1 n1 hfy hc1 hn1 => ?_) kk
  obtain ⟨hmk, hsame, hins0, ⟨b0, m0, r0, hc0⟩, hsel, hins, hini, hcode, hd, hmx⟩ := hS
  have hGd : GoodIn vg_T (va_wsO own index C x0.cls x0 y (Cond.code y bytes maxL ret :: vg_T)) := by
    intro w hw
    have hw' : w ∈ ([.methodLink own index x0, .sameMethod x0.cls x0.cls x0.name x0.desc, .instanceMethod ⟨x0.cls, x0.name, x0.desc⟩, .selects C x0 y, .instanceMethod y, .initialized y.cls] : List Cond) ++ (Cond.code y bytes maxL ret :: vg_T) := hw
    rcases List.mem_append.mp hw' with h1 | h1
    · simp only [List.mem_cons, List.not_mem_nil, or_false] at h1
      rcases h1 with rfl | rfl | rfl | rfl | rfl | rfl
      · exact vg_goodT hmk _ List.mem_cons_self
      · exact vg_goodT hsame _ List.mem_cons_self
      · exact vg_goodT hins0 _ List.mem_cons_self
      · exact vg_goodT hsel _ List.mem_cons_self
      · exact vg_goodT hins _ List.mem_cons_self
      · exact vg_goodT hini _ List.mem_cons_self
    · exact vg_goodC hcode w h1
  exact va_runU (As := As) (rest := rest) ⟨hx, hb, hml, hown, hts⟩ (hM x μ1 c1 n1 hfy) (va_cwO n hts hGd rfl rfl rfl hc0 hd ⟨Nat.le_trans hh hRf, hlo _ hmx⟩) ⟨vg_blind, hrecv, fun U hU hW => ⟨rfl, by rw [hU]; exact hH, hG.warm hW⟩⟩ rfl hn hl.1.1 rfl (lv_room hcat) hdg ⟨by omega, by omega⟩
theorem vg_callWv (X : vg_X D cy H0 p s m args c cc own) (hml : c.maxLocals = nL) (hl : vg_l ls nL lv) (hH : vg_H D cy H0 μ H) (hL : ∀ z ∈ locs, H0.size ≤ z.base) {index ci maxL n h : Nat} {C : String} {x0 y : MethodName} {bytes : ByteArray} {ret : Option FieldType} (hS : vg_CW own index C x0 y bytes maxL ret n) {T : u_T} {N : Nat} (hci : vwCl[ci]? = some (C, T, N))
    (As : List Value) (hn : As.length = n) {st0 : List Value} (hst : st0 = As.reverse ++ .ref a :: rest) (hcat : (rest.map fun v => v.category).sum ≤ 8) (hdg : decode cc pc = .ok (.invokevirtual index, 3))
    {β : Type} {fy : vg_R Unit} {kont : Unit → vg_M → vg_R β} {r : β} (hf : vg_cv ci a μ fy kont = some (r, μ', cn, nn)) (hC : cells + cn = C0) (hN : slots + nn = N0) (hRc : C0 ≤ R.cells) (hRs : N0 ≤ R.slots) {h1 : Nat} (hRf : h1 ≤ R.frames) (hRl : 60 * h1 ≤ R.locals) (hh : h + 1 ≤ h1)
    (hM : ∀ (x : Unit) (μ1 : vg_M) (c1 n1 : Nat), fy = some (x, μ1, c1, n1) → vg_Met l D cy H0 y bytes maxL ret h μ (.ref a :: As) none μ1 c1 n1)
    (kk : ∀ (x : Unit) (μ1 : vg_M) (cn nn : Nat) (H1 : Heap) (locs1 : List Loc) (cells slots : Nat), kont x μ1 = some (r, μ', cn, nn) → cells + cn = C0 → slots + nn = N0 → vg_H D cy H0 μ1 H1 → (∀ z ∈ locs1, H0.size ≤ z.base) → W p l e R s m args below meth c H1 locs1 cells slots Q (F0 m (pc + 3) ls rest)) : W p l e R s m args below meth c H locs cells slots Q (F0 m pc ls st0) := by
  subst hst
  obtain ⟨hx, hb, hts, hown, hG⟩ := X
  have hK := hG.1
  have hlo : ∀ maxL, maxL ≤ 41 → 8 + (maxL + 11) + 60 * h ≤ R.locals := fun z hz => by omega
  obtain ⟨fs, hrc, hf⟩ := vg_cv_inv hf
  have hrecv := vgw_recv hK (hH.rd hrc) hci
  refine vg_go (av := (Value.ref a :: As).toArray) hL hf hC hN (fun x => none) (fun x μ1 c1 n1 hfy hc1 hn1 => ?_) kk
  obtain ⟨hmk, hsame, hins0, ⟨b0, m0, r0, hc0⟩, hsel, hins, hini, hcode, hd, hmx⟩ := hS
  have hGd : GoodIn vg_T (va_wsO own index C x0.cls x0 y (Cond.code y bytes maxL ret :: vg_T)) := by
    intro w hw
    have hw' : w ∈ ([.methodLink own index x0, .sameMethod x0.cls x0.cls x0.name x0.desc, .instanceMethod ⟨x0.cls, x0.name, x0.desc⟩, .selects C x0 y, .instanceMethod y, .initialized y.cls] : List Cond) ++ (Cond.code y bytes maxL ret :: vg_T) := hw
    rcases List.mem_append.mp hw' with h1 | h1
    · simp only [List.mem_cons, List.not_mem_nil, or_false] at h1
      rcases h1 with rfl | rfl | rfl | rfl | rfl | rfl
      · exact vg_goodT hmk _ List.mem_cons_self
      · exact vg_goodT hsame _ List.mem_cons_self
      · exact vg_goodT hins0 _ List.mem_cons_self
      · exact vg_goodT hsel _ List.mem_cons_self
      · exact vg_goodT hins _ List.mem_cons_self
      · exact vg_goodT hini _ List.mem_cons_self
    · exact vg_goodC hcode w h1
  exact va_runU (As := As) (rest := rest) ⟨hx, hb, hml, hown, hts⟩ (hM x μ1 c1 n1 hfy) (va_cwO n hts hGd rfl rfl rfl hc0 hd ⟨Nat.le_trans hh hRf, hlo _ hmx⟩) ⟨vg_blind, hrecv, fun U hU hW => ⟨rfl, by rw [hU]; exact hH, hG.warm hW⟩⟩ rfl hn hl.1.1 rfl (lv_room hcat) hdg ⟨by omega, by omega⟩
theorem vg_callUi (X : vg_X D cy H0 p s m args c cc own) (hml : c.maxLocals = nL) (hl : vg_l ls nL lv) (hH : vg_H D cy H0 μ H) (hL : ∀ z ∈ locs, H0.size ≤ z.base) {index ci maxL n h : Nat} {C : String} {y : MethodName} {bytes : ByteArray} {ret : Option FieldType} (hS : vg_CU own index y bytes maxL ret n) {T : u_T} {N : Nat} (hci : vwCl[ci]? = some (C, T, N))
    (As : List Value) (hn : As.length = n) {st0 : List Value} (hst : st0 = As.reverse ++ .ref a :: rest) (hcat : (rest.map fun v => v.category).sum ≤ 8) (hdg : decode cc pc = .ok (.invokespecial index, 3))
    {β : Type} {fy : vg_R Int32} {kont : Int32 → vg_M → vg_R β} {r : β} (hf : vg_cv ci a μ fy kont = some (r, μ', cn, nn)) (hC : cells + cn = C0) (hN : slots + nn = N0) (hRc : C0 ≤ R.cells) (hRs : N0 ≤ R.slots) {h1 : Nat} (hRf : h1 ≤ R.frames) (hRl : 60 * h1 ≤ R.locals) (hh : h + 1 ≤ h1)
    (hM : ∀ (x : Int32) (μ1 : vg_M) (c1 n1 : Nat), fy = some (x, μ1, c1, n1) → vg_Met l D cy H0 y bytes maxL ret h μ (.ref a :: As) (some (.int x)) μ1 c1 n1)
    (kk : ∀ (x : Int32) (μ1 : vg_M) (cn nn : Nat) (H1 : Heap) (locs1 : List Loc) (cells slots : Nat), kont x μ1 = some (r, μ', cn, nn) → cells + cn = C0 → slots + nn = N0 → vg_H D cy H0 μ1 H1 → (∀ z ∈ locs1, H0.size ≤ z.base) → W p l e R s m args below meth c H1 locs1 cells slots Q (F0 m (pc + 3) ls (.int x :: rest))) : W p l e R s m args below meth c H locs cells slots Q (F0 m pc ls st0) := by
  subst hst
  obtain ⟨hx, hb, hts, hown, hG⟩ := X
  have hK := hG.1
  have hlo : ∀ maxL, maxL ≤ 41 → 8 + (maxL + 11) + 60 * h ≤ R.locals := fun z hz => by omega
  obtain ⟨fs, hrc, hf⟩ := vg_cv_inv hf
  have hrecv := vgw_recv hK (hH.rd hrc) hci
  refine vg_go (av := (Value.ref a :: As).toArray) hL hf hC hN (fun x => (some (.int x))) (fun x μ1 c1 n1 hfy hc1 hn1 => ?_) kk
  obtain ⟨hmk, hsame, hsup, hins, hini, hcode, hd, hmx⟩ := hS
  have hGd : GoodIn vg_T (va_wsSU own index y (Cond.code y bytes maxL ret :: vg_T)) := by
    intro w hw
    have hw' : w ∈ ([.methodLink own index y, .sameMethod y.cls y.cls y.name y.desc, .superclass own y.cls, .instanceMethod y, .initialized y.cls] : List Cond) ++ (Cond.code y bytes maxL ret :: vg_T) := hw
    rcases List.mem_append.mp hw' with h1 | h1
    · simp only [List.mem_cons, List.not_mem_nil, or_false] at h1
      rcases h1 with rfl | rfl | rfl | rfl | rfl
      · exact vg_goodT hmk _ List.mem_cons_self
      · exact vg_goodT hsame _ List.mem_cons_self
      · exact vg_goodT hsup _ List.mem_cons_self
      · exact vg_goodT hins _ List.mem_cons_self
      · exact vg_goodT hini _ List.mem_cons_self
    · exact vg_goodC hcode w h1
  exact va_runSU (As := As) (rest := rest) (hK.1 ci _ hci).2 ⟨hx, hb, hml, hown, hts⟩ (hM x μ1 c1 n1 hfy) (va_cwSU n hts hGd rfl rfl rfl hd ⟨Nat.le_trans hh hRf, hlo _ hmx⟩) ⟨vg_blind, hrecv, fun U hU hW => ⟨rfl, by rw [hU]; exact hH, hG.warm hW⟩⟩ rfl hn hl.1.1 rfl (lv_room hcat) hdg ⟨by omega, by omega⟩
theorem vg_callUr (X : vg_X D cy H0 p s m args c cc own) (hml : c.maxLocals = nL) (hl : vg_l ls nL lv) (hH : vg_H D cy H0 μ H) (hL : ∀ z ∈ locs, H0.size ≤ z.base) {index ci maxL n h : Nat} {C : String} {y : MethodName} {bytes : ByteArray} {ret : Option FieldType} (hS : vg_CU own index y bytes maxL ret n) {T : u_T} {N : Nat} (hci : vwCl[ci]? = some (C, T, N))
    (As : List Value) (hn : As.length = n) {st0 : List Value} (hst : st0 = As.reverse ++ .ref a :: rest) (hcat : (rest.map fun v => v.category).sum ≤ 8) (hdg : decode cc pc = .ok (.invokespecial index, 3))
    {β : Type} {fy : vg_R (Option Nat)} {kont : (Option Nat) → vg_M → vg_R β} {r : β} (hf : vg_cv ci a μ fy kont = some (r, μ', cn, nn)) (hC : cells + cn = C0) (hN : slots + nn = N0) (hRc : C0 ≤ R.cells) (hRs : N0 ≤ R.slots) {h1 : Nat} (hRf : h1 ≤ R.frames) (hRl : 60 * h1 ≤ R.locals) (hh : h + 1 ≤ h1)
    (hM : ∀ (x : (Option Nat)) (μ1 : vg_M) (c1 n1 : Nat), fy = some (x, μ1, c1, n1) → vg_Met l D cy H0 y bytes maxL ret h μ (.ref a :: As) (some (va_rf x)) μ1 c1 n1)
    (kk : ∀ (x : (Option Nat)) (μ1 : vg_M) (cn nn : Nat) (H1 : Heap) (locs1 : List Loc) (cells slots : Nat), kont x μ1 = some (r, μ', cn, nn) → cells + cn = C0 → slots + nn = N0 → vg_H D cy H0 μ1 H1 → (∀ z ∈ locs1, H0.size ≤ z.base) → W p l e R s m args below meth c H1 locs1 cells slots Q (F0 m (pc + 3) ls (va_rf x :: rest))) : W p l e R s m args below meth c H locs cells slots Q (F0 m pc ls st0) := by
  subst hst
  obtain ⟨hx, hb, hts, hown, hG⟩ := X
  have hK := hG.1
  have hlo : ∀ maxL, maxL ≤ 41 → 8 + (maxL + 11) + 60 * h ≤ R.locals := fun z hz => by omega
  obtain ⟨fs, hrc, hf⟩ := vg_cv_inv hf
  have hrecv := vgw_recv hK (hH.rd hrc) hci
  refine vg_go (av := (Value.ref a :: As).toArray) hL hf hC hN (fun x => (some (va_rf x))) (fun x μ1 c1 n1 hfy hc1 hn1 => ?_) kk
  obtain ⟨hmk, hsame, hsup, hins, hini, hcode, hd, hmx⟩ := hS
  have hGd : GoodIn vg_T (va_wsSU own index y (Cond.code y bytes maxL ret :: vg_T)) := by
    intro w hw
    have hw' : w ∈ ([.methodLink own index y, .sameMethod y.cls y.cls y.name y.desc, .superclass own y.cls, .instanceMethod y, .initialized y.cls] : List Cond) ++ (Cond.code y bytes maxL ret :: vg_T) := hw
    rcases List.mem_append.mp hw' with h1 | h1
    · simp only [List.mem_cons, List.not_mem_nil, or_false] at h1
      rcases h1 with rfl | rfl | rfl | rfl | rfl
      · exact vg_goodT hmk _ List.mem_cons_self
      · exact vg_goodT hsame _ List.mem_cons_self
      · exact vg_goodT hsup _ List.mem_cons_self
      · exact vg_goodT hins _ List.mem_cons_self
      · exact vg_goodT hini _ List.mem_cons_self
    · exact vg_goodC hcode w h1
  exact va_runSU (As := As) (rest := rest) (hK.1 ci _ hci).2 ⟨hx, hb, hml, hown, hts⟩ (hM x μ1 c1 n1 hfy) (va_cwSU n hts hGd rfl rfl rfl hd ⟨Nat.le_trans hh hRf, hlo _ hmx⟩) ⟨vg_blind, hrecv, fun U hU hW => ⟨rfl, by rw [hU]; exact hH, hG.warm hW⟩⟩ rfl hn hl.1.1 rfl (lv_room hcat) hdg ⟨by omega, by omega⟩
theorem vg_callUv (X : vg_X D cy H0 p s m args c cc own) (hml : c.maxLocals = nL) (hl : vg_l ls nL lv) (hH : vg_H D cy H0 μ H) (hL : ∀ z ∈ locs, H0.size ≤ z.base) {index ci maxL n h : Nat} {C : String} {y : MethodName} {bytes : ByteArray} {ret : Option FieldType} (hS : vg_CU own index y bytes maxL ret n) {T : u_T} {N : Nat} (hci : vwCl[ci]? = some (C, T, N))
    (As : List Value) (hn : As.length = n) {st0 : List Value} (hst : st0 = As.reverse ++ .ref a :: rest) (hcat : (rest.map fun v => v.category).sum ≤ 8) (hdg : decode cc pc = .ok (.invokespecial index, 3))
    {β : Type} {fy : vg_R Unit} {kont : Unit → vg_M → vg_R β} {r : β} (hf : vg_cv ci a μ fy kont = some (r, μ', cn, nn)) (hC : cells + cn = C0) (hN : slots + nn = N0) (hRc : C0 ≤ R.cells) (hRs : N0 ≤ R.slots) {h1 : Nat} (hRf : h1 ≤ R.frames) (hRl : 60 * h1 ≤ R.locals) (hh : h + 1 ≤ h1)
    (hM : ∀ (x : Unit) (μ1 : vg_M) (c1 n1 : Nat), fy = some (x, μ1, c1, n1) → vg_Met l D cy H0 y bytes maxL ret h μ (.ref a :: As) none μ1 c1 n1)
    (kk : ∀ (x : Unit) (μ1 : vg_M) (cn nn : Nat) (H1 : Heap) (locs1 : List Loc) (cells slots : Nat), kont x μ1 = some (r, μ', cn, nn) → cells + cn = C0 → slots + nn = N0 → vg_H D cy H0 μ1 H1 → (∀ z ∈ locs1, H0.size ≤ z.base) → W p l e R s m args below meth c H1 locs1 cells slots Q (F0 m (pc + 3) ls rest)) : W p l e R s m args below meth c H locs cells slots Q (F0 m pc ls st0) := by
  subst hst
  obtain ⟨hx, hb, hts, hown, hG⟩ := X
  have hK := hG.1
  have hlo : ∀ maxL, maxL ≤ 41 → 8 + (maxL + 11) + 60 * h ≤ R.locals := fun z hz => by omega
  obtain ⟨fs, hrc, hf⟩ := vg_cv_inv hf
  have hrecv := vgw_recv hK (hH.rd hrc) hci
  refine vg_go (av := (Value.ref a :: As).toArray) hL hf hC hN (fun x => none) (fun x μ1 c1 n1 hfy hc1 hn1 => ?_) kk
  obtain ⟨hmk, hsame, hsup, hins, hini, hcode, hd, hmx⟩ := hS
  have hGd : GoodIn vg_T (va_wsSU own index y (Cond.code y bytes maxL ret :: vg_T)) := by
    intro w hw
    have hw' : w ∈ ([.methodLink own index y, .sameMethod y.cls y.cls y.name y.desc, .superclass own y.cls, .instanceMethod y, .initialized y.cls] : List Cond) ++ (Cond.code y bytes maxL ret :: vg_T) := hw
    rcases List.mem_append.mp hw' with h1 | h1
    · simp only [List.mem_cons, List.not_mem_nil, or_false] at h1
      rcases h1 with rfl | rfl | rfl | rfl | rfl
      · exact vg_goodT hmk _ List.mem_cons_self
      · exact vg_goodT hsame _ List.mem_cons_self
      · exact vg_goodT hsup _ List.mem_cons_self
      · exact vg_goodT hins _ List.mem_cons_self
      · exact vg_goodT hini _ List.mem_cons_self
    · exact vg_goodC hcode w h1
  exact va_runSU (As := As) (rest := rest) (hK.1 ci _ hci).2 ⟨hx, hb, hml, hown, hts⟩ (hM x μ1 c1 n1 hfy) (va_cwSU n hts hGd rfl rfl rfl hd ⟨Nat.le_trans hh hRf, hlo _ hmx⟩) ⟨vg_blind, hrecv, fun U hU hW => ⟨rfl, by rw [hU]; exact hH, hG.warm hW⟩⟩ rfl hn hl.1.1 rfl (lv_room hcat) hdg ⟨by omega, by omega⟩
theorem vg_getNI (X : vg_X D cy H0 p s m args c cc own) (hH : vg_H D cy H0 μ H) {index ci k : Nat} {ref host C : String} {T : u_T} {N : Nat} {ty0 : Nat → FieldType} (hcl : vg_Cl ci C T N ty0) (hk : k < N) (hlink : Cond.fieldLinkNest own index ref (T k).2.1 (T k).2.2.1 host ∈ vg_nest) (href : ref = (T k).1) (hdg : decode cc pc = .ok (.getfield index, 3)) {β : Type} {kont : Int32 → vg_R β} {res : β × vg_M × Nat × Nat} (hf : vg_o (vg_gI μ a ci k) kont = some res)
    (kk : ∀ x : Int32, kont x = some res → W p l e R s m args below meth c H locs cells slots Q (F0 m (pc + 3) ls (.int x :: rest))) : W p l e R s m args below meth c H locs cells slots Q (F0 m pc ls (.ref a :: rest)) := by
  obtain ⟨x, h0, hf⟩ := vg_o_inv hf
  obtain ⟨fs, h1, h2⟩ := vg_gI_inv h0
  obtain ⟨hx, hb, hts, hown, hG⟩ := X
  obtain ⟨hc, hin, -, -⟩ := hcl
  refine vgw_getN (ci := ci) (C := C) (T := T) (N := N) (ref := ref) hx hb hts hin hown hG.1 (hH.rd h1) hc k hk (va_Nw.use rfl (hG.2.2.2.2.2.2.1 _ hlink)) ?_ h2 hdg (kk x hf)
  subst href
  exact fun _ h => h
theorem vg_mmin (X : vg_X D cy H0 p s m args c cc own) (hml : c.maxLocals = nL) (hl : vg_l ls nL lv) {index : Nat} (hlink : Cond.methodLink own index Lib.Math.min.name ∈ vg_T) (hstat : Cond.static Lib.Math.min.name ∈ vg_T) (hini : Cond.initialized "java/lang/Math" ∈ vg_T) (hcode : Cond.code Lib.Math.min.name Lib.Math.min.code 2 (some .int) ∈ vg_T) (hcat : (rest.map fun v => v.category).sum ≤ 8) (hC : cells + cn = C0) (hN : slots + nn = N0) (hRc : C0 ≤ R.cells) (hRs : N0 ≤ R.slots) (hRf : 1 ≤ R.frames) (hRl : 60 ≤ R.locals) {x y : Int32} (hdg : decode cc pc = .ok (.invokestatic index, 3))
    (kk : W p l e R s m args below meth c H locs cells slots Q (F0 m (pc + 3) ls (.int (if y < x then y else x) :: rest))) : W p l e R s m args below meth c H locs cells slots Q (F0 m pc ls (.int y :: .int x :: rest)) :=
  va_mmin X.1 X.2.1 (hml.trans hl.1.1.symm) X.2.2.2.1 (X.2.2.1 _ hlink) (X.2.2.1 _ hstat) (X.2.2.1 _ hini) (X.2.2.1 _ hcode) hRf (by omega) (by omega) (by omega) hdg kk
theorem vg_mmax (X : vg_X D cy H0 p s m args c cc own) (hml : c.maxLocals = nL) (hl : vg_l ls nL lv) {index : Nat} (hlink : Cond.methodLink own index Lib.Math.max.name ∈ vg_T) (hstat : Cond.static Lib.Math.max.name ∈ vg_T) (hini : Cond.initialized "java/lang/Math" ∈ vg_T) (hcode : Cond.code Lib.Math.max.name Lib.Math.max.code 2 (some .int) ∈ vg_T) (hcat : (rest.map fun v => v.category).sum ≤ 8) (hC : cells + cn = C0) (hN : slots + nn = N0) (hRc : C0 ≤ R.cells) (hRs : N0 ≤ R.slots) (hRf : 1 ≤ R.frames) (hRl : 60 ≤ R.locals) {x y : Int32} (hdg : decode cc pc = .ok (.invokestatic index, 3))
    (kk : W p l e R s m args below meth c H locs cells slots Q (F0 m (pc + 3) ls (.int (if x < y then y else x) :: rest))) : W p l e R s m args below meth c H locs cells slots Q (F0 m pc ls (.int y :: .int x :: rest)) :=
  va_mmax X.1 X.2.1 (hml.trans hl.1.1.symm) X.2.2.2.1 (X.2.2.1 _ hlink) (X.2.2.1 _ hstat) (X.2.2.1 _ hini) (X.2.2.1 _ hcode) hRf (by omega) (by omega) (by omega) hdg kk
theorem vg_ldcM (X : vg_X D cy H0 p s m args c cc own) (hH : vg_H D cy H0 μ H) {index : Nat} (hlink : Cond.classLink own index "[Ljava/lang/Object;" ∈ vg_T) (hdg : decode cc pc = .ok (.ldc index, 2)) {β : Type} {kont : Nat → vg_R β} {res : β × vg_M × Nat × Nat} (hf : vg_k μ 32 kont = some res)
    (kk : ∀ x : Nat, kont x = some res → W p l e R s m args below meth c H locs cells slots Q (F0 m (pc + 2) ls (.ref x :: rest))) : W p l e R s m args below meth c H locs cells slots Q (F0 m pc ls rest) := by
  obtain ⟨hx, hb, hts, hown, hG⟩ := X
  have e := hH.2.2.2.2.2 32
  refine va_ldcM hx hb hown (hts _ hlink) hG.2.2.2.2.2.1 hdg ?_
  have e' : cy 132 = μ.2.2.2 32 := e.symm
  rw [e']
  exact kk _ hf
end VG
