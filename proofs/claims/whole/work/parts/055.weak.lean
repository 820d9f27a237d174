/-! Reading a cell of which only that much is known. -/
theorem vg_isA {U : State} {cA : ClassId} {ty : FieldType} {cell : Cell} (h : ArrOfT U cA ty) (hc : cell.cls = cA) (hs : cell.vm.isStatics = false) : U.isArrayOf cell ty := by
  obtain ⟨-, k, hk, comp, hkd⟩ := h 0 (fun _ => .null)
  refine ⟨fun q hq => ?_, k, ?_, comp, hkd⟩
  · rw [hq] at hs; cases hs
  · rw [hc]; exact hk
theorem vg_H.rd {D : va_G} {cy : Nat → ClassId} {H0 H : Heap} {μ : vg_M} {a : Nat} {e : vg_E} (hH : vg_H D cy H0 μ H) (h : μ.1 a = some e) : vg_aw D cy a e H := (hH.2.2.2.1 a e h).1
theorem vg_H.ex {D : va_G} {cy : Nat → ClassId} {H0 H : Heap} {μ : vg_M} {a : Nat} {e : vg_E} (hH : vg_H D cy H0 μ H) (h : μ.1 a = some e) (ha : μ.2.2.1 ≤ a) : va_at D vwCl (a, vg_c cy e) H := (hH.2.2.2.1 a e h).2 (by rw [← hH.2.1]; exact ha)
section VGW
variable {p : Program} {l : Launch} {e : Env} {R : Room} {s : State} {m : MethodId} {args : Array Value} {below : List Frame} {meth : Method} {c : Code} {H : Heap} {locs : List Loc} {cells slots : Nat} {Q : State → Prop}
variable {cc : ByteArray} {pc : Nat} {ls : Array Slot} {rest : List Value} {D : va_G} {cy : Nat → ClassId} {H0 : Heap} {own : String} {a : Nat}
/-- an array's cell: its class is an array's of that type -/
theorem vgw_arr (hG : vg_G D cy H0 s) {t : Nat} {ty : FieldType} (ht : (vg_tys cy)[t]? = some (cy t, ty)) {x : vp_A} (h : vg_aw D cy a (.inl (t, x)) H) : ∃ cell : Cell, H[a]? = some cell ∧ cell.vm ≠ .unknown ∧ cell.vm.isStatics = false ∧ s.isArrayOf cell ty ∧ x.1 ≤ cell.slots.size ∧ cell.slots.size.toInt32 = Int32.ofNat x.1 ∧ ∀ j, j < x.1 → cell.slots[j]? = (vp_cell (cy t) x).slots[j]? := by
  obtain ⟨cell, h1, h2, h3, h4, h5, h6, h7⟩ := h
  refine ⟨cell, h1, h2, h3, ?_, h5, h6, h7⟩
  rcases h4 with h4 | ⟨h4, i, h4'⟩
  · exact vg_isA (hG.1.2 t _ ht).1 h4 h3
  · have h4 : t = 0 := h4
    subst h4
    cases ht
    exact vg_isA (hG.2.2.2.2.2.2.2.2.2.2 i) h4' h3
theorem vgw_in {i : Int32} {n k : Nat} (hin : vp_in i n) (hk : n ≤ k) : ¬ (i < 0 ∨ k ≤ i.toNatClampNeg) := fun h => hin (h.elim Or.inl (fun q => Or.inr (Nat.le_trans hk q)))
theorem vgw_lt {i : Int32} {n : Nat} (hin : vp_in i n) : i.toNatClampNeg < n := Nat.not_le.mp fun q => hin (Or.inr q)
theorem vgw_recv (hK : vg_K D cy s) {ci : Nat} {fs : List Value} (h : vg_aw D cy a (.inr (ci, fs)) H) {C : String} {T : u_T} {N : Nat} (hci : vwCl[ci]? = some (C, T, N)) : ∃ cell : Cell, H[a]? = some cell ∧ cell.vm.isStatics = false ∧ s.vm.findClass C = some cell.cls := by
  obtain ⟨cell, h1, h2, h3, r, h4, h5, h6⟩ := h
  exact ⟨cell, h1, h3, by rw [h5]; exact (hK.1 ci _ hci).2.1⟩
theorem vgw_get (hexec : p.tables.exec = Jvm.exec) (hb : c.code = cc) {ref C : String} {T : u_T} {N ci index : Nat} (hts : ∀ w ∈ vg_T, w.before args s = true) (hin : ∀ w ∈ u_ws C T N, w ∈ vg_T) (hown : s.vm.findClass own = some m.cls) (hK : vg_K D cy s) {fs : List Value} (h : vg_aw D cy a (.inr (ci, fs)) H) (hc : vwCl[ci]? = some (C, T, N)) (k : Nat) (hk : k < N) (hlink : (Cond.fieldLink own index ref (T k).2.1 (T k).2.2.1).before args s = true) (hsame : ∀ x, s.fieldFound? (T k).1 (T k).2.1 (T k).2.2.1 = some x → s.fieldFound? ref (T k).2.1 (T k).2.2.1 = some x) {v : Value} (hv : fs[k]? = some v) (hdg : decode cc pc = .ok (.getfield index, 3))
    (kk : W p l e R s m args below meth c H locs cells slots Q (F0 m (pc + 3) ls (v :: rest))) : W p l e R s m args below meth c H locs cells slots Q (F0 m pc ls (.ref a :: rest)) := by
  obtain ⟨cell, q1, q2, q3, r, h1, h5, q4⟩ := h
  have hr : r = (C, T, N) := Option.some.inj (h1.symm.trans hc)
  subst hr
  obtain ⟨hS, hfc, kC, hkC, hkind⟩ := hK.1 ci _ hc
  obtain ⟨cf, kf, fi, f, hi, hsl⟩ := hS k hk
  refine W.getf hexec hb hown hlink (hsame _ hi) (u_facts hfc hkC (u_lays hts hin hk) hi).1 q1 q2 (v := v) ?_ rfl rfl hdg kk
  rw [hsl, q4 k hk]
  simp [vp_V, hv]
theorem vgw_getN (hexec : p.tables.exec = Jvm.exec) (hb : c.code = cc) {ref C host : String} {T : u_T} {N ci index : Nat} (hts : ∀ w ∈ vg_T, w.before args s = true) (hin : ∀ w ∈ u_ws C T N, w ∈ vg_T) (hown : s.vm.findClass own = some m.cls) (hK : vg_K D cy s) {fs : List Value} (h : vg_aw D cy a (.inr (ci, fs)) H) (hc : vwCl[ci]? = some (C, T, N)) (k : Nat) (hk : k < N) (hlink : (Cond.fieldLinkNest own index ref (T k).2.1 (T k).2.2.1 host).before args s = true) (hsame : ∀ x, s.fieldFound? (T k).1 (T k).2.1 (T k).2.2.1 = some x → s.fieldFound? ref (T k).2.1 (T k).2.2.1 = some x) {v : Value} (hv : fs[k]? = some v) (hdg : decode cc pc = .ok (.getfield index, 3))
    (kk : W p l e R s m args below meth c H locs cells slots Q (F0 m (pc + 3) ls (v :: rest))) : W p l e R s m args below meth c H locs cells slots Q (F0 m pc ls (.ref a :: rest)) := by
  obtain ⟨cell, q1, q2, q3, r, h1, h5, q4⟩ := h
  have hr : r = (C, T, N) := Option.some.inj (h1.symm.trans hc)
  subst hr
  obtain ⟨hS, hfc, kC, hkC, hkind⟩ := hK.1 ci _ hc
  obtain ⟨cf, kf, fi, f, hi, hsl⟩ := hS k hk
  refine va_Wgetf hexec hb hown hlink (hsame _ hi) (u_facts hfc hkC (u_lays hts hin hk) hi).1 q1 q2 (v := v) ?_ rfl rfl hdg kk
  rw [hsl, q4 k hk]
  simp [vp_V, hv]
theorem vgw_alen (hexec : p.tables.exec = Jvm.exec) (hb : c.code = cc) (hG : vg_G D cy H0 s) {t : Nat} {ty : FieldType} (ht : (vg_tys cy)[t]? = some (cy t, ty)) {x : vp_A} (h : vg_aw D cy a (.inl (t, x)) H) {v : Int32} (hv : Int32.ofNat x.1 = v) (hdg : decode cc pc = .ok (.arraylength, 1))
    (kk : W p l e R s m args below meth c H locs cells slots Q (F0 m (pc + 1) ls (.int v :: rest))) : W p l e R s m args below meth c H locs cells slots Q (F0 m pc ls (.ref a :: rest)) := by
  subst hv
  obtain ⟨cell, h1, h2, h3, h4, h5, h6, h7⟩ := vgw_arr hG ht h
  exact W.alen (n := Int32.ofNat x.1) hexec hb h1 h4 h6 rfl rfl hdg kk
theorem vgw_iald (hexec : p.tables.exec = Jvm.exec) (hb : c.code = cc) (hG : vg_G D cy H0 s) {n : Nat} {f : Nat → Int32} (h : vg_aw D cy a (.inl (2, n, .inl f)) H) {i : Int32} (hin : vp_in i n) (hdg : decode cc pc = .ok (.iaload, 1))
    (kk : W p l e R s m args below meth c H locs cells slots Q (F0 m (pc + 1) ls (.int (f i.toNatClampNeg) :: rest))) : W p l e R s m args below meth c H locs cells slots Q (F0 m pc ls (.int i :: .ref a :: rest)) := by
  obtain ⟨cell, h1, h2, h3, h4, h5, h6, h7⟩ := vgw_arr (t := 2) hG rfl h
  exact W.iald (v := .int (f i.toNatClampNeg)) hexec hb h1 h4 h2 (vgw_in hin h5) (by rw [h7 _ (vgw_lt hin), vp_cell_i, arrV_read _ _ (vgw_lt hin)]) rfl rfl hdg kk
theorem vgw_bald (hexec : p.tables.exec = Jvm.exec) (hb : c.code = cc) (hG : vg_G D cy H0 s) {n : Nat} {f : Nat → Int32} (h : vg_aw D cy a (.inl (0, n, .inl f)) H) {i : Int32} (hin : vp_in i n) (hdg : decode cc pc = .ok (.baload, 1))
    (kk : W p l e R s m args below meth c H locs cells slots Q (F0 m (pc + 1) ls (.int (f i.toNatClampNeg) :: rest))) : W p l e R s m args below meth c H locs cells slots Q (F0 m pc ls (.int i :: .ref a :: rest)) := by
  obtain ⟨cell, h1, h2, h3, h4, h5, h6, h7⟩ := vgw_arr (t := 0) hG rfl h
  exact W.bald (v := .int (f i.toNatClampNeg)) hexec hb h1 h4 h2 (vgw_in hin h5) (by rw [h7 _ (vgw_lt hin), vp_cell_i, arrV_read _ _ (vgw_lt hin)]) rfl rfl hdg kk
theorem vgw_zald (hexec : p.tables.exec = Jvm.exec) (hb : c.code = cc) (hG : vg_G D cy H0 s) {n : Nat} {f : Nat → Int32} (h : vg_aw D cy a (.inl (3, n, .inl f)) H) {i : Int32} (hin : vp_in i n) (hdg : decode cc pc = .ok (.baload, 1))
    (kk : W p l e R s m args below meth c H locs cells slots Q (F0 m (pc + 1) ls (.int (f i.toNatClampNeg) :: rest))) : W p l e R s m args below meth c H locs cells slots Q (F0 m pc ls (.int i :: .ref a :: rest)) := by
  obtain ⟨cell, h1, h2, h3, h4, h5, h6, h7⟩ := vgw_arr (t := 3) hG rfl h
  exact W.zald (v := .int (f i.toNatClampNeg)) hexec hb h1 h4 h2 (vgw_in hin h5) (by rw [h7 _ (vgw_lt hin), vp_cell_i, arrV_read _ _ (vgw_lt hin)]) rfl rfl hdg kk
theorem vgw_cald (hexec : p.tables.exec = Jvm.exec) (hb : c.code = cc) (hG : vg_G D cy H0 s) {n : Nat} {f : Nat → Int32} (h : vg_aw D cy a (.inl (1, n, .inl f)) H) {i : Int32} (hin : vp_in i n) (hdg : decode cc pc = .ok (.caload, 1))
    (kk : W p l e R s m args below meth c H locs cells slots Q (F0 m (pc + 1) ls (.int (f i.toNatClampNeg) :: rest))) : W p l e R s m args below meth c H locs cells slots Q (F0 m pc ls (.int i :: .ref a :: rest)) := by
  obtain ⟨cell, h1, h2, h3, h4, h5, h6, h7⟩ := vgw_arr (t := 1) hG rfl h
  exact W.cald (v := .int (f i.toNatClampNeg)) hexec hb h1 h4 h2 (vgw_in hin h5) (by rw [h7 _ (vgw_lt hin), vp_cell_i, arrV_read _ _ (vgw_lt hin)]) rfl rfl hdg kk
theorem vgw_lald (hexec : p.tables.exec = Jvm.exec) (hb : c.code = cc) (hG : vg_G D cy H0 s) {n : Nat} {f : Nat → Int64} (h : vg_aw D cy a (.inl (4, n, .inr (.inl f))) H) {i : Int32} (hin : vp_in i n) (hdg : decode cc pc = .ok (.laload, 1))
    (kk : W p l e R s m args below meth c H locs cells slots Q (F0 m (pc + 1) ls (.long (f i.toNatClampNeg) :: rest))) : W p l e R s m args below meth c H locs cells slots Q (F0 m pc ls (.int i :: .ref a :: rest)) := by
  obtain ⟨cell, h1, h2, h3, h4, h5, h6, h7⟩ := vgw_arr (t := 4) hG rfl h
  exact W.lald (v := .long (f i.toNatClampNeg)) hexec hb h1 h4 h2 (vgw_in hin h5) (by rw [h7 _ (vgw_lt hin), vp_cell_l, arrV_read _ _ (vgw_lt hin)]) rfl rfl hdg kk
theorem vgw_aald (hexec : p.tables.exec = Jvm.exec) (hb : c.code = cc) (hG : vg_G D cy H0 s) {n : Nat} {f : Nat → Option Nat} (h : vg_aw D cy a (.inl (5, n, .inr (.inr (.inr (.inr f))))) H) {i : Int32} (hin : vp_in i n) (hdg : decode cc pc = .ok (.aaload, 1))
    (kk : W p l e R s m args below meth c H locs cells slots Q (F0 m (pc + 1) ls (va_rf (f i.toNatClampNeg) :: rest))) : W p l e R s m args below meth c H locs cells slots Q (F0 m pc ls (.int i :: .ref a :: rest)) := by
  obtain ⟨cell, h1, h2, h3, h4, h5, h6, h7⟩ := vgw_arr (t := 5) hG rfl h
  exact W.aald (v := va_rf (f i.toNatClampNeg)) (ty := .object "java/lang/Object") hexec hb h1 h4 rfl h2 (vgw_in hin h5) (by rw [h7 _ (vgw_lt hin), vp_cell_q, arrV_read _ _ (vgw_lt hin)]) rfl rfl hdg kk
theorem vgw_cast (hexec : p.tables.exec = Jvm.exec) (hb : c.code = cc) {nm : String} {index : Nat} (hown : s.vm.findClass own = some m.cls) (hlink : (Cond.classLink own index nm).before args s = true) {cA : ClassId} (hr : ∃ cell : Cell, H[a]? = some cell ∧ cell.vm.isStatics = false ∧ cell.cls = cA) (hnm : s.vm.findClass nm = some cA) (hdg : decode cc pc = .ok (.checkcast index, 3))
    (k : W p l e R s m args below meth c H locs cells slots Q (F0 m (pc + 3) ls (.ref a :: rest))) : W p l e R s m args below meth c H locs cells slots Q (F0 m pc ls (.ref a :: rest)) := by
  obtain ⟨cell, h1, h2, h3⟩ := hr
  intro T hT X
  obtain ⟨vm', X', st⟩ := X.checkcastYes hexec hown hlink (by rw [hT]; exact h1) h2 hnm (by rw [h3]; exact va_asg _ _) (g := F0 m pc ls (.ref a :: rest)) rfl rfl (by rw [hb]; exact hdg)
  obtain ⟨t, a1, b1⟩ := k (T.setVm vm') hT X'
  exact ⟨t, st t a1, b1⟩
end VGW
