/-! Rows of the machine over the abstract memory. -/
def vg_X (D : va_G) (cy : Nat → ClassId) (H0 : Heap) (p : Program) (s : State) (m : MethodId) (args : Array Value) (c : Code) (cc : ByteArray) (own : String) : Prop :=
  p.tables.exec = Jvm.exec ∧ c.code = cc ∧ (∀ w ∈ vg_T, w.before args s = true) ∧ s.vm.findClass own = some m.cls ∧ vg_G D cy H0 s
/-- a class of the worlds: its words are there -/
def vg_Cl (ci : Nat) (C : String) (T : u_T) (N : Nat) (ty0 : Nat → FieldType) : Prop :=
  vwCl[ci]? = some (C, T, N) ∧ (∀ w ∈ u_ws C T N, w ∈ vg_T) ∧ (∀ k, k < N → parseFieldDescriptor (T k).2.2.1 = some (ty0 k)) ∧ ∀ a, a < N → ∀ b, b < N → a ≠ b → (T a).2.1 ≠ (T b).2.1
/-- entry index of own's pool is field k of class ci, of type ty -/
def vg_F (own : String) (index ci k : Nat) (ty : FieldType) (fin : Bool) : Prop := ∃ (ref C : String) (T : u_T) (N : Nat) (ty0 : Nat → FieldType), vg_Cl ci C T N ty0 ∧ k < N ∧ Cond.fieldLink own index ref (T k).2.1 (T k).2.2.1 ∈ vg_T ∧
  (ref = (T k).1 ∨ Cond.sameField ref (T k).1 (T k).2.1 (T k).2.2.1 ∈ vg_T) ∧ (T k).2.2.2 = fin ∧ (fin = true → (T k).1 = own) ∧ parseFieldDescriptor (T k).2.2.1 = some ty
theorem vg_one {D : va_G} {cl : List vw_C} {q : Nat × va_E} {H : Heap} (h : va_at D cl q H) : va_P D cl [q] H := by
  intro k x hk
  have hz : k < 1 := (List.getElem?_eq_some_iff.mp hk).1
  rw [show k = 0 by omega] at hk
  cases hk
  exact h
theorem vg_fit {ty : FieldType} {x : Int32} (hty : ty = .int ∨ ty = .boolean ∨ ty = .byte ∨ ty = .char ∨ ty = .short) (h : vp_nar ty x = x) : narrow ty (.int x) = .int x ∧ fits ty (.int x) = true := by
  have h1 : narrow ty (.int x) = .int x := by
    rcases hty with rfl | rfl | rfl | rfl | rfl <;> first | rfl | (unfold vp_nar at h; simp only [narrow] at h; simp only [narrow]; exact congrArg Value.int h)
  refine ⟨h1, ?_⟩
  rcases hty with rfl | rfl | rfl | rfl | rfl
  · rfl
  · rw [← h1]; exact fits_narrow_boolean _
  · rw [← h1]; exact fits_narrow_byte _
  · rw [← h1]; exact fits_narrow_char _
  · rw [← h1]; exact fits_narrow_short _
section VG
variable {p : Program} {l : Launch} {e : Env} {R : Room} {s : State} {m : MethodId} {args : Array Value} {below : List Frame} {meth : Method} {c : Code} {H : Heap} {locs : List Loc} {cells slots : Nat} {Q : State → Prop}
variable {cc : ByteArray} {pc : Nat} {ls : Array Slot} {rest : List Value} {D : va_G} {cy : Nat → ClassId} {H0 : Heap} {μ : vg_M} {own : String} {a : Nat}
theorem vg_getV (X : vg_X D cy H0 p s m args c cc own) (hH : vg_H D cy H0 μ H) {index ci k : Nat} {ty : FieldType} {fin : Bool} (hF : vg_F own index ci k ty fin) {fs : List Value} (h1 : μ.1 a = some (.inr (ci, fs))) {v : Value} (h2 : fs[k]? = some v) (hdg : decode cc pc = .ok (.getfield index, 3))
    (kk : W p l e R s m args below meth c H locs cells slots Q (F0 m (pc + 3) ls (v :: rest))) : W p l e R s m args below meth c H locs cells slots Q (F0 m pc ls (.ref a :: rest)) := by
  obtain ⟨hx, hb, hts, hown, hG⟩ := X
  have hK := hG.1
  obtain ⟨ref, C, T, N, ty0, ⟨hc, hin, -, -⟩, hk, hl, hs, -⟩ := hF
  refine vgw_get (ci := ci) (C := C) (T := T) (N := N) (ref := ref) hx hb hts hin hown hK (hH.rd h1) hc k hk (hts _ hl) ?_ h2 hdg kk
  rcases hs with rfl | hs
  · exact fun _ h => h
  · exact fun x h => u_same (hts _ hs) x h
theorem vg_getI (X : vg_X D cy H0 p s m args c cc own) (hH : vg_H D cy H0 μ H) {index ci k : Nat} {ty : FieldType} {fin : Bool} (hF : vg_F own index ci k ty fin) (hdg : decode cc pc = .ok (.getfield index, 3)) {β : Type} {kont : Int32 → vg_R β} {res : β × vg_M × Nat × Nat} (hf : vg_o (vg_gI μ a ci k) kont = some res)
    (kk : ∀ x : Int32, kont x = some res → W p l e R s m args below meth c H locs cells slots Q (F0 m (pc + 3) ls (.int x :: rest))) : W p l e R s m args below meth c H locs cells slots Q (F0 m pc ls (.ref a :: rest)) := by
  obtain ⟨x, h0, hf⟩ := vg_o_inv hf
  obtain ⟨fs, h1, h2⟩ := vg_gI_inv h0
  exact vg_getV X hH hF h1 h2 hdg (kk x hf)
theorem vg_getR (X : vg_X D cy H0 p s m args c cc own) (hH : vg_H D cy H0 μ H) {index ci k : Nat} {ty : FieldType} {fin : Bool} (hF : vg_F own index ci k ty fin) (hdg : decode cc pc = .ok (.getfield index, 3)) {β : Type} {kont : Option Nat → vg_R β} {res : β × vg_M × Nat × Nat} (hf : vg_o (vg_gR μ a ci k) kont = some res)
    (kk : ∀ x : Option Nat, kont x = some res → W p l e R s m args below meth c H locs cells slots Q (F0 m (pc + 3) ls (va_rf x :: rest))) : W p l e R s m args below meth c H locs cells slots Q (F0 m pc ls (.ref a :: rest)) := by
  obtain ⟨x, h0, hf⟩ := vg_o_inv hf
  obtain ⟨fs, h1, h2⟩ := vg_gR_inv h0
  exact vg_getV X hH hF h1 h2 hdg (kk x hf)
theorem vg_putV (X : vg_X D cy H0 p s m args c cc own) (hH : vg_H D cy H0 μ H) (hL : ∀ z ∈ locs, H0.size ≤ z.base) {index ci k : Nat} {ty : FieldType} (hF : vg_F own index ci k ty false) {v : Value} (hn : narrow ty v = v) (hfit : fits ty v = true) (hdg : decode cc pc = .ok (.putfield index, 3)) {β : Type} {kont : vg_M → vg_R β} {res : β × vg_M × Nat × Nat} (hf : vg_o (vg_p μ a ci k v) kont = some res)
    (kk : ∀ (μ1 : vg_M) (H1 : Heap) (locs1 : List Loc), kont μ1 = some res → vg_H D cy H0 μ1 H1 → (∀ z ∈ locs1, H0.size ≤ z.base) → W p l e R s m args below meth c H1 locs1 cells slots Q (F0 m (pc + 3) ls rest)) : W p l e R s m args below meth c H locs cells slots Q (F0 m pc ls (v :: .ref a :: rest)) := by
  obtain ⟨hx, hb, hts, hown, hG⟩ := X
  have hK := hG.1
  obtain ⟨ref, C, T, N, ty0, ⟨hc, hin, hty, hnm⟩, hk, hl, hs, hfin, -, hd⟩ := hF
  obtain ⟨μ1, h0, hf⟩ := vg_o_inv hf
  obtain ⟨fs, h1, hkl, ha, rfl⟩ := vg_p_inv h0
  have hat : va_at D vwCl (a, .inr (ci, fs)) H := hH.ex h1 ha
  have hap := va_apart (own := own) hts hin ty0 hty hnm hK hc
  have hsame : ∀ x, s.fieldFound? (T k).1 (T k).2.1 (T k).2.2.1 = some x → s.fieldFound? ref (T k).2.1 (T k).2.2.1 = some x := by
    rcases hs with rfl | hs
    · exact fun _ h => h
    · exact fun x h => u_same (hts _ hs) x h
  obtain ⟨r, hr1, cell, q1, q2, q3, q4⟩ := hat
  have hr : r = (C, T, N) := Option.some.inj (hr1.symm.trans hc)
  subst hr
  obtain ⟨hS, hfc, kC, hkC, hkind⟩ := hK.1 ci _ hc
  obtain ⟨cf, kf, fi, f, hi, hsl⟩ := hS k hk
  have hlay := hts _ (hin _ (u_in_lay hk))
  unfold u_lay at hlay
  rw [if_neg (by rw [hfin]; decide)] at hlay
  have hst := (u_facts hfc hkC (u_lays hts hin hk) hi).1
  have h6 := u_store hfc hkC hkind hlay hi hd hn hfit
  refine W.putK hx hb (f := f) ⟨hown, hts _ hl, ⟨_, _, _, hsame _ hi⟩, hst⟩ (by rw [q2]; exact h6) q1 q3 (by rw [hsl]; exact k2_hasslot (q4 k hk)) rfl rfl hdg fun H' e1 e2 e3 => ?_
  rw [hsl] at e1 ⊢
  refine kk _ H' _ hf (hH.put (e := .inr (ci, fs.set k v)) ha ⟨_, hc, t_OB.to (V := updV (vp_V fs) k v) ⟨_, e1, q2, q3, t_set q4 hap hk v⟩ (fun j _ => vp_updV_set hkl v j)⟩ e2 e3) ?_
  intro z hz
  rcases List.mem_append.mp hz with h | h
  · exact hL z h
  · rw [List.mem_singleton.mp h, ← hH.2.1]
    exact ha
theorem vg_putF (X : vg_X D cy H0 p s m args c cc own) (hinit : meth.name = "<init>") (hH : vg_H D cy H0 μ H) (hL : ∀ z ∈ locs, H0.size ≤ z.base) {index ci k : Nat} {ty : FieldType} (hF : vg_F own index ci k ty true) {v : Value} (hn : narrow ty v = v) (hfit : fits ty v = true) (hdg : decode cc pc = .ok (.putfield index, 3)) {β : Type} {kont : vg_M → vg_R β} {res : β × vg_M × Nat × Nat} (hf : vg_o (vg_p μ a ci k v) kont = some res)
    (kk : ∀ (μ1 : vg_M) (H1 : Heap) (locs1 : List Loc), kont μ1 = some res → vg_H D cy H0 μ1 H1 → (∀ z ∈ locs1, H0.size ≤ z.base) → W p l e R s m args below meth c H1 locs1 cells slots Q (F0 m (pc + 3) ls rest)) : W p l e R s m args below meth c H locs cells slots Q (F0 m pc ls (v :: .ref a :: rest)) := by
  obtain ⟨hx, hb, hts, hown, hG⟩ := X
  have hK := hG.1
  obtain ⟨ref, C, T, N, ty0, ⟨hc, hin, hty, hnm⟩, hk, hl, hs, hfin, hdecl, hd⟩ := hF
  obtain ⟨μ1, h0, hf⟩ := vg_o_inv hf
  obtain ⟨fs, h1, hkl, ha, rfl⟩ := vg_p_inv h0
  have hat : va_at D vwCl (a, .inr (ci, fs)) H := hH.ex h1 ha
  have hap := va_apart (own := own) hts hin ty0 hty hnm hK hc
  have hsame : ∀ x, s.fieldFound? (T k).1 (T k).2.1 (T k).2.2.1 = some x → s.fieldFound? ref (T k).2.1 (T k).2.2.1 = some x := by
    rcases hs with rfl | hs
    · exact fun _ h => h
    · exact fun x h => u_same (hts _ hs) x h
  obtain ⟨r, hr1, cell, q1, q2, q3, q4⟩ := hat
  have hr : r = (C, T, N) := Option.some.inj (hr1.symm.trans hc)
  subst hr
  obtain ⟨hS, hfc, kC, hkC, hkind⟩ := hK.1 ci _ hc
  obtain ⟨cf, kf, fi, f, hi, hsl⟩ := hS k hk
  have hlay := hts _ (hin _ (u_in_lay hk))
  unfold u_lay at hlay
  rw [if_pos hfin] at hlay
  have hst := (u_facts hfc hkC (u_lays hts hin hk) hi).1
  have hcf : m.cls = cf := by
    obtain ⟨_, _, c', _, _, _, -, -, hf', -, -, -, hown2, -⟩ := Cond.laysFinal_spec hlay
    have e1 : c' = cf := by have := hi.symm.trans hf'; simp at this; exact this.1.symm
    rw [hdecl rfl] at hown2
    rw [← e1]; exact Option.some.inj (hown.symm.trans hown2)
  have h6 := u_fits hfc hkC hkind (Or.inr hlay) hi hd hn hfit
  refine W.putFinK hx hb hown (hts _ hl) (hsame _ hi) hst hcf hinit (by rw [q2]; exact h6) q1 q3 (by rw [hsl]; exact k2_hasslot (q4 k hk)) rfl rfl hdg fun H' e1 e2 e3 => ?_
  rw [hsl] at e1 ⊢
  refine kk _ H' _ hf (hH.put (e := .inr (ci, fs.set k v)) ha ⟨_, hc, t_OB.to (V := updV (vp_V fs) k v) ⟨_, e1, q2, q3, t_set q4 hap hk v⟩ (fun j _ => vp_updV_set hkl v j)⟩ e2 e3) ?_
  intro z hz
  rcases List.mem_append.mp hz with h | h
  · exact hL z h
  · rw [List.mem_singleton.mp h, ← hH.2.1]
    exact ha
theorem vg_alen (X : vg_X D cy H0 p s m args c cc own) (hH : vg_H D cy H0 μ H) (hdg : decode cc pc = .ok (.arraylength, 1)) {β : Type} {kont : Int32 → vg_R β} {res : β × vg_M × Nat × Nat} (hf : vg_o (vg_al μ a) kont = some res)
    (kk : ∀ x : Int32, kont x = some res → W p l e R s m args below meth c H locs cells slots Q (F0 m (pc + 1) ls (.int x :: rest))) : W p l e R s m args below meth c H locs cells slots Q (F0 m pc ls (.ref a :: rest)) := by
  obtain ⟨hx, hb, hts, hown, hG⟩ := X
  have hK := hG.1
  obtain ⟨x, h0, hf⟩ := vg_o_inv hf
  obtain ⟨t, v, h1, ht, hv⟩ := vg_al_inv h0
  have key : ∀ ty : FieldType, (vg_tys cy)[t]? = some (cy t, ty) → W p l e R s m args below meth c H locs cells slots Q (F0 m pc ls (.ref a :: rest)) := fun ty hty =>
    vgw_alen hx hb hG hty (hH.rd h1) hv hdg (kk x hf)
  match t, ht with
  | 0, _ => exact key _ rfl
  | 1, _ => exact key _ rfl
  | 2, _ => exact key _ rfl
  | 3, _ => exact key _ rfl
  | 4, _ => exact key _ rfl
  | 5, _ => exact key _ rfl
theorem vg_iald (X : vg_X D cy H0 p s m args c cc own) (hH : vg_H D cy H0 μ H) {i : Int32} (hdg : decode cc pc = .ok (.iaload, 1)) {β : Type} {kont : Int32 → vg_R β} {res : β × vg_M × Nat × Nat} (hf : vg_o (vg_aI μ a 2 i) kont = some res)
    (kk : ∀ x : Int32, kont x = some res → W p l e R s m args below meth c H locs cells slots Q (F0 m (pc + 1) ls (.int x :: rest))) : W p l e R s m args below meth c H locs cells slots Q (F0 m pc ls (.int i :: .ref a :: rest)) := by
  obtain ⟨hx, hb, hts, hown, hG⟩ := X
  have hK := hG.1
  obtain ⟨x, h0, hf⟩ := vg_o_inv hf
  obtain ⟨n, f, h1, hin, rfl⟩ := vg_aI_inv h0
  exact vgw_iald hx hb hG (hH.rd h1) hin hdg (kk _ hf)
theorem vg_bald (X : vg_X D cy H0 p s m args c cc own) (hH : vg_H D cy H0 μ H) {i : Int32} (hdg : decode cc pc = .ok (.baload, 1)) {β : Type} {kont : Int32 → vg_R β} {res : β × vg_M × Nat × Nat} (hf : vg_o (vg_aI μ a 0 i) kont = some res)
    (kk : ∀ x : Int32, kont x = some res → W p l e R s m args below meth c H locs cells slots Q (F0 m (pc + 1) ls (.int x :: rest))) : W p l e R s m args below meth c H locs cells slots Q (F0 m pc ls (.int i :: .ref a :: rest)) := by
  obtain ⟨hx, hb, hts, hown, hG⟩ := X
  have hK := hG.1
  obtain ⟨x, h0, hf⟩ := vg_o_inv hf
  obtain ⟨n, f, h1, hin, rfl⟩ := vg_aI_inv h0
  exact vgw_bald hx hb hG (hH.rd h1) hin hdg (kk _ hf)
theorem vg_zald (X : vg_X D cy H0 p s m args c cc own) (hH : vg_H D cy H0 μ H) {i : Int32} (hdg : decode cc pc = .ok (.baload, 1)) {β : Type} {kont : Int32 → vg_R β} {res : β × vg_M × Nat × Nat} (hf : vg_o (vg_aI μ a 3 i) kont = some res)
    (kk : ∀ x : Int32, kont x = some res → W p l e R s m args below meth c H locs cells slots Q (F0 m (pc + 1) ls (.int x :: rest))) : W p l e R s m args below meth c H locs cells slots Q (F0 m pc ls (.int i :: .ref a :: rest)) := by
  obtain ⟨hx, hb, hts, hown, hG⟩ := X
  have hK := hG.1
  obtain ⟨x, h0, hf⟩ := vg_o_inv hf
  obtain ⟨n, f, h1, hin, rfl⟩ := vg_aI_inv h0
  exact vgw_zald hx hb hG (hH.rd h1) hin hdg (kk _ hf)
theorem vg_cald (X : vg_X D cy H0 p s m args c cc own) (hH : vg_H D cy H0 μ H) {i : Int32} (hdg : decode cc pc = .ok (.caload, 1)) {β : Type} {kont : Int32 → vg_R β} {res : β × vg_M × Nat × Nat} (hf : vg_o (vg_aI μ a 1 i) kont = some res)
    (kk : ∀ x : Int32, kont x = some res → W p l e R s m args below meth c H locs cells slots Q (F0 m (pc + 1) ls (.int x :: rest))) : W p l e R s m args below meth c H locs cells slots Q (F0 m pc ls (.int i :: .ref a :: rest)) := by
  obtain ⟨hx, hb, hts, hown, hG⟩ := X
  have hK := hG.1
  obtain ⟨x, h0, hf⟩ := vg_o_inv hf
  obtain ⟨n, f, h1, hin, rfl⟩ := vg_aI_inv h0
  exact vgw_cald hx hb hG (hH.rd h1) hin hdg (kk _ hf)
theorem vg_aald (X : vg_X D cy H0 p s m args c cc own) (hH : vg_H D cy H0 μ H) {i : Int32} (hdg : decode cc pc = .ok (.aaload, 1)) {β : Type} {kont : Option Nat → vg_R β} {res : β × vg_M × Nat × Nat} (hf : vg_o (vg_aR μ a i) kont = some res)
    (kk : ∀ x : Option Nat, kont x = some res → W p l e R s m args below meth c H locs cells slots Q (F0 m (pc + 1) ls (va_rf x :: rest))) : W p l e R s m args below meth c H locs cells slots Q (F0 m pc ls (.int i :: .ref a :: rest)) := by
  obtain ⟨hx, hb, hts, hown, hG⟩ := X
  have hK := hG.1
  obtain ⟨x, h0, hf⟩ := vg_o_inv hf
  obtain ⟨n, f, h1, hin, rfl⟩ := vg_aR_inv h0
  exact vgw_aald hx hb hG (hH.rd h1) hin hdg (kk _ hf)
theorem vg_arrSet {t n : Nat} {f : Nat → Int32} {i x : Int32} {H1 : Heap} (hin : vp_in i n) (e : H1[a]? = some ((vp_cell (cy t) (n, .inl f)).setSlot i.toNatClampNeg (.int x))) : va_at D vwCl (a, vg_c cy (.inl (t, n, .inl (upd f i.toNatClampNeg x)))) H1 := by
  show H1[a]? = some (vp_cell (cy t) (n, .inl (upd f i.toNatClampNeg x)))
  rw [e, vp_cell_i, vp_cell_i, arrV_store]
  congr 2
  funext q
  by_cases hq : q = i.toNatClampNeg
  · subst hq
    simp [updV, upd]
  · simp [updV, upd, hq]
theorem vg_locs {k : Nat} (hL : ∀ z ∈ locs, H0.size ≤ z.base) (hH : vg_H D cy H0 μ H) (ha : μ.2.2.1 ≤ a) : ∀ z ∈ locs ++ [⟨a, k⟩], H0.size ≤ z.base := by
  intro z hz
  rcases List.mem_append.mp hz with h | h
  · exact hL z h
  · rw [List.mem_singleton.mp h, ← hH.2.1]
    exact ha
theorem vg_iast (X : vg_X D cy H0 p s m args c cc own) (hH : vg_H D cy H0 μ H) (hL : ∀ z ∈ locs, H0.size ≤ z.base) {i x : Int32} (hdg : decode cc pc = .ok (.iastore, 1)) {β : Type} {kont : vg_M → vg_R β} {res : β × vg_M × Nat × Nat} (hf : vg_o (vg_sI μ a 2 i x) kont = some res)
    (kk : ∀ (μ1 : vg_M) (H1 : Heap) (locs1 : List Loc), kont μ1 = some res → vg_H D cy H0 μ1 H1 → (∀ z ∈ locs1, H0.size ≤ z.base) → W p l e R s m args below meth c H1 locs1 cells slots Q (F0 m (pc + 1) ls rest)) : W p l e R s m args below meth c H locs cells slots Q (F0 m pc ls (.int x :: .int i :: .ref a :: rest)) := by
  obtain ⟨hx, hb, hts, hown, hG⟩ := X
  have hK := hG.1
  obtain ⟨μ1, h0, hf⟩ := vg_o_inv hf
  obtain ⟨n, f, h1, hin, ha, rfl⟩ := vg_sI_inv h0
  have hat : va_at D vwCl (a, .inl (cy 2, n, .inl f)) H := hH.ex h1 ha
  refine W.iast hx hb hat ((hK.2 2 _ rfl).1 n (fun j => .int (f j))) (fun q => by cases q) (by show ¬ (i < 0 ∨ (arrV _ _ _).slots.size ≤ _); rw [arrV_size]; exact hin) rfl rfl hdg fun H1 e z oq => ?_
  exact kk _ H1 _ hf (hH.put ha (vg_arrSet hin e) z oq) (vg_locs hL hH ha)
theorem vg_bast (X : vg_X D cy H0 p s m args c cc own) (hH : vg_H D cy H0 μ H) (hL : ∀ z ∈ locs, H0.size ≤ z.base) {i x : Int32} (hdg : decode cc pc = .ok (.bastore, 1)) {β : Type} {kont : vg_M → vg_R β} {res : β × vg_M × Nat × Nat} (hf : vg_o (vg_sI μ a 0 i x) kont = some res)
    (kk : ∀ (μ1 : vg_M) (H1 : Heap) (locs1 : List Loc), kont μ1 = some res → vg_H D cy H0 μ1 H1 → (∀ z ∈ locs1, H0.size ≤ z.base) → W p l e R s m args below meth c H1 locs1 cells slots Q (F0 m (pc + 1) ls rest)) : W p l e R s m args below meth c H locs cells slots Q (F0 m pc ls (.int x :: .int i :: .ref a :: rest)) := by
  obtain ⟨hx, hb, hts, hown, hG⟩ := X
  have hK := hG.1
  obtain ⟨μ1, h0, hf⟩ := vg_o_inv hf
  obtain ⟨n, f, h1, hin, ha, rfl⟩ := vg_sI_inv h0
  have hat : va_at D vwCl (a, .inl (cy 0, n, .inl f)) H := hH.ex h1 ha
  refine W.bast hx hb hat ((hK.2 0 _ rfl).1 n (fun j => .int (f j))) (fun q => by cases q) (by show ¬ (i < 0 ∨ (arrV _ _ _).slots.size ≤ _); rw [arrV_size]; exact hin) rfl rfl hdg fun H1 e z oq => ?_
  exact kk _ H1 _ hf (hH.put ha (vg_arrSet hin e) z oq) (vg_locs hL hH ha)
theorem vg_zast (X : vg_X D cy H0 p s m args c cc own) (hH : vg_H D cy H0 μ H) (hL : ∀ z ∈ locs, H0.size ≤ z.base) {i x : Int32} (hdg : decode cc pc = .ok (.bastore, 1)) {β : Type} {kont : vg_M → vg_R β} {res : β × vg_M × Nat × Nat} (hf : vg_o (vg_sI μ a 3 i x) kont = some res)
    (kk : ∀ (μ1 : vg_M) (H1 : Heap) (locs1 : List Loc), kont μ1 = some res → vg_H D cy H0 μ1 H1 → (∀ z ∈ locs1, H0.size ≤ z.base) → W p l e R s m args below meth c H1 locs1 cells slots Q (F0 m (pc + 1) ls rest)) : W p l e R s m args below meth c H locs cells slots Q (F0 m pc ls (.int x :: .int i :: .ref a :: rest)) := by
  obtain ⟨hx, hb, hts, hown, hG⟩ := X
  have hK := hG.1
  obtain ⟨μ1, h0, hf⟩ := vg_o_inv hf
  obtain ⟨n, f, h1, hin, ha, rfl⟩ := vg_sI_inv h0
  have hat : va_at D vwCl (a, .inl (cy 3, n, .inl f)) H := hH.ex h1 ha
  refine W.zast hx hb hat ((hK.2 3 _ rfl).1 n (fun j => .int (f j))) (fun q => by cases q) (by show ¬ (i < 0 ∨ (arrV _ _ _).slots.size ≤ _); rw [arrV_size]; exact hin) rfl rfl hdg fun H1 e z oq => ?_
  exact kk _ H1 _ hf (hH.put ha (vg_arrSet hin e) z oq) (vg_locs hL hH ha)
theorem vg_cast (X : vg_X D cy H0 p s m args c cc own) (hH : vg_H D cy H0 μ H) (hL : ∀ z ∈ locs, H0.size ≤ z.base) {i x : Int32} (hdg : decode cc pc = .ok (.castore, 1)) {β : Type} {kont : vg_M → vg_R β} {res : β × vg_M × Nat × Nat} (hf : vg_o (vg_sI μ a 1 i x) kont = some res)
    (kk : ∀ (μ1 : vg_M) (H1 : Heap) (locs1 : List Loc), kont μ1 = some res → vg_H D cy H0 μ1 H1 → (∀ z ∈ locs1, H0.size ≤ z.base) → W p l e R s m args below meth c H1 locs1 cells slots Q (F0 m (pc + 1) ls rest)) : W p l e R s m args below meth c H locs cells slots Q (F0 m pc ls (.int x :: .int i :: .ref a :: rest)) := by
  obtain ⟨hx, hb, hts, hown, hG⟩ := X
  have hK := hG.1
  obtain ⟨μ1, h0, hf⟩ := vg_o_inv hf
  obtain ⟨n, f, h1, hin, ha, rfl⟩ := vg_sI_inv h0
  have hat : va_at D vwCl (a, .inl (cy 1, n, .inl f)) H := hH.ex h1 ha
  refine W.cast hx hb hat ((hK.2 1 _ rfl).1 n (fun j => .int (f j))) (fun q => by cases q) (by show ¬ (i < 0 ∨ (arrV _ _ _).slots.size ≤ _); rw [arrV_size]; exact hin) rfl rfl hdg fun H1 e z oq => ?_
  exact kk _ H1 _ hf (hH.put ha (vg_arrSet hin e) z oq) (vg_locs hL hH ha)
end VG
