/-! Rows: locals, new cells, answers, calls. -/
theorem vg_rfc (x : Option Nat) : (va_rf x).category = 1 := by cases x <;> rfl
theorem vg_ip {P : Prop} [Decidable P] {α : Type} {A B r : α} (hp : P) (hf : (if P then A else B) = r) : A = r := by rw [if_pos hp] at hf; exact hf
theorem vg_if {P : Prop} [Decidable P] {α : Type} {A B r : α} (hp : ¬ P) (hf : (if P then A else B) = r) : B = r := by rw [if_neg hp] at hf; exact hf
def vg_m {β : Type} (x : Option Nat) (A : β) (B : Nat → β) : β := match x with
  | none => A
  | some a => B a
def vg_ret {α : Type} (v : α) (μ : vg_M) : vg_R α := some (v, μ, 0, 0)
def vg_nw {β : Type} (k q : Nat) (μ1 : vg_M) (f : Nat → vg_M → vg_R β) : vg_R β := vg_n k (f q μ1)
/-- a call on an object of class ci -/
def vg_cv {α β : Type} (ci a : Nat) (μ : vg_M) (x : vg_R α) (f : α → vg_M → vg_R β) : vg_R β := match μ.1 a with
  | some (.inr o) => if o.1 = ci then vg_b x f else none
  | _ => none
theorem vg_cv_inv {α β : Type} {ci a : Nat} {μ : vg_M} {x : vg_R α} {f : α → vg_M → vg_R β} {r : β × vg_M × Nat × Nat} (h : vg_cv ci a μ x f = some r) : ∃ fs : List Value, μ.1 a = some (.inr (ci, fs)) ∧ vg_b x f = some r := by
  unfold vg_cv at h
  split at h
  · next o ho =>
    split at h
    · next hc => exact ⟨o.2, by rw [ho, ← hc], h⟩
    · cases h
  · cases h
def vg_rm (h c n : Nat) : Room := { frames := h, cells := c, slots := n, locals := 60 * h }
def vg_Pc (D : va_G) (cy : Nat → ClassId) (H0 : Heap) (μ : vg_M) (av : List Value) : Array Value → State → Prop := fun v U => v = av.toArray ∧ vg_H D cy H0 μ U.heap ∧ vg_G D cy H0 U
def vg_Qc (D : va_G) (cy : Nat → ClassId) (H0 : Heap) (μ' : vg_M) (rv : Option Value) : Array Value → State → Outcome → State → Prop := fun _ _ o t => o = .returned rv ∧ vg_H D cy H0 μ' t.heap
/-- a contract: the method does what its program says -/
def vg_Met (l : Launch) (D : va_G) (cy : Nat → ClassId) (H0 : Heap) (y : MethodName) (bytes : ByteArray) (maxL : Nat) (ret : Option FieldType) (h : Nat) (μ : vg_M) (av : List Value) (rv : Option Value) (μ1 : vg_M) (c1 n1 : Nat) : Prop :=
  Met l y (.code y bytes maxL ret :: vg_T) (vg_rm h c1 n1) (vg_Pc D cy H0 μ av) (vg_Qc D cy H0 μ1 rv) c1 n1 (vg_fr H0)
theorem vg_blind {D : va_G} {cy : Nat → ClassId} {H0 : Heap} {μ : vg_M} {av : List Value} : FrameBlind (vg_Pc D cy H0 μ av) := fun a U g mk q => ⟨q.1, q.2.1, vg_G.warm (s := U) (U := U.calling g mk a) (State.WarmedH.refl U) q.2.2⟩
def vg_l (ls : Array Slot) (nL : Nat) (lv : List (Nat × Value)) : Prop := lv_has ls nL lv ∧ ∀ q ∈ lv, q.2.category = 1
theorem vg_l.sub {ls : Array Slot} {nL : Nat} {lv lv' : List (Nat × Value)} (h : vg_l ls nL lv) (ks : List Nat) (hl : lv_pick lv ks = lv') : vg_l ls nL lv' := by
  refine ⟨lv_sub h.1 ks hl, fun q hq => h.2 q ?_⟩
  subst hl
  unfold lv_pick at hq
  obtain ⟨i, -, hi⟩ := List.mem_filterMap.mp hq
  exact List.mem_of_getElem? hi
theorem vg_lset {lv lv' : List (Nat × Value)} {i : Nat} {v : Value} (h : ∀ q ∈ lv, q.2.category = 1) (hl : (i, v) :: lv.filter (fun q => !(q.1 == i)) = lv') : (i, v) :: lv.filter (fun q => !(q.1 == i) && !(q.1 + 1 == i && q.2.category == 2)) = lv' := by
  rw [← hl]
  congr 1
  apply List.filter_congr
  intro q hq
  rw [h q hq]
  simp
theorem vg_lcat {lv lv' : List (Nat × Value)} {i : Nat} {v : Value} (h : ∀ q ∈ lv, q.2.category = 1) (hv : v.category = 1) (hl : (i, v) :: lv.filter (fun q => !(q.1 == i)) = lv') : ∀ q ∈ lv', q.2.category = 1 := by
  intro q hq
  rw [← hl] at hq
  rcases List.mem_cons.mp hq with rfl | hq
  · exact hv
  · exact h q (List.mem_filter.mp hq).1
theorem vg_largs (vs : List Value) (h : ∀ v ∈ vs, v.category = 1) (i : Nat) : lv_args i vs = (vs.zipIdx i).map (fun q => (q.2, q.1)) := by
  induction vs generalizing i with
  | nil => rfl
  | cons v vs ih =>
    have hv := h v List.mem_cons_self
    simp only [lv_args, hv, List.zipIdx_cons, List.map_cons]
    rw [ih (fun w hw => h w (List.mem_cons_of_mem _ hw))]
    rfl
theorem vg_sl (vs : List Value) (h : ∀ v ∈ vs, v.category = 1) : (lg_sl vs).length = vs.length := by
  induction vs with
  | nil => rfl
  | cons v vs ih =>
    have hv := h v List.mem_cons_self
    have e : lg_sl (v :: vs) = .val v :: lg_sl vs := by simp [lg_sl, hv]
    rw [e, List.length_cons, List.length_cons, ih (fun w hw => h w (List.mem_cons_of_mem _ hw))]
section VG
variable {p : Program} {l : Launch} {e : Env} {R : Room} {s : State} {m : MethodId} {args : Array Value} {below : List Frame} {meth : Method} {c : Code} {H : Heap} {locs : List Loc} {cells slots : Nat} {Q : State → Prop}
variable {cc : ByteArray} {pc : Nat} {ls : Array Slot} {rest : List Value} {D : va_G} {cy : Nat → ClassId} {H0 : Heap} {μ μ' : vg_M} {own : String} {a cn nn C0 N0 nL : Nat} {lv lv' : List (Nat × Value)}
theorem vg_aload (hexec : p.tables.exec = Jvm.exec) (hb : c.code = cc) {i : Nat} {x : Option Nat} (hdg : decode cc pc = .ok (.aload i, 2)) (hl : ls[i]? = some (.val (va_rf x)))
    (kk : W p l e R s m args below meth c H locs cells slots Q (F0 m (pc + 2) ls (va_rf x :: rest))) : W p l e R s m args below meth c H locs cells slots Q (F0 m pc ls rest) := by
  cases x with
  | none => exact lv_aloadN hexec hb hdg hl kk
  | some a => exact lv_aload hexec hb hdg hl kk
theorem vg_aload_n (hexec : p.tables.exec = Jvm.exec) (hb : c.code = cc) {k : Fin 4} {i : Nat} {x : Option Nat} (hdg : decode cc pc = .ok (.aload_n k, 1)) (hi : (k : Nat) = i) (hl : ls[i]? = some (.val (va_rf x)))
    (kk : W p l e R s m args below meth c H locs cells slots Q (F0 m (pc + 1) ls (va_rf x :: rest))) : W p l e R s m args below meth c H locs cells slots Q (F0 m pc ls rest) := by
  cases x with
  | none => exact lv_aload_nN hexec hb hdg hi hl kk
  | some a => exact lv_aload_n hexec hb hdg hi hl kk
theorem vg_istore (hexec : p.tables.exec = Jvm.exec) (hb : c.code = cc) {i : Nat} {x : Int32} (hdg : decode cc pc = .ok (.istore i, 2)) (h : vg_l ls nL lv) (hn : i < nL) (hl : (i, Value.int x) :: lv.filter (fun q => !(q.1 == i)) = lv')
    (kk : ∀ ls' : Array Slot, vg_l ls' nL lv' → W p l e R s m args below meth c H locs cells slots Q (F0 m (pc + 2) ls' rest)) : W p l e R s m args below meth c H locs cells slots Q (F0 m pc ls (.int x :: rest)) :=
  lv_istore hexec hb hdg h.1 hn (vg_lset h.2 hl) fun ls' h' => kk ls' ⟨h', vg_lcat h.2 rfl hl⟩
theorem vg_istore_n (hexec : p.tables.exec = Jvm.exec) (hb : c.code = cc) {k : Fin 4} {i : Nat} {x : Int32} (hdg : decode cc pc = .ok (.istore_n k, 1)) (hi : (k : Nat) = i) (h : vg_l ls nL lv) (hn : i < nL) (hl : (i, Value.int x) :: lv.filter (fun q => !(q.1 == i)) = lv')
    (kk : ∀ ls' : Array Slot, vg_l ls' nL lv' → W p l e R s m args below meth c H locs cells slots Q (F0 m (pc + 1) ls' rest)) : W p l e R s m args below meth c H locs cells slots Q (F0 m pc ls (.int x :: rest)) :=
  lv_istore_n hexec hb hdg hi h.1 hn (vg_lset h.2 hl) fun ls' h' => kk ls' ⟨h', vg_lcat h.2 rfl hl⟩
theorem vg_astore (hexec : p.tables.exec = Jvm.exec) (hb : c.code = cc) {i : Nat} {x : Option Nat} (hdg : decode cc pc = .ok (.astore i, 2)) (h : vg_l ls nL lv) (hn : i < nL) (hl : (i, va_rf x) :: lv.filter (fun q => !(q.1 == i)) = lv')
    (kk : ∀ ls' : Array Slot, vg_l ls' nL lv' → W p l e R s m args below meth c H locs cells slots Q (F0 m (pc + 2) ls' rest)) : W p l e R s m args below meth c H locs cells slots Q (F0 m pc ls (va_rf x :: rest)) := by
  cases x with
  | none => exact lv_astoreN hexec hb hdg h.1 hn (vg_lset h.2 hl) fun ls' h' => kk ls' ⟨h', vg_lcat h.2 rfl hl⟩
  | some a => exact lv_astore hexec hb hdg h.1 hn (vg_lset h.2 hl) fun ls' h' => kk ls' ⟨h', vg_lcat h.2 rfl hl⟩
theorem vg_astore_n (hexec : p.tables.exec = Jvm.exec) (hb : c.code = cc) {k : Fin 4} {i : Nat} {x : Option Nat} (hdg : decode cc pc = .ok (.astore_n k, 1)) (hi : (k : Nat) = i) (h : vg_l ls nL lv) (hn : i < nL) (hl : (i, va_rf x) :: lv.filter (fun q => !(q.1 == i)) = lv')
    (kk : ∀ ls' : Array Slot, vg_l ls' nL lv' → W p l e R s m args below meth c H locs cells slots Q (F0 m (pc + 1) ls' rest)) : W p l e R s m args below meth c H locs cells slots Q (F0 m pc ls (va_rf x :: rest)) := by
  cases x with
  | none => exact lv_astore_nN hexec hb hdg hi h.1 hn (vg_lset h.2 hl) fun ls' h' => kk ls' ⟨h', vg_lcat h.2 rfl hl⟩
  | some a => exact lv_astore_n hexec hb hdg hi h.1 hn (vg_lset h.2 hl) fun ls' h' => kk ls' ⟨h', vg_lcat h.2 rfl hl⟩
theorem vg_iinc (hexec : p.tables.exec = Jvm.exec) (hb : c.code = cc) {i k : Nat} {n : Int} {x v : Int32} (hdg : decode cc pc = .ok (.iinc i n, 3)) (h : vg_l ls nL lv) (hk : lv[k]? = some (i, .int x)) (hv : x + Int32.ofInt n = v) (hn : i < nL) (hl : (i, Value.int v) :: lv.filter (fun q => !(q.1 == i)) = lv')
    (kk : ∀ ls' : Array Slot, vg_l ls' nL lv' → W p l e R s m args below meth c H locs cells slots Q (F0 m (pc + 3) ls' rest)) : W p l e R s m args below meth c H locs cells slots Q (F0 m pc ls rest) :=
  lv_iinc hexec hb hdg h.1 hk hv hn (vg_lset h.2 hl) fun ls' h' => kk ls' ⟨h', vg_lcat h.2 rfl hl⟩
theorem vg_ifnull (hexec : p.tables.exec = Jvm.exec) (hb : c.code = cc) {x : Option Nat} {off : Int} {tgt : Nat} (hdg : decode cc pc = .ok (.ifnull off, 3)) (ht : (pc : Int) + off = (tgt : Int)) {α : Type} {A : α} {B : Nat → α} {r : α} (hf : vg_m x A B = r)
    (kt : x = none → A = r → W p l e R s m args below meth c H locs cells slots Q (F0 m tgt ls rest)) (kf : ∀ a, x = some a → B a = r → W p l e R s m args below meth c H locs cells slots Q (F0 m (pc + 3) ls rest)) : W p l e R s m args below meth c H locs cells slots Q (F0 m pc ls (va_rf x :: rest)) := by
  cases x with
  | none => exact lv_ifnullN hexec hb hdg ht (kt rfl hf)
  | some a => exact lv_ifnull hexec hb hdg (kf a rfl hf)
theorem vg_ifnonnull (hexec : p.tables.exec = Jvm.exec) (hb : c.code = cc) {x : Option Nat} {off : Int} {tgt : Nat} (hdg : decode cc pc = .ok (.ifnonnull off, 3)) (ht : (pc : Int) + off = (tgt : Int)) {α : Type} {A : α} {B : Nat → α} {r : α} (hf : vg_m x A B = r)
    (kt : ∀ a, x = some a → B a = r → W p l e R s m args below meth c H locs cells slots Q (F0 m tgt ls rest)) (kf : x = none → A = r → W p l e R s m args below meth c H locs cells slots Q (F0 m (pc + 3) ls rest)) : W p l e R s m args below meth c H locs cells slots Q (F0 m pc ls (va_rf x :: rest)) := by
  cases x with
  | none => exact lv_ifnonnullN hexec hb hdg (kf rfl hf)
  | some a => exact lv_ifnonnull hexec hb hdg ht (kt a rfl hf)
/-- entry index of own's pool is class ci; fs: its fields at the beginning -/
def vg_N (own : String) (index ci N : Nat) (fs : List Value) : Prop := ∃ (C : String) (T : u_T) (ty0 : Nat → FieldType), vg_Cl ci C T N ty0 ∧ Cond.classLink own index C ∈ vg_T ∧ Cond.instantiable C N ∈ vg_T ∧ Cond.initialized C ∈ vg_T ∧ ∀ j, j < N → defaultValue (ty0 j) = vp_V fs j
theorem vg_new (X : vg_X D cy H0 p s m args c cc own) (hH : vg_H D cy H0 μ H) {index ci N : Nat} {fs : List Value} (hS : vg_N own index ci N fs) (hdg : decode cc pc = .ok (.new index, 3)) {β : Type} {kont : Nat → vg_M → vg_R β} {r : β} (hf : vg_nw N μ.2.1 (vg_nO μ ci fs) kont = some (r, μ', cn, nn)) (hC : cells + cn = C0) (hN : slots + nn = N0) (hRc : C0 ≤ R.cells) (hRs : N0 ≤ R.slots)
    (kk : ∀ (q : Nat) (μ1 : vg_M) (c2 n2 : Nat) (H1 : Heap), kont q μ1 = some (r, μ', c2, n2) → cells + 1 + c2 = C0 → slots + N + n2 = N0 → vg_H D cy H0 μ1 H1 → W p l e R s m args below meth c H1 locs (cells + 1) (slots + N) Q (F0 m (pc + 3) ls (.ref q :: rest))) : W p l e R s m args below meth c H locs cells slots Q (F0 m pc ls rest) := by
  obtain ⟨hx, hb, hts, hown, hG⟩ := X
  have hK := hG.1
  obtain ⟨C, T, ty0, ⟨hc, hin, hty, hnm⟩, hcl, hins, hini, hfs⟩ := hS
  obtain ⟨c2, n2, hf2, rfl, rfl⟩ := vg_n_inv hf
  have hKn := hK.1 ci _ hc
  refine W.newcK hx hb hown (hts _ hcl) (hts _ hins) (hts _ hini) rfl hdg (by omega) (by omega) hKn.2.1 hH.1 fun H1 kC hkC e1 z1 o1 => ?_
  refine kk μ.2.1 _ c2 n2 H1 hf2 (by omega) (by omega) (hH.new (e := .inr (ci, fs)) ?_ z1 o1)
  exact ⟨_, hc, (u_born ty0 hts hin hKn hkC e1 hty).to hfs⟩
theorem vg_newa (X : vg_X D cy H0 p s m args c cc own) (hH : vg_H D cy H0 μ H) {atype : ArrayType} {t : Nat} {n : Int32} (harr : Cond.arrayClass (newarray.typeOf atype) ∈ vg_T) (hty : newarray.typeOf atype = vg_tyI t) (ht : t < 4) (hdg : decode cc pc = .ok (.newarray atype, 2)) {β : Type} {kont : Nat → vg_M → vg_R β} {r : β} (hf : vg_o (vg_len n) (fun N => vg_nw N μ.2.1 (vg_nA μ t N) kont) = some (r, μ', cn, nn)) (hC : cells + cn = C0) (hN : slots + nn = N0) (hRc : C0 ≤ R.cells) (hRs : N0 ≤ R.slots)
    (kk : ∀ (N q : Nat) (μ1 : vg_M) (c2 n2 : Nat) (H1 : Heap), kont q μ1 = some (r, μ', c2, n2) → cells + 1 + c2 = C0 → slots + N + n2 = N0 → vg_H D cy H0 μ1 H1 → W p l e R s m args below meth c H1 locs (cells + 1) (slots + N) Q (F0 m (pc + 2) ls (.ref q :: rest))) : W p l e R s m args below meth c H locs cells slots Q (F0 m pc ls (.int n :: rest)) := by
  obtain ⟨hx, hb, hts, hown, hG⟩ := X
  have hK := hG.1
  obtain ⟨N, h0, hf⟩ := vg_o_inv hf
  obtain ⟨hn, hNn, hle⟩ := vg_len_inv h0
  obtain ⟨c2, n2, hf2, rfl, rfl⟩ := vg_n_inv hf
  refine va_newaK hx hb (hts _ harr) rfl hdg rfl hn hNn ?_ (by omega) (by omega) hH.1 fun H1 cA e1 z1 o1 hAr hNm => ?_
  · have hcb : componentBytes (newarray.typeOf atype) ≤ 8 := by
      rw [hty]
      match t, ht with
      | 0, _ => decide
      | 1, _ => decide
      | 2, _ => decide
      | 3, _ => decide
    calc N * componentBytes (newarray.typeOf atype) ≤ 67108864 * 8 := Nat.mul_le_mul hle hcb
      _ = 536870912 := rfl
  · refine kk N μ.2.1 _ c2 n2 H1 hf2 (by omega) (by omega) (hH.new (e := .inl (t, N, .inl (fun _ => 0))) ?_ z1 o1)
    have hcA : cA = cy t := by
      rw [hty] at hNm
      match t, ht with
      | 0, _ => exact Option.some.inj (hNm.symm.trans (hK.2 0 _ rfl).2)
      | 1, _ => exact Option.some.inj (hNm.symm.trans (hK.2 1 _ rfl).2)
      | 2, _ => exact Option.some.inj (hNm.symm.trans (hK.2 2 _ rfl).2)
      | 3, _ => exact Option.some.inj (hNm.symm.trans (hK.2 3 _ rfl).2)
    subst hcA
    show H1[μ.2.1]? = some (vp_cell (cy t) (N, .inl (fun _ => 0)))
    rw [e1, hty, vp_cell_i]
    match t, ht with
    | 0, _ => rfl
    | 1, _ => rfl
    | 2, _ => rfl
    | 3, _ => rfl
theorem vg_reti (X : vg_X D cy H0 p s m args c cc own) (hr : meth.sig.returnType = some .int) (hlocks : meth.locks = false) (hH : vg_H D cy H0 μ H) (hL : ∀ z ∈ locs, H0.size ≤ z.base) (hdg : decode cc pc = .ok (.ireturn, 1)) {v r : Int32} (hf : vg_ret v μ = some (r, μ', cn, nn)) (hC : cells + cn = C0) (hN : slots + nn = N0) :
    W p l e R s m args below meth c H locs cells slots (MQ below (vg_Qc D cy H0 μ' (some (.int r))) args s C0 N0 (vg_fr H0)) (F0 m pc ls [.int v]) := by
  cases hf
  subst hC hN
  exact W.iret X.1 X.2.1 hr (fun t ht _ => ⟨rfl, by rw [ht]; exact hH⟩) hL hdg hlocks
theorem vg_retz (X : vg_X D cy H0 p s m args c cc own) {ty : FieldType} (hty : ty = .int ∨ ty = .boolean ∨ ty = .byte ∨ ty = .char ∨ ty = .short) (hr : meth.sig.returnType = some ty) (hlocks : meth.locks = false) (hH : vg_H D cy H0 μ H) (hL : ∀ z ∈ locs, H0.size ≤ z.base) (hdg : decode cc pc = .ok (.ireturn, 1)) {v r : Int32} (hf : vg_o (vg_z ty v) (fun v => vg_ret v μ) = some (r, μ', cn, nn)) (hC : cells + cn = C0) (hN : slots + nn = N0) :
    W p l e R s m args below meth c H locs cells slots (MQ below (vg_Qc D cy H0 μ' (some (.int r))) args s C0 N0 (vg_fr H0)) (F0 m pc ls [.int v]) := by
  obtain ⟨v', h0, hf2⟩ := vg_o_inv hf
  obtain ⟨hv, hz⟩ := vg_z_inv h0
  clear hf h0
  subst hv
  cases hf2
  subst hC hN
  exact W.zret X.1 X.2.1 hr (vg_fit hty hz).1 (fun t ht _ => ⟨rfl, by rw [ht]; exact hH⟩) hL hdg hlocks
theorem vg_retv (X : vg_X D cy H0 p s m args c cc own) (hr : meth.sig.returnType = none) (hlocks : meth.locks = false) (hH : vg_H D cy H0 μ H) (hL : ∀ z ∈ locs, H0.size ≤ z.base) (hdg : decode cc pc = .ok (.return_, 1)) {r : Unit} (hf : vg_ret () μ = some (r, μ', cn, nn)) (hC : cells + cn = C0) (hN : slots + nn = N0) :
    W p l e R s m args below meth c H locs cells slots (MQ below (vg_Qc D cy H0 μ' none) args s C0 N0 (vg_fr H0)) (F0 m pc ls []) := by
  cases hf
  subst hC hN
  exact W.vret X.1 X.2.1 hr (fun t ht _ => ⟨rfl, by rw [ht]; exact hH⟩) hL hdg hlocks
theorem vg_reta (X : vg_X D cy H0 p s m args c cc own) {rt : FieldType} (hrt : (∃ n, rt = .object n) ∨ ∃ t, rt = .array t) (hr : meth.sig.returnType = some rt) (hlocks : meth.locks = false) (hH : vg_H D cy H0 μ H) (hL : ∀ z ∈ locs, H0.size ≤ z.base) (hdg : decode cc pc = .ok (.areturn, 1)) {v r : Option Nat} (hf : vg_ret v μ = some (r, μ', cn, nn)) (hC : cells + cn = C0) (hN : slots + nn = N0) :
    W p l e R s m args below meth c H locs cells slots (MQ below (vg_Qc D cy H0 μ' (some (va_rf r))) args s C0 N0 (vg_fr H0)) (F0 m pc ls [va_rf v]) := by
  cases hf
  subst hC hN
  exact W.aret X.1 X.2.1 hr hrt (by cases v <;> simp [va_rf]) (fun t ht _ => ⟨rfl, by rw [ht]; exact hH⟩) hL hdg hlocks
/-- the words of a call -/
def vg_CV (own : String) (index : Nat) (C : String) (y : MethodName) (bytes : ByteArray) (maxL : Nat) (ret : Option FieldType) (n : Nat) : Prop := Cond.methodLink own index y ∈ vg_T ∧ Cond.instanceMethod y ∈ vg_T ∧ Cond.selects C y y ∈ vg_T ∧ Cond.initialized C ∈ vg_T ∧ Cond.code y bytes maxL ret ∈ vg_T ∧
  (y.cls = C ∧ y.cls ≠ "java/lang/invoke/MethodHandle" ∧ y.cls ≠ "java/lang/invoke/VarHandle" ∧ (parseMethodDescriptor y.desc).map (fun d => d.parameters.length) = some n) ∧ maxL ≤ 41
def vg_CS (own : String) (index : Nat) (y : MethodName) (bytes : ByteArray) (maxL : Nat) (ret : Option FieldType) (n : Nat) : Prop := Cond.methodLink own index y ∈ vg_T ∧ Cond.static y ∈ vg_T ∧ Cond.initialized y.cls ∈ vg_T ∧ Cond.code y bytes maxL ret ∈ vg_T ∧
  (y.cls ≠ "java/lang/invoke/MethodHandle" ∧ y.cls ≠ "java/lang/invoke/VarHandle" ∧ (parseMethodDescriptor y.desc).map (fun d => d.parameters.length) = some n) ∧ maxL ≤ 41
def vg_CI (own : String) (index : Nat) (y : MethodName) (bytes : ByteArray) (maxL : Nat) (n : Nat) : Prop := Cond.methodLink own index y ∈ vg_T ∧ Cond.instanceMethod y ∈ vg_T ∧ Cond.initialized y.cls ∈ vg_T ∧ Cond.code y bytes maxL none ∈ vg_T ∧ y.name = "<init>" ∧
  (y.cls ≠ "java/lang/invoke/MethodHandle" ∧ y.cls ≠ "java/lang/invoke/VarHandle" ∧ (parseMethodDescriptor y.desc).map (fun d => d.parameters.length) = some n) ∧ maxL ≤ 41
theorem vg_goodT {w : Cond} (h : w ∈ vg_T) : GoodIn vg_T [w] := fun x hx => by rw [List.mem_singleton.mp hx]; exact ⟨h, good_of_word (vg_Tgood w h)⟩
theorem vg_goodC {w : Cond} (h : w ∈ vg_T) : GoodIn vg_T (w :: vg_T) := fun x hx => by
  rcases List.mem_cons.mp hx with rfl | hx
  · exact ⟨h, good_of_word (vg_Tgood _ h)⟩
  · exact ⟨hx, good_of_word (vg_Tgood _ hx)⟩
theorem vg_after {mc ms : Nat} {st0 : List Value} {μ1 : vg_M} {rv : Option Value} {av : Array Value} (hr : va_Run p l e R s m args below meth c H locs cells slots mc ms (F0 m pc ls st0) rest (vg_Qc D cy H0 μ1 rv av) (vg_fr H0)) (hL : ∀ z ∈ locs, H0.size ≤ z.base)
    (kk : ∀ (H1 : Heap) (locs1 : List Loc), vg_H D cy H0 μ1 H1 → (∀ z ∈ locs1, H0.size ≤ z.base) → W p l e R s m args below meth c H1 locs1 (cells + mc) (slots + ms) Q (F0 m (pc + 3) ls (rv.toList ++ rest))) : W p l e R s m args below meth c H locs cells slots Q (F0 m pc ls st0) := by
  intro T hT X
  obtain ⟨v, st₀, t, T', L, h0, X', hL', e1, e2, ⟨hv, hh⟩, st⟩ := hr T hT X
  cases hv
  obtain ⟨t2, a1, b1⟩ := kk T'.heap (locs ++ L) (by rw [e1]; exact hh) (fun q hq => by
      rcases List.mem_append.mp hq with h | h
      · exact hL q h
      · exact hL' q h) T' rfl X'
  exact ⟨t2, st t2 a1, b1⟩
theorem vg_callV (X : vg_X D cy H0 p s m args c cc own) (hml : c.maxLocals = nL) (hl : vg_l ls nL lv) (hH : vg_H D cy H0 μ H) (hL : ∀ z ∈ locs, H0.size ≤ z.base) {index ci maxL n h : Nat} {C : String} {y : MethodName} {bytes : ByteArray} {ret : Option FieldType} (hS : vg_CV own index C y bytes maxL ret n) {T : u_T} {N : Nat} (hci : vwCl[ci]? = some (C, T, N))
    (As : List Value) (hn : As.length = n) {st0 : List Value} (hst : st0 = As.reverse ++ .ref a :: rest) (hcat : (rest.map fun v => v.category).sum ≤ 8) (hdg : decode cc pc = .ok (.invokevirtual index, 3))
    {α β : Type} {fy : vg_R α} {kont : α → vg_M → vg_R β} {r : β} (hf : vg_cv ci a μ fy kont = some (r, μ', cn, nn)) (hC : cells + cn = C0) (hN : slots + nn = N0) (hRc : C0 ≤ R.cells) (hRs : N0 ≤ R.slots) (hRf : h + 1 ≤ R.frames) (hRl : 60 * (h + 1) ≤ R.locals) (rv : α → Option Value)
    (hM : ∀ (x : α) (μ1 : vg_M) (c1 n1 : Nat), fy = some (x, μ1, c1, n1) → vg_Met l D cy H0 y bytes maxL ret h μ (.ref a :: As) (rv x) μ1 c1 n1)
    (kk : ∀ (x : α) (μ1 : vg_M) (c1 n1 c2 n2 : Nat) (H1 : Heap) (locs1 : List Loc), kont x μ1 = some (r, μ', c2, n2) → cells + c1 + c2 = C0 → slots + n1 + n2 = N0 → vg_H D cy H0 μ1 H1 → (∀ z ∈ locs1, H0.size ≤ z.base) → W p l e R s m args below meth c H1 locs1 (cells + c1) (slots + n1) Q (F0 m (pc + 3) ls ((rv x).toList ++ rest))) : W p l e R s m args below meth c H locs cells slots Q (F0 m pc ls st0) := by
  subst hst
  obtain ⟨hx, hb, hts, hown, hG⟩ := X
  have hK := hG.1
  obtain ⟨hmk, hins, hsel, hini, hcode, hd, hmx⟩ := hS
  obtain ⟨fs, hrc, hf⟩ := vg_cv_inv hf
  obtain ⟨x, μ1, c1, n1, c2, n2, hfy, hf2, rfl, rfl⟩ := vg_b_inv hf
  have hrecv := vgw_recv hK (hH.rd hrc) hci
  have hGd : GoodIn vg_T (wsV own index C y (Cond.code y bytes maxL ret :: vg_T)) := by
    intro w hw
    have hw' : w ∈ ([.methodLink own index y, .instanceMethod y, .selects C y y, .initialized C] : List Cond) ++ (Cond.code y bytes maxL ret :: vg_T) := hw
    rcases List.mem_append.mp hw' with h1 | h1
    · simp only [List.mem_cons, List.not_mem_nil, or_false] at h1
      rcases h1 with rfl | rfl | rfl | rfl
      · exact vg_goodT hmk _ List.mem_cons_self
      · exact vg_goodT hins _ List.mem_cons_self
      · exact vg_goodT hsel _ List.mem_cons_self
      · exact vg_goodT hini _ List.mem_cons_self
    · exact vg_goodC hcode w h1
  refine vg_after (va_runV (As := As) (rest := rest) ⟨hx, hb, hml, hown, hts⟩ (hM x μ1 c1 n1 hfy) (cwV n hts hGd rfl rfl rfl hd ⟨?_, ?_⟩) ⟨vg_blind, hrecv, fun U hU hW => ⟨rfl, by rw [hU]; exact hH, hG.warm hW⟩⟩ rfl hn hl.1.1 rfl ?_ hdg ⟨by omega, by omega⟩) hL (fun H1 locs1 h1 h2 => kk x μ1 c1 n1 c2 n2 H1 locs1 hf2 (by omega) (by omega) h1 h2)
  · exact hRf
  · show 8 + (maxL + 11) + 60 * h ≤ R.locals
    omega
  · exact lv_room hcat
theorem vg_callS (X : vg_X D cy H0 p s m args c cc own) (hml : c.maxLocals = nL) (hl : vg_l ls nL lv) (hH : vg_H D cy H0 μ H) (hL : ∀ z ∈ locs, H0.size ≤ z.base) {index maxL n h : Nat} {y : MethodName} {bytes : ByteArray} {ret : Option FieldType} (hS : vg_CS own index y bytes maxL ret n)
    (As : List Value) (hn : As.length = n) {st0 : List Value} (hst : st0 = As.reverse ++ rest) (hcat : (rest.map fun v => v.category).sum ≤ 8) (hdg : decode cc pc = .ok (.invokestatic index, 3))
    {α β : Type} {fy : vg_R α} {kont : α → vg_M → vg_R β} {r : β} (hf : vg_b fy kont = some (r, μ', cn, nn)) (hC : cells + cn = C0) (hN : slots + nn = N0) (hRc : C0 ≤ R.cells) (hRs : N0 ≤ R.slots) (hRf : h + 1 ≤ R.frames) (hRl : 60 * (h + 1) ≤ R.locals) (rv : α → Option Value)
    (hM : ∀ (x : α) (μ1 : vg_M) (c1 n1 : Nat), fy = some (x, μ1, c1, n1) → vg_Met l D cy H0 y bytes maxL ret h μ As (rv x) μ1 c1 n1)
    (kk : ∀ (x : α) (μ1 : vg_M) (c1 n1 c2 n2 : Nat) (H1 : Heap) (locs1 : List Loc), kont x μ1 = some (r, μ', c2, n2) → cells + c1 + c2 = C0 → slots + n1 + n2 = N0 → vg_H D cy H0 μ1 H1 → (∀ z ∈ locs1, H0.size ≤ z.base) → W p l e R s m args below meth c H1 locs1 (cells + c1) (slots + n1) Q (F0 m (pc + 3) ls ((rv x).toList ++ rest))) : W p l e R s m args below meth c H locs cells slots Q (F0 m pc ls st0) := by
  subst hst
  obtain ⟨hx, hb, hts, hown, hG⟩ := X
  have hK := hG.1
  obtain ⟨hmk, hstt, hini, hcode, hd, hmx⟩ := hS
  obtain ⟨x, μ1, c1, n1, c2, n2, hfy, hf2, rfl, rfl⟩ := vg_b_inv hf
  refine vg_after (va_runS (As := As) (rest := rest) ⟨hx, hb, hml, hown, hts⟩ (hM x μ1 c1 n1 hfy) ⟨callB_of n hts (vg_goodC hcode) rfl rfl rfl (hts _ hini) (hts _ hmk) hd ⟨?_, ?_⟩, hts _ hstt⟩ ⟨vg_blind, fun U hU hW => ⟨rfl, by rw [hU]; exact hH, hG.warm hW⟩⟩ rfl hn hl.1.1 rfl ?_ hdg ⟨by omega, by omega⟩) hL (fun H1 locs1 h1 h2 => kk x μ1 c1 n1 c2 n2 H1 locs1 hf2 (by omega) (by omega) h1 h2)
  · exact hRf
  · show 8 + (maxL + 11) + 60 * h ≤ R.locals
    omega
  · exact lv_room hcat
theorem vg_callI (X : vg_X D cy H0 p s m args c cc own) (hml : c.maxLocals = nL) (hl : vg_l ls nL lv) (hH : vg_H D cy H0 μ H) (hL : ∀ z ∈ locs, H0.size ≤ z.base) {index maxL n h : Nat} {y : MethodName} {bytes : ByteArray} (hS : vg_CI own index y bytes maxL n)
    (As : List Value) (hn : As.length = n) {st0 : List Value} (hst : st0 = As.reverse ++ .ref a :: rest) (hcat : (rest.map fun v => v.category).sum ≤ 8) (hdg : decode cc pc = .ok (.invokespecial index, 3))
    {α β : Type} {fy : vg_R α} {kont : α → vg_M → vg_R β} {r : β} (hf : vg_b fy kont = some (r, μ', cn, nn)) (hC : cells + cn = C0) (hN : slots + nn = N0) (hRc : C0 ≤ R.cells) (hRs : N0 ≤ R.slots) (hRf : h + 1 ≤ R.frames) (hRl : 60 * (h + 1) ≤ R.locals)
    (hM : ∀ (x : α) (μ1 : vg_M) (c1 n1 : Nat), fy = some (x, μ1, c1, n1) → vg_Met l D cy H0 y bytes maxL none h μ (.ref a :: As) none μ1 c1 n1)
    (kk : ∀ (x : α) (μ1 : vg_M) (c1 n1 c2 n2 : Nat) (H1 : Heap) (locs1 : List Loc), kont x μ1 = some (r, μ', c2, n2) → cells + c1 + c2 = C0 → slots + n1 + n2 = N0 → vg_H D cy H0 μ1 H1 → (∀ z ∈ locs1, H0.size ≤ z.base) → W p l e R s m args below meth c H1 locs1 (cells + c1) (slots + n1) Q (F0 m (pc + 3) ls rest)) : W p l e R s m args below meth c H locs cells slots Q (F0 m pc ls st0) := by
  subst hst
  obtain ⟨hx, hb, hts, hown, hG⟩ := X
  have hK := hG.1
  obtain ⟨hmk, hins, hini, hcode, hnm, hd, hmx⟩ := hS
  obtain ⟨x, μ1, c1, n1, c2, n2, hfy, hf2, rfl, rfl⟩ := vg_b_inv hf
  refine vg_after (va_runI (As := As) (rest := rest) ⟨hx, hb, hml, hown, hts⟩ (hM x μ1 c1 n1 hfy) ⟨callB_of n hts (vg_goodC hcode) rfl rfl rfl (hts _ hini) (hts _ hmk) hd ⟨?_, ?_⟩, hnm, hts _ hins⟩ ⟨vg_blind, fun U hU hW => ⟨rfl, by rw [hU]; exact hH, hG.warm hW⟩⟩ rfl hn hl.1.1 rfl ?_ hdg ⟨by omega, by omega⟩) hL (fun H1 locs1 h1 h2 => kk x μ1 c1 n1 c2 n2 H1 locs1 hf2 (by omega) (by omega) h1 h2)
  · exact hRf
  · show 8 + (maxL + 11) + 60 * h ≤ R.locals
    omega
  · exact lv_room hcat
end VG
section VGS
variable {l : Launch} {D : va_G} {cy : Nat → ClassId} {H0 : Heap} {μ μ' : vg_M}
/-- a contract by a walk -/
theorem vg_start {y : MethodName} {bytes : ByteArray} {maxL h c1 n1 : Nat} {ret : Option FieldType} {av : List Value} {rv : Option Value} (hy : plainName y.cls = true) (hav : ∀ v ∈ av, v.category = 1) (hlen : av.length ≤ maxL)
    (body : ∀ (p : Program) (e : Env) (s : State) (m : MethodId) (below : List Frame) (meth : Method) (c : Code) (ls : Array Slot), vg_X D cy H0 p s m av.toArray c bytes y.cls → c.maxLocals = maxL → meth.sig.returnType = ret → meth.locks = false → meth.name = y.name → vg_H D cy H0 μ s.heap → vg_l ls maxL ((av.zipIdx 0).map (fun q => (q.2, q.1))) →
      W p l e (vg_rm h c1 n1) s m av.toArray below meth c s.heap [] 0 0 (MQ below (vg_Qc D cy H0 μ' rv) av.toArray s c1 n1 (vg_fr H0)) (F0 m 0 ls [])) : vg_Met l D cy H0 y bytes maxL ret h μ av rv μ' c1 n1 := by
  refine Met.ofW (cc := bytes) (maxL := maxL) (ret := ret) hy rfl ?_
  intro p e s m args below meth c s₁ B hml hv
  obtain ⟨rfl, hH, hK⟩ := hv
  have hts := atoms_spec (ws := Cond.code y bytes maxL ret :: vg_T) B.pre
  have hown : s.vm.findClass y.cls = some m.cls := findClass_of_methodNamed B.named
  have hl := lv_entry av (n := maxL) (by rw [vg_sl av hav]; exact hlen)
  rw [lg_entry_eq]
  rw [vg_largs av hav] at hl
  exact body p e s m below meth c _ ⟨B.exec, B.bytes, fun w hw => hts w (List.mem_cons_of_mem _ hw), hown, hK⟩ hml B.returns B.notSynchronized (name_of_methodNamed B.named B.method).1 hH ⟨hl, fun q hq => by
    obtain ⟨z, hz, rfl⟩ := List.mem_map.mp hq
    exact hav z.1 (List.fst_mem_of_mem_zipIdx hz)⟩
end VGS
