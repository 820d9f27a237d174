/-! Rows: constants, statics, casts, nest mates, calls of superclasses' methods, arrays of references, copies. -/
def vg_k {β : Type} (μ : vg_M) (i : Nat) (f : Nat → vg_R β) : vg_R β := f (μ.2.2.2 i)
def vg_kq {β : Type} (μ : vg_M) (i : Nat) (f : Option Nat → vg_R β) : vg_R β := f (vg_dec (μ.2.2.2 i))
/-- the object x is null or of class ci -/
def vg_ck {β : Type} (μ : vg_M) (x : Option Nat) (ci : Nat) (f : vg_R β) : vg_R β := match x with
  | none => f
  | some a => match μ.1 a with
    | some (.inr o) => if o.1 = ci then f else none
    | _ => none
/-- a is an array of kind t -/
def vg_cka {β : Type} (μ : vg_M) (a t : Nat) (f : vg_R β) : vg_R β := match μ.1 a with
  | some (.inl o) => if o.1 = t ∧ (t = 5 ∨ μ.2.2.1 ≤ a) then f else none
  | _ => none
def vg_is {β : Type} (μ : vg_M) (x : Option Nat) (ci : Nat) (f : Int32 → vg_R β) : vg_R β := match x with
  | none => f 0
  | some a => match μ.1 a with
    | some (.inr o) => if o.1 = ci then f 1 else none
    | _ => none
/-- a store into an array of objects: null, or an object of the worlds -/
def vg_sR (μ : vg_M) (a : Nat) (i : Int32) (x : Option Nat) : Option vg_M := match μ.1 a with
  | some (.inl (t', n, .inr (.inr (.inr (.inr f))))) => if t' = 5 ∧ μ.2.2.1 ≤ a then (match vg_ix i n with
    | some j => (match x with
      | none => some (va_up μ.1 a (some (.inl (t', n, .inr (.inr (.inr (.inr (va_up f j none))))))), μ.2)
      | some y => (match μ.1 y with
        | some (.inr o) => if o.1 = 4 ∨ o.1 = 5 ∨ o.1 = 7 ∨ o.1 = 9 ∨ o.1 = 10 then some (va_up μ.1 a (some (.inl (t', n, .inr (.inr (.inr (.inr (va_up f j (some y)))))))), μ.2) else none
        | _ => none))
    | none => none) else none
  | _ => none
/-- a new array of nulls -/
def vg_nR (μ : vg_M) (n : Nat) : vg_M := (va_up μ.1 μ.2.1 (some (.inl (5, n, .inr (.inr (.inr (.inr (fun _ => none))))))), μ.2.1 + 1, μ.2.2)
theorem vg_cka_inv {β : Type} {μ : vg_M} {a t : Nat} {f : vg_R β} {r : β × vg_M × Nat × Nat} (h : vg_cka μ a t f = some r) : (∃ x : vp_A, μ.1 a = some (.inl (t, x))) ∧ (t = 5 ∨ μ.2.2.1 ≤ a) ∧ f = some r := by
  unfold vg_cka at h
  split at h
  · next o ho =>
    split at h
    · next hc => exact ⟨⟨o.2, by rw [ho, ← hc.1]⟩, hc.2, h⟩
    · cases h
  · cases h
theorem vg_sR_inv {μ μ' : vg_M} {a : Nat} {i : Int32} {x : Option Nat} (h : vg_sR μ a i x = some μ') : ∃ (n : Nat) (f : Nat → Option Nat), μ.1 a = some (.inl (5, n, .inr (.inr (.inr (.inr f))))) ∧ vp_in i n ∧ μ.2.2.1 ≤ a ∧
    (∀ y, x = some y → ∃ (ci : Nat) (fs : List Value), (ci = 4 ∨ ci = 5 ∨ ci = 7 ∨ ci = 9 ∨ ci = 10) ∧ μ.1 y = some (.inr (ci, fs))) ∧ μ' = (va_up μ.1 a (some (.inl (5, n, .inr (.inr (.inr (.inr (va_up f i.toNatClampNeg x))))))), μ.2) := by
  unfold vg_sR at h
  split at h
  · next t' n f hq =>
    split at h
    · next ht =>
      obtain ⟨ht, ha⟩ := ht
      subst ht
      split at h
      · next j hj =>
        obtain ⟨h1, rfl⟩ := vg_ix_inv hj
        split at h
        · cases h
          exact ⟨n, f, hq, h1, ha, fun y hy => (nomatch hy), rfl⟩
        · next y =>
          split at h
          · next o ho =>
            split at h
            · next hc =>
              cases h
              exact ⟨n, f, hq, h1, ha, fun y' hy => by cases hy; exact ⟨o.1, o.2, hc, ho⟩, rfl⟩
            · cases h
          · cases h
      · cases h
    · cases h
  · cases h
section VG
variable {p : Program} {l : Launch} {e : Env} {R : Room} {s : State} {m : MethodId} {args : Array Value} {below : List Frame} {meth : Method} {c : Code} {H : Heap} {locs : List Loc} {cells slots : Nat} {Q : State → Prop}
variable {cc : ByteArray} {pc : Nat} {ls : Array Slot} {rest : List Value} {D : va_G} {cy : Nat → ClassId} {H0 : Heap} {μ μ' : vg_M} {own : String} {a cn nn C0 N0 nL : Nat} {lv lv' : List (Nat × Value)}
theorem vg_ldcS (X : vg_X D cy H0 p s m args c cc own) (hH : vg_H D cy H0 μ H) {index i : Nat} {tx : String} (hlit : (own, index, tx, i) ∈ vg_lits) (hdg : decode cc pc = .ok (.ldc index, 2)) {β : Type} {kont : Nat → vg_R β} {res : β × vg_M × Nat × Nat} (hf : vg_k μ i kont = some res)
    (kk : ∀ x : Nat, kont x = some res → W p l e R s m args below meth c H locs cells slots Q (F0 m (pc + 2) ls (.ref x :: rest))) : W p l e R s m args below meth c H locs cells slots Q (F0 m pc ls rest) := by
  obtain ⟨hx, hb, hts, hown, hG⟩ := X
  have e := hH.2.2.2.2.2 i
  refine va_ldcS hx hb hown (hG.2.1 _ hlit) hdg ?_
  rw [← e]
  exact kk _ hf
theorem vg_gets (X : vg_X D cy H0 p s m args c cc own) (hH : vg_H D cy H0 μ H) {C n d : String} {v : Value} {index : Nat} (hZ : va_Z C n d v (vg_fr H0) s H0) (hlink : Cond.fieldLink own index C n d ∈ vg_T) (hdg : decode cc pc = .ok (.getstatic index, 3))
    (kk : W p l e R s m args below meth c H locs cells slots Q (F0 m (pc + 3) ls (v :: rest))) : W p l e R s m args below meth c H locs cells slots Q (F0 m pc ls rest) := by
  obtain ⟨hx, hb, hts, hown, hG⟩ := X
  obtain ⟨cf, kf, fi, f, a, cell, h1, h2, h3, h4, h5, h6, h7, h8⟩ := hZ
  exact W.gets hx hb hown (hts _ hlink) h1 h2 h3 h4 (by rw [hH.2.2.2.2.1 a (Nat.not_le.mp h8)]; exact h5) (fun e => by rw [e] at h6; cases h6) h7 rfl hdg kk
theorem vg_gsC (X : vg_X D cy H0 p s m args c cc own) (hH : vg_H D cy H0 μ H) {index : Nat} (hlink : Cond.fieldLink own index "java/lang/String" "COMPACT_STRINGS" "Z" ∈ vg_T) (hdg : decode cc pc = .ok (.getstatic index, 3))
    (kk : W p l e R s m args below meth c H locs cells slots Q (F0 m (pc + 3) ls (.int 1 :: rest))) : W p l e R s m args below meth c H locs cells slots Q (F0 m pc ls rest) :=
  vg_gets X hH X.2.2.2.2.2.2.1 hlink hdg kk
theorem vg_gsF (X : vg_X D cy H0 p s m args c cc own) (hH : vg_H D cy H0 μ H) {index : Nat} (hlink : Cond.fieldLink own index "jdk/internal/util/Preconditions" "SIOOBE_FORMATTER" "Ljava/util/function/BiFunction;" ∈ vg_T) (hdg : decode cc pc = .ok (.getstatic index, 3)) {β : Type} {kont : Option Nat → vg_R β} {res : β × vg_M × Nat × Nat} (hf : vg_kq μ 30 kont = some res)
    (kk : ∀ x : Option Nat, kont x = some res → W p l e R s m args below meth c H locs cells slots Q (F0 m (pc + 3) ls (va_rf x :: rest))) : W p l e R s m args below meth c H locs cells slots Q (F0 m pc ls rest) := by
  refine vg_gets X hH X.2.2.2.2.2.2.2.1 hlink hdg ?_
  rw [← hH.2.2.2.2.2 30]
  exact kk _ hf
theorem vg_gsE (X : vg_X D cy H0 p s m args c cc own) (hH : vg_H D cy H0 μ H) {index : Nat} (hlink : Cond.fieldLink own index "java/util/ArrayList" "DEFAULTCAPACITY_EMPTY_ELEMENTDATA" "[Ljava/lang/Object;" ∈ vg_T) (hdg : decode cc pc = .ok (.getstatic index, 3)) {β : Type} {kont : Nat → vg_R β} {res : β × vg_M × Nat × Nat} (hf : vg_k μ 31 kont = some res)
    (kk : ∀ x : Nat, kont x = some res → W p l e R s m args below meth c H locs cells slots Q (F0 m (pc + 3) ls (.ref x :: rest))) : W p l e R s m args below meth c H locs cells slots Q (F0 m pc ls rest) := by
  refine vg_gets X hH X.2.2.2.2.2.2.2.2.1 hlink hdg ?_
  rw [← hH.2.2.2.2.2 31]
  exact kk _ hf
theorem vg_castC (X : vg_X D cy H0 p s m args c cc own) (hH : vg_H D cy H0 μ H) {index ci : Nat} {C : String} {T : u_T} {N : Nat} (hci : vwCl[ci]? = some (C, T, N)) (hlink : Cond.classLink own index C ∈ vg_T) {x : Option Nat} (hdg : decode cc pc = .ok (.checkcast index, 3)) {β : Type} {kont : vg_R β} {res : β × vg_M × Nat × Nat} (hf : vg_ck μ x ci kont = some res)
    (kk : kont = some res → W p l e R s m args below meth c H locs cells slots Q (F0 m (pc + 3) ls (va_rf x :: rest))) : W p l e R s m args below meth c H locs cells slots Q (F0 m pc ls (va_rf x :: rest)) := by
  obtain ⟨hx, hb, hts, hown, hG⟩ := X
  cases x with
  | none => exact lv_castN hx hb hdg (kk hf)
  | some a =>
    unfold vg_ck at hf
    split at hf
    · next h => cases h
    · next a' h =>
      cases h
      split at hf
      · next o ho =>
        split at hf
        · next hc =>
          have hrecv := vgw_recv (ci := ci) (fs := o.2) hG.1 (hH.rd (e := .inr (ci, o.2)) (by rw [← hc]; exact ho)) hci
          exact va_castE hx hb hown (hts _ hlink) hrecv hdg (kk hf)
        · cases hf
      · cases hf
theorem vg_instC (X : vg_X D cy H0 p s m args c cc own) (hH : vg_H D cy H0 μ H) {index ci : Nat} {C : String} {T : u_T} {N : Nat} (hci : vwCl[ci]? = some (C, T, N)) (hlink : Cond.classLink own index C ∈ vg_T) {x : Option Nat} (hdg : decode cc pc = .ok (.instanceof index, 3)) {β : Type} {kont : Int32 → vg_R β} {res : β × vg_M × Nat × Nat} (hf : vg_is μ x ci kont = some res)
    (kk : ∀ z : Int32, kont z = some res → W p l e R s m args below meth c H locs cells slots Q (F0 m (pc + 3) ls (.int z :: rest))) : W p l e R s m args below meth c H locs cells slots Q (F0 m pc ls (va_rf x :: rest)) := by
  obtain ⟨hx, hb, hts, hown, hG⟩ := X
  cases x with
  | none => exact lv_instN hx hb hdg (kk _ hf)
  | some a =>
    unfold vg_is at hf
    split at hf
    · next h => cases h
    · next a' h =>
      cases h
      split at hf
      · next o ho =>
        split at hf
        · next hc =>
          have hrecv := vgw_recv (ci := ci) (fs := o.2) hG.1 (hH.rd (e := .inr (ci, o.2)) (by rw [← hc]; exact ho)) hci
          exact va_instE hx hb hown (hts _ hlink) hrecv hdg (kk _ hf)
        · cases hf
      · cases hf
theorem vg_castB (X : vg_X D cy H0 p s m args c cc own) (hH : vg_H D cy H0 μ H) {index : Nat} (hlink : Cond.classLink own index "[B" ∈ vg_T) (hdg : decode cc pc = .ok (.checkcast index, 3)) {β : Type} {kont : vg_R β} {res : β × vg_M × Nat × Nat} (hf : vg_cka μ a 0 kont = some res)
    (kk : kont = some res → W p l e R s m args below meth c H locs cells slots Q (F0 m (pc + 3) ls (.ref a :: rest))) : W p l e R s m args below meth c H locs cells slots Q (F0 m pc ls (.ref a :: rest)) := by
  obtain ⟨hx, hb, hts, hown, hG⟩ := X
  obtain ⟨⟨x, h1⟩, hn, hf⟩ := vg_cka_inv hf
  have hat : va_at D vwCl (a, .inl (cy 0, x)) H := hH.ex h1 (hn.resolve_left (by decide))
  exact va_castA (D := D) (cl := vwCl) (ws := [(a, .inl (cy 0, x))]) hx hb hown (hts _ hlink) (vg_one hat) 0 rfl (hG.1.2 0 _ rfl).2 hdg (kk hf)
theorem vg_castO (X : vg_X D cy H0 p s m args c cc own) (hH : vg_H D cy H0 μ H) {index : Nat} (hlink : Cond.classLink own index "[Ljava/lang/Object;" ∈ vg_T) (hdg : decode cc pc = .ok (.checkcast index, 3)) {β : Type} {kont : vg_R β} {res : β × vg_M × Nat × Nat} (hf : vg_cka μ a 5 kont = some res)
    (kk : kont = some res → W p l e R s m args below meth c H locs cells slots Q (F0 m (pc + 3) ls (.ref a :: rest))) : W p l e R s m args below meth c H locs cells slots Q (F0 m pc ls (.ref a :: rest)) := by
  obtain ⟨hx, hb, hts, hown, hG⟩ := X
  obtain ⟨⟨x, h1⟩, -, hf⟩ := vg_cka_inv hf
  obtain ⟨cell, g1, g2, g3, g4, -⟩ := hH.rd h1
  have g4 : cell.cls = cy 5 := g4.resolve_right (fun q => absurd (show (5 : Nat) = 0 from q.1) (by decide))
  exact vgw_cast hx hb hown (hts _ hlink) ⟨cell, g1, g3, g4⟩ (va_nmO (hG.1.2 5 _ rfl).2 rfl) hdg (kk hf)
theorem vg_aast (X : vg_X D cy H0 p s m args c cc own) (hH : vg_H D cy H0 μ H) (hL : ∀ z ∈ locs, H0.size ≤ z.base) {i : Int32} {x : Option Nat} (hdg : decode cc pc = .ok (.aastore, 1)) {β : Type} {kont : vg_M → vg_R β} {res : β × vg_M × Nat × Nat} (hf : vg_o (vg_sR μ a i x) kont = some res)
    (kk : ∀ (μ1 : vg_M) (H1 : Heap) (locs1 : List Loc), kont μ1 = some res → vg_H D cy H0 μ1 H1 → (∀ z ∈ locs1, H0.size ≤ z.base) → W p l e R s m args below meth c H1 locs1 cells slots Q (F0 m (pc + 1) ls rest)) : W p l e R s m args below meth c H locs cells slots Q (F0 m pc ls (va_rf x :: .int i :: .ref a :: rest)) := by
  obtain ⟨hx, hb, hts, hown, hG⟩ := X
  have hK := hG.1
  obtain ⟨μ1, h0, hf⟩ := vg_o_inv hf
  obtain ⟨n, f, h1, hin, ha, hel, rfl⟩ := vg_sR_inv h0
  have hat : va_at D vwCl (a, .inl (cy 5, n, .inr (.inr (.inr (.inr f))))) H := hH.ex h1 ha
  have hlt : i.toNatClampNeg < n := Nat.not_le.mp fun q => hin (Or.inr q)
  have hi0 : ¬ i < 0 := fun q => hin (Or.inl q)
  obtain ⟨kA, comp, k1, k2, k3, -⟩ := (hK.2 5 _ rfl).2
  obtain ⟨kE, hkE, -⟩ := Vm.findClass_spec k3
  have fin : ∀ (H1 : Heap), H1[a]? = some ((vp_cell (cy 5) (n, .inr (.inr (.inr (.inr f))))).setSlot i.toNatClampNeg (va_rf x)) → va_at D vwCl (a, vg_c cy (.inl (5, n, .inr (.inr (.inr (.inr (va_up f i.toNatClampNeg x))))))) H1 := by
    intro H1 e
    show H1[a]? = some (vp_cell (cy 5) (n, .inr (.inr (.inr (.inr (va_up f i.toNatClampNeg x))))))
    rw [e, vp_cell_q, vp_cell_q, arrV_store]
    congr 2
    funext q
    by_cases hq : q = i.toNatClampNeg
    · subst hq
      simp [updV, va_up]
    · simp [updV, va_up, hq]
  cases x with
  | none =>
    refine va_WaastN hx hb hat ((hK.2 5 _ rfl).1 n (fun j => va_rf (f j))) (fun q => by cases q) (by show ¬ (i < 0 ∨ (arrV _ _ _).slots.size ≤ _); rw [arrV_size]; exact hin) rfl rfl hdg fun H1 e z oq => ?_
    exact kk _ H1 _ hf (hH.put ha (fin H1 e) z oq) (vg_locs hL hH ha)
  | some y =>
    obtain ⟨ci, fs, hci, hy⟩ := hel y rfl
    obtain ⟨cellV, g1, -, g3, r', hr', g2, -⟩ := hH.rd hy
    have hcls := (hK.1 ci r' hr').2
    have hcast : va_Nw (.castable r'.1 "java/lang/Object") s := by
      have hn := hG.2.2.2.2.2.2.1
      rcases hci with rfl | rfl | rfl | rfl | rfl <;> cases hr'
      · exact hn _ (List.mem_of_getElem? (i := 10) rfl)
      · exact hn _ (List.mem_of_getElem? (i := 11) rfl)
      · exact hn _ (List.mem_of_getElem? (i := 12) rfl)
      · exact hn _ (List.mem_of_getElem? (i := 13) rfl)
      · exact hn _ (List.mem_of_getElem? (i := 14) rfl)
    obtain ⟨c0, t1, f1, f2, f3⟩ := Cond.castable_spec (va_Nw.use (A := args) rfl hcast)
    cases hcls.1.symm.trans f1
    cases k3.symm.trans f2
    obtain ⟨kC, hkC, -⟩ := hcls.2
    refine W.aast hx hb hat (fun q h => by cases h) (fun h => by cases h) k1 k2 rfl hkE ⟨hi0, by show _ < (arrV _ _ _).slots.size; rw [arrV_size]; exact hlt⟩ g1 (fun q h => by rw [h] at g3; cases g3) (by rw [g2]; exact hkC) (by rw [g2]; exact f3) rfl rfl hdg fun H1 e z oq => ?_
    exact kk _ H1 _ hf (hH.put ha (fin H1 e) z oq) (vg_locs hL hH ha)
end VG
