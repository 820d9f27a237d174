/-! Abstract memory: a map of the cells that the run has made (and of the constants it reads), how large the heap is, where the new cells begin. Programs over it answer a value, the memory behind, and how many cells and slots came. -/
abbrev vg_E : Type := (Nat × vp_A) ⊕ (Nat × List Value)
abbrev vg_M : Type := (Nat → Option vg_E) × Nat × Nat
abbrev vg_R (α : Type) : Type := Option (α × vg_M × Nat × Nat)
def vg_c (cy : Nat → ClassId) (e : vg_E) : va_E := match e with
  | .inl x => .inl (cy x.1, x.2)
  | .inr o => .inr o
def vg_H (D : va_G) (cy : Nat → ClassId) (H0 : Heap) (μ : vg_M) (H : Heap) : Prop :=
  H.size = μ.2.1 ∧ μ.2.2 = H0.size ∧ H0.size ≤ H.size ∧ (∀ (a : Nat) (e : vg_E), μ.1 a = some e → va_at D vwCl (a, vg_c cy e) H) ∧ ∀ a, a < H0.size → H[a]? = H0[a]?
def vg_tys (cy : Nat → ClassId) : List (ClassId × FieldType) := [(cy 0, .byte), (cy 1, .char), (cy 2, .int), (cy 3, .boolean), (cy 4, .long), (cy 5, .object "java/lang/Object")]
def vg_K (D : va_G) (cy : Nat → ClassId) (U : State) : Prop := va_K D vwCl (vg_tys cy) U
theorem vg_K.moved {D : va_G} {cy : Nat → ClassId} {u U : State} (hvm : u.vm.Alike U.vm) (h : vg_K D cy u) : vg_K D cy U := va_K.moved hvm h
theorem vg_H.put {D : va_G} {cy : Nat → ClassId} {H0 H H1 : Heap} {μ : vg_M} {a : Nat} {e : vg_E} (h : vg_H D cy H0 μ H) (ha : μ.2.2 ≤ a) (he : va_at D vwCl (a, vg_c cy e) H1) (z : H1.size = H.size) (oq : ∀ q : Nat, q ≠ a → H1[q]? = H[q]?) :
    vg_H D cy H0 (va_up μ.1 a (some e), μ.2) H1 := by
  obtain ⟨h1, h2, h3, h4, h5⟩ := h
  refine ⟨z.trans h1, h2, by omega, fun b x hb => ?_, fun b hb => ?_⟩
  · have hb : va_up μ.1 a (some e) b = some x := hb
    by_cases hba : b = a
    · subst hba
      rw [va_up_self] at hb
      cases hb
      exact he
    · rw [va_up_ne _ _ hba] at hb
      exact (h4 b x hb).kept (oq b hba)
  · rw [oq b (by omega)]
    exact h5 b hb
theorem vg_H.new {D : va_G} {cy : Nat → ClassId} {H0 H H1 : Heap} {μ : vg_M} {e : vg_E} (h : vg_H D cy H0 μ H) (he : va_at D vwCl (μ.2.1, vg_c cy e) H1) (z : H1.size = μ.2.1 + 1) (oq : ∀ q : Nat, q < μ.2.1 → H1[q]? = H[q]?) :
    vg_H D cy H0 (va_up μ.1 μ.2.1 (some e), μ.2.1 + 1, μ.2.2) H1 := by
  obtain ⟨h1, h2, h3, h4, h5⟩ := h
  refine ⟨z, h2, by omega, fun b x hb => ?_, fun b hb => ?_⟩
  · have hb : va_up μ.1 μ.2.1 (some e) b = some x := hb
    by_cases hba : b = μ.2.1
    · subst hba
      rw [va_up_self] at hb
      cases hb
      exact he
    · rw [va_up_ne _ _ hba] at hb
      have hl : b < H.size := (h4 b x hb).lt
      exact (h4 b x hb).kept (oq b (by omega))
  · rw [oq b (by omega)]
    exact h5 b hb
-- programs
def vg_o {α β : Type} (x : Option α) (f : α → vg_R β) : vg_R β := match x with
  | none => none
  | some a => f a
def vg_b {α β : Type} (x : vg_R α) (f : α → vg_M → vg_R β) : vg_R β := match x with
  | none => none
  | some q => match f q.1 q.2.1 with
    | none => none
    | some w => some (w.1, w.2.1, q.2.2.1 + w.2.2.1, q.2.2.2 + w.2.2.2)
def vg_n {β : Type} (k : Nat) (x : vg_R β) : vg_R β := match x with
  | none => none
  | some w => some (w.1, w.2.1, 1 + w.2.2.1, k + w.2.2.2)
theorem vg_o_inv {α β : Type} {x : Option α} {f : α → vg_R β} {r : β × vg_M × Nat × Nat} (h : vg_o x f = some r) : ∃ a, x = some a ∧ f a = some r := by
  cases x with
  | none => cases h
  | some a => exact ⟨a, rfl, h⟩
theorem vg_b_inv {α β : Type} {x : vg_R α} {f : α → vg_M → vg_R β} {r : β} {μ' : vg_M} {c n : Nat} (h : vg_b x f = some (r, μ', c, n)) :
    ∃ (a : α) (μ1 : vg_M) (c1 n1 c2 n2 : Nat), x = some (a, μ1, c1, n1) ∧ f a μ1 = some (r, μ', c2, n2) ∧ c = c1 + c2 ∧ n = n1 + n2 := by
  cases x with
  | none => cases h
  | some q =>
    obtain ⟨a, μ1, c1, n1⟩ := q
    cases hf : f a μ1 with
    | none => simp [vg_b, hf] at h
    | some w =>
      obtain ⟨b, μ2, c2, n2⟩ := w
      simp only [vg_b, hf, Option.some.injEq, Prod.mk.injEq] at h
      obtain ⟨rfl, rfl, rfl, rfl⟩ := h
      exact ⟨a, μ1, c1, n1, c2, n2, rfl, hf, rfl, rfl⟩
theorem vg_n_inv {β : Type} {k : Nat} {x : vg_R β} {r : β} {μ' : vg_M} {c n : Nat} (h : vg_n k x = some (r, μ', c, n)) :
    ∃ (c2 n2 : Nat), x = some (r, μ', c2, n2) ∧ c = 1 + c2 ∧ n = k + n2 := by
  cases x with
  | none => cases h
  | some w =>
    obtain ⟨b, μ2, c2, n2⟩ := w
    simp only [vg_n, Option.some.injEq, Prod.mk.injEq] at h
    obtain ⟨rfl, rfl, rfl, rfl⟩ := h
    exact ⟨c2, n2, rfl, rfl, rfl⟩
-- reads and writes
def vg_gI (μ : vg_M) (a ci k : Nat) : Option Int32 := match μ.1 a with
  | some (.inr o) => if o.1 = ci then (match o.2[k]? with
    | some (.int x) => some x
    | _ => none) else none
  | _ => none
def vg_gR (μ : vg_M) (a ci k : Nat) : Option (Option Nat) := match μ.1 a with
  | some (.inr o) => if o.1 = ci then (match o.2[k]? with
    | some (.ref x) => some (some x)
    | some .null => some none
    | _ => none) else none
  | _ => none
def vg_p (μ : vg_M) (a ci k : Nat) (v : Value) : Option vg_M := match μ.1 a with
  | some (.inr o) => if o.1 = ci ∧ k < o.2.length ∧ μ.2.2 ≤ a then some (va_up μ.1 a (some (.inr (o.1, o.2.set k v))), μ.2) else none
  | _ => none
/-- an int that a field or an answer of a small type keeps as it is -/
def vg_z (ty : FieldType) (x : Int32) : Option Int32 := if vp_nar ty x = x then some x else none
/-- an array's length -/
def vg_al (μ : vg_M) (a : Nat) : Option Int32 := match μ.1 a with
  | some (.inl x) => if x.1 < 6 then some (Int32.ofNat x.2.1) else none
  | _ => none
def vg_ix (i : Int32) (n : Nat) : Option Nat := if i < 0 then none else if n ≤ i.toNatClampNeg then none else some i.toNatClampNeg
def vg_aI (μ : vg_M) (a t : Nat) (i : Int32) : Option Int32 := match μ.1 a with
  | some (.inl (t', n, .inl f)) => if t' = t then (match vg_ix i n with
    | some j => some (f j)
    | none => none) else none
  | _ => none
def vg_tyI (t : Nat) : FieldType := match t with
  | 0 => .byte
  | 1 => .char
  | 2 => .int
  | _ => .boolean
def vg_sI (μ : vg_M) (a t : Nat) (i x : Int32) : Option vg_M := match μ.1 a with
  | some (.inl (t', n, .inl f)) => if t' = t ∧ μ.2.2 ≤ a then (match vg_ix i n with
    | some j => some (va_up μ.1 a (some (.inl (t', n, .inl (upd f j (vp_nar (vg_tyI t) x))))), μ.2)
    | none => none) else none
  | _ => none
def vg_aR (μ : vg_M) (a : Nat) (i : Int32) : Option (Option Nat) := match μ.1 a with
  | some (.inl (t', n, .inr (.inr (.inr (.inr f))))) => if t' = 5 then (match vg_ix i n with
    | some j => some (f j)
    | none => none) else none
  | _ => none
/-- a new object, its address is the heap's size -/
def vg_nO (μ : vg_M) (ci : Nat) (fs : List Value) : vg_M := (va_up μ.1 μ.2.1 (some (.inr (ci, fs))), μ.2.1 + 1, μ.2.2)
/-- a new array of zeros -/
def vg_nA (μ : vg_M) (t n : Nat) : vg_M := (va_up μ.1 μ.2.1 (some (.inl (t, n, .inl (fun _ => 0)))), μ.2.1 + 1, μ.2.2)
def vg_len (n : Int32) : Option Nat := if n < 0 then none else if 67108864 < n.toNatClampNeg then none else some n.toNatClampNeg
theorem vg_gI_inv {μ : vg_M} {a ci k : Nat} {x : Int32} (h : vg_gI μ a ci k = some x) : ∃ fs : List Value, μ.1 a = some (.inr (ci, fs)) ∧ fs[k]? = some (.int x) := by
  unfold vg_gI at h
  split at h
  · next o ho =>
    split at h
    · next hc =>
      split at h
      · next y hy =>
        cases h
        exact ⟨o.2, by rw [ho, ← hc], hy⟩
      · cases h
    · cases h
  · cases h
theorem vg_gR_inv {μ : vg_M} {a ci k : Nat} {x : Option Nat} (h : vg_gR μ a ci k = some x) : ∃ fs : List Value, μ.1 a = some (.inr (ci, fs)) ∧ fs[k]? = some (va_rf x) := by
  unfold vg_gR at h
  split at h
  · next o ho =>
    split at h
    · next hc =>
      split at h
      · next y hy =>
        cases h
        exact ⟨o.2, by rw [ho, ← hc], hy⟩
      · next hy =>
        cases h
        exact ⟨o.2, by rw [ho, ← hc], hy⟩
      · cases h
    · cases h
  · cases h
theorem vg_p_inv {μ μ' : vg_M} {a ci k : Nat} {v : Value} (h : vg_p μ a ci k v = some μ') : ∃ fs : List Value, μ.1 a = some (.inr (ci, fs)) ∧ k < fs.length ∧ μ.2.2 ≤ a ∧ μ' = (va_up μ.1 a (some (.inr (ci, fs.set k v))), μ.2) := by
  unfold vg_p at h
  split at h
  · next o ho =>
    split at h
    · next hc =>
      cases h
      exact ⟨o.2, by rw [ho, ← hc.1], hc.2.1, hc.2.2, by rw [hc.1]⟩
    · cases h
  · cases h
theorem vg_z_inv {ty : FieldType} {x y : Int32} (h : vg_z ty x = some y) : y = x ∧ vp_nar ty x = x := by
  unfold vg_z at h
  split at h
  · next hz => cases h; exact ⟨rfl, hz⟩
  · cases h
theorem vg_ix_inv {i : Int32} {n j : Nat} (h : vg_ix i n = some j) : vp_in i n ∧ j = i.toNatClampNeg := by
  unfold vg_ix at h
  split at h
  · cases h
  · next h1 =>
    split at h
    · cases h
    · next h2 => cases h; exact ⟨fun q => q.elim h1 h2, rfl⟩
theorem vg_al_inv {μ : vg_M} {a : Nat} {x : Int32} (h : vg_al μ a = some x) : ∃ (t : Nat) (v : vp_A), μ.1 a = some (.inl (t, v)) ∧ t < 6 ∧ Int32.ofNat v.1 = x := by
  unfold vg_al at h
  split at h
  · next q hq =>
    split at h
    · next ht => cases h; exact ⟨q.1, q.2, hq, ht, rfl⟩
    · cases h
  · cases h
theorem vg_aI_inv {μ : vg_M} {a t : Nat} {i x : Int32} (h : vg_aI μ a t i = some x) : ∃ (n : Nat) (f : Nat → Int32), μ.1 a = some (.inl (t, n, .inl f)) ∧ vp_in i n ∧ x = f i.toNatClampNeg := by
  unfold vg_aI at h
  split at h
  · next t' n f hq =>
    split at h
    · next ht =>
      subst ht
      split at h
      · next j hj =>
        cases h
        obtain ⟨h1, rfl⟩ := vg_ix_inv hj
        exact ⟨n, f, hq, h1, rfl⟩
      · cases h
    · cases h
  · cases h
theorem vg_aR_inv {μ : vg_M} {a : Nat} {i : Int32} {x : Option Nat} (h : vg_aR μ a i = some x) : ∃ (n : Nat) (f : Nat → Option Nat), μ.1 a = some (.inl (5, n, .inr (.inr (.inr (.inr f))))) ∧ vp_in i n ∧ x = f i.toNatClampNeg := by
  unfold vg_aR at h
  split at h
  · next t' n f hq =>
    split at h
    · next ht =>
      subst ht
      split at h
      · next j hj =>
        cases h
        obtain ⟨h1, rfl⟩ := vg_ix_inv hj
        exact ⟨n, f, hq, h1, rfl⟩
      · cases h
    · cases h
  · cases h
theorem vg_sI_inv {μ μ' : vg_M} {a t : Nat} {i x : Int32} (h : vg_sI μ a t i x = some μ') : ∃ (n : Nat) (f : Nat → Int32), μ.1 a = some (.inl (t, n, .inl f)) ∧ vp_in i n ∧ μ.2.2 ≤ a ∧ μ' = (va_up μ.1 a (some (.inl (t, n, .inl (upd f i.toNatClampNeg (vp_nar (vg_tyI t) x))))), μ.2) := by
  unfold vg_sI at h
  split at h
  · next t' n f hq =>
    split at h
    · next ht =>
      obtain ⟨ht, ha⟩ := ht
      subst ht
      split at h
      · next j hj =>
        cases h
        obtain ⟨h1, rfl⟩ := vg_ix_inv hj
        exact ⟨n, f, hq, h1, ha, rfl⟩
      · cases h
    · cases h
  · cases h
theorem vg_len_inv {n : Int32} {N : Nat} (h : vg_len n = some N) : ¬ n < 0 ∧ n.toNatClampNeg = N ∧ N ≤ 67108864 := by
  unfold vg_len at h
  split at h
  · cases h
  · next h1 =>
    split at h
    · cases h
    · next h2 => cases h; exact ⟨h1, rfl, by omega⟩
