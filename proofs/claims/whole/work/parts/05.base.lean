/-! Abstract memory: a map of the cells that the run has made (and of the constants it reads), how large the heap is, where the new cells begin. Programs over it answer a value, the memory behind, and how many cells and slots came. -/
abbrev vg_E : Type := (Nat × vp_A) ⊕ (Nat × List Value)
abbrev vg_M : Type := (Nat → Option vg_E) × Nat × Nat × (Nat → Nat)
abbrev vg_R (α : Type) : Type := Option (α × vg_M × Nat × Nat)
def vg_c (cy : Nat → ClassId) (e : vg_E) : va_E := match e with
  | .inl x => .inl (cy x.1, x.2)
  | .inr o => .inr o
/-- what a cell holds, as far as it can be read: a constant's cell may be anything besides -/
def vg_aw (D : va_G) (cy : Nat → ClassId) (a : Nat) (e : vg_E) (H : Heap) : Prop := ∃ cell : Cell, H[a]? = some cell ∧ cell.vm ≠ .unknown ∧ cell.vm.isStatics = false ∧ (match e with
  | .inl x => (cell.cls = cy x.1 ∨ x.1 = 0 ∧ ∃ i, cell.cls = cy (200 + i)) ∧ x.2.1 ≤ cell.slots.size ∧ cell.slots.size.toInt32 = Int32.ofNat x.2.1 ∧ ∀ j, j < x.2.1 → cell.slots[j]? = (vp_cell (cy x.1) x.2).slots[j]?
  | .inr o => ∃ r : vw_C, vwCl[o.1]? = some r ∧ cell.cls = D.1 o.1 ∧ ∀ k, k < r.2.2 → cell.slots[D.2 o.1 k]? = some (vp_V o.2 k))
theorem vg_aw.kept {D : va_G} {cy : Nat → ClassId} {a : Nat} {e : vg_E} {H H1 : Heap} (h : vg_aw D cy a e H) (hq : H1[a]? = H[a]?) : vg_aw D cy a e H1 := by
  obtain ⟨cell, h1, h2⟩ := h
  exact ⟨cell, hq.trans h1, h2⟩
theorem vg_aw.lt {D : va_G} {cy : Nat → ClassId} {a : Nat} {e : vg_E} {H : Heap} (h : vg_aw D cy a e H) : a < H.size := by
  obtain ⟨cell, h1, -⟩ := h
  exact (Array.getElem?_eq_some_iff.mp h1).1
theorem vg_aw.of {D : va_G} {cy : Nat → ClassId} {a : Nat} {e : vg_E} {H : Heap} (h : va_at D vwCl (a, vg_c cy e) H) : vg_aw D cy a e H := by
  cases e with
  | inl x =>
    obtain ⟨t, n, f⟩ := x
    have h : H[a]? = some (vp_cell (cy t) (n, f)) := h
    have hvm : (vp_cell (cy t) (n, f)).vm = .none := by obtain f | f | f | f | f := f <;> rfl
    have hcl : (vp_cell (cy t) (n, f)).cls = cy t := by obtain f | f | f | f | f := f <;> rfl
    have hsz : (vp_cell (cy t) (n, f)).slots.size = n := by obtain f | f | f | f | f := f <;> exact arrV_size _ _ _
    refine ⟨_, h, by rw [hvm]; exact fun q => (by cases q), by rw [hvm]; rfl, Or.inl hcl, by rw [hsz]; exact Nat.le_refl _, by rw [hsz] <;> rfl, fun j _ => rfl⟩
  | inr o =>
    obtain ⟨r, h1, cell, q1, q2, q3, q4⟩ := h
    exact ⟨cell, q1, by rw [q3]; exact fun q => (by cases q), by rw [q3]; rfl, r, h1, q2, q4⟩
def vg_at (D : va_G) (cy : Nat → ClassId) (H0 : Heap) (a : Nat) (e : vg_E) (H : Heap) : Prop := vg_aw D cy a e H ∧ (H0.size ≤ a → va_at D vwCl (a, vg_c cy e) H)
theorem vg_at.kept {D : va_G} {cy : Nat → ClassId} {H0 : Heap} {a : Nat} {e : vg_E} {H H1 : Heap} (h : vg_at D cy H0 a e H) (hq : H1[a]? = H[a]?) : vg_at D cy H0 a e H1 := ⟨h.1.kept hq, fun hs => (h.2 hs).kept hq⟩
def vg_H (D : va_G) (cy : Nat → ClassId) (H0 : Heap) (μ : vg_M) (H : Heap) : Prop :=
  H.size = μ.2.1 ∧ μ.2.2.1 = H0.size ∧ H0.size ≤ H.size ∧ (∀ (a : Nat) (e : vg_E), μ.1 a = some e → vg_at D cy H0 a e H) ∧ (∀ a, a < H0.size → H[a]? = H0[a]?) ∧ ∀ i, μ.2.2.2 i = cy (100 + i)
def vg_tys (cy : Nat → ClassId) : List (ClassId × FieldType) := [(cy 0, .byte), (cy 1, .char), (cy 2, .int), (cy 3, .boolean), (cy 4, .long), (cy 5, .object "java/lang/Object")]
def vg_K (D : va_G) (cy : Nat → ClassId) (U : State) : Prop := va_K D vwCl (vg_tys cy) U
theorem vg_K.moved {D : va_G} {cy : Nat → ClassId} {u U : State} (hvm : u.vm.Alike U.vm) (h : vg_K D cy u) : vg_K D cy U := va_K.moved hvm h
/-- what the tables and the statics hold all along: classes, literals, statics, links of nest mates -/
def vg_dec (n : Nat) : Option Nat := match n with
  | 0 => none
  | n + 1 => some n
def vg_fr (H0 : Heap) : Addr → Prop := fun q => H0.size ≤ q
def vg_lits : List (String × Nat × String × Nat) := [("GlobRows$Tree", 11, "", 0), ("java/lang/StringLatin1", 151, "", 1), ("java/util/Arrays", 337, " > ", 2), ("java/lang/StringUTF16", 295, "", 3), ("GlobRows$Path", 62, "", 4), ("java/util/Arrays", 48, "fromIndex(", 5), ("java/util/Arrays", 57, ") > toIndex(", 6), ("java/util/Arrays", 59, ")", 7), ("GlobRows", 198, ".", 8), ("GlobRows", 203, "..", 9), ("GlobRows", 111, "the text is no path", 10), ("GlobRows$Tree", 45, "a file is on the way, or the other kind is there", 11), ("GlobRows$Tree", 53, "there would be too many nodes", 12), ("GlobRows", 63, "nothing is there", 13), ("GlobRows", 78, "no folder is there", 14), ("GlobRows", 83, "the folder is so already", 15), ("GlobRows", 117, "there are six queries", 16), ("GlobRows$Piece", 32, "", 17), ("GlobRows", 140, "there is no such query", 18), ("GlobRows", 142, "the text is no pattern", 19), ("GlobRows", 148, "there are four such patterns", 20)]
def vg_nest : List Cond := [.methodLinkNest "GlobRows" 32 ⟨"GlobRows$Walk", "<init>", "()V"⟩ "GlobRows", .methodLinkNest "GlobRows$Walk" 11 ⟨"GlobRows$Answer", "<init>", "()V"⟩ "GlobRows", .methodLinkNest "GlobRows$Pattern" 51 ⟨"GlobRows", "withSkipped", "(II)I"⟩ "GlobRows", .methodLinkNest "GlobRows" 173 ⟨"GlobRows$Walk", "lookInto", "(LGlobRows$Query;LGlobRows$Node;I)V"⟩ "GlobRows", .methodLinkNest "GlobRows$Piece" 41 ⟨"GlobRows", "withSkipped", "(II)I"⟩ "GlobRows", .fieldLinkNest "GlobRows$Tree" 26 "GlobRows$Path" "count" "I" "GlobRows", .methodLinkNest "GlobRows$Path" 55 ⟨"GlobRows", "isDots", "(Ljava/lang/String;)Z"⟩ "GlobRows", .methodLinkNest "GlobRows$Path" 58 ⟨"GlobRows", "isLetter", "(C)Z"⟩ "GlobRows", .methodLinkNest "GlobRows$PatternReader" 92 ⟨"GlobRows", "isLetter", "(C)Z"⟩ "GlobRows", .methodLinkNest "GlobRows$PatternReader" 81 ⟨"GlobRows", "isDots", "(Ljava/lang/String;)Z"⟩ "GlobRows", .castable "GlobRows$Node" "java/lang/Object", .castable "GlobRows$Part" "java/lang/Object", .castable "GlobRows$Pattern" "java/lang/Object", .castable "GlobRows$Piece" "java/lang/Object", .castable "GlobRows$Query" "java/lang/Object", .castable "[B" "java/lang/Cloneable", .declares ⟨"java/lang/Object", "getClass", "()Ljava/lang/Class;"⟩, .declares ⟨"java/lang/RuntimeException", "<init>", "(Ljava/lang/String;)V"⟩, .declares ⟨"java/lang/Exception", "<init>", "(Ljava/lang/String;)V"⟩, .declares ⟨"java/lang/Throwable", "<init>", "(Ljava/lang/String;)V"⟩, .castable "java/lang/IllegalArgumentException" "java/lang/IllegalArgumentException", .castable "java/lang/IllegalStateException" "java/lang/IllegalStateException"]
def vg_G (D : va_G) (cy : Nat → ClassId) (H0 : Heap) (U : State) : Prop :=
  vg_K D cy U ∧ (∀ q ∈ vg_lits, vk_R q.1 q.2.1 q.2.2.1 (cy (100 + q.2.2.2)) U) ∧ va_Z "java/lang/String" "COMPACT_STRINGS" "Z" (.int 1) (vg_fr H0) U H0 ∧
  va_Z "jdk/internal/util/Preconditions" "SIOOBE_FORMATTER" "Ljava/util/function/BiFunction;" (va_rf (vg_dec (cy 130))) (vg_fr H0) U H0 ∧ va_Z "java/util/ArrayList" "DEFAULTCAPACITY_EMPTY_ELEMENTDATA" "[Ljava/lang/Object;" (.ref (cy 131)) (vg_fr H0) U H0 ∧
  va_Mi "[Ljava/lang/Object;" (cy 132) U ∧ (∀ w ∈ vg_nest, va_Nw w U) ∧ vx_Zq Bundle.tN "UNASSIGNED_STACK" Bundle.steD (vg_fr H0) U H0 ∧ vx_Zq Bundle.tN "SUPPRESSED_SENTINEL" Bundle.listD (vg_fr H0) U H0 ∧ va_AO "java/lang/Object" U ∧ ∀ i, ArrOfT U (cy (200 + i)) .byte
theorem vg_nest_form : ∀ w ∈ vg_nest, (∃ a i x h, w = .methodLinkNest a i x h) ∨ (∃ a i b n d h, w = .fieldLinkNest a i b n d h) ∨ (∃ a b, w = .castable a b) ∨ ∃ y, w = .declares y := by
  intro w hw
  simp only [vg_nest, List.mem_cons, List.not_mem_nil, or_false] at hw
  rcases hw with rfl | rfl | rfl | rfl | rfl | rfl | rfl | rfl | rfl | rfl | rfl | rfl | rfl | rfl | rfl | rfl | rfl | rfl | rfl | rfl | rfl | rfl
  all_goals first | exact Or.inl ⟨_, _, _, _, rfl⟩ | exact Or.inr (Or.inl ⟨_, _, _, _, _, _, rfl⟩) | exact Or.inr (Or.inr (Or.inl ⟨_, _, rfl⟩)) | exact Or.inr (Or.inr (Or.inr ⟨_, rfl⟩))
theorem vg_G.warm {D : va_G} {cy : Nat → ClassId} {H0 : Heap} {s U : State} (hW : s.WarmedH U.vm) (h : vg_G D cy H0 s) : vg_G D cy H0 U := by
  obtain ⟨h1, h2, h3, h4, h5, h6, h7, h8, h9, h10, h11⟩ := h
  have hA := hW.alike
  refine ⟨h1.moved hA, fun q hq => (h2 q hq).warm hW, h3.moved hA, h4.moved hA, h5.moved hA, h6.moved hA, fun w hw => ?_, h8.moved hA, h9.moved hA, h10.moved hA, fun i => arrOfT_moved hA (h11 i)⟩
  have hw' := h7 w hw
  rcases vg_nest_form w hw with ⟨a, i, x, h, rfl⟩ | ⟨a, i, b, n, d, h, rfl⟩ | ⟨a, b, rfl⟩ | ⟨y, rfl⟩
  · exact hw'.warmM hW
  · exact hw'.warmF hW
  · exact hw'.warmC hW
  · exact hw'.warmD hW
theorem vg_H.put {D : va_G} {cy : Nat → ClassId} {H0 H H1 : Heap} {μ : vg_M} {a : Nat} {e : vg_E} (h : vg_H D cy H0 μ H) (ha : μ.2.2.1 ≤ a) (he : va_at D vwCl (a, vg_c cy e) H1) (z : H1.size = H.size) (oq : ∀ q : Nat, q ≠ a → H1[q]? = H[q]?) :
    vg_H D cy H0 (va_up μ.1 a (some e), μ.2) H1 := by
  obtain ⟨h1, h2, h3, h4, h5, h6⟩ := h
  refine ⟨z.trans h1, h2, by omega, fun b x hb => ?_, fun b hb => ?_, h6⟩
  · have hb : va_up μ.1 a (some e) b = some x := hb
    by_cases hba : b = a
    · subst hba
      rw [va_up_self] at hb
      cases hb
      exact ⟨vg_aw.of he, fun _ => he⟩
    · rw [va_up_ne _ _ hba] at hb
      exact (h4 b x hb).kept (oq b hba)
  · rw [oq b (by omega)]
    exact h5 b hb
theorem vg_H.new {D : va_G} {cy : Nat → ClassId} {H0 H H1 : Heap} {μ : vg_M} {e : vg_E} (h : vg_H D cy H0 μ H) (he : va_at D vwCl (μ.2.1, vg_c cy e) H1) (z : H1.size = μ.2.1 + 1) (oq : ∀ q : Nat, q < μ.2.1 → H1[q]? = H[q]?) :
    vg_H D cy H0 (va_up μ.1 μ.2.1 (some e), μ.2.1 + 1, μ.2.2) H1 := by
  obtain ⟨h1, h2, h3, h4, h5, h6⟩ := h
  refine ⟨z, h2, by omega, fun b x hb => ?_, fun b hb => ?_, h6⟩
  · have hb : va_up μ.1 μ.2.1 (some e) b = some x := hb
    by_cases hba : b = μ.2.1
    · subst hba
      rw [va_up_self] at hb
      cases hb
      exact ⟨vg_aw.of he, fun _ => he⟩
    · rw [va_up_ne _ _ hba] at hb
      have hl : b < H.size := (h4 b x hb).1.lt
      exact (h4 b x hb).kept (oq b (by omega))
  · rw [oq b (by omega)]
    exact h5 b hb
-- programs
def vg_o {α β : Type} (x : Option α) (f : α → vg_R β) : vg_R β := match x with
  | none => none
  | some a => f a
def vg_b {α β : Type} (x : vg_R α) (f : α → vg_M → vg_R β) : vg_R β := match x with
  | none => none
  | some q => match f q.1 q.2.1 with
    | none => none
    | some w => some (w.1, w.2.1, q.2.2.1 + w.2.2.1, q.2.2.2 + w.2.2.2)
def vg_n {β : Type} (k : Nat) (x : vg_R β) : vg_R β := match x with
  | none => none
  | some w => some (w.1, w.2.1, 1 + w.2.2.1, k + w.2.2.2)
theorem vg_o_inv {α β : Type} {x : Option α} {f : α → vg_R β} {r : β × vg_M × Nat × Nat} (h : vg_o x f = some r) : ∃ a, x = some a ∧ f a = some r := by
  cases x with
  | none => cases h
  | some a => exact ⟨a, rfl, h⟩
theorem vg_b_inv {α β : Type} {x : vg_R α} {f : α → vg_M → vg_R β} {r : β} {μ' : vg_M} {c n : Nat} (h : vg_b x f = some (r, μ', c, n)) :
    ∃ (a : α) (μ1 : vg_M) (c1 n1 c2 n2 : Nat), x = some (a, μ1, c1, n1) ∧ f a μ1 = some (r, μ', c2, n2) ∧ c = c1 + c2 ∧ n = n1 + n2 := by
  cases x with
  | none => cases h
  | some q =>
    obtain ⟨a, μ1, c1, n1⟩ := q
    cases hf : f a μ1 with
    | none => simp [vg_b, hf] at h
    | some w =>
      obtain ⟨b, μ2, c2, n2⟩ := w
      simp only [vg_b, hf, Option.some.injEq, Prod.mk.injEq] at h
      obtain ⟨rfl, rfl, rfl, rfl⟩ := h
      exact ⟨a, μ1, c1, n1, c2, n2, rfl, hf, rfl, rfl⟩
theorem vg_n_inv {β : Type} {k : Nat} {x : vg_R β} {r : β} {μ' : vg_M} {c n : Nat} (h : vg_n k x = some (r, μ', c, n)) :
    ∃ (c2 n2 : Nat), x = some (r, μ', c2, n2) ∧ c = 1 + c2 ∧ n = k + n2 := by
  cases x with
  | none => cases h
  | some w =>
    obtain ⟨b, μ2, c2, n2⟩ := w
    simp only [vg_n, Option.some.injEq, Prod.mk.injEq] at h
    obtain ⟨rfl, rfl, rfl, rfl⟩ := h
    exact ⟨c2, n2, rfl, rfl, rfl⟩
-- reads and writes
def vg_gI (μ : vg_M) (a ci k : Nat) : Option Int32 := match μ.1 a with
  | some (.inr o) => if o.1 = ci then (match o.2[k]? with
    | some (.int x) => some x
    | _ => none) else none
  | _ => none
def vg_gR (μ : vg_M) (a ci k : Nat) : Option (Option Nat) := match μ.1 a with
  | some (.inr o) => if o.1 = ci then (match o.2[k]? with
    | some (.ref x) => some (some x)
    | some .null => some none
    | _ => none) else none
  | _ => none
def vg_p (μ : vg_M) (a ci k : Nat) (v : Value) : Option vg_M := match μ.1 a with
  | some (.inr o) => if o.1 = ci ∧ k < o.2.length ∧ μ.2.2.1 ≤ a then some (va_up μ.1 a (some (.inr (o.1, o.2.set k v))), μ.2) else none
  | _ => none
/-- an int that a field or an answer of a small type keeps as it is -/
def vg_z (ty : FieldType) (x : Int32) : Option Int32 := if vp_nar ty x = x then some x else none
/-- an array's length -/
def vg_al (μ : vg_M) (a : Nat) : Option Int32 := match μ.1 a with
  | some (.inl x) => if x.1 < 6 then some (Int32.ofNat x.2.1) else none
  | _ => none
def vg_ix (i : Int32) (n : Nat) : Option Nat := if i < 0 then none else if n ≤ i.toNatClampNeg then none else some i.toNatClampNeg
def vg_aI (μ : vg_M) (a t : Nat) (i : Int32) : Option Int32 := match μ.1 a with
  | some (.inl (t', n, .inl f)) => if t' = t then (match vg_ix i n with
    | some j => some (f j)
    | none => none) else none
  | _ => none
def vg_tyI (t : Nat) : FieldType := match t with
  | 0 => .byte
  | 1 => .char
  | 2 => .int
  | _ => .boolean
def vg_sI (μ : vg_M) (a t : Nat) (i x : Int32) : Option vg_M := match μ.1 a with
  | some (.inl (t', n, .inl f)) => if t' = t ∧ μ.2.2.1 ≤ a then (match vg_ix i n with
    | some j => some (va_up μ.1 a (some (.inl (t', n, .inl (upd f j (vp_nar (vg_tyI t) x))))), μ.2)
    | none => none) else none
  | _ => none
def vg_aR (μ : vg_M) (a : Nat) (i : Int32) : Option (Option Nat) := match μ.1 a with
  | some (.inl (t', n, .inr (.inr (.inr (.inr f))))) => if t' = 5 then (match vg_ix i n with
    | some j => some (f j)
    | none => none) else none
  | _ => none
/-- a new object, its address is the heap's size -/
def vg_nO (μ : vg_M) (ci : Nat) (fs : List Value) : vg_M := (va_up μ.1 μ.2.1 (some (.inr (ci, fs))), μ.2.1 + 1, μ.2.2)
/-- a new array of zeros -/
def vg_nA (μ : vg_M) (t n : Nat) : vg_M := (va_up μ.1 μ.2.1 (some (.inl (t, n, .inl (fun _ => 0)))), μ.2.1 + 1, μ.2.2)
def vg_len (n : Int32) : Option Nat := if n < 0 then none else if 67108864 < n.toNatClampNeg then none else some n.toNatClampNeg
theorem vg_gI_inv {μ : vg_M} {a ci k : Nat} {x : Int32} (h : vg_gI μ a ci k = some x) : ∃ fs : List Value, μ.1 a = some (.inr (ci, fs)) ∧ fs[k]? = some (.int x) := by
  unfold vg_gI at h
  split at h
  · next o ho =>
    split at h
    · next hc =>
      split at h
      · next y hy =>
        cases h
        exact ⟨o.2, by rw [ho, ← hc], hy⟩
      · cases h
    · cases h
  · cases h
theorem vg_gR_inv {μ : vg_M} {a ci k : Nat} {x : Option Nat} (h : vg_gR μ a ci k = some x) : ∃ fs : List Value, μ.1 a = some (.inr (ci, fs)) ∧ fs[k]? = some (va_rf x) := by
  unfold vg_gR at h
  split at h
  · next o ho =>
    split at h
    · next hc =>
      split at h
      · next y hy =>
        cases h
        exact ⟨o.2, by rw [ho, ← hc], hy⟩
      · next hy =>
        cases h
        exact ⟨o.2, by rw [ho, ← hc], hy⟩
      · cases h
    · cases h
  · cases h
theorem vg_p_inv {μ μ' : vg_M} {a ci k : Nat} {v : Value} (h : vg_p μ a ci k v = some μ') : ∃ fs : List Value, μ.1 a = some (.inr (ci, fs)) ∧ k < fs.length ∧ μ.2.2.1 ≤ a ∧ μ' = (va_up μ.1 a (some (.inr (ci, fs.set k v))), μ.2) := by
  unfold vg_p at h
  split at h
  · next o ho =>
    split at h
    · next hc =>
      cases h
      exact ⟨o.2, by rw [ho, ← hc.1], hc.2.1, hc.2.2, by rw [hc.1]⟩
    · cases h
  · cases h
theorem vg_z_inv {ty : FieldType} {x y : Int32} (h : vg_z ty x = some y) : y = x ∧ vp_nar ty x = x := by
  unfold vg_z at h
  split at h
  · next hz => cases h; exact ⟨rfl, hz⟩
  · cases h
theorem vg_ix_inv {i : Int32} {n j : Nat} (h : vg_ix i n = some j) : vp_in i n ∧ j = i.toNatClampNeg := by
  unfold vg_ix at h
  split at h
  · cases h
  · next h1 =>
    split at h
    · cases h
    · next h2 => cases h; exact ⟨fun q => q.elim h1 h2, rfl⟩
theorem vg_al_inv {μ : vg_M} {a : Nat} {x : Int32} (h : vg_al μ a = some x) : ∃ (t : Nat) (v : vp_A), μ.1 a = some (.inl (t, v)) ∧ t < 6 ∧ Int32.ofNat v.1 = x := by
  unfold vg_al at h
  split at h
  · next q hq =>
    split at h
    · next ht => cases h; exact ⟨q.1, q.2, hq, ht, rfl⟩
    · cases h
  · cases h
theorem vg_aI_inv {μ : vg_M} {a t : Nat} {i x : Int32} (h : vg_aI μ a t i = some x) : ∃ (n : Nat) (f : Nat → Int32), μ.1 a = some (.inl (t, n, .inl f)) ∧ vp_in i n ∧ x = f i.toNatClampNeg := by
  unfold vg_aI at h
  split at h
  · next t' n f hq =>
    split at h
    · next ht =>
      subst ht
      split at h
      · next j hj =>
        cases h
        obtain ⟨h1, rfl⟩ := vg_ix_inv hj
        exact ⟨n, f, hq, h1, rfl⟩
      · cases h
    · cases h
  · cases h
theorem vg_aR_inv {μ : vg_M} {a : Nat} {i : Int32} {x : Option Nat} (h : vg_aR μ a i = some x) : ∃ (n : Nat) (f : Nat → Option Nat), μ.1 a = some (.inl (5, n, .inr (.inr (.inr (.inr f))))) ∧ vp_in i n ∧ x = f i.toNatClampNeg := by
  unfold vg_aR at h
  split at h
  · next t' n f hq =>
    split at h
    · next ht =>
      subst ht
      split at h
      · next j hj =>
        cases h
        obtain ⟨h1, rfl⟩ := vg_ix_inv hj
        exact ⟨n, f, hq, h1, rfl⟩
      · cases h
    · cases h
  · cases h
theorem vg_sI_inv {μ μ' : vg_M} {a t : Nat} {i x : Int32} (h : vg_sI μ a t i x = some μ') : ∃ (n : Nat) (f : Nat → Int32), μ.1 a = some (.inl (t, n, .inl f)) ∧ vp_in i n ∧ μ.2.2.1 ≤ a ∧ μ' = (va_up μ.1 a (some (.inl (t, n, .inl (upd f i.toNatClampNeg (vp_nar (vg_tyI t) x))))), μ.2) := by
  unfold vg_sI at h
  split at h
  · next t' n f hq =>
    split at h
    · next ht =>
      obtain ⟨ht, ha⟩ := ht
      subst ht
      split at h
      · next j hj =>
        cases h
        obtain ⟨h1, rfl⟩ := vg_ix_inv hj
        exact ⟨n, f, hq, h1, ha, rfl⟩
      · cases h
    · cases h
  · cases h
theorem vg_len_inv {n : Int32} {N : Nat} (h : vg_len n = some N) : ¬ n < 0 ∧ n.toNatClampNeg = N ∧ N ≤ 67108864 := by
  unfold vg_len at h
  split at h
  · cases h
  · next h1 =>
    split at h
    · cases h
    · next h2 => cases h; exact ⟨h1, rfl, by omega⟩
