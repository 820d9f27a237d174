/-! What throws: programs that answer a value or the number of an exception (1: IllegalArgumentException, 2: IllegalStateException). -/
def vg_ex (k : Nat) : String := if k = 1 then "java/lang/IllegalArgumentException" else "java/lang/IllegalStateException"
def vg_thr {α : Type} (k : Nat) (μ : vg_M) : vg_R (α ⊕ Nat) := some (.inr k, μ, 1, 6)
def vg_bx {α β : Type} (x : vg_R (α ⊕ Nat)) (f : α → vg_M → vg_R (β ⊕ Nat)) : vg_R (β ⊕ Nat) := match x with
  | none => none
  | some (.inl a, μ, c, n) => (match f a μ with
    | none => none
    | some w => some (w.1, w.2.1, c + w.2.2.1, n + w.2.2.2))
  | some (.inr k, μ, c, n) => some (.inr k, μ, c, n)
def vg_cx {α β : Type} (ci a : Nat) (μ : vg_M) (x : vg_R (α ⊕ Nat)) (f : α → vg_M → vg_R (β ⊕ Nat)) : vg_R (β ⊕ Nat) := match μ.1 a with
  | some (.inr o) => if o.1 = ci then vg_bx x f else none
  | _ => none
theorem vg_cx_inv {α β : Type} {ci a : Nat} {μ : vg_M} {x : vg_R (α ⊕ Nat)} {f : α → vg_M → vg_R (β ⊕ Nat)} {r : (β ⊕ Nat) × vg_M × Nat × Nat} (h : vg_cx ci a μ x f = some r) : ∃ fs : List Value, μ.1 a = some (.inr (ci, fs)) ∧ vg_bx x f = some r := by
  unfold vg_cx at h
  split at h
  · next o ho =>
    split at h
    · next hc => exact ⟨o.2, by rw [ho, ← hc], h⟩
    · cases h
  · cases h
theorem vg_bx_inv {α β : Type} {x : vg_R (α ⊕ Nat)} {f : α → vg_M → vg_R (β ⊕ Nat)} {r : β ⊕ Nat} {μ' : vg_M} {c n : Nat} (h : vg_bx x f = some (r, μ', c, n)) :
    ∃ (z : α ⊕ Nat) (μ1 : vg_M) (c1 n1 : Nat), x = some (z, μ1, c1, n1) ∧ ((∃ (a : α) (c2 n2 : Nat), z = .inl a ∧ f a μ1 = some (r, μ', c2, n2) ∧ c = c1 + c2 ∧ n = n1 + n2) ∨ ∃ k, z = .inr k ∧ r = .inr k ∧ μ' = μ1 ∧ c = c1 ∧ n = n1) := by
  cases x with
  | none => cases h
  | some q =>
    obtain ⟨z, μ1, c1, n1⟩ := q
    refine ⟨z, μ1, c1, n1, rfl, ?_⟩
    cases z with
    | inl a =>
      cases hf : f a μ1 with
      | none => simp [vg_bx, hf] at h
      | some w =>
        obtain ⟨b, μ2, c2, n2⟩ := w
        simp only [vg_bx, hf, Option.some.injEq, Prod.mk.injEq] at h
        obtain ⟨rfl, rfl, rfl, rfl⟩ := h
        exact Or.inl ⟨a, c2, n2, rfl, hf, rfl, rfl⟩
    | inr k =>
      simp only [vg_bx, Option.some.injEq, Prod.mk.injEq] at h
      obtain ⟨rfl, rfl, rfl, rfl⟩ := h
      exact Or.inr ⟨k, rfl, rfl, rfl, rfl, rfl⟩
def vg_Qx {α : Type} (D : va_G) (cy : Nat → ClassId) (H0 : Heap) (μ' : vg_M) (rv : α → Option Value) (r : α ⊕ Nat) : Array Value → State → Outcome → State → Prop := fun _ _ o t => ∃ x, r = .inl x ∧ o = .returned (rv x) ∧ vg_H D cy H0 μ' t.heap
def vg_Xx {α : Type} (D : va_G) (cy : Nat → ClassId) (H0 : Heap) (μ' : vg_M) (r : α ⊕ Nat) : String → State → State → Prop := fun E _ t => ∃ k z, r = .inr k ∧ E = vg_ex k ∧ vg_H D cy H0 (μ'.1, z, μ'.2.2) t.heap
def vg_MetX {α : Type} (l : Launch) (D : va_G) (cy : Nat → ClassId) (H0 : Heap) (y : MethodName) (bytes : ByteArray) (maxL : Nat) (ret : Option FieldType) (h : Nat) (μ : vg_M) (av : List Value) (rv : α → Option Value) (r : α ⊕ Nat) (μ1 : vg_M) (c1 n1 : Nat) : Prop :=
  vx_Met l y (.code y bytes maxL ret :: vg_T) (vg_rm h c1 n1) (vg_Pc D cy H0 μ av) (vg_Qx D cy H0 μ1 rv r) (vg_Xx D cy H0 μ1 r) c1 n1 (vg_fr H0)
abbrev vg_MX {α : Type} (below : List Frame) (D : va_G) (cy : Nat → ClassId) (H0 : Heap) (μ' : vg_M) (rv : α → Option Value) (r : α ⊕ Nat) (args : Array Value) (s : State) (C0 N0 : Nat) : State → Prop := vx_MQ below (vg_Qx D cy H0 μ' rv r) (vg_Xx D cy H0 μ' r) args s C0 N0 (vg_fr H0)
/-- the words of a throw -/
def vg_TS (own : String) (ik is ic k i : Nat) (tx : String) : Prop := Cond.classLink own ik (vg_ex k) ∈ vg_T ∧ Cond.initialized (vg_ex k) ∈ vg_T ∧ (own, is, tx, i) ∈ vg_lits ∧ (∀ w ∈ (vx_atS own ic (vg_ex k) ["java/lang/RuntimeException", "java/lang/Exception"]).filter goodWord, w ∈ vg_T) ∧
  (∀ w ∈ (vx_atS own ic (vg_ex k) ["java/lang/RuntimeException", "java/lang/Exception"]).filter (fun w => !goodWord w), w ∈ vg_nest) ∧ (∀ w ∈ Cond.classLink own ik (vg_ex k) :: Cond.initialized (vg_ex k) :: vx_atS own ic (vg_ex k) ["java/lang/RuntimeException", "java/lang/Exception"], vx_ot w = true) ∧ Bundle.fit (vg_ex k) = true
section VG
variable {p : Program} {l : Launch} {e : Env} {R : Room} {s : State} {m : MethodId} {args : Array Value} {below : List Frame} {meth : Method} {c : Code} {H : Heap} {locs : List Loc} {cells slots : Nat} {Q : State → Prop}
variable {cc : ByteArray} {pc : Nat} {ls : Array Slot} {rest : List Value} {D : va_G} {cy : Nat → ClassId} {H0 : Heap} {μ μ' : vg_M} {own : String} {a cn nn C0 N0 nL : Nat} {lv lv' : List (Nat × Value)}
theorem vg_nest_ot : ∀ w ∈ vg_nest, w.onTables = true := by decide +kernel
theorem vg_throw {α : Type} {rv : α → Option Value} {r : α ⊕ Nat} (X : vg_X D cy H0 p s m args c cc own) (hls : l.stackTraces = false) (hml : c.maxLocals = nL) (hl : vg_l ls nL lv) (hs0 : vg_H D cy H0 μ H) (hsh : ∀ a, a < H0.size → s.heap[a]? = H0[a]?) (hsz : H0.size ≤ s.heap.size) (hsH : s.heap.size ≤ H.size) (hL : ∀ z ∈ locs, H0.size ≤ z.base) {ik is ic k i : Nat} {tx : String} (hS : vg_TS own ik is ic k i tx) (hnt : ∀ x ∈ c.exceptionTable.toList, False) (hlk : meth.locks = false)
    (d0 : decode cc pc = .ok (.new ik, 3)) (d3 : decode cc (pc + 3) = .ok (.dup, 1)) (d4 : decode cc (pc + 4) = .ok (.ldc is, 2)) (d6 : decode cc (pc + 6) = .ok (.invokespecial ic, 3)) (d9 : decode cc (pc + 9) = .ok (.athrow, 1)) (hcat : (rest.map fun v => v.category).sum ≤ 8)
    (hf : vg_thr k μ = some (r, μ', cn, nn)) (hC : cells + cn = C0) (hN : slots + nn = N0) (hRc : C0 ≤ R.cells) (hRs : N0 ≤ R.slots) (hRf : 12 ≤ R.frames) (hRl : 60 * 12 ≤ R.locals) :
    W p l e R s m args below meth c H locs cells slots (vg_MX below D cy H0 μ' rv r args s C0 N0) (F0 m pc ls rest) := by
  obtain ⟨hx, hb, hts, hown, hG⟩ := X
  obtain ⟨hk, hini, hlit, hgw, hng, hot, hfit⟩ := hS
  cases hf
  have hZ : ∀ {C n d : String}, vx_Zq C n d (vg_fr H0) s H0 → vx_Zq C n d (vg_fr H0) s s.heap := fun h => h.kept fun a h1 h2 => hsh a h1
  refine vx_throwS hx hb hls hown hfit (by decide +kernel) (hts _ hk) (hts _ hini) (hG.2.1 _ hlit) ?_ hot (hZ hG.2.2.2.2.2.2.2.1) (hZ hG.2.2.2.2.2.2.2.2.1) (A := vg_fr H0) ⟨hsH, fun q h1 h2 => ?_, hL⟩ (by rw [hml]; exact hl.1.1) d0 d3 d4 d6 d9 (fun x hx => (hnt x hx).elim) (by show 2 + 3 < R.frames; omega) (by show _ + (13 * (2 + 1) + 43) ≤ R.locals; omega) (by omega) (by omega) hlk ?_ hL (by omega) (by omega)
  · refine vx_hat (B := vg_nest) (fun w hw => hts w (hgw w hw)) hng (fun w hw => va_Nw.use (vg_nest_ot w hw) (hG.2.2.2.2.2.2.1 w hw))
  · have hq : q < H0.size := Nat.not_le.mp h2
    rw [hs0.2.2.2.2.1 q hq, hsh q hq]
  · intro t hal hz hkeep
    obtain ⟨g1, g2, g3, g4, g5, g6⟩ := hs0
    exact ⟨k, t.heap.size, rfl, rfl, rfl, g2, Nat.le_trans g3 hz, fun b x hb => (g4 b x hb).kept (hkeep b (g4 b x hb).1.lt), fun b hb => by rw [hkeep b (by omega)]; exact g5 b hb, g6⟩
end VG
