/-! THE PURE LAYER. A ghosted memory: the abstract memory, and a tag for each address (who owns it: 0: never written again). -/
abbrev pg_G : Type := vg_M × (Nat → Nat)
/-- the kind of a cell: its class and number of fields, or its array kind and length -/
def pg_kd (x : Option vg_E) : Option (Nat × Nat) := match x with
  | none => none
  | some (.inr o) => some (o.1, o.2.length)
  | some (.inl o) => some (100 + o.1, o.2.1)
/-- all is as the machine leaves it: nothing lies beyond the size -/
def pg_Wf (g : pg_G) : Prop := (∀ b, g.1.2.1 ≤ b → g.1.1 b = none) ∧ g.1.2.2.1 ≤ g.1.2.1 ∧ ∀ b, b < g.1.2.2.1 → g.2 b = 0
/-- from g to g' only cells whose tag is in W were written; kinds stay; constants stay -/
def pg_Ext (W : Nat → Prop) (g g' : pg_G) : Prop := g.1.2.1 ≤ g'.1.2.1 ∧ g'.1.2.2 = g.1.2.2 ∧ (∀ b, b < g.1.2.1 → g'.2 b = g.2 b) ∧ (∀ b, b < g.1.2.1 → ¬ W (g.2 b) → g'.1.1 b = g.1.1 b) ∧ (∀ b, b < g.1.2.1 → pg_kd (g'.1.1 b) = pg_kd (g.1.1 b)) ∧ pg_Wf g'
theorem pg_Wf.lt {g : pg_G} (h : pg_Wf g) {b : Nat} {e : vg_E} (hb : g.1.1 b = some e) : b < g.1.2.1 := by
  by_cases hl : b < g.1.2.1
  · exact hl
  · rw [h.1 b (by omega)] at hb; cases hb
theorem pg_Ext.refl {W : Nat → Prop} {g : pg_G} (h : pg_Wf g) : pg_Ext W g g := ⟨Nat.le_refl _, rfl, fun _ _ => rfl, fun _ _ _ => rfl, fun _ _ => rfl, h⟩
theorem pg_Ext.trans {W : Nat → Prop} {g g1 g2 : pg_G} (h1 : pg_Ext W g g1) (h2 : pg_Ext W g1 g2) : pg_Ext W g g2 := by
  obtain ⟨a1, a2, a3, a4, a5, a6⟩ := h1
  obtain ⟨b1, b2, b3, b4, b5, b6⟩ := h2
  refine ⟨Nat.le_trans a1 b1, b2.trans a2, fun b hb => ?_, fun b hb hw => ?_, fun b hb => ?_, b6⟩
  · rw [b3 b (by omega), a3 b hb]
  · rw [b4 b (by omega) (by rw [a3 b hb]; exact hw), a4 b hb hw]
  · rw [b5 b (by omega), a5 b hb]
theorem pg_Ext.mono {W W' : Nat → Prop} {g g1 : pg_G} (h : pg_Ext W g g1) (hw : ∀ t, W t → W' t) : pg_Ext W' g g1 := ⟨h.1, h.2.1, h.2.2.1, fun b hb hn => h.2.2.2.1 b hb (fun q => hn (hw _ q)), h.2.2.2.2.1, h.2.2.2.2.2⟩
theorem pg_Ext.at {W : Nat → Prop} {g g1 : pg_G} (h : pg_Ext W g g1) (hg : pg_Wf g) {b : Nat} {e : vg_E} (hb : g.1.1 b = some e) (hw : ¬ W (g.2 b)) : g1.1.1 b = some e := by rw [h.2.2.2.1 b (hg.lt hb) hw]; exact hb
theorem pg_Ext.tag {W : Nat → Prop} {g g1 : pg_G} (h : pg_Ext W g g1) (hg : pg_Wf g) {b : Nat} {e : vg_E} (hb : g.1.1 b = some e) : g1.2 b = g.2 b := h.2.2.1 b (hg.lt hb)
theorem pg_Ext.wf {W : Nat → Prop} {g g1 : pg_G} (h : pg_Ext W g g1) : pg_Wf g1 := h.2.2.2.2.2
/-- a cell written anew -/
def pg_put (g : pg_G) (a : Nat) (e : vg_E) : pg_G := ((va_up g.1.1 a (some e), g.1.2), g.2)
/-- a new cell with its tag -/
def pg_new (g : pg_G) (t : Nat) (e : vg_E) : pg_G := ((va_up g.1.1 g.1.2.1 (some e), g.1.2.1 + 1, g.1.2.2), va_up g.2 g.1.2.1 t)
theorem pg_put_self (g : pg_G) (a : Nat) (e : vg_E) : (pg_put g a e).1.1 a = some e := va_up_self _ _ _
theorem pg_put_ne (g : pg_G) {a b : Nat} (e : vg_E) (h : b ≠ a) : (pg_put g a e).1.1 b = g.1.1 b := va_up_ne _ _ h
theorem pg_new_self (g : pg_G) (t : Nat) (e : vg_E) : (pg_new g t e).1.1 g.1.2.1 = some e := va_up_self _ _ _
theorem pg_new_ne (g : pg_G) (t : Nat) {b : Nat} (e : vg_E) (h : b ≠ g.1.2.1) : (pg_new g t e).1.1 b = g.1.1 b := va_up_ne _ _ h
theorem pg_put_ext {W : Nat → Prop} {g : pg_G} {a : Nat} {e0 e : vg_E} (hg : pg_Wf g) (ha : g.1.1 a = some e0) (hw : W (g.2 a)) (hk : pg_kd (some e) = pg_kd (some e0)) : pg_Ext W g (pg_put g a e) := by
  have hal := hg.lt ha
  refine ⟨Nat.le_refl _, rfl, fun _ _ => rfl, fun b _ hn => pg_put_ne g e (fun h => hn (h ▸ hw)), fun b _ => ?_, ⟨fun b hb => ?_, hg.2⟩⟩
  · by_cases h : b = a
    · subst h; rw [pg_put_self, ha, hk]
    · rw [pg_put_ne g e h]
  · rw [pg_put_ne g e (by intro h; subst h; exact absurd hal (Nat.not_lt.mpr hb))]
    exact hg.1 b hb
theorem pg_new_ext {W : Nat → Prop} {g : pg_G} {t : Nat} {e : vg_E} (hg : pg_Wf g) : pg_Ext W g (pg_new g t e) := by
  refine ⟨Nat.le_succ _, rfl, fun b hb => va_up_ne _ _ (Nat.ne_of_lt hb), fun b hb _ => pg_new_ne g t e (Nat.ne_of_lt hb), fun b hb => by rw [pg_new_ne g t e (Nat.ne_of_lt hb)], ⟨fun b hb => ?_, Nat.le_succ_of_le hg.2.1, fun b hb => ?_⟩⟩
  · have hb' : g.1.2.1 + 1 ≤ b := hb
    rw [pg_new_ne g t e (by omega)]
    exact hg.1 b (by omega)
  · have h1 := hg.2.1
    have hb' : b < g.1.2.2.1 := hb
    show va_up g.2 g.1.2.1 t b = 0
    rw [va_up_ne _ _ (by omega)]
    exact hg.2.2 b hb'
theorem pg_new_tag (g : pg_G) (t : Nat) (e : vg_E) : (pg_new g t e).2 g.1.2.1 = t := va_up_self _ _ _
-- programs that come to an answer, with their costs
def pg_Ok {α : Type} (x : vg_R α) (C N : Nat) (Q : α → vg_M → Prop) : Prop := ∃ r μ' c n, x = some (r, μ', c, n) ∧ c ≤ C ∧ n ≤ N ∧ Q r μ'
theorem pg_Ok.ret {α : Type} {v : α} {μ : vg_M} {C N : Nat} {Q : α → vg_M → Prop} (h : Q v μ) : pg_Ok (vg_ret v μ) C N Q := ⟨v, μ, 0, 0, rfl, Nat.zero_le _, Nat.zero_le _, h⟩
theorem pg_Ok.o {α β : Type} {x : Option α} {f : α → vg_R β} {C N : Nat} {Q : β → vg_M → Prop} {a : α} (h : x = some a) (k : pg_Ok (f a) C N Q) : pg_Ok (vg_o x f) C N Q := by subst h; exact k
theorem pg_Ok.b {α β : Type} {x : vg_R α} {f : α → vg_M → vg_R β} {C N C1 N1 : Nat} {P : α → vg_M → Prop} {Q : β → vg_M → Prop} (h : pg_Ok x C1 N1 P) (k : ∀ r μ1, P r μ1 → pg_Ok (f r μ1) (C - C1) (N - N1) Q) (hc : C1 ≤ C) (hn : N1 ≤ N) : pg_Ok (vg_b x f) C N Q := by
  obtain ⟨r, μ1, c1, n1, rfl, h1, h2, hp⟩ := h
  obtain ⟨r2, μ2, c2, n2, e2, h3, h4, hq⟩ := k r μ1 hp
  refine ⟨r2, μ2, c1 + c2, n1 + n2, ?_, by omega, by omega, hq⟩
  simp only [vg_b, e2]
theorem pg_Ok.b0 {α β : Type} {x : vg_R α} {f : α → vg_M → vg_R β} {C N : Nat} {Q : β → vg_M → Prop} {r : α} {μ1 : vg_M} (h : x = some (r, μ1, 0, 0)) (k : pg_Ok (f r μ1) C N Q) : pg_Ok (vg_b x f) C N Q :=
  pg_Ok.b (C1 := 0) (N1 := 0) (P := fun r' μ' => r' = r ∧ μ' = μ1) ⟨r, μ1, 0, 0, h, Nat.le_refl _, Nat.le_refl _, rfl, rfl⟩ (fun _ _ e => by obtain ⟨rfl, rfl⟩ := e; exact k) (Nat.zero_le _) (Nat.zero_le _)
theorem pg_Ok.cv {α β : Type} {ci a : Nat} {μ : vg_M} {x : vg_R α} {f : α → vg_M → vg_R β} {C N : Nat} {Q : β → vg_M → Prop} {fs : List Value} (h : μ.1 a = some (.inr (ci, fs))) (k : pg_Ok (vg_b x f) C N Q) : pg_Ok (vg_cv ci a μ x f) C N Q := by
  have e : vg_cv ci a μ x f = vg_b x f := by simp only [vg_cv, h, if_true]
  rw [e]; exact k
theorem pg_Ok.nw {β : Type} {k q : Nat} {μ1 : vg_M} {f : Nat → vg_M → vg_R β} {C N : Nat} {Q : β → vg_M → Prop} (hc : 1 ≤ C) (hn : k ≤ N) (h : pg_Ok (f q μ1) (C - 1) (N - k) Q) : pg_Ok (vg_nw k q μ1 f) C N Q := by
  obtain ⟨r, μ', c, n, e, h1, h2, hq⟩ := h
  refine ⟨r, μ', 1 + c, k + n, ?_, by omega, by omega, hq⟩
  simp only [vg_nw, vg_n, e]
theorem pg_Ok.mono {α : Type} {x : vg_R α} {C N C' N' : Nat} {Q Q' : α → vg_M → Prop} (h : pg_Ok x C N Q) (hc : C ≤ C') (hn : N ≤ N') (hq : ∀ r μ', Q r μ' → Q' r μ') : pg_Ok x C' N' Q' := by
  obtain ⟨r, μ', c, n, e, h1, h2, h3⟩ := h
  exact ⟨r, μ', c, n, e, by omega, by omega, hq _ _ h3⟩
theorem pg_Ok.eq {α : Type} {x : vg_R α} {C N : Nat} {Q : α → vg_M → Prop} {r : α} {μ' : vg_M} (h : x = some (r, μ', 0, 0)) (hq : Q r μ') : pg_Ok x C N Q := ⟨r, μ', 0, 0, h, Nat.zero_le _, Nat.zero_le _, hq⟩
-- reads
theorem pg_gI {μ : vg_M} {a ci k : Nat} {fs : List Value} {x : Int32} (h : μ.1 a = some (.inr (ci, fs))) (hk : fs[k]? = some (.int x)) : vg_gI μ a ci k = some x := by simp only [vg_gI, h, hk, if_true]
theorem pg_gR {μ : vg_M} {a ci k : Nat} {fs : List Value} {x : Nat} (h : μ.1 a = some (.inr (ci, fs))) (hk : fs[k]? = some (.ref x)) : vg_gR μ a ci k = some (some x) := by simp only [vg_gR, h, hk, if_true]
theorem pg_gN {μ : vg_M} {a ci k : Nat} {fs : List Value} (h : μ.1 a = some (.inr (ci, fs))) (hk : fs[k]? = some .null) : vg_gR μ a ci k = some none := by simp only [vg_gR, h, hk, if_true]
theorem pg_ixN {i n : Nat} (h : i < n) (hn : n < 2 ^ 31) : vg_ix (nI i) n = some i := by
  have h1 : (nI i).toNatClampNeg = i := nI_clamp (by omega)
  simp only [vg_ix, if_neg (nI_pos (n := i) (by omega)), h1, if_neg (Nat.not_le.mpr h)]
theorem pg_aI {μ : vg_M} {a t i n : Nat} {f : Nat → Int32} (h : μ.1 a = some (.inl (t, n, .inl f))) (hi : i < n) (hn : n < 2 ^ 31) : vg_aI μ a t (nI i) = some (f i) := by simp only [vg_aI, h, pg_ixN hi hn, if_true]
theorem pg_aR {μ : vg_M} {a i n : Nat} {f : Nat → Option Nat} (h : μ.1 a = some (.inl (5, n, .inr (.inr (.inr (.inr f)))))) (hi : i < n) (hn : n < 2 ^ 31) : vg_aR μ a (nI i) = some (f i) := by simp only [vg_aR, h, pg_ixN hi hn, if_true]
theorem pg_al {μ : vg_M} {a t n : Nat} {d : (Nat → Int32) ⊕ (Nat → Int64) ⊕ (Nat → UInt32) ⊕ (Nat → UInt64) ⊕ (Nat → Option Nat)} (h : μ.1 a = some (.inl (t, n, d))) (ht : t < 6) : vg_al μ a = some (nI n) := by simp only [vg_al, h, if_pos ht]; rfl
-- writes
theorem pg_p {g : pg_G} {a ci k : Nat} {fs : List Value} {v : Value} (h : g.1.1 a = some (.inr (ci, fs))) (hk : k < fs.length) (hs : g.1.2.2.1 ≤ a) : vg_p g.1 a ci k v = some (pg_put g a (.inr (ci, fs.set k v))).1 := by
  simp only [vg_p, h, hk, hs, and_self, if_true, pg_put]
theorem pg_sI {g : pg_G} {a t i n : Nat} {f : Nat → Int32} {x : Int32} (h : g.1.1 a = some (.inl (t, n, .inl f))) (hi : i < n) (hn : n < 2 ^ 31) (hs : g.1.2.2.1 ≤ a) : vg_sI g.1 a t (nI i) x = some (pg_put g a (.inl (t, n, .inl (upd f i (vp_nar (vg_tyI t) x))))).1 := by
  simp only [vg_sI, h, hs, and_self, if_true, pg_ixN hi hn, pg_put]
theorem pg_lenN {n : Nat} (h : n ≤ 67108864) : vg_len (nI n) = some n := by
  have h1 : (nI n).toNatClampNeg = n := nI_clamp (by omega)
  simp only [vg_len, if_neg (nI_pos (n := n) (by omega)), h1, if_neg (Nat.not_lt.mpr h)]
