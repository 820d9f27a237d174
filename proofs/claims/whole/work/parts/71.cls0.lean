/-! The class: steps of programs over a memory with owners. -/
def pg_T {α : Type} (x : vg_R α) (C N : Nat) (W : Nat → Prop) (g : pg_G) (Q : α → pg_G → Prop) : Prop := ∃ (r : α) (g' : pg_G) (c n : Nat), x = some (r, g'.1, c, n) ∧ c ≤ C ∧ n ≤ N ∧ pg_Ext W g g' ∧ Q r g'
section
variable {α β : Type} {C N C1 N1 : Nat} {W W1 : Nat → Prop} {g : pg_G}
theorem pg_T.ret {v : α} {Q : α → pg_G → Prop} (hg : pg_Wf g) (h : Q v g) : pg_T (vg_ret v g.1) C N W g Q := ⟨v, g, 0, 0, rfl, Nat.zero_le _, Nat.zero_le _, pg_Ext.refl hg, h⟩
theorem pg_T.eq {x : vg_R α} {v : α} {Q : α → pg_G → Prop} (hg : pg_Wf g) (e : x = some (v, g.1, 0, 0)) (h : Q v g) : pg_T x C N W g Q := ⟨v, g, 0, 0, e, Nat.zero_le _, Nat.zero_le _, pg_Ext.refl hg, h⟩
theorem pg_T.b {x : vg_R α} {f : α → vg_M → vg_R β} {P : α → pg_G → Prop} {Q : β → pg_G → Prop} (h : pg_T x C1 N1 W1 g P) (hw : ∀ t, W1 t → W t) (hc : C1 ≤ C) (hn : N1 ≤ N) (k : ∀ r g1, pg_Ext W1 g g1 → P r g1 → pg_T (f r g1.1) (C - C1) (N - N1) W g1 Q) : pg_T (vg_b x f) C N W g Q := by
  obtain ⟨r, g1, c1, n1, e1, h1, h2, h3, h4⟩ := h
  obtain ⟨r2, g2, c2, n2, e2, k1, k2, k3, k4⟩ := k r g1 h3 h4
  refine ⟨r2, g2, c1 + c2, n1 + n2, ?_, by omega, by omega, (h3.mono hw).trans k3, k4⟩
  rw [e1]; simp only [vg_b, e2]
theorem pg_T.mono {x : vg_R α} {P Q : α → pg_G → Prop} (h : pg_T x C1 N1 W1 g P) (hc : C1 ≤ C) (hn : N1 ≤ N) (hw : ∀ t, W1 t → W t) (hq : ∀ r g', pg_Ext W1 g g' → P r g' → Q r g') : pg_T x C N W g Q := by
  obtain ⟨r, g1, c1, n1, e1, h1, h2, h3, h4⟩ := h
  exact ⟨r, g1, c1, n1, e1, by omega, by omega, h3.mono hw, hq r g1 h3 h4⟩
theorem pg_Wf.s0 (h : pg_Wf g) {a : Nat} (ht : g.2 a ≠ 0) : g.1.2.2.1 ≤ a := by
  apply Classical.byContradiction
  intro hn
  exact ht (h.2.2 a (by omega))
theorem pg_T.pre {x : vg_R α} {g0 : pg_G} {Q : α → pg_G → Prop} (h0 : pg_Ext W g0 g) (h : pg_T x C N W g Q) : pg_T x C N W g0 Q := by
  obtain ⟨r, g1, c1, n1, e1, h1, h2, h3, h4⟩ := h
  exact ⟨r, g1, c1, n1, e1, h1, h2, h0.trans h3, h4⟩
theorem pg_T.p {f : vg_M → vg_R β} {Q : β → pg_G → Prop} {a ci k : Nat} {fs : List Value} {v : Value} (hg : pg_Wf g) (ha : g.1.1 a = some (.inr (ci, fs))) (hk : k < fs.length) (h0 : g.2 a ≠ 0) (hw : W (g.2 a)) (h : pg_T (f (pg_put g a (.inr (ci, fs.set k v))).1) C N W (pg_put g a (.inr (ci, fs.set k v))) Q) : pg_T (vg_o (vg_p g.1 a ci k v) f) C N W g Q := by
  rw [pg_p ha hk (hg.s0 h0), pg_o1]
  exact h.pre (pg_put_ext hg ha hw (by simp [pg_kd]))
theorem pg_T.sI {f : vg_M → vg_R β} {Q : β → pg_G → Prop} {a t i n : Nat} {fa : Nat → Int32} {x : Int32} (hg : pg_Wf g) (ha : g.1.1 a = some (.inl (t, n, .inl fa))) (hi : i < n) (hn : n < 2 ^ 31) (h0 : g.2 a ≠ 0) (hw : W (g.2 a)) (h : pg_T (f (pg_put g a (.inl (t, n, .inl (upd fa i (vp_nar (vg_tyI t) x))))).1) C N W (pg_put g a (.inl (t, n, .inl (upd fa i (vp_nar (vg_tyI t) x))))) Q) : pg_T (vg_o (vg_sI g.1 a t (nI i) x) f) C N W g Q := by
  rw [pg_sI ha hi hn (hg.s0 h0), pg_o1]
  exact h.pre (pg_put_ext hg ha hw (by simp [pg_kd]))
theorem pg_sR {a i n y : Nat} {ci : Nat} {fs : List Value} {fa : Nat → Option Nat} (ha : g.1.1 a = some (.inl (5, n, .inr (.inr (.inr (.inr fa)))))) (hi : i < n) (hn : n < 2 ^ 31) (hs : g.1.2.2.1 ≤ a) (hy : g.1.1 y = some (.inr (ci, fs))) (hc : ci = 4 ∨ ci = 5 ∨ ci = 7 ∨ ci = 9 ∨ ci = 10) : vg_sR g.1 a (nI i) (some y) = some (pg_put g a (.inl (5, n, .inr (.inr (.inr (.inr (va_up fa i (some y)))))))).1 := by
  simp only [vg_sR, ha, hs, and_self, if_true, pg_ixN hi hn, hy, if_pos hc, pg_put]
theorem pg_sRn {a i n : Nat} {fa : Nat → Option Nat} (ha : g.1.1 a = some (.inl (5, n, .inr (.inr (.inr (.inr fa)))))) (hi : i < n) (hn : n < 2 ^ 31) (hs : g.1.2.2.1 ≤ a) : vg_sR g.1 a (nI i) none = some (pg_put g a (.inl (5, n, .inr (.inr (.inr (.inr (va_up fa i none))))))).1 := by
  simp only [vg_sR, ha, hs, and_self, if_true, pg_ixN hi hn, pg_put]
theorem pg_T.nO {f : Nat → vg_M → vg_R β} {Q : β → pg_G → Prop} {k ci t : Nat} {fs : List Value} (hg : pg_Wf g) (hc : 1 ≤ C) (hn : k ≤ N) (h : pg_T (f g.1.2.1 (pg_new g t (.inr (ci, fs))).1) (C - 1) (N - k) W (pg_new g t (.inr (ci, fs))) Q) : pg_T (vg_nw k g.1.2.1 (vg_nO g.1 ci fs) f) C N W g Q := by
  obtain ⟨r, g1, c1, n1, e1, h1, h2, h3, h4⟩ := h
  refine ⟨r, g1, 1 + c1, k + n1, ?_, by omega, by omega, (pg_new_ext hg).trans h3, h4⟩
  have e : vg_nO g.1 ci fs = (pg_new g t (.inr (ci, fs))).1 := rfl
  rw [e]; simp only [vg_nw, vg_n, e1]
theorem pg_T.nA {f : Nat → vg_M → vg_R β} {Q : β → pg_G → Prop} {k ty t : Nat} (hg : pg_Wf g) (hc : 1 ≤ C) (hn : k ≤ N) (h : pg_T (f g.1.2.1 (pg_new g t (.inl (ty, k, .inl (fun _ => 0)))).1) (C - 1) (N - k) W (pg_new g t (.inl (ty, k, .inl (fun _ => 0)))) Q) : pg_T (vg_nw k g.1.2.1 (vg_nA g.1 ty k) f) C N W g Q := by
  obtain ⟨r, g1, c1, n1, e1, h1, h2, h3, h4⟩ := h
  refine ⟨r, g1, 1 + c1, k + n1, ?_, by omega, by omega, (pg_new_ext hg).trans h3, h4⟩
  have e : vg_nA g.1 ty k = (pg_new g t (.inl (ty, k, .inl (fun _ => 0)))).1 := rfl
  rw [e]; simp only [vg_nw, vg_n, e1]
theorem pg_T.nR {f : Nat → vg_M → vg_R β} {Q : β → pg_G → Prop} {k t : Nat} (hg : pg_Wf g) (hc : 1 ≤ C) (hn : k ≤ N) (h : pg_T (f g.1.2.1 (pg_new g t (.inl (5, k, .inr (.inr (.inr (.inr (fun _ => none))))))).1) (C - 1) (N - k) W (pg_new g t (.inl (5, k, .inr (.inr (.inr (.inr (fun _ => none))))))) Q) : pg_T (vg_nw k g.1.2.1 (vg_nR g.1 k) f) C N W g Q := by
  obtain ⟨r, g1, c1, n1, e1, h1, h2, h3, h4⟩ := h
  refine ⟨r, g1, 1 + c1, k + n1, ?_, by omega, by omega, (pg_new_ext hg).trans h3, h4⟩
  have e : vg_nR g.1 k = (pg_new g t (.inl (5, k, .inr (.inr (.inr (.inr (fun _ => none))))))).1 := rfl
  rw [e]; simp only [vg_nw, vg_n, e1]
/-- a tag that no cell bears yet -/
def pg_fr (g : pg_G) : Nat := (List.range g.1.2.1).foldl (fun m b => max m (g.2 b)) 0 + 1
theorem pg_fr_ne {b : Nat} (h : b < g.1.2.1) : g.2 b ≠ pg_fr g := by
  have key : ∀ (L : List Nat) (m : Nat), m ≤ L.foldl (fun m b => max m (g.2 b)) m ∧ ∀ b ∈ L, g.2 b ≤ L.foldl (fun m b => max m (g.2 b)) m := by
    intro L
    induction L with
    | nil => intro m; exact ⟨Nat.le_refl _, fun b hb => by cases hb⟩
    | cons x L ih =>
      intro m
      obtain ⟨a, b⟩ := ih (max m (g.2 x))
      refine ⟨by rw [List.foldl_cons]; omega, fun y hy => ?_⟩
      rw [List.foldl_cons]
      rcases List.mem_cons.mp hy with e | e
      · rw [e]; omega
      · exact b y e
  have := (key (List.range g.1.2.1) 0).2 b (List.mem_range.mpr h)
  unfold pg_fr
  omega
theorem pg_fr_0 : pg_fr g ≠ 0 := by unfold pg_fr; omega
/-- what was built under a tag of its own gets other owners -/
theorem pg_T.fresh {x : vg_R α} {P Q : α → pg_G → Prop} (hg : pg_Wf g) (h : pg_T x C N (fun t => W t ∨ t = pg_fr g) g P) (hq : ∀ r g', pg_Ext (fun t => W t ∨ t = pg_fr g) g g' → P r g' → ∃ ρ : Nat → Nat, (∀ b, b < g.1.2.1 → ρ b = g'.2 b) ∧ Q r (g'.1, ρ)) : pg_T x C N W g Q := by
  obtain ⟨r, g1, c1, n1, e1, h1, h2, h3, h4⟩ := h
  obtain ⟨ρ, q1, q2⟩ := hq r g1 h3 h4
  refine ⟨r, (g1.1, ρ), c1, n1, e1, h1, h2, ?_, q2⟩
  obtain ⟨a1, a2, a3, a4, a5, a6⟩ := h3
  refine ⟨a1, a2, fun b hb => by show ρ b = g.2 b; rw [q1 b hb, a3 b hb], fun b hb hn => a4 b hb (fun h => h.elim hn (pg_fr_ne hb)), a5, a6.1, a6.2.1, fun b hb => ?_⟩
  have hb' : b < g1.1.2.2.1 := hb
  have hs : g1.1.2.2.1 = g.1.2.2.1 := by rw [a2]
  have hlt : b < g.1.2.1 := by have := hg.2.1; omega
  show ρ b = 0
  rw [q1 b hlt]; exact a6.2.2 b hb'
theorem pg_br {x : vg_R α} : vg_b x (fun r μ => vg_ret r μ) = x := by
  cases x with
  | none => rfl
  | some q => rfl
theorem pg_new_wf {t : Nat} {e : vg_E} (hg : pg_Wf g) : pg_Wf (pg_new g t e) := (pg_new_ext (W := fun _ => True) hg).wf
theorem pg_put_wf {a : Nat} {e0 e : vg_E} (hg : pg_Wf g) (ha : g.1.1 a = some e0) : pg_Wf (pg_put g a e) := by
  have hal := hg.lt ha
  refine ⟨fun b hb => ?_, hg.2⟩
  rw [pg_put_ne g e (by intro h; subst h; exact absurd hal (Nat.not_lt.mpr hb))]
  exact hg.1 b hb
theorem pg_new_t {t b : Nat} {e : vg_E} (h : b ≠ g.1.2.1) : (pg_new g t e).2 b = g.2 b := va_up_ne _ _ h
theorem pg_put_t {a b : Nat} {e : vg_E} : (pg_put g a e).2 b = g.2 b := rfl
theorem pg_new_s {t : Nat} {e : vg_E} : (pg_new g t e).1.2.1 = g.1.2.1 + 1 := rfl
theorem pg_put_s {a : Nat} {e : vg_E} : (pg_put g a e).1.2 = g.1.2 := rfl
end
