/-! Reading a pattern: what is being made has owners of its own. -/
section
variable {g g' : pg_G} {W : Nat → Prop}
theorem va_upup {α : Type} {m : Nat → α} {q : Nat} {x y : α} : va_up (va_up m q x) q y = va_up m q y := by
  funext b
  by_cases h : b = q
  · rw [h, va_up_self, va_up_self]
  · rw [va_up_ne _ _ h, va_up_ne _ _ h, va_up_ne _ _ h]
theorem pg_newp {t ci k : Nat} {fs : List Value} {v : Value} (hg : pg_Wf g) (hk : k < fs.length) : vg_p (pg_new g t (.inr (ci, fs))).1 g.1.2.1 ci k v = some (pg_new g t (.inr (ci, fs.set k v))).1 := by
  have h := pg_new_self g t (.inr (ci, fs))
  have hs : (pg_new g t (.inr (ci, fs))).1.2.2.1 ≤ g.1.2.1 := hg.2.1
  simp only [vg_p, h, hk, hs, and_self, if_true]
  simp only [pg_new, va_upup]
theorem pg_fr_le {b : Nat} (h : b < g.1.2.1) : g.2 b < pg_fr g := by
  have key : ∀ (L : List Nat) (m : Nat), m ≤ L.foldl (fun m b => max m (g.2 b)) m ∧ ∀ b ∈ L, g.2 b ≤ L.foldl (fun m b => max m (g.2 b)) m := by
    intro L
    induction L with
    | nil => intro m; exact ⟨Nat.le_refl _, fun b hb => by cases hb⟩
    | cons x L ih =>
      intro m
      obtain ⟨a, b⟩ := ih (max m (g.2 x))
      refine ⟨by rw [List.foldl_cons]; omega, fun y hy => ?_⟩
      rw [List.foldl_cons]
      rcases List.mem_cons.mp hy with e | e
      · rw [e]; omega
      · exact b y e
  have := (key (List.range g.1.2.1) 0).2 b (List.mem_range.mpr h)
  unfold pg_fr
  omega
theorem pg_T.nOi {β : Type} {F : Nat → vg_M → vg_R β} {f' : vg_R β} {Q : β → pg_G → Prop} {C N k ci t : Nat} {fs : List Value} {e1 : vg_E} (hg : pg_Wf g) (hc : 1 ≤ C) (hn : k ≤ N) (he : F g.1.2.1 (pg_new g t (.inr (ci, fs))).1 = f') (h : pg_T f' (C - 1) (N - k) W (pg_new g t e1) Q) : pg_T (vg_nw k g.1.2.1 (vg_nO g.1 ci fs) F) C N W g Q := by
  obtain ⟨r, g1, c1, n1, q1, h1, h2, h3, h4⟩ := h
  refine ⟨r, g1, 1 + c1, k + n1, ?_, by omega, by omega, (pg_new_ext hg).trans h3, h4⟩
  have e : vg_nO g.1 ci fs = (pg_new g t (.inr (ci, fs))).1 := rfl
  rw [e]; simp only [vg_nw, vg_n, he, q1]
/-- owners from E on are all new; at the end they give up what they made -/
def pg_rN (g' : pg_G) (E : Nat) : Nat → Nat := fun b => if E ≤ g'.2 b then 0 else g'.2 b
theorem pg_T.freshN {α : Type} {x : vg_R α} {C N : Nat} {P Q : α → pg_G → Prop} (hg : pg_Wf g) (h : pg_T x C N (fun t => W t ∨ pg_fr g + 100 ≤ t) g P) (hq : ∀ r g', pg_Ext (fun t => W t ∨ pg_fr g + 100 ≤ t) g g' → P r g' → Q r (g'.1, pg_rN g' (pg_fr g + 100))) : pg_T x C N W g Q := by
  obtain ⟨r, g1, c1, n1, e1, h1, h2, h3, h4⟩ := h
  refine ⟨r, (g1.1, pg_rN g1 (pg_fr g + 100)), c1, n1, e1, h1, h2, ?_, hq r g1 h3 h4⟩
  obtain ⟨a1, a2, a3, a4, a5, a6⟩ := h3
  have old : ∀ b, b < g.1.2.1 → pg_rN g1 (pg_fr g + 100) b = g.2 b := fun b hb => by
    unfold pg_rN
    rw [a3 b hb, if_neg (by have := pg_fr_le hb; omega)]
  refine ⟨a1, a2, old, fun b hb hn => a4 b hb (fun h => h.elim hn (fun h => by have := pg_fr_le hb; omega)), a5, a6.1, a6.2.1, fun b hb => ?_⟩
  have hb' : b < g1.1.2.2.1 := hb
  have hs : g1.1.2.2.1 = g.1.2.2.1 := by rw [a2]
  have hlt : b < g.1.2.1 := by have := hg.2.1; omega
  show pg_rN g1 _ b = 0
  rw [old b hlt]
  exact hg.2.2 b (by omega)
theorem pg_rN_0 {E b : Nat} (h : g'.2 b = 0) : pg_rN g' E b = 0 := by unfold pg_rN; rw [h, ite_self]
theorem pg_rN_E {E b : Nat} (h : E ≤ g'.2 b) : pg_rN g' E b = 0 := if_pos h
theorem pg_rN_lt {E b t : Nat} (h : g'.2 b = t) (ht : t < E) : pg_rN g' E b = t := by unfold pg_rN; rw [h, if_neg (by omega)]
theorem ps_S.rN {E a : Nat} {w : List Nat} (h : ps_S g' a w) : ps_S (g'.1, pg_rN g' E) a w := by
  obtain ⟨v, x, z, f, h1, h2, h3, h4, h5, h6, h7⟩ := h
  exact ⟨v, x, z, f, h1, h2, h3, h4, h5, pg_rN_0 h6, pg_rN_0 h7⟩
theorem pl_L.rN {E t a ci : Nat} {xs : List Nat} (h : pl_L g' t a ci xs) (ht : E ≤ t) : pl_L (g'.1, pg_rN g' E) 0 a ci xs := by
  obtain ⟨e, md, h1, h2, h3, h4, h5⟩ := h
  refine ⟨e, md, h1, pg_rN_E (by rw [h2]; exact ht), h3, h4, ?_⟩
  rcases h5 with h5 | ⟨cap, f, h5, h6, h7⟩
  · exact Or.inl h5
  · exact Or.inr ⟨cap, f, h5, pg_rN_E (by rw [h6]; exact ht), h7⟩
end
-- a piece that is being made
def cq_q2 (g : pg_G) (τo τl x : Nat) (c : List (List Nat)) : Prop := ∃ l st ps, g.1.1 x = some (.inr (9, [.int 0, .ref l, .int st])) ∧ g.2 x = τo ∧ pl_L g τl l 5 ps ∧ ps.length = c.length ∧ c.length ≤ 8 ∧ (∀ i, i < c.length → cq_t g 0 (ps.getD i 0) (lets (c.getD i []))) ∧ bs st (stb c)
section
variable {g g' : pg_G} {W : Nat → Prop} {τo τl x : Nat} {c : List (List Nat)}
theorem cq_q2.ext (h : cq_q2 g τo τl x c) (hg : pg_Wf g) (he : pg_Ext W g g') (ho : ¬ W τo) (hl : ¬ W τl) (h0 : ¬ W 0) : cq_q2 g' τo τl x c := by
  obtain ⟨l, st, ps, h1, h2, h3, h4, h5, h6, h7⟩ := h
  exact ⟨l, st, ps, he.at hg h1 (by rw [h2]; exact ho), by rw [he.tag hg h1, h2], h3.ext hg he (by decide) hl, h4, h5, fun i hi => (h6 i hi).ext hg he h0 h0, h7⟩
theorem cq_q2.rN {E : Nat} (h : cq_q2 g' τo τl x c) (ho : E ≤ τo) (hl : E ≤ τl) : cq_q (g'.1, pg_rN g' E) 0 x c := by
  obtain ⟨l, st, ps, h1, h2, h3, h4, h5, h6, h7⟩ := h
  refine ⟨l, st, ps, h1, pg_rN_E (by rw [h2]; exact ho), h3.rN hl, h4, h5, fun i hi => ?_, h7⟩
  obtain ⟨s, q1, q2, q3⟩ := h6 i hi
  exact ⟨s, q1, pg_rN_0 q2, q3.rN⟩
theorem getD_snocL {a : List Nat} {i : Nat} : (c ++ [a]).getD i [] = if i < c.length then c.getD i [] else if i = c.length then a else [] := getD_app
theorem stb_snoc {a : List Nat} (j : Nat) : stb (c ++ [a]) j = (stb c j || (decide (j = c.length) && decide (a = [42]))) := by
  unfold stb
  rw [getD_snocL]
  by_cases h1 : j < c.length
  · rw [if_pos h1, decide_eq_false (p := j = c.length) (by omega), Bool.false_and, Bool.or_false]
  · rw [if_neg h1, getD_out (c := c) (i := j) (by omega)]
    by_cases h2 : j = c.length
    · rw [if_pos h2, decide_eq_true h2]; rfl
    · rw [if_neg h2, decide_eq_false h2]; rfl
/-- one more part -/
theorem cq_addP {l b : Nat} {st : Int32} {ps : List Nat} {a : List Nat} {β : Type} {f : vg_M → vg_R β} {C N : Nat} {Q : β → pg_G → Prop} (hg : pg_Wf g) (hC : pg_C g) (h1 : g.1.1 x = some (.inr (9, [.int 0, .ref l, .int st]))) (h2 : g.2 x = τo) (h3 : pl_L g τl l 5 ps) (h4 : ps.length = c.length) (h5 : c.length < 8) (h6 : ∀ i, i < c.length → cq_t g 0 (ps.getD i 0) (lets (c.getD i []))) (hs : ps_S g b (lets a)) (hst : bs st (stb (c ++ [a]))) (ht : τl ≠ 0) (hto : τo ≠ τl) (hW : W τl) (hc : 2 ≤ C) (hn : 27 ≤ N) (k : ∀ g1, pg_Ext (fun t => t = τl) g g1 → cq_q2 g1 τo τl x (c ++ [a]) → pg_T (f g1.1) (C - 2) (N - 27) W g1 Q) : pg_T (vg_nw 1 g.1.2.1 (vg_nO g.1 5 [.null]) fun a2 μ3 => vg_b (fX2_init a2 (some b) μ3) fun _ μ5 => vg_o (some l) fun a6 => vg_cv 2 a6 μ5 (fJx4a65c_add_9ea2d a6 (some a2) μ5) fun _ μ8 => f μ8) C N W g Q := by
  have x1 := pg_new_ext (W := fun _ => False) (t := 0) (e := .inr (5, [.null].set 0 (va_rf (some b)))) hg
  have o1 := pg_new_self g 0 (.inr (5, [.null].set 0 (va_rf (some b))))
  have t1 := pg_new_tag g 0 (.inr (5, [.null].set 0 (va_rf (some b))))
  have l1 := h3.ext hg x1 (by decide) (fun h => h)
  obtain ⟨fl, hlo⟩ := pl_is l1
  refine pg_T.nOi (t := 0) (e1 := .inr (5, [.null].set 0 (va_rf (some b)))) hg (by omega) (by omega) (by rw [fX2_init, pg_newp hg (by simp), pg_o1, vu_ret, pg_b0, pg_o1, pg_cv hlo]) ?_
  have hal := hg.lt h1
  have a1 := x1.at hg h1 (fun h => h)
  have ta1 : (pg_new g 0 (.inr (5, [.null].set 0 (va_rf (some b))))).2 x = τo := by rw [x1.tag hg h1]; exact h2
  have hC1 := hC.ext hg x1 (fun h => h)
  have s1 := hs.ext hg x1 (fun h => h)
  have p1 : ∀ i, i < c.length → cq_t (pg_new g 0 (.inr (5, [.null].set 0 (va_rf (some b))))) 0 (ps.getD i 0) (lets (c.getD i [])) := fun i hi => (h6 i hi).ext hg x1 (fun h => h) (fun h => h)
  have w1 := x1.wf
  have xW : pg_Ext (fun t => t = τl) g (pg_new g 0 (.inr (5, [.null].set 0 (va_rf (some b))))) := x1.mono (fun _ h => h.elim)
  generalize pg_new g 0 (.inr (5, [.null].set 0 (va_rf (some b)))) = g1 at *
  refine pg_T.b (pl_add w1 hC1 (Or.inr (Or.inl rfl)) l1 ht ⟨_, o1⟩ (by omega)) (fun t h => h ▸ hW) (by omega) (by omega) (fun r g2 x2 l2 => ?_)
  refine (k g2 (xW.trans x2) ⟨l, st, ps ++ [g.1.2.1], x2.at w1 a1 (by rw [ta1]; exact hto), by rw [x2.tag w1 a1, ta1], l2, by rw [List.length_append, List.length_append, h4]; rfl, by rw [List.length_append]; show c.length + 1 ≤ 8; omega, fun i hi => ?_, hst⟩).mono (by omega) (by omega) (fun _ h => h) (fun _ _ _ h => h)
  rw [List.length_append] at hi
  have hi : i < c.length + 1 := hi
  rw [getD_snocL, getD_snoc, h4]
  by_cases hie : i = c.length
  · rw [if_neg (by omega), if_pos hie, if_neg (by omega), if_pos hie]
    exact ⟨b, x2.at w1 o1 (by rw [t1]; exact fun e => ht e.symm), by rw [x2.tag w1 o1, t1], s1.ext w1 x2 (fun e => ht e.symm)⟩
  · rw [if_pos (by omega), if_pos (by omega)]
    exact (p1 i (by omega)).ext w1 x2 (fun e => ht e.symm) (fun e => ht e.symm)
theorem cq_addL {b : Nat} {a : List Nat} (hg : pg_Wf g) (hC : pg_C g) (h : cq_q2 g τo τl x c) (h5 : c.length < 8) (hs : ps_S g b (lets a)) (ha : a ≠ [42]) (ht : τl ≠ 0) (hto : τo ≠ τl) : pg_T (fX6_addLetters x (some b) g.1) 2 27 (fun t => t = τl) g (fun _ g' => cq_q2 g' τo τl x (c ++ [a])) := by
  obtain ⟨l, st, ps, h1, h2, h3, h4, h5', h6, h7⟩ := h
  rw [fX6_addLetters, pg_gR h1 (k := 1) rfl, pg_o1]
  refine cq_addP (a := a) hg hC h1 h2 h3 h4 h5 h6 hs (bs_eq h7 (fun j _ => ?_)) ht hto rfl (by omega) (by omega) (fun g1 hx hq => pg_T.ret hx.wf hq)
  rw [stb_snoc, decide_eq_false ha, Bool.and_false, Bool.or_false]
theorem cq_addS (hg : pg_Wf g) (hC : pg_C g) (h : cq_q2 g τo τl x c) (h5 : c.length < 8) (ht : τl ≠ 0) (hto' : τo ≠ 0) (hto : τo ≠ τl) : pg_T (fX6_addStar x g.1) 2 27 (fun t => t = τo ∨ t = τl) g (fun _ g' => cq_q2 g' τo τl x (c ++ [[42]])) := by
  obtain ⟨l, st, ps, h1, h2, h3, h4, h5', h6, h7⟩ := h
  obtain ⟨fl, hlo⟩ := pl_is h3
  rw [fX6_addStar, pg_gI h1 (k := 2) rfl, pg_o1, pg_gR h1 (k := 1) rfl, pg_o1, pg_o1, pg_cv hlo, pl_size h3, pg_b0]
  have x1 := pg_put_ext (W := fun t => t = τo) (e := .inr (9, [.int 0, .ref l, .int st].set 2 (.int (st ||| (1 <<< (nI ps.length &&& 31)))))) hg h1 h2 (by simp [pg_kd])
  refine pg_T.p hg h1 (by simp) (by rw [h2]; exact hto') (Or.inl h2) ?_
  have o1 := pg_put_self g x (.inr (9, [.int 0, .ref l, .int st].set 2 (.int (st ||| (1 <<< (nI ps.length &&& 31))))))
  have t1 : (pg_put g x (.inr (9, [.int 0, .ref l, .int st].set 2 (.int (st ||| (1 <<< (nI ps.length &&& 31))))))).2 x = τo := h2
  have hC1 := hC.ext hg x1 (fun e => hto' e.symm)
  have l1 := h3.ext hg x1 (by decide) (fun e => hto e.symm)
  have p1 : ∀ i, i < c.length → cq_t (pg_put g x (.inr (9, [.int 0, .ref l, .int st].set 2 (.int (st ||| (1 <<< (nI ps.length &&& 31))))))) 0 (ps.getD i 0) (lets (c.getD i [])) := fun i hi => (h6 i hi).ext hg x1 (fun e => hto' e.symm) (fun e => hto' e.symm)
  have w1 := x1.wf
  generalize pg_put g x (.inr (9, [.int 0, .ref l, .int st].set 2 (.int (st ||| (1 <<< (nI ps.length &&& 31)))))) = g1 at *
  rw [pg_gR o1 (k := 1) rfl, pg_o1]
  show pg_T (vg_nw 1 g1.1.2.1 (vg_nO g1.1 5 [.null]) fun a2 μ3 => vg_b (fX2_init a2 (some (g1.1.2.2.2 17)) μ3) fun _ μ5 => vg_o (some l) fun a6 => vg_cv 2 a6 μ5 (fJx4a65c_add_9ea2d a6 (some a2) μ5) fun _ μ8 => vg_ret () μ8) _ _ _ _ _
  refine cq_addP (a := [42]) w1 hC1 o1 t1 l1 h4 h5 p1 (by rw [lets_star]; exact hC1.2.2.2.2.2.1) (bs_eq (bs_or h7 (bs_s1 (i := ps.length) (by omega))) (fun j _ => ?_)) ht hto (Or.inr rfl) (by omega) (by omega) (fun g1 hx hq => pg_T.ret hx.wf hq)
  show (stb c j || decide (j = ps.length)) = _
  rw [stb_snoc, h4, decide_eq_true (p := ([42] : List Nat) = [42]) rfl, Bool.and_true]
theorem cq_full (h : cq_q2 g τo τl x c) : fX6_isFull x g.1 = some (bI (decide (8 ≤ c.length)), g.1, 0, 0) := by
  obtain ⟨l, st, ps, h1, h2, h3, h4, h5, h6, h7⟩ := h
  obtain ⟨fl, hlo⟩ := pl_is h3
  simp only [fX6_isFull, pg_gR h1 (k := 1) rfl, pg_o1, pg_cv hlo, pl_size h3, pg_b0, h4, fX6_isFull_17, pg_z0, pg_z1, vu_ret]
  by_cases h8 : 8 ≤ c.length
  · rw [if_neg (show ¬ nI c.length < 8 from nI_nlt (b := 8) h8 (by omega)), decide_eq_true h8]; rfl
  · rw [if_pos (show nI c.length < 8 from nI_lt (b := 8) (by omega) (by decide)), decide_eq_false h8]; rfl
/-- a new piece -/
theorem cq_new (dp0 : Bool) (hg : pg_Wf g) {β : Type} {f : Nat → vg_M → vg_R β} {C N : Nat} {Q : β → pg_G → Prop} (ht : τl ≠ 0) (hto' : τo ≠ 0) (hto : τo ≠ τl) (hWo : W τo) (hWl : W τl) (hc : 2 ≤ C) (hn : 6 ≤ N) (k : ∀ g1, pg_Ext (fun t => t = τo ∨ t = τl) g g1 → (∃ l, g1.1.1 g.1.2.1 = some (.inr (9, [.int (bI dp0), .ref l, .int 0])) ∧ g1.2 g.1.2.1 = τo ∧ pl_L g1 τl l 5 []) → pg_T (f g.1.2.1 g1.1) (C - 2) (N - 6) W g1 Q) : pg_T (vg_nw 3 g.1.2.1 (vg_nO g.1 9 [.int 0, .null, .int 0]) fun a20 μ21 => vg_b (fX6_init a20 (bI dp0) μ21) fun _ μ23 => f a20 μ23) C N W g Q := by
  refine pg_T.nO (t := τo) hg (by omega) (by omega) ?_
  have x1 := pg_new_ext (W := fun _ => False) (t := τo) (e := .inr (9, [.int 0, .null, .int 0])) hg
  have a1 := pg_new_self g τo (.inr (9, [.int 0, .null, .int 0]))
  have t1 := pg_new_tag g τo (.inr (9, [.int 0, .null, .int 0]))
  have w1 := x1.wf
  generalize pg_new g τo (.inr (9, [.int 0, .null, .int 0])) = g1 at *
  refine pg_T.b (C1 := 1) (N1 := 3) (W1 := fun t => t = τo ∨ t = τl) (P := fun _ g' => ∃ l, g'.1.1 g.1.2.1 = some (.inr (9, [.int (bI dp0), .ref l, .int 0])) ∧ g'.2 g.1.2.1 = τo ∧ pl_L g' τl l 5 []) ?_ (fun t h => h.elim (fun h => h ▸ hWo) (fun h => h ▸ hWl)) (by omega) (by omega) (fun r g5 x5 hp => (k g5 ((x1.mono (fun _ h => h.elim)).trans x5) hp).mono (by omega) (by omega) (fun _ h => h) (fun _ _ _ h => h))
  unfold fX6_init
  refine pg_T.nO (t := τl) w1 (by decide) (by decide) ?_
  have x2 := pg_new_ext (W := fun _ => False) (t := τl) (e := .inr (2, [.int 0, .null, .int 0])) w1
  have a2 := x2.at w1 a1 (fun h => h)
  have t2 : (pg_new g1 τl (.inr (2, [.int 0, .null, .int 0]))).2 g.1.2.1 = τo := by rw [x2.tag w1 a1]; exact t1
  have b2 := pg_new_self g1 τl (.inr (2, [.int 0, .null, .int 0]))
  have u2 := pg_new_tag g1 τl (.inr (2, [.int 0, .null, .int 0]))
  have w2 := x2.wf
  generalize pg_new g1 τl (.inr (2, [.int 0, .null, .int 0])) = g2 at *
  refine pg_T.b (pl_init (ci := 5) w2 b2 u2 ht) (fun t h => Or.inr h) (by decide) (by decide) (fun r g3 x3 l3 => ?_)
  have a3 := x3.at w2 a2 (by rw [t2]; exact hto)
  have t3 : g3.2 g.1.2.1 = τo := by rw [x3.tag w2 a2]; exact t2
  have w3 := x3.wf
  refine pg_T.p w3 a3 (by simp) (by rw [t3]; exact hto') (Or.inl t3) ?_
  have x4 := pg_put_ext (W := fun t => t = τo) (e := .inr (9, [.int 0, .null, .int 0].set 1 (.ref g1.1.2.1))) w3 a3 t3 (by simp [pg_kd])
  have a4 := pg_put_self g3 g.1.2.1 (.inr (9, [.int 0, .null, .int 0].set 1 (.ref g1.1.2.1)))
  have l4 := l3.ext w3 x4 (by decide) (fun e => hto e.symm)
  rw [bI_z, pg_o1]
  have x5 := pg_put_ext (W := fun t => t = τo) (e := .inr (9, ([.int 0, .null, .int 0].set 1 (.ref g1.1.2.1)).set 0 (.int (bI dp0)))) x4.wf a4 t3 (by simp [pg_kd])
  exact pg_T.p x4.wf a4 (by simp) (by rw [pg_put_t, t3]; exact hto') (Or.inl t3) (pg_T.ret x5.wf ⟨_, pg_put_self _ _ _, t3, l4.ext x4.wf x5 (by decide) (fun e => hto e.symm)⟩)
end
