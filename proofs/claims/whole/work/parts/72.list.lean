/-! Lists of the class. -/
/-- the kind of an object: its class -/
def pg_is (g : pg_G) (a ci : Nat) : Prop := ∃ fs, g.1.1 a = some (.inr (ci, fs))
theorem pg_is.ext {W : Nat → Prop} {g g' : pg_G} {a ci : Nat} (h : pg_is g a ci) (hg : pg_Wf g) (he : pg_Ext W g g') (hc : ci < 100) : pg_is g' a ci := by
  obtain ⟨fs, h⟩ := h
  have := he.2.2.2.2.1 a (hg.lt h)
  rw [h] at this
  cases hx : g'.1.1 a with
  | none => rw [hx] at this; simp [pg_kd] at this
  | some e =>
    rw [hx] at this
    cases e with
    | inl o => simp only [pg_kd, Option.some.injEq, Prod.mk.injEq] at this; omega
    | inr o => simp only [pg_kd, Option.some.injEq, Prod.mk.injEq] at this; exact ⟨o.2, by rw [hx, ← this.1]⟩
/-- constants: the empty strings, the shared empty array, dots, the mirror's word -/
def pg_C (g : pg_G) : Prop := ps_S g (g.1.2.2.2 0) [] ∧ ps_S g (g.1.2.2.2 1) [] ∧ ps_S g (g.1.2.2.2 4) [] ∧ ps_S g (g.1.2.2.2 8) [46] ∧ ps_S g (g.1.2.2.2 9) [46, 46] ∧ ps_S g (g.1.2.2.2 17) [] ∧ ∃ f, g.1.1 (g.1.2.2.2 31) = some (.inl (5, 0, .inr (.inr (.inr (.inr f))))) ∧ g.2 (g.1.2.2.2 31) = 0
theorem pg_C.ext {W : Nat → Prop} {g g' : pg_G} (h : pg_C g) (hg : pg_Wf g) (he : pg_Ext W g g') (hw : ¬ W 0) : pg_C g' := by
  have e : g'.1.2.2.2 = g.1.2.2.2 := by rw [he.2.1]
  obtain ⟨h0, h1, h4, h8, h9, h17, f, h31, h31t⟩ := h
  unfold pg_C
  rw [e]
  exact ⟨h0.ext hg he hw, h1.ext hg he hw, h4.ext hg he hw, h8.ext hg he hw, h9.ext hg he hw, h17.ext hg he hw, f, he.at hg h31 (by rw [h31t]; exact hw), by rw [he.tag hg h31, h31t]⟩
/-- a list: its object and its rows belong to t; what it holds is of class ci -/
def pl_L (g : pg_G) (t a ci : Nat) (xs : List Nat) : Prop := ∃ (e : Nat) (md : Int32), g.1.1 a = some (.inr (2, [.int md, .ref e, .int (nI xs.length)])) ∧ g.2 a = t ∧ (∀ x ∈ xs, pg_is g x ci) ∧ xs.length ≤ 100 ∧ ((xs = [] ∧ e = g.1.2.2.2 31) ∨ ∃ (cap : Nat) (f : Nat → Option Nat), g.1.1 e = some (.inl (5, cap, .inr (.inr (.inr (.inr f))))) ∧ g.2 e = t ∧ xs.length ≤ cap ∧ 10 ≤ cap ∧ cap ≤ 300 ∧ ∀ i, i < xs.length → f i = some (xs.getD i 0))
theorem pl_L.ext {W : Nat → Prop} {g g' : pg_G} {t a ci : Nat} {xs : List Nat} (h : pl_L g t a ci xs) (hg : pg_Wf g) (he : pg_Ext W g g') (hc : ci < 100) (hw : ¬ W t) : pl_L g' t a ci xs := by
  obtain ⟨e, md, h1, h2, h3, h4, h5⟩ := h
  refine ⟨e, md, he.at hg h1 (by rw [h2]; exact hw), by rw [he.tag hg h1, h2], fun x hx => (h3 x hx).ext hg he hc, h4, ?_⟩
  rcases h5 with h5 | ⟨cap, f, h5, h6, h7⟩
  · exact Or.inl ⟨h5.1, by rw [h5.2, he.2.1]⟩
  · exact Or.inr ⟨cap, f, he.at hg h5 (by rw [h6]; exact hw), by rw [he.tag hg h5, h6], h7⟩
section
variable {g : pg_G} {t a ci : Nat} {xs : List Nat}
theorem pl_is (h : pl_L g t a ci xs) : pg_is g a 2 := by obtain ⟨e, md, h1, -⟩ := h; exact ⟨_, h1⟩
theorem pl_size (h : pl_L g t a ci xs) : fJx4a65c_size_8abf5 a g.1 = some (nI xs.length, g.1, 0, 0) := by
  obtain ⟨e, md, h1, -⟩ := h
  simp only [fJx4a65c_size_8abf5, pg_gI h1 (k := 2) rfl, pg_o1, vg_ret]
theorem pl_isEmpty (h : pl_L g t a ci xs) : fJx4a65c_isEmpty_aae02 a g.1 = some (bI (decide (xs = [])), g.1, 0, 0) := by
  obtain ⟨e, md, h1, h2, h3, h4, -⟩ := h
  simp only [fJx4a65c_isEmpty_aae02, pg_gI h1 (k := 2) rfl, pg_o1, li_eq0 (show xs.length < 2 ^ 31 by omega), fJx4a65c_isEmpty_aae02_12, pg_z1, pg_z0, vg_ret]
  by_cases h0 : xs.length = 0
  · rw [if_pos h0, decide_eq_true (List.eq_nil_of_length_eq_zero h0)]; rfl
  · rw [if_neg h0, decide_eq_false (fun e => h0 (by rw [e]; rfl))]; rfl
theorem pl_get {i : Nat} (h : pl_L g t a ci xs) (hi : i < xs.length) : fJx4a65c_get_915e3 a (nI i) g.1 = some (some (xs.getD i 0), g.1, 0, 0) := by
  obtain ⟨e, md, h1, h2, h3, h4, h5⟩ := h
  rcases h5 with h5 | ⟨cap, f, h5, h6, h7, h8, h9, h10⟩
  · rw [h5.1] at hi; exact absurd hi (Nat.not_lt_zero _)
  · simp only [fJx4a65c_get_915e3, pg_gI h1 (k := 2) rfl, pg_o1, fJ15_checkIndex_7cf53, ps_chkI hi (by omega), pg_b0, vg_ret, pg_cv h1, fJx4a65c_elementData_915e3, pg_gR h1 (k := 1) rfl, pg_aR h5 (show i < cap by omega) (by omega), h10 i hi]
theorem pl_ob {x : Nat} (h : pg_is g x ci) (hc : ci = 4 ∨ ci = 5 ∨ ci = 7 ∨ ci = 9 ∨ ci = 10) : vg_ob g.1 x = true := by
  obtain ⟨fs, h⟩ := h
  simp only [vg_ob, h, decide_eq_true hc]
theorem pg_cpR {a0 b n0 n1 sp dp n : Nat} {f h : Nat → Option Nat} (h0 : g.1.1 a0 = some (.inl (5, n0, .inr (.inr (.inr (.inr f)))))) (h1 : g.1.1 b = some (.inl (5, n1, .inr (.inr (.inr (.inr h)))))) (hs : g.1.2.2.1 ≤ b) (h2 : sp + n ≤ n0) (h3 : dp + n ≤ n1) (hb0 : n0 < 2 ^ 31) (hb1 : n1 < 2 ^ 31) (ho : ∀ i, i < n → (f (sp + i)).all (vg_ob g.1) = true) : vg_cpR g.1 a0 (nI sp) b (nI dp) (nI n) = some (pg_put g b (.inl (5, n1, .inr (.inr (.inr (.inr (va_cpy f h sp dp n))))))).1 := by
  have c1 : (nI sp).toNatClampNeg = sp := nI_clamp (by omega)
  have c2 : (nI dp).toNatClampNeg = dp := nI_clamp (by omega)
  have c3 : (nI n).toNatClampNeg = n := nI_clamp (by omega)
  simp only [vg_cpR, h0, h1, c1, c2, c3]
  rw [if_pos ⟨trivial, trivial, nI_pos (by omega), nI_pos (by omega), nI_pos (by omega), h2, h3, hs, ho⟩]; rfl
/-- room for one more: the rows may be new ones -/
theorem pl_grow {e cap : Nat} {md : Int32} {W : Nat → Prop} (hg : pg_Wf g) (hC : pg_C g) (hc : ci = 4 ∨ ci = 5 ∨ ci = 7 ∨ ci = 9 ∨ ci = 10) (h1 : g.1.1 a = some (.inr (2, [.int md, .ref e, .int (nI xs.length)]))) (h2 : g.2 a = t) (ht : t ≠ 0) (hw : W t) (h3 : ∀ x ∈ xs, pg_is g x ci) (h4 : xs.length ≤ 100) (hcap : cap = xs.length) (h5 : (xs = [] ∧ e = g.1.2.2.2 31) ∨ ∃ (f : Nat → Option Nat), g.1.1 e = some (.inl (5, cap, .inr (.inr (.inr (.inr f))))) ∧ g.2 e = t ∧ 10 ≤ cap ∧ ∀ i, i < xs.length → f i = some (xs.getD i 0)) :
    pg_T (fJx4a65c_grow_d5877 a g.1) 1 (2 * xs.length + 10) W g (fun r g' => ∃ e' cap' f', r = some e' ∧ g'.1.1 a = some (.inr (2, [.int md, .ref e', .int (nI xs.length)])) ∧ g'.2 a = t ∧ g'.1.1 e' = some (.inl (5, cap', .inr (.inr (.inr (.inr f'))))) ∧ g'.2 e' = t ∧ xs.length < cap' ∧ 10 ≤ cap' ∧ cap' ≤ 2 * xs.length + 10 ∧ (∀ i, i < xs.length → f' i = some (xs.getD i 0)) ∧ e' ≠ a) := by
  have hal := hg.lt h1
  unfold fJx4a65c_grow_d5877 fJx4a65c_grow_92f84
  simp only [pg_gI h1 (k := 2) rfl, pg_o1, nI_1, pg_cv h1, pg_gR h1 (k := 1) rfl, pg_br]
  have hne : g.1.2.1 ≠ a := by omega
  rcases h5 with h5 | ⟨f, h5, h6, h8, h10⟩
  · obtain ⟨hx, he⟩ := h5
    obtain ⟨f0, k1, k2⟩ := hC.2.2.2.2.2.2
    have hl0 : xs.length = 0 := by rw [hx]; rfl
    have k1' : g.1.1 e = some (.inl (5, 0, .inr (.inr (.inr (.inr f0))))) := by rw [he]; exact k1
    rw [pg_al k1' (by decide), pg_o1, if_neg (by decide), vg_k, if_pos (by rw [he]), if_neg (by rw [hl0]; decide), show (10 : Int32) = nI 10 from rfl, pg_lenN (by decide), pg_o1]
    refine pg_T.nR (t := t) hg (by decide) (by omega) ?_
    have ha' : (pg_new g t (.inl (5, 10, .inr (.inr (.inr (.inr (fun _ => none))))))).1.1 a = some (.inr (2, [.int md, .ref e, .int (nI xs.length)])) := by rw [pg_new_ne _ _ _ (Ne.symm hne)]; exact h1
    have hta : (pg_new g t (.inl (5, 10, .inr (.inr (.inr (.inr (fun _ => none))))))).2 a = t := by rw [pg_new_t (Ne.symm hne)]; exact h2
    refine pg_T.p (pg_new_wf hg) ha' (by simp) (by rw [hta]; exact ht) (by rw [hta]; exact hw) ?_
    refine pg_T.ret (pg_put_wf (pg_new_wf hg) ha') ?_
    refine ⟨g.1.2.1, 10, fun _ => none, rfl, ?_, hta, ?_, pg_new_tag g t (.inl (5, 10, .inr (.inr (.inr (.inr (fun _ => none)))))), by omega, by omega, by omega, fun i hi => by omega, hne⟩
    · rw [pg_put_self]; rfl
    · rw [pg_put_ne _ _ hne, pg_new_self]
  · subst hcap
    have hsz : 0 < xs.length := by omega
    rw [pg_al h5 (by decide), pg_o1, if_pos (by rw [li_0lt (by omega)]; exact hsz)]
    unfold fJx4a65c_grow_92f84_20 fJ8_newLength_cabcc
    have e1 : nI (xs.length + 1) - nI xs.length = 1 := by rw [pk_sub (by omega)]; rw [show xs.length + 1 - xs.length = 1 by omega]; rfl
    have e2 : nI xs.length >>> ((1 : Int32) &&& 31) = nI (xs.length / 2) := by
      have := pk_shrN (n := xs.length) (by omega) ((1 : Int32) &&& 31) 1 (by decide)
      rw [this]
    rw [e1, e2, show (1 : Int32) = nI 1 from rfl, if_pos (nI_lt (show 1 < xs.length / 2 by omega) (by omega)), nI_add, if_neg (by rw [li_le0 (by omega)]; omega), if_neg (by rw [show (2147483639 : Int32) = nI 2147483639 from rfl]; exact nI_nlt (by omega) (by decide))]
    rw [show vg_ret (nI (xs.length + xs.length / 2)) g.1 = some (nI (xs.length + xs.length / 2), g.1, 0, 0) from rfl, pg_b0]
    simp only [pg_gR h1 (k := 1) rfl, pg_o1, fJ7_copyOf_1904c, vg_cka, h5, true_or, and_self, if_true, vg_k, fJ7_copyOf_6403c, pg_br]
    rw [pg_lenN (by omega), pg_o1]
    have hel := hg.lt h5
    have hnee : g.1.2.1 ≠ e := by omega
    refine pg_T.b (C1 := 1) (N1 := xs.length + xs.length / 2) (W1 := W) (P := fun r g' => ∃ f', r = some g.1.2.1 ∧ g'.1.1 a = some (.inr (2, [.int md, .ref e, .int (nI xs.length)])) ∧ g'.2 a = t ∧ g'.1.1 g.1.2.1 = some (.inl (5, xs.length + xs.length / 2, .inr (.inr (.inr (.inr f'))))) ∧ g'.2 g.1.2.1 = t ∧ (∀ i, i < xs.length → f' i = some (xs.getD i 0)) ∧ pg_Wf g') ?_ (fun _ h => h) (by decide) (by omega) (fun r g1 _ hp => ?_)
    · refine pg_T.nR (t := t) hg (by decide) (by omega) ?_
      have he' : (pg_new g t (.inl (5, xs.length + xs.length / 2, .inr (.inr (.inr (.inr (fun _ => none))))))).1.1 e = some (.inl (5, xs.length, .inr (.inr (.inr (.inr f))))) := by rw [pg_new_ne _ _ _ (Ne.symm hnee)]; exact h5
      rw [pg_al he' (by decide), pg_o1, if_neg (nI_nlt (by omega) (by omega)), ← nI_0]
      have hob : ∀ i, i < xs.length → (f (0 + i)).all (vg_ob (pg_new g t (.inl (5, xs.length + xs.length / 2, .inr (.inr (.inr (.inr (fun _ => none))))))).1) = true := by
        intro i hi
        rw [Nat.zero_add, h10 i hi]
        show vg_ob _ (xs.getD i 0) = true
        refine pl_ob (ci := ci) ?_ hc
        exact (h3 _ (by rw [ls_get hi]; exact List.getElem_mem hi)).ext hg (pg_new_ext (W := W) hg) (by omega)
      rw [pg_cpR he' (pg_new_self _ _ _) (by show g.1.2.2.1 ≤ g.1.2.1; exact hg.2.1) (by omega) (by omega) (by omega) (by omega) hob, pg_o1]
      have hx0 := pg_new_self g t (.inl (5, xs.length + xs.length / 2, .inr (.inr (.inr (.inr (fun _ => none))))))
      have htag := pg_new_tag g t (.inl (5, xs.length + xs.length / 2, .inr (.inr (.inr (.inr (fun _ => none))))))
      refine pg_T.pre (pg_put_ext (pg_new_wf hg) hx0 (by rw [htag]; exact hw) (by simp [pg_kd])) (pg_T.ret (pg_put_wf (pg_new_wf hg) hx0) ⟨_, rfl, ?_, ?_, pg_put_self _ _ _, htag, fun i hi => ?_, pg_put_wf (pg_new_wf hg) hx0⟩)
      · rw [pg_put_ne _ _ (Ne.symm hne), pg_new_ne _ _ _ (Ne.symm hne)]; exact h1
      · rw [pg_put_t, pg_new_t (Ne.symm hne)]; exact h2
      · rw [pk_cpy_in (Nat.zero_le _) (by omega)]
        show f (0 + (i - 0)) = _
        rw [Nat.zero_add, Nat.sub_zero]; exact h10 i hi
    · obtain ⟨f', p1, p2, p3, p4, p5, p6, p7⟩ := hp
      rw [p1]
      refine pg_T.p p7 p2 (by simp) (by rw [p3]; exact ht) (by rw [p3]; exact hw) ?_
      refine pg_T.ret (pg_put_wf p7 p2) ⟨g.1.2.1, xs.length + xs.length / 2, f', rfl, ?_, p3, ?_, p5, by omega, by omega, by omega, p6, hne⟩
      · rw [pg_put_self]; rfl
      · rw [pg_put_ne _ _ hne]; exact p4
/-- a list with its rows at hand -/
theorem pl_add {x : Nat} (hg : pg_Wf g) (hC : pg_C g) (hc : ci = 4 ∨ ci = 5 ∨ ci = 7 ∨ ci = 9 ∨ ci = 10) (h : pl_L g t a ci xs) (ht : t ≠ 0) (hx : pg_is g x ci) (hl : xs.length < 100) : pg_T (fJx4a65c_add_9ea2d a (some x) g.1) 1 (2 * xs.length + 10) (fun t' => t' = t) g (fun _ g' => pl_L g' t a ci (xs ++ [x])) := by
  obtain ⟨e, md, h1, h2, h3, h4, h5⟩ := h
  have hc100 : ci < 100 := by omega
  have hal := hg.lt h1
  unfold fJx4a65c_add_9ea2d
  simp only [pg_gI h1 (k := 0) rfl, pg_o1]
  refine pg_T.p hg h1 (by simp) (by rw [h2]; exact ht) h2 ?_
  have hW0 : pg_Ext (fun t' => t' = t) g (pg_put g a (.inr (2, [.int md, .ref e, .int (nI xs.length)].set 0 (.int (md + 1))))) := pg_put_ext hg h1 h2 (by simp [pg_kd])
  have g1 : (pg_put g a (.inr (2, [.int md, .ref e, .int (nI xs.length)].set 0 (.int (md + 1))))).1.1 a = some (.inr (2, [.int (md + 1), .ref e, .int (nI xs.length)])) := pg_put_self _ _ _
  have t1 : (pg_put g a (.inr (2, [.int md, .ref e, .int (nI xs.length)].set 0 (.int (md + 1))))).2 a = t := h2
  have wf1 := hW0.wf
  have hC1 := hC.ext hg hW0 (fun e => ht e.symm)
  have h31 : ∀ y ∈ xs, pg_is (pg_put g a (.inr (2, [.int md, .ref e, .int (nI xs.length)].set 0 (.int (md + 1))))) y ci := fun y hy => (h3 y hy).ext hg hW0 hc100
  have hx1 := hx.ext hg hW0 hc100
  have h51 : (xs = [] ∧ e = (pg_put g a (.inr (2, [.int md, .ref e, .int (nI xs.length)].set 0 (.int (md + 1))))).1.2.2.2 31) ∨ ∃ (cap : Nat) (f : Nat → Option Nat), (pg_put g a (.inr (2, [.int md, .ref e, .int (nI xs.length)].set 0 (.int (md + 1))))).1.1 e = some (.inl (5, cap, .inr (.inr (.inr (.inr f))))) ∧ (pg_put g a (.inr (2, [.int md, .ref e, .int (nI xs.length)].set 0 (.int (md + 1))))).2 e = t ∧ xs.length ≤ cap ∧ 10 ≤ cap ∧ cap ≤ 300 ∧ ∀ i, i < xs.length → f i = some (xs.getD i 0) := by
    rcases h5 with h5 | ⟨cap, f, q1, q2, q3⟩
    · exact Or.inl h5
    · refine Or.inr ⟨cap, f, ?_, q2, q3⟩
      rw [pg_put_ne _ _ (fun e' => by rw [e', h1] at q1; cases q1)]; exact q1
  generalize pg_put g a (.inr (2, [.int md, .ref e, .int (nI xs.length)].set 0 (.int (md + 1)))) = gg at *
  simp only [pg_gR g1 (k := 1) rfl, pg_gI g1 (k := 2) rfl, pg_o1, pg_cv g1]
  -- the end: the row, the size
  have fin : ∀ (gz : pg_G) (ez cz : Nat) (fz : Nat → Option Nat) (C N : Nat), pg_Wf gz → gz.1.1 a = some (.inr (2, [.int (md + 1), .ref ez, .int (nI xs.length)])) → gz.2 a = t → gz.1.1 ez = some (.inl (5, cz, .inr (.inr (.inr (.inr fz))))) → gz.2 ez = t → xs.length < cz → 10 ≤ cz → cz ≤ 300 → (∀ i, i < xs.length → fz i = some (xs.getD i 0)) → (∀ y ∈ xs, pg_is gz y ci) → pg_is gz x ci → pg_T (fJx4a65c_add_72be8_11 a (some x) (some ez) (nI xs.length) gz.1) C N (fun t' => t' = t) gz (fun _ g' => pl_L g' t a ci (xs ++ [x])) := by
    intro gz ez cz fz C N wz za zt ze zet z1 z2 z3 z4 z5 z6
    unfold fJx4a65c_add_72be8_11
    obtain ⟨fsx, hxx⟩ := id z6
    have hnea : a ≠ ez := fun e' => by rw [← e', za] at ze; cases ze
    rw [pg_o1, pg_sR ze z1 (by omega) (wz.s0 (by rw [zet]; exact ht)) hxx hc, pg_o1]
    have hext := pg_put_ext (W := fun t' => t' = t) (e := .inl (5, cz, .inr (.inr (.inr (.inr (va_up fz xs.length (some x))))))) wz ze zet (by simp [pg_kd])
    refine pg_T.pre hext ?_
    have za2 : (pg_put gz ez (.inl (5, cz, .inr (.inr (.inr (.inr (va_up fz xs.length (some x)))))))).1.1 a = some (.inr (2, [.int (md + 1), .ref ez, .int (nI xs.length)])) := by rw [pg_put_ne _ _ hnea]; exact za
    rw [nI_1]
    refine pg_T.p hext.wf za2 (by simp) (by show gz.2 a ≠ 0; rw [zt]; exact ht) zt ?_
    have hext2 := pg_put_ext (W := fun t' => t' = t) (e := .inr (2, [.int (md + 1), .ref ez, .int (nI xs.length)].set 2 (.int (nI (xs.length + 1))))) hext.wf za2 zt (by simp [pg_kd])
    refine pg_T.ret hext2.wf ⟨ez, md + 1, ?_, zt, fun y hy => ?_, by rw [List.length_append, List.length_singleton]; omega, Or.inr ⟨cz, va_up fz xs.length (some x), ?_, zet, by rw [List.length_append, List.length_singleton]; omega, z2, z3, fun i hi => ?_⟩⟩
    · rw [pg_put_self, List.length_append, List.length_singleton]; rfl
    · rcases List.mem_append.mp hy with h | h
      · exact ((z5 y h).ext wz hext hc100).ext hext.wf hext2 hc100
      · rw [List.mem_singleton] at h; rw [h]
        exact (z6.ext wz hext hc100).ext hext.wf hext2 hc100
    · rw [pg_put_ne _ _ (Ne.symm hnea), pg_put_self]
    · rw [List.length_append, List.length_singleton] at hi
      rw [getD_app]
      by_cases hil : i < xs.length
      · rw [va_up_ne _ _ (by omega), if_pos hil]; exact z4 i hil
      · rw [show i = xs.length by omega, va_up_self, if_neg (by omega), if_pos rfl]
  have run : pg_T (fJx4a65c_add_72be8 a (some x) (some e) (nI xs.length) gg.1) 1 (2 * xs.length + 10) (fun t' => t' = t) gg (fun _ g' => pl_L g' t a ci (xs ++ [x])) := by
    unfold fJx4a65c_add_72be8
    have grow : ∀ cap, cap = xs.length → ((xs = [] ∧ e = gg.1.2.2.2 31) ∨ ∃ (f : Nat → Option Nat), gg.1.1 e = some (.inl (5, cap, .inr (.inr (.inr (.inr f))))) ∧ gg.2 e = t ∧ 10 ≤ cap ∧ ∀ i, i < xs.length → f i = some (xs.getD i 0)) → pg_T (vg_b (fJx4a65c_grow_d5877 a gg.1) fun x6 μ7 => fJx4a65c_add_72be8_11 a (some x) x6 (nI xs.length) μ7) 1 (2 * xs.length + 10) (fun t' => t' = t) gg (fun _ g' => pl_L g' t a ci (xs ++ [x])) := by
      intro cap hcap h5'
      refine pg_T.b (pl_grow (W := fun t' => t' = t) wf1 hC1 hc g1 t1 ht rfl h31 h4 hcap h5') (fun _ h => h) (Nat.le_refl _) (Nat.le_refl _) (fun r gz hz hp => ?_)
      obtain ⟨e', cap', f', p1, p2, p3, p4, p5, p6, p7, p8, p9, p10⟩ := hp
      rw [p1]
      exact fin gz e' cap' f' _ _ hz.wf p2 p3 p4 p5 p6 p7 (by omega) p9 (fun y hy => (h31 y hy).ext wf1 hz hc100) (hx1.ext wf1 hz hc100)
    rcases h51 with h5' | ⟨cap, f, q1, q2, q3, q4, q5, q6⟩
    · obtain ⟨f0, k1, k2⟩ := hC1.2.2.2.2.2.2
      have k1' : gg.1.1 e = some (.inl (5, 0, .inr (.inr (.inr (.inr f0))))) := by rw [h5'.2]; exact k1
      have hl0 : xs.length = 0 := by rw [h5'.1]; rfl
      rw [pg_o1, pg_al k1' (by decide), pg_o1, if_pos (by rw [hl0]), pg_cv g1]
      exact grow xs.length rfl (Or.inl h5')
    · rw [pg_o1, pg_al q1 (by decide), pg_o1]
      by_cases hfull : xs.length = cap
      · rw [if_pos (by rw [hfull]), pg_cv g1]
        exact grow cap hfull.symm (Or.inr ⟨f, q1, q2, q4, q6⟩)
      · rw [if_neg (fun h => hfull ((nI_eq (by omega) (by omega)).mp h))]
        exact fin gg e cap f _ _ wf1 g1 t1 q1 q2 (by omega) q4 q5 q6 h31 hx1
  refine pg_T.b run (fun _ h => h) (Nat.le_refl _) (Nat.le_refl _) (fun r gz hz hp => ?_)
  rw [pg_z1, pg_o1]
  exact pg_T.ret hz.wf hp
end
