/-! Strings: immutable texts of codes below 128. -/
theorem pg_b0 {α β : Type} {r : α} {μ1 : vg_M} {f : α → vg_M → vg_R β} : vg_b (some (r, μ1, 0, 0)) f = f r μ1 := by
  show (match f r μ1 with | none => none | some w => some (w.1, w.2.1, 0 + w.2.2.1, 0 + w.2.2.2)) = f r μ1
  cases h : f r μ1 with
  | none => rfl
  | some w => obtain ⟨a, b, c, d⟩ := w; simp
theorem pg_o1 {α β : Type} {a : α} {f : α → vg_R β} : vg_o (some a) f = f a := rfl
theorem pg_cv {α β : Type} {ci a : Nat} {μ : vg_M} {x : vg_R α} {f : α → vg_M → vg_R β} {fs : List Value} (h : μ.1 a = some (.inr (ci, fs))) : vg_cv ci a μ x f = vg_b x f := by simp only [vg_cv, h, if_true]
theorem pg_z1 : vg_z .boolean 1 = some 1 := by decide
theorem pg_z0 : vg_z .boolean 0 = some 0 := by decide
def ps_S (g : pg_G) (a : Nat) (cs : List Nat) : Prop := ∃ (v : Nat) (h z : Value) (f : Nat → Int32), g.1.1 a = some (.inr (0, [.ref v, .int 0, h, z])) ∧ g.1.1 v = some (.inl (0, cs.length, .inl f)) ∧ (∀ i, i < cs.length → f i = nI (cs.getD i 0)) ∧ (∀ c ∈ cs, c < 128) ∧ cs.length ≤ 1000 ∧ g.2 a = 0 ∧ g.2 v = 0
theorem ps_S.ext {W : Nat → Prop} {g g' : pg_G} {a : Nat} {cs : List Nat} (h : ps_S g a cs) (hg : pg_Wf g) (he : pg_Ext W g g') (hw : ¬ W 0) : ps_S g' a cs := by
  obtain ⟨v, x, z, f, h1, h2, h3, h4, h5, h6, h7⟩ := h
  exact ⟨v, x, z, f, he.at hg h1 (by rw [h6]; exact hw), he.at hg h2 (by rw [h7]; exact hw), h3, h4, h5, by rw [he.tag hg h1, h6], by rw [he.tag hg h2, h7]⟩
theorem ps_c128 : ∀ c, c < 128 → (((nI c &&& 255).toUInt32 % 65536).toInt32) = nI c ∧ vg_z .char (nI c) = some (nI c) ∧ vp_nar .byte (nI c) = nI c ∧ (nI c).toInt8.toInt32 = nI c := by decide
theorem ps_get {cs : List Nat} (h : ∀ c ∈ cs, c < 128) (i : Nat) (hi : i < cs.length) : cs.getD i 0 < 128 := by
  rw [List.getD_eq_getElem?_getD, List.getElem?_eq_getElem hi]
  exact h _ (List.getElem_mem hi)
theorem ps_coder {g : pg_G} {a : Nat} {cs : List Nat} (h : ps_S g a cs) : fJ0_coder_7d493 a g.1 = some (0, g.1, 0, 0) := by
  obtain ⟨v, x, z, f, h1, -⟩ := h
  simp only [fJ0_coder_7d493, fJ0_coder_7d493_14, pg_gI h1 (k := 1) rfl, pg_o1, show vg_z .byte 0 = some 0 by decide, vg_ret]
theorem ps_latin {g : pg_G} {a : Nat} {cs : List Nat} (h : ps_S g a cs) : fJ0_isLatin1_aae02 a g.1 = some (1, g.1, 0, 0) := by
  obtain ⟨v, x, z, f, h1, -⟩ := h
  simp only [fJ0_isLatin1_aae02, fJ0_isLatin1_aae02_18, pg_gI h1 (k := 1) rfl, pg_o1, if_true, pg_z1, vg_ret]
theorem ps_length {g : pg_G} {a : Nat} {cs : List Nat} (h : ps_S g a cs) : fJ0_length_8abf5 a g.1 = some (nI cs.length, g.1, 0, 0) := by
  obtain ⟨v, x, z, f, h1, h2, -⟩ := id h
  simp only [fJ0_length_8abf5, pg_gR h1 (k := 0) rfl, pg_o1, pg_al h2 (by decide), pg_cv h1, ps_coder h, pg_b0, vg_ret, sb_shr0]
theorem ps_isEmpty {g : pg_G} {a : Nat} {cs : List Nat} (h : ps_S g a cs) : fJ0_isEmpty_aae02 a g.1 = some (if cs.length = 0 then 1 else 0, g.1, 0, 0) := by
  obtain ⟨v, x, z, f, h1, h2, h3, h4, h5, -⟩ := id h
  simp only [fJ0_isEmpty_aae02, fJ0_isEmpty_aae02_13, pg_gR h1 (k := 0) rfl, pg_o1, pg_al h2 (by decide)]
  by_cases hc : cs.length = 0
  · rw [if_pos hc, if_pos (by rw [hc]; rfl), pg_z1]; rfl
  · rw [if_neg hc, if_neg (nI_ne0 (by omega) (by omega)), pg_z0]; rfl
theorem ps_chkI {i n : Nat} {x : Option Nat} {μ : vg_M} (h : i < n) (hn : n < 2 ^ 31) : fJ3_checkIndex_8e157 (nI i) (nI n) x μ = some (nI i, μ, 0, 0) := by
  simp only [fJ3_checkIndex_8e157, if_neg (nI_pos (n := i) (by omega)), if_pos (nI_lt h hn), vg_ret]
theorem ps_chk {i n : Nat} {μ : vg_M} (h : i < n) (hn : n < 2 ^ 31) : fJ0_checkIndex_df160 (nI i) (nI n) μ = some ((), μ, 0, 0) := by
  simp only [fJ0_checkIndex_df160, vg_kq, ps_chkI h hn, pg_b0, vg_ret]
theorem ps_charAt {g : pg_G} {a i : Nat} {cs : List Nat} (h : ps_S g a cs) (hi : i < cs.length) : fJ0_charAt_5068e a (nI i) g.1 = some (nI (cs.getD i 0), g.1, 0, 0) := by
  obtain ⟨v, x, z, f, h1, h2, h3, h4, h5, -⟩ := id h
  have hc := ps_c128 _ (ps_get h4 i hi)
  simp only [fJ0_charAt_5068e, pg_cv h1, ps_latin h, pg_b0, if_neg (show ¬ (1 : Int32) = 0 by decide), pg_gR h1 (k := 0) rfl, pg_o1, fJ1_charAt_3b067, pg_al h2 (by decide), ps_chk hi (by omega), pg_aI h2 hi (by omega), h3 i hi, hc.1, hc.2.1, vg_ret]
theorem ps_eqLoop {g : pg_G} {v w : Nat} {cs ds : List Nat} {f f' : Nat → Int32} (h2 : g.1.1 v = some (.inl (0, cs.length, .inl f))) (h2' : g.1.1 w = some (.inl (0, ds.length, .inl f'))) (h3 : ∀ i, i < cs.length → f i = nI (cs.getD i 0)) (h3' : ∀ i, i < ds.length → f' i = nI (ds.getD i 0)) (h4 : ∀ c ∈ cs, c < 128) (h4' : ∀ c ∈ ds, c < 128) (h5 : cs.length ≤ 1000) (hl : cs.length = ds.length) :
    ∀ n i, i ≤ cs.length → cs.length < i + n → (∀ j, j < i → cs.getD j 0 = ds.getD j 0) → fJ1_equals_b5fdf_9 n (some v) (some w) (nI i) g.1 = some (if cs = ds then 1 else 0, g.1, 0, 0) := by
  intro n
  induction n with
  | zero => intro i hi hn; omega
  | succ n ih =>
    intro i hi hn heq
    rw [fJ1_equals_b5fdf_9]
    simp only [pg_o1, pg_al h2 (by decide)]
    by_cases hie : i = cs.length
    · have : cs = ds := by
        apply List.ext_getElem hl
        intro j hj1 hj2
        have := heq j (by omega)
        rw [List.getD_eq_getElem?_getD, List.getD_eq_getElem?_getD, List.getElem?_eq_getElem hj1, List.getElem?_eq_getElem hj2] at this
        exact this
      rw [if_pos (nI_le (by omega) (by omega)), if_pos this, pg_z1]
      rfl
    · have hlt : i < cs.length := by omega
      rw [if_neg (nI_ge hlt (by omega))]
      simp only [pg_aI h2 hlt (by omega), pg_aI h2' (show i < ds.length by omega) (by omega), pg_o1, h3 i hlt, h3' i (by omega)]
      have c1 := ps_get h4 i hlt
      have c2 := ps_get h4' i (by omega)
      by_cases hc : cs.getD i 0 = ds.getD i 0
      · rw [if_pos (by rw [hc]), nI_1]
        exact ih (i + 1) (by omega) (by omega) (fun j hj => by
          by_cases hji : j = i
          · subst hji; exact hc
          · exact heq j (by omega))
      · rw [if_neg (fun h => hc ((nI_eq (by omega) (by omega)).mp h)), if_neg (fun h => hc (by rw [h])), pg_z0]
        rfl
theorem ps_fuel : vg_fuel = 1000000 := rfl
theorem ps_equals {g : pg_G} {a b : Nat} {cs ds : List Nat} (h : ps_S g a cs) (h' : ps_S g b ds) : fJ0_equals_9ea2d a (some b) g.1 = some (if cs = ds then 1 else 0, g.1, 0, 0) := by
  obtain ⟨v, x, z, f, h1, h2, h3, h4, h5, -⟩ := id h
  obtain ⟨v', x', z', f', h1', h2', h3', h4', h5', -⟩ := id h'
  unfold fJ0_equals_9ea2d
  by_cases hab : some a = some b
  · rw [if_pos hab]
    cases hab
    have e1 := h1.symm.trans h1'
    simp only [Option.some.injEq, Sum.inr.injEq, Prod.mk.injEq, List.cons.injEq, Value.ref.injEq, true_and] at e1
    obtain ⟨rfl, -⟩ := e1
    have e2 := h2.symm.trans h2'
    simp only [Option.some.injEq, Sum.inl.injEq, Prod.mk.injEq, true_and] at e2
    obtain ⟨e3, e4⟩ := e2
    have : cs = ds := by
      apply List.ext_getElem e3
      intro j hj1 hj2
      have q1 := h3 j hj1
      have q2 := h3' j hj2
      rw [e4] at q1
      have q3 := (nI_eq (a := cs.getD j 0) (b := ds.getD j 0) (by have := ps_get h4 j hj1; omega) (by have := ps_get h4' j hj2; omega)).mp (q1.symm.trans q2)
      rw [List.getD_eq_getElem?_getD, List.getD_eq_getElem?_getD, List.getElem?_eq_getElem hj1, List.getElem?_eq_getElem hj2] at q3
      exact q3
    rw [if_pos this, pg_z1]
    rfl
  · rw [if_neg hab]
    simp only [vg_is, h1', if_true, if_neg (show ¬ (1 : Int32) = 0 by decide), vg_ck, pg_gI h1 (k := 1) rfl, pg_gI h1' (k := 1) rfl, pg_o1, fJ0_equals_9ea2d_36, pg_gR h1 (k := 0) rfl, pg_gR h1' (k := 0) rfl, fJ1_equals_b5fdf, pg_al h2 (by decide), pg_al h2' (by decide)]
    by_cases hl : cs.length = ds.length
    · rw [if_pos (by rw [hl])]
      have hz := ps_eqLoop h2 h2' h3 h3' h4 h4' h5 hl vg_fuel 0 (Nat.zero_le _) (by rw [ps_fuel]; omega) (fun j hj => absurd hj (Nat.not_lt_zero _))
      rw [nI_0] at hz
      rw [hz, pg_b0]
      by_cases hc : cs = ds
      · simp only [if_pos hc, if_neg (show ¬ (1 : Int32) = 0 by decide), fJ0_equals_9ea2d_55, pg_z1, pg_o1, vg_ret]
      · simp only [if_neg hc, if_true, fJ0_equals_9ea2d_54, fJ0_equals_9ea2d_55, pg_z0, pg_o1, vg_ret]
    · rw [if_neg (fun h => hl ((nI_eq (by omega) (by omega)).mp h))]
      have hc : ¬ cs = ds := fun h => hl (by rw [h])
      simp only [pg_z0, pg_o1, vg_ret, pg_b0, if_true, fJ0_equals_9ea2d_54, fJ0_equals_9ea2d_55, if_neg hc]
