/-! Letters, names, paths of the class. -/
section
variable {g : pg_G} {a τ : Nat} {t : List Nat} {sp : List (Nat × Nat)}
theorem vu_ret {α : Type} (x : α) (μ : vg_M) : vg_ret x μ = some (x, μ, 0, 0) := rfl
theorem cl_letter {c : Nat} {μ : vg_M} (hc : c < 2 ^ 16) : fX10_isLetter (nI c) μ = some (bI (sg c), μ, 0, 0) := by
  have e : ∀ k : Nat, k < 200 → ((nI c < nI k) ↔ c < k) ∧ ((nI c ≤ nI k) ↔ c ≤ k) ∧ ((nI c = nI k) ↔ c = k) := fun k hk => ⟨nI_ltI (by omega) (by omega), nI_leI (by omega) (by omega), nI_eq (by omega) (by omega)⟩
  have e97 := (e 97 (by decide)).1
  have e122 := (e 122 (by decide)).2.1
  have e65 := (e 65 (by decide)).1
  have e90 := (e 90 (by decide)).2.1
  have e48 := (e 48 (by decide)).1
  have e57 := (e 57 (by decide)).2.1
  have e46 := (e 46 (by decide)).2.2
  have e95 := (e 95 (by decide)).2.2
  simp only [show nI 97 = 97 from rfl, show nI 122 = 122 from rfl, show nI 65 = 65 from rfl, show nI 90 = 90 from rfl, show nI 48 = 48 from rfl, show nI 57 = 57 from rfl, show nI 46 = 46 from rfl, show nI 95 = 95 from rfl] at e97 e122 e65 e90 e48 e57 e46 e95
  simp only [fX10_isLetter, fX10_isLetter_12, fX10_isLetter_24, fX10_isLetter_36, fX10_isLetter_48, fX10_isLetter_53, e97, e122, e65, e90, e48, e57, e46, e95, pg_z1, pg_z0, pg_o1, vu_ret]
  have key : bI (sg c) = if (97 ≤ c ∧ c ≤ 122) ∨ (65 ≤ c ∧ c ≤ 90) ∨ (48 ≤ c ∧ c ≤ 57) ∨ c = 46 ∨ c = 95 then 1 else 0 := by
    unfold bI sg
    simp only [Bool.or_eq_true, Bool.and_eq_true, decide_eq_true_eq, or_assoc]
  rw [key]
  split
  · split
    · split
      · split
        · rw [if_pos (by omega)]
        · split
          · rw [if_pos (by omega)]
          · rw [if_neg (by omega)]
      · split
        · rw [if_pos (by omega)]
        · split
          · rw [if_pos (by omega)]
          · split
            · rw [if_pos (by omega)]
            · rw [if_neg (by omega)]
    · split
      · rw [if_pos (by omega)]
      · split
        · split
          · rw [if_pos (by omega)]
          · split
            · rw [if_pos (by omega)]
            · rw [if_neg (by omega)]
        · split
          · rw [if_pos (by omega)]
          · split
            · rw [if_pos (by omega)]
            · split
              · rw [if_pos (by omega)]
              · rw [if_neg (by omega)]
  · split
    · rw [if_pos (by omega)]
    · split
      · omega
      · split
        · omega
        · split
          · omega
          · split
            · omega
            · split
              · omega
              · split
                · omega
                · rw [if_neg (by omega)]
theorem ps_o {w : List Nat} (h : ps_S g a w) : ∃ fs, g.1.1 a = some (.inr (0, fs)) := by obtain ⟨v, x, z, f, h1, -⟩ := h; exact ⟨_, h1⟩
theorem ps_len {w : List Nat} (h : ps_S g a w) : w.length ≤ 1000 := by obtain ⟨v, x, z, f, h1, h2, h3, h4, h5, -⟩ := h; exact h5
theorem ps_lt {w : List Nat} (h : ps_S g a w) : ∀ c ∈ w, c < 128 := by obtain ⟨v, x, z, f, h1, h2, h3, h4, h5, -⟩ := h; exact h4
theorem cl_dots {w : List Nat} (hC : pg_C g) (h : ps_S g a w) : fX10_isDots (some a) g.1 = some (bI (pt_dots w), g.1, 0, 0) := by
  obtain ⟨fs, h1⟩ := ps_o h
  simp only [fX10_isDots, vg_k, pg_o1, pg_cv h1, ps_equals h hC.2.2.2.1, ps_equals h hC.2.2.2.2.1, pg_b0, fX10_isDots_18, fX10_isDots_23, pg_z1, pg_z0, vu_ret]
  by_cases h1 : w = [46]
  · simp only [if_pos h1, if_neg (show ¬ (1 : Int32) = 0 by decide), pt_dots, decide_eq_true h1, Bool.true_or, bI_t]
  · by_cases h2 : w = [46, 46]
    · simp only [if_neg h1, if_pos h2, if_true, if_neg (show ¬ (1 : Int32) = 0 by decide), pt_dots, decide_eq_true h2, Bool.or_true, bI_t]
    · simp only [if_neg h1, if_neg h2, if_true, pt_dots, decide_eq_false h1, decide_eq_false h2, Bool.or_false, bI_f]
theorem cl_nameL {w : List Nat} (h : ps_S g a w) : ∀ n i, i ≤ w.length → w.length < i + n → fX3_isName_27 n (some a) (nI i) g.1 = some (bI ((w.drop i).all sg), g.1, 0, 0) := by
  obtain ⟨fs, h1⟩ := ps_o h
  have hl := ps_len h
  intro n
  induction n with
  | zero => intro i hi hn; omega
  | succ n ih =>
    intro i hi hn
    rw [fX3_isName_27]
    simp only [pg_o1, pg_cv h1, ps_length h, pg_b0]
    by_cases hie : i = w.length
    · rw [if_pos (nI_le (by omega) (by omega)), pg_z1, hie, List.drop_length]; rfl
    · have hlt : i < w.length := by omega
      rw [if_neg (nI_ge hlt (by omega)), ps_charAt h hlt, pg_b0, cl_letter (by have := ps_get (ps_lt h) i hlt; omega), pg_b0, List.drop_eq_getElem_cons hlt, List.all_cons, ← ls_get hlt]
      cases hs : sg (w.getD i 0) with
      | false => rw [bI_f, if_pos rfl, pg_z0, Bool.false_and]; rfl
      | true => rw [bI_t, if_neg (by decide), nI_1, ih (i + 1) (by omega) (by omega), Bool.true_and]
theorem cl_isName {w : List Nat} (hC : pg_C g) (h : ps_S g a w) : fX3_isName (some a) g.1 = some (bI (pt_name w), g.1, 0, 0) := by
  obtain ⟨fs, h1⟩ := ps_o h
  have hl := ps_len h
  simp only [fX3_isName, pg_o1, pg_cv h1, ps_isEmpty h, pg_b0, ps_length h, cl_dots hC h, fX3_isName_23, pg_z0, vu_ret]
  unfold pt_name
  by_cases h0 : w.length = 0
  · rw [if_pos h0, if_neg (by decide), decide_eq_false (by omega)]; rfl
  · rw [if_neg h0, if_pos rfl]
    by_cases h8 : 8 < w.length
    · rw [if_pos (show (8 : Int32) < nI w.length from nI_lt (a := 8) h8 (by omega)), decide_eq_false (p := w.length ≤ 8) (by omega), Bool.and_false]; rfl
    · rw [if_neg (show ¬ (8 : Int32) < nI w.length from nI_nlt (a := 8) (by omega) (by decide)), decide_eq_true (by omega), decide_eq_true (by omega), Bool.true_and, Bool.true_and]
      cases hd : pt_dots w with
      | true => rw [bI_t, if_neg (by decide)]; rfl
      | false =>
        have := cl_nameL h vg_fuel 0 (Nat.zero_le _) (by rw [ps_fuel]; omega)
        rw [nI_0, List.drop_zero] at this
        rw [bI_f, if_pos rfl, this]; rfl
/-- a path: its text and the rows of its names -/
def cp_P (g : pg_G) (τ a : Nat) (t : List Nat) (sp : List (Nat × Nat)) : Prop := ∃ (s st en : Nat) (f1 f2 : Nat → Int32), g.1.1 a = some (.inr (6, [.ref s, .ref st, .ref en, .int (nI sp.length)])) ∧ g.2 a = τ ∧ ps_S g s t ∧ g.1.1 st = some (.inl (2, 6, .inl f1)) ∧ g.2 st = τ ∧ g.1.1 en = some (.inl (2, 6, .inl f2)) ∧ g.2 en = τ ∧ st ≠ en ∧ sp.length ≤ 6 ∧ ∀ i, i < sp.length → f1 i = nI (sp.getD i (0, 0)).1 ∧ f2 i = nI (sp.getD i (0, 0)).2 ∧ (sp.getD i (0, 0)).1 ≤ (sp.getD i (0, 0)).2 ∧ (sp.getD i (0, 0)).2 ≤ t.length ∧ (sp.getD i (0, 0)).2 ≤ (sp.getD i (0, 0)).1 + 8
theorem cp_P.ext {W : Nat → Prop} {g' : pg_G} (h : cp_P g τ a t sp) (hg : pg_Wf g) (he : pg_Ext W g g') (hw : ¬ W τ) (h0 : ¬ W 0) : cp_P g' τ a t sp := by
  obtain ⟨s, st, en, f1, f2, h1, h2, h3, h4, h5, h6, h7, h8⟩ := h
  exact ⟨s, st, en, f1, f2, he.at hg h1 (by rw [h2]; exact hw), by rw [he.tag hg h1, h2], h3.ext hg he h0, he.at hg h4 (by rw [h5]; exact hw), by rw [he.tag hg h4, h5], he.at hg h6 (by rw [h7]; exact hw), by rw [he.tag hg h6, h7], h8⟩
theorem cp_name {i : Nat} (hg : pg_Wf g) (hC : pg_C g) (h : cp_P g τ a t sp) (hi : i < 100) : pg_T (fX3_name a (nI i) g.1) 2 12 (fun _ => False) g (fun r g' => ∃ q, r = some q ∧ ps_S g' q ((wd t sp).getD i [])) := by
  obtain ⟨s, st, en, f1, f2, h1, h2, h3, h4, h5, h6, h7, h8, h9, h10⟩ := h
  simp only [fX3_name, if_neg (nI_pos (n := i) (by omega)), pg_gI h1 (k := 3) rfl, pg_o1, fX3_name_34, fX3_name_36, vg_k]
  by_cases hl : i < sp.length
  · rw [if_neg (nI_ge hl (by omega))]
    obtain ⟨k1, k2, k3, k4, k5⟩ := h10 i hl
    obtain ⟨fs, h3o⟩ := ps_o h3
    have hl3 := ps_len h3
    simp only [pg_gR h1 (k := 0) rfl, pg_gR h1 (k := 1) rfl, pg_gR h1 (k := 2) rfl, pg_o1, pg_aI h4 (show i < 6 by omega) (by decide), pg_aI h6 (show i < 6 by omega) (by decide), k1, k2, pg_cv h3o, pg_br]
    refine (ps_sub hg hC h3 k3 k4).mono (Nat.le_refl _) (by omega) (fun _ h => h) (fun r g' _ hp => ?_)
    obtain ⟨q, e1, e2⟩ := hp
    refine ⟨q, e1, ?_⟩
    have : (wd t sp).getD i [] = sl t (sp.getD i (0, 0)).1 (sp.getD i (0, 0)).2 := by
      rw [wd, List.getD_eq_getElem?_getD, List.getElem?_map, List.getD_eq_getElem?_getD, List.getElem?_eq_getElem hl]; rfl
    rw [this]; exact e2
  · rw [if_pos (nI_le (by omega) (by omega))]
    refine pg_T.ret hg ⟨_, rfl, ?_⟩
    have : (wd t sp).getD i [] = [] := by
      rw [wd, List.getD_eq_getElem?_getD, List.getElem?_map, List.getElem?_eq_none (by omega)]; rfl
    rw [this]; exact hC.2.2.1
theorem cp_init {s : Nat} (hg : pg_Wf g) (h1 : g.1.1 a = some (.inr (6, [.null, .null, .null, .int 0]))) (h2 : g.2 a = τ) (ht : τ ≠ 0) (hs : ps_S g s t) : pg_T (fX3_init a (some s) g.1) 2 12 (fun t' => t' = τ) g (fun _ g' => cp_P g' τ a t []) := by
  have hal := hg.lt h1
  unfold fX3_init
  rw [show (6 : Int32) = nI 6 from rfl, pg_lenN (by decide), pg_o1]
  refine pg_T.nA (t := τ) hg (by decide) (by decide) ?_
  have x1 := pg_new_ext (W := fun _ => False) (t := τ) (e := .inl (2, 6, .inl (fun _ => 0))) hg
  have a1 := x1.at hg h1 (fun h => h)
  have t1 : (pg_new g τ (.inl (2, 6, .inl (fun _ => 0)))).2 a = τ := by rw [x1.tag hg h1]; exact h2
  have s1 := hs.ext hg x1 (fun h => h)
  have q1 := pg_new_self g τ (.inl (2, 6, .inl (fun _ => 0)))
  have u1 := pg_new_tag g τ (.inl (2, 6, .inl (fun _ => 0)))
  have z1 : (pg_new g τ (.inl (2, 6, .inl (fun _ => 0)))).1.2.1 = g.1.2.1 + 1 := rfl
  have w1 := x1.wf
  generalize pg_new g τ (.inl (2, 6, .inl (fun _ => 0))) = g1 at *
  refine pg_T.p w1 a1 (by simp) (by rw [t1]; exact ht) t1 ?_
  have x2 := pg_put_ext (W := fun t' => t' = τ) (e := .inr (6, [.null, .null, .null, .int 0].set 1 (.ref g.1.2.1))) w1 a1 t1 (by simp [pg_kd])
  have a2 := pg_put_self g1 a (.inr (6, [.null, .null, .null, .int 0].set 1 (.ref g.1.2.1)))
  have t2 : (pg_put g1 a (.inr (6, [.null, .null, .null, .int 0].set 1 (.ref g.1.2.1)))).2 a = τ := t1
  have s2 := s1.ext w1 x2 (fun h => ht h.symm)
  have q2 : (pg_put g1 a (.inr (6, [.null, .null, .null, .int 0].set 1 (.ref g.1.2.1)))).1.1 g.1.2.1 = some (.inl (2, 6, .inl (fun _ => 0))) := by rw [pg_put_ne _ _ (by omega)]; exact q1
  have u2 : (pg_put g1 a (.inr (6, [.null, .null, .null, .int 0].set 1 (.ref g.1.2.1)))).2 g.1.2.1 = τ := u1
  have z2 : (pg_put g1 a (.inr (6, [.null, .null, .null, .int 0].set 1 (.ref g.1.2.1)))).1.2.1 = g.1.2.1 + 1 := z1
  have w2 := x2.wf
  generalize pg_put g1 a (.inr (6, [.null, .null, .null, .int 0].set 1 (.ref g.1.2.1))) = g2 at *
  rw [pg_o1]
  refine pg_T.nA (t := τ) w2 (by decide) (by decide) ?_
  have x3 := pg_new_ext (W := fun _ => False) (t := τ) (e := .inl (2, 6, .inl (fun _ => 0))) w2
  have a3 := x3.at w2 a2 (fun h => h)
  have t3 : (pg_new g2 τ (.inl (2, 6, .inl (fun _ => 0)))).2 a = τ := by rw [x3.tag w2 a2]; exact t2
  have s3 := s2.ext w2 x3 (fun h => h)
  have q3 := x3.at w2 q2 (fun h => h)
  have u3 : (pg_new g2 τ (.inl (2, 6, .inl (fun _ => 0)))).2 g.1.2.1 = τ := by rw [x3.tag w2 q2]; exact u2
  have q4 := pg_new_self g2 τ (.inl (2, 6, .inl (fun _ => 0)))
  have u4 := pg_new_tag g2 τ (.inl (2, 6, .inl (fun _ => 0)))
  rw [z2] at q4 u4 ⊢
  have w3 := x3.wf
  generalize pg_new g2 τ (.inl (2, 6, .inl (fun _ => 0))) = g3 at *
  refine pg_T.p w3 a3 (by simp) (by rw [t3]; exact ht) t3 ?_
  have a4 := pg_put_self g3 a (.inr (6, ([.null, .null, .null, .int 0].set 1 (.ref g.1.2.1)).set 2 (.ref (g.1.2.1 + 1))))
  have x4 := pg_put_ext (W := fun t' => t' = τ) (e := .inr (6, ([.null, .null, .null, .int 0].set 1 (.ref g.1.2.1)).set 2 (.ref (g.1.2.1 + 1)))) w3 a3 t3 (by simp [pg_kd])
  have x5 := pg_put_ext (W := fun t' => t' = τ) (e := .inr (6, (([.null, .null, .null, .int 0].set 1 (.ref g.1.2.1)).set 2 (.ref (g.1.2.1 + 1))).set 0 (va_rf (some s)))) x4.wf a4 t3 (by simp [pg_kd])
  refine pg_T.p x4.wf a4 (by simp) (by show g3.2 a ≠ 0; rw [t3]; exact ht) t3 (pg_T.ret x5.wf ⟨s, g.1.2.1, g.1.2.1 + 1, fun _ => 0, fun _ => 0, ?_, t3, (s3.ext w3 x4 (fun h => ht h.symm)).ext x4.wf x5 (fun h => ht h.symm), ?_, u3, ?_, u4, by omega, by decide, fun i hi => absurd hi (Nat.not_lt_zero _)⟩)
  · rw [pg_put_self]; rfl
  · rw [pg_put_ne _ _ (by omega), pg_put_ne _ _ (by omega)]; exact q3
  · rw [pg_put_ne _ _ (by omega), pg_put_ne _ _ (by omega)]; exact q4
theorem cp_add {s e : Nat} (hg : pg_Wf g) (hC : pg_C g) (h : cp_P g τ a t sp) (ht : τ ≠ 0) (hse : s ≤ e) (he : e ≤ t.length) : pg_T (fX3_add a (nI s) (nI e) g.1) 2 (4 + (e - s)) (fun t' => t' = τ) g (fun r g' => r = bI (decide (sp.length < 6) && pt_name (sl t s e)) ∧ (r = 1 → cp_P g' τ a t (sp ++ [(s, e)]))) := by
  obtain ⟨ss, st, en, f1, f2, h1, h2, h3, h4, h5, h6, h7, h8, h9, h10⟩ := id h
  simp only [fX3_add, pg_gI h1 (k := 3) rfl, pg_o1, fX3_add_24, pg_z0, pg_z1]
  by_cases hl : sp.length < 6
  · rw [if_neg (show ¬ (6 : Int32) ≤ nI sp.length from nI_ge (b := 6) hl (by decide)), decide_eq_true hl, Bool.true_and, pg_gR h1 (k := 0) rfl, pg_o1, pg_o1]
    obtain ⟨fs, h3o⟩ := ps_o h3
    rw [pg_cv h3o]
    refine pg_T.b (ps_sub hg hC h3 hse he) (fun _ h => h.elim) (Nat.le_refl _) (Nat.le_refl _) (fun r g1 hx hp => ?_)
    obtain ⟨q, rfl, hq⟩ := hp
    have hC1 := hC.ext hg hx (fun h => h)
    rw [cl_isName hC1 hq, pg_b0]
    cases hn : pt_name (sl t s e) with
    | false =>
      rw [bI_f, if_pos rfl]
      exact pg_T.ret hx.wf ⟨rfl, fun e => absurd e (by decide)⟩
    | true =>
      rw [bI_t, if_neg (by decide)]
      have w1 := hx.wf
      have a1 := hx.at hg h1 (fun h => h)
      have t1 : g1.2 a = τ := by rw [hx.tag hg h1]; exact h2
      have b1 := hx.at hg h4 (fun h => h)
      have tb1 : g1.2 st = τ := by rw [hx.tag hg h4]; exact h5
      have c1 := hx.at hg h6 (fun h => h)
      have tc1 : g1.2 en = τ := by rw [hx.tag hg h6]; exact h7
      have s1 := h3.ext hg hx (fun h => h)
      have nab : a ≠ st := fun e => by rw [← e, a1] at b1; cases b1
      have nac : a ≠ en := fun e => by rw [← e, a1] at c1; cases c1
      rw [pg_gR a1 (k := 1) rfl, pg_o1, pg_gI a1 (k := 3) rfl, pg_o1, pg_o1]
      refine pg_T.sI w1 b1 hl (by decide) (by rw [tb1]; exact ht) tb1 ?_
      have x2 := pg_put_ext (W := fun t' => t' = τ) (e := .inl (2, 6, .inl (upd f1 sp.length (vp_nar (vg_tyI 2) (nI s))))) w1 b1 tb1 (by simp [pg_kd])
      have a2 : (pg_put g1 st (.inl (2, 6, .inl (upd f1 sp.length (vp_nar (vg_tyI 2) (nI s)))))).1.1 a = some (.inr (6, [.ref ss, .ref st, .ref en, .int (nI sp.length)])) := by rw [pg_put_ne _ _ nab]; exact a1
      have b2 := pg_put_self g1 st (.inl (2, 6, .inl (upd f1 sp.length (vp_nar (vg_tyI 2) (nI s)))))
      have c2 : (pg_put g1 st (.inl (2, 6, .inl (upd f1 sp.length (vp_nar (vg_tyI 2) (nI s)))))).1.1 en = some (.inl (2, 6, .inl f2)) := by rw [pg_put_ne _ _ (Ne.symm h8)]; exact c1
      have s2 := s1.ext w1 x2 (fun h => ht h.symm)
      have w2 := x2.wf
      have t2 : (pg_put g1 st (.inl (2, 6, .inl (upd f1 sp.length (vp_nar (vg_tyI 2) (nI s)))))).2 = g1.2 := rfl
      generalize pg_put g1 st (.inl (2, 6, .inl (upd f1 sp.length (vp_nar (vg_tyI 2) (nI s))))) = g2 at *
      rw [pg_gR a2 (k := 2) rfl, pg_o1, pg_gI a2 (k := 3) rfl, pg_o1, pg_o1]
      refine pg_T.sI w2 c2 hl (by decide) (by rw [t2, tc1]; exact ht) (by rw [t2]; exact tc1) ?_
      have x3 := pg_put_ext (W := fun t' => t' = τ) (e := .inl (2, 6, .inl (upd f2 sp.length (vp_nar (vg_tyI 2) (nI e))))) w2 c2 (by rw [t2]; exact tc1) (by simp [pg_kd])
      have a3 : (pg_put g2 en (.inl (2, 6, .inl (upd f2 sp.length (vp_nar (vg_tyI 2) (nI e)))))).1.1 a = some (.inr (6, [.ref ss, .ref st, .ref en, .int (nI sp.length)])) := by rw [pg_put_ne _ _ nac]; exact a2
      have b3 : (pg_put g2 en (.inl (2, 6, .inl (upd f2 sp.length (vp_nar (vg_tyI 2) (nI e)))))).1.1 st = some (.inl (2, 6, .inl (upd f1 sp.length (vp_nar (vg_tyI 2) (nI s))))) := by rw [pg_put_ne _ _ h8]; exact b2
      have c3 := pg_put_self g2 en (.inl (2, 6, .inl (upd f2 sp.length (vp_nar (vg_tyI 2) (nI e)))))
      have s3 := s2.ext w2 x3 (fun h => ht h.symm)
      have w3 := x3.wf
      have t3 : (pg_put g2 en (.inl (2, 6, .inl (upd f2 sp.length (vp_nar (vg_tyI 2) (nI e)))))).2 = g1.2 := t2
      generalize pg_put g2 en (.inl (2, 6, .inl (upd f2 sp.length (vp_nar (vg_tyI 2) (nI e))))) = g3 at *
      rw [pg_gI a3 (k := 3) rfl, pg_o1, nI_1]
      refine pg_T.p w3 a3 (by simp) (by rw [t3, t1]; exact ht) (by rw [t3]; exact t1) ?_
      have x4 := pg_put_ext (W := fun t' => t' = τ) (e := .inr (6, [.ref ss, .ref st, .ref en, .int (nI sp.length)].set 3 (.int (nI (sp.length + 1))))) w3 a3 (by rw [t3]; exact t1) (by simp [pg_kd])
      refine pg_T.ret x4.wf ⟨rfl, fun _ => ⟨ss, st, en, upd f1 sp.length (vp_nar (vg_tyI 2) (nI s)), upd f2 sp.length (vp_nar (vg_tyI 2) (nI e)), ?_, ?_, s3.ext w3 x4 (fun h => ht h.symm), ?_, ?_, ?_, ?_, h8, ?_, fun i hi => ?_⟩⟩
      · rw [pg_put_self, List.length_append]; rfl
      · rw [pg_put_t, t3]; exact t1
      · rw [pg_put_ne _ _ (Ne.symm nab)]; exact b3
      · rw [pg_put_t, t3]; exact tb1
      · rw [pg_put_ne _ _ (Ne.symm nac)]; exact c3
      · rw [pg_put_t, t3]; exact tc1
      · rw [List.length_append]; show sp.length + 1 ≤ 6; omega
      · rw [List.length_append] at hi
        have hi' : i < sp.length + 1 := hi
        show upd f1 sp.length (nI s) i = _ ∧ upd f2 sp.length (nI e) i = _ ∧ _
        by_cases hie : i = sp.length
        · rw [hie, pk_us, pk_us, List.getD_eq_getElem?_getD, List.getElem?_append_right (Nat.le_refl _), Nat.sub_self]
          refine ⟨rfl, rfl, hse, he, ?_⟩
          show e ≤ s + 8
          have : (sl t s e).length ≤ 8 := by
            simp only [pt_name, Bool.and_eq_true, decide_eq_true_eq] at hn; omega
          rw [sl_len he] at this; omega
        · rw [pk_un hie, pk_un hie, List.getD_eq_getElem?_getD, List.getElem?_append_left (by omega), ← List.getD_eq_getElem?_getD]
          exact h10 i (by omega)
  · rw [if_pos (show (6 : Int32) ≤ nI sp.length from nI_le (a := 6) (by omega) (by omega)), decide_eq_false hl, Bool.false_and]
    exact pg_T.ret hg ⟨rfl, fun e => absurd e (by decide)⟩
theorem cp_readL {s : Nat} (ht : τ ≠ 0) (hl : t.length ≤ 60) : ∀ n i f acc (g : pg_G), pg_Wf g → pg_C g → ps_S g s t → cp_P g τ a t acc → f ≤ i → i ≤ t.length + 1 → t.length + 1 < i + n → pg_T (fX3_read_13 n (some s) (some a) (nI f) (nI i) g.1) (2 * (t.length + 1 - i)) (64 * (t.length + 1 - i)) (fun t' => t' = τ) g (fun r g' => match pt_go t (t.length + 2 - i) i f acc with
    | none => r = none
    | some sp => r = some a ∧ cp_P g' τ a t sp) := by
  intro n
  induction n with
  | zero => intro i f acc g hg hC hs hP hf hi hn; omega
  | succ n ih =>
    intro i f acc g hg hC hs hP hf hi hn
    obtain ⟨fs, hso⟩ := ps_o hs
    rw [fX3_read_13, show t.length + 2 - i = (t.length + 1 - i) + 1 by omega, pt_go]
    simp only [pg_o1, pg_cv hso, ps_length hs, pg_b0]
    by_cases hie : t.length < i
    · rw [if_pos (nI_lt hie (by omega)), if_pos hie]
      exact pg_T.ret hg ⟨rfl, hP⟩
    · rw [if_neg (nI_nlt (by omega) (by omega)), if_neg hie]
      have step : i = t.length ∨ t.getD i 0 = 47 → pg_T (fX3_read_39 (fX3_read_13 n) (some s) (some a) (nI f) (nI i) g.1) (2 * (t.length + 1 - i)) (64 * (t.length + 1 - i)) (fun t' => t' = τ) g (fun r g' => match (if i = t.length ∨ t.getD i 0 = 47 then (if acc.length < 6 ∧ pt_name (sl t f i) = true then pt_go t (t.length + 1 - i) (i + 1) (i + 1) (acc ++ [(f, i)]) else none) else pt_go t (t.length + 1 - i) (i + 1) f acc) with
        | none => r = none
        | some sp => r = some a ∧ cp_P g' τ a t sp) := by
        intro hc
        obtain ⟨ss, st, en, f1, f2, h1, -⟩ := id hP
        rw [fX3_read_39, pg_o1, pg_cv h1, if_pos hc]
        refine pg_T.b (cp_add hg hC hP ht hf (by omega)) (fun _ h => h) (by omega) (by omega) (fun r g1 hx hp => ?_)
        obtain ⟨rfl, hp2⟩ := hp
        by_cases hc2 : acc.length < 6 ∧ pt_name (sl t f i) = true
        · have e : (decide (acc.length < 6) && pt_name (sl t f i)) = true := by rw [decide_eq_true hc2.1, hc2.2]; rfl
          rw [e] at hp2 ⊢
          rw [if_pos hc2, bI_t, if_neg (by decide), fX3_read_54, nI_1]
          have := ih (i + 1) (i + 1) (acc ++ [(f, i)]) g1 hx.wf (hC.ext hg hx (fun h => ht h.symm)) (hs.ext hg hx (fun h => ht h.symm)) (hp2 rfl) (Nat.le_refl _) (by omega) (by omega)
          rw [show t.length + 2 - (i + 1) = t.length + 1 - i by omega] at this
          exact this.mono (by omega) (by omega) (fun _ h => h) (fun _ _ _ h => h)
        · have e : (decide (acc.length < 6) && pt_name (sl t f i)) = false := by
            cases h : (decide (acc.length < 6) && pt_name (sl t f i)) with
            | false => rfl
            | true => rw [Bool.and_eq_true, decide_eq_true_eq] at h; exact absurd h hc2
          rw [e, if_neg hc2, bI_f, if_pos rfl]
          exact pg_T.ret hx.wf rfl
      by_cases hie2 : i = t.length
      · rw [if_pos (by rw [hie2])]
        exact step (Or.inl hie2)
      · rw [if_neg (fun h => hie2 ((nI_eq (by omega) (by omega)).mp h)), ps_charAt hs (show i < t.length by omega), pg_b0]
        have c1 := ps_get (ps_lt hs) i (by omega)
        by_cases hc : t.getD i 0 = 47
        · rw [if_pos (by rw [hc]; rfl)]
          exact step (Or.inr hc)
        · rw [if_neg (fun h => hc ((li_c 47 (c := 47) rfl (by omega) (by decide)).mp h)), if_neg (fun h => h.elim hie2 hc), fX3_read_54, nI_1]
          have := ih (i + 1) f acc g hg hC hs hP (by omega) (by omega) (by omega)
          rw [show t.length + 2 - (i + 1) = t.length + 1 - i by omega] at this
          exact this.mono (by omega) (by omega) (fun _ h => h) (fun _ _ _ h => h)
/-- all owners of what is new -/
def pg_re (g g' : pg_G) (t : Nat) : Nat → Nat := fun b => if b < g.1.2.1 then g'.2 b else t
theorem pg_re_lt {g' : pg_G} {τ b : Nat} (h : b < g.1.2.1) : pg_re g g' τ b = g'.2 b := if_pos h
/-- what was made under the fresh tag is new -/
theorem pg_fr_new {g' : pg_G} {W : Nat → Prop} {b : Nat} (hx : pg_Ext W g g') (h : g'.2 b = pg_fr g) : ¬ b < g.1.2.1 := fun hb => by rw [hx.2.2.1 b hb] at h; exact pg_fr_ne hb h
theorem ps_S.re {g' : pg_G} {s : Nat} {w : List Nat} (h : ps_S g' s w) : ps_S (g'.1, pg_re g g' 0) s w := by
  obtain ⟨v, x, z, f, h1, h2, h3, h4, h5, h6, h7⟩ := h
  refine ⟨v, x, z, f, h1, h2, h3, h4, h5, ?_, ?_⟩
  · show (if s < g.1.2.1 then g'.2 s else 0) = 0; rw [h6, ite_self]
  · show (if v < g.1.2.1 then g'.2 v else 0) = 0; rw [h7, ite_self]
theorem cp_P.re {g' : pg_G} {W : Nat → Prop} (hx : pg_Ext W g g') (h : cp_P g' (pg_fr g) a t sp) : cp_P (g'.1, pg_re g g' 0) 0 a t sp := by
  obtain ⟨s, st, en, f1, f2, h1, h2, h3, h4, h5, h6, h7, h8⟩ := h
  exact ⟨s, st, en, f1, f2, h1, if_neg (pg_fr_new hx h2), h3.re, h4, if_neg (pg_fr_new hx h5), h6, if_neg (pg_fr_new hx h7), h8⟩
theorem cp_new {s : Nat} (hg : pg_Wf g) (hs : ps_S g s t) (τ : Nat) (ht : τ ≠ 0) {β : Type} {f : Nat → vg_M → vg_R β} {C N : Nat} {Q : β → pg_G → Prop} {W : Nat → Prop} (hW : W τ) (hC : 3 ≤ C) (hN : 16 ≤ N) (k : ∀ g1, pg_Ext (fun t' => t' = τ) g g1 → cp_P g1 τ g.1.2.1 t [] → pg_T (f g.1.2.1 g1.1) (C - 3) (N - 16) W g1 Q) : pg_T (vg_nw 4 g.1.2.1 (vg_nO g.1 6 [.null, .null, .null, .int 0]) fun a11 μ12 => vg_b (fX3_init a11 (some s) μ12) fun _ μ14 => f a11 μ14) C N W g Q := by
  refine pg_T.nO (t := τ) hg (by omega) (by omega) ?_
  have x1 := pg_new_ext (W := fun t' => t' = τ) (t := τ) (e := .inr (6, [.null, .null, .null, .int 0])) hg
  have x1f := pg_new_ext (W := fun _ => False) (t := τ) (e := .inr (6, [.null, .null, .null, .int 0])) hg
  have key := cp_init x1.wf (pg_new_self g τ (.inr (6, [.null, .null, .null, .int 0]))) (pg_new_tag g τ _) ht (hs.ext hg x1f (fun h => h))
  refine pg_T.b key (fun _ h => h ▸ hW) (by omega) (by omega) (fun r g1 hx hp => ?_)
  exact (k g1 (x1.trans hx) hp).mono (by omega) (by omega) (fun _ h => h) (fun _ _ _ h => h)
theorem cp_read {s : Nat} (hg : pg_Wf g) (hC : pg_C g) (hs : ps_S g s t) (hl : t.length ≤ 60) : pg_T (fX3_read (some s) g.1) 125 4000 (fun _ => False) g (fun r g' => match pt t with
    | none => r = none
    | some sp => ∃ q, r = some q ∧ cp_P g' 0 q t sp) := by
  refine pg_T.fresh (P := fun r g' => match pt t with
    | none => r = none
    | some sp => r = some g.1.2.1 ∧ cp_P g' (pg_fr g) g.1.2.1 t sp) hg ?_ (fun r g' hx hp => ?_)
  · unfold fX3_read
    refine cp_new hg hs (pg_fr g) pg_fr_0 (Or.inr rfl) (by decide) (by decide) (fun g1 hx hP => ?_)
    have := cp_readL (a := g.1.2.1) (s := s) (t := t) pg_fr_0 hl vg_fuel 0 0 [] g1 hx.wf (hC.ext hg hx (fun h => pg_fr_0 h.symm)) (hs.ext hg hx (fun h => pg_fr_0 h.symm)) hP (Nat.le_refl _) (Nat.zero_le _) (by rw [ps_fuel]; omega)
    rw [nI_0] at this
    exact this.mono (by omega) (by omega) (fun _ h => Or.inr h) (fun _ _ _ h => h)
  · refine ⟨pg_re g g' 0, fun b hb => if_pos hb, ?_⟩
    cases hpt : pt t with
    | none => rw [hpt] at hp; exact hp
    | some sp => rw [hpt] at hp; exact ⟨g.1.2.1, hp.1, hp.2.re hx⟩
end
