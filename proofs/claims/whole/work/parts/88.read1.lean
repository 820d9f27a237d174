/-! The reader: parts. -/
def cr_R (g : pg_G) (E a x : Nat) (il : Int32) (s p : Nat) : Prop := g.1.1 a = some (.inr (8, [.ref x, .int il, .ref s, .int (nI p)])) ∧ g.2 a = E
def inP (t : List Nat) (k : Nat) : Bool := decide (k < t.length) && decide (t.getD k 0 ≠ 47)
section
variable {g g' : pg_G} {W : Nat → Prop} {E a x s p : Nat} {il : Int32} {t : List Nat}
theorem cr_R.ext (h : cr_R g E a x il s p) (hg : pg_Wf g) (he : pg_Ext W g g') (hw : ¬ W E) : cr_R g' E a x il s p := ⟨he.at hg h.1 (by rw [h.2]; exact hw), by rw [he.tag hg h.1, h.2]⟩
theorem inP_no {k : Nat} : inP t k = false ↔ (t[k]? = none ∨ t[k]? = some 47) := by
  unfold inP
  by_cases h : k < t.length
  · rw [decide_eq_true h, Bool.true_and, decide_eq_false_iff_not, Classical.not_not, List.getElem?_eq_getElem h, ls_get h]
    constructor
    · intro e; exact Or.inr (by rw [e])
    · rintro (e | e)
      · cases e
      · exact Option.some.inj e
  · rw [decide_eq_false h, Bool.false_and, List.getElem?_eq_none (by omega)]
    exact ⟨fun _ => Or.inl rfl, fun _ => rfl⟩
theorem cr_at (hg : pg_Wf g) (h : cr_R g E a x il s p) (hE : E ≠ 0) {p' : Nat} {β : Type} {f : vg_M → vg_R β} {C N : Nat} {Q : β → pg_G → Prop} (hW : W E) (k : ∀ g1, pg_Ext (fun t => t = E) g g1 → cr_R g1 E a x il s p' → pg_T (f g1.1) C N W g1 Q) : pg_T (vg_o (vg_p g.1 a 8 3 (.int (nI p'))) f) C N W g Q := by
  have x1 := pg_put_ext (W := fun t => t = E) (e := .inr (8, [.ref x, .int il, .ref s, .int (nI p)].set 3 (.int (nI p')))) hg h.1 h.2 (by simp [pg_kd])
  exact pg_T.p hg h.1 (by simp) (by rw [h.2]; exact hE) (by rw [h.2]; exact hW) (k _ x1 ⟨pg_put_self _ _ _, h.2⟩)
theorem cr_il (hg : pg_Wf g) (h : cr_R g E a x il s p) (hE : E ≠ 0) {v : Int32} {β : Type} {f : vg_M → vg_R β} {C N : Nat} {Q : β → pg_G → Prop} (hW : W E) (k : ∀ g1, pg_Ext (fun t => t = E) g g1 → cr_R g1 E a x v s p → pg_T (f g1.1) C N W g1 Q) : pg_T (vg_o (vg_p g.1 a 8 1 (.int v)) f) C N W g Q := by
  have x1 := pg_put_ext (W := fun t => t = E) (e := .inr (8, [.ref x, .int il, .ref s, .int (nI p)].set 1 (.int v))) hg h.1 h.2 (by simp [pg_kd])
  exact pg_T.p hg h.1 (by simp) (by rw [h.2]; exact hE) (by rw [h.2]; exact hW) (k _ x1 ⟨pg_put_self _ _ _, h.2⟩)
theorem cr_inP (h : cr_R g E a x il s p) (hs : ps_S g s t) (hp : p < 1000) : fX5_isInPiece a g.1 = some (bI (inP t p), g.1, 0, 0) := by
  obtain ⟨fs, hso⟩ := ps_o hs
  have hl := ps_len hs
  simp only [fX5_isInPiece, pg_gI h.1 (k := 3) rfl, pg_gR h.1 (k := 2) rfl, pg_o1, pg_cv hso, ps_length hs, pg_b0, fX5_isInPiece_34, fX5_isInPiece_35, pg_z0, pg_z1, vu_ret]
  unfold inP
  by_cases hlt : p < t.length
  · rw [if_neg (nI_ge hlt (by omega)), ps_charAt hs hlt, pg_b0, decide_eq_true hlt, Bool.true_and]
    have c1 := ps_get (ps_lt hs) p hlt
    by_cases hc : t.getD p 0 = 47
    · rw [if_pos (by rw [hc]; rfl), decide_eq_false (fun h => h hc)]; rfl
    · rw [if_neg (fun h => hc ((li_c 47 (c := 47) rfl (by omega) (by decide)).mp h)), decide_eq_true hc]; rfl
  · rw [if_pos (nI_le (by omega) (by omega)), decide_eq_false hlt]; rfl
variable {τo τl y : Nat} {c : List (List Nat)}
theorem cr_set48 {st e : Nat} (hg : pg_Wf g) (hC : pg_C g) (h : cr_R g E a x (-1) s p) (hs : ps_S g s t) (hq : cq_q2 g τo τl y c) (hc8 : c.length < 8) (hE : E ≠ 0) (ht : τl ≠ 0) (hto : τo ≠ τl) (hEo : E ≠ τo) (hEl : E ≠ τl) (hl60 : t.length ≤ 60) (hst : st ≤ e) (he6 : e ≤ st + 6) (he : e ≤ t.length) (hst1 : 1 ≤ st) (h91 : t.getD (st - 1) 0 = 91) (hsg : ∀ j, st ≤ j → j < e → sg (t.getD j 0) = true) : pg_T (fX5_readSet_48 a (some y) (nI st) (nI e) g.1) 4 37 (fun t => t = E ∨ t = τl) g (fun _ g' => if st < e ∧ t[e]? = some 93 then cr_R g' E a x (-1) s (e + 1) ∧ cq_q2 g' τo τl y (c ++ [sl t (st - 1) (e + 1)]) else ∃ p', cr_R g' E a x (nI e) s p') := by
  obtain ⟨fs, hso⟩ := ps_o hs
  have ill : ¬ (st < e ∧ t[e]? = some 93) → pg_T (fX5_readSet_77 a (nI e) g.1) 4 37 (fun t => t = E ∨ t = τl) g (fun _ g' => if st < e ∧ t[e]? = some 93 then cr_R g' E a x (-1) s (e + 1) ∧ cq_q2 g' τo τl y (c ++ [sl t (st - 1) (e + 1)]) else ∃ p', cr_R g' E a x (nI e) s p') := by
    intro hn
    rw [fX5_readSet_77]
    refine cr_il hg h hE (Or.inl rfl) (fun g1 x1 h1 => pg_T.ret x1.wf ?_)
    rw [if_neg hn]; exact ⟨p, h1⟩
  rw [fX5_readSet_48]
  by_cases h1 : e = st
  · rw [if_pos (by rw [h1])]
    exact ill (fun hh => by omega)
  · rw [if_neg (fun hh => h1 ((nI_eq (by omega) (by omega)).mp hh)), pg_gR h.1 (k := 2) rfl, pg_o1, pg_o1, pg_cv hso, ps_length hs, pg_b0]
    by_cases h2 : e < t.length
    · rw [if_neg (nI_ge h2 (by omega)), pg_gR h.1 (k := 2) rfl, pg_o1, pg_o1, pg_cv hso, ps_charAt hs h2, pg_b0]
      have c1 := ps_get (ps_lt hs) e h2
      have he? : t[e]? = some (t.getD e 0) := by rw [List.getElem?_eq_getElem h2, ls_get h2]
      by_cases h3 : t.getD e 0 = 93
      · rw [if_pos (by rw [h3]; rfl), pg_gR h.1 (k := 2) rfl, pg_o1, pg_o1, pg_cv hso]
        have hcond : st < e ∧ t[e]? = some 93 := ⟨by omega, by rw [he?, h3]⟩
        have hraw : sl t (st - 1) (e + 1) = 91 :: (sl t st e ++ [93]) := by
          have q1 := sl_add (t := t) (a := st - 1) (b := st) (c := e + 1) (by omega) (by omega) (by omega)
          have q2 := sl_add (t := t) (a := st) (b := e) (c := e + 1) (by omega) (by omega) (by omega)
          have q3 := sl_one (t := t) (a := st - 1) (by omega)
          rw [show st - 1 + 1 = st by omega, ← ls_get, h91] at q3
          have q4 := sl_one (t := t) (a := e) h2
          rw [← ls_get h2, h3] at q4
          rw [← q1, q3, ← q2, q4]; rfl
        have hlets : lets (sl t (st - 1) (e + 1)) = sl t st e := by rw [hraw, lets_s (by rw [sl_len he]; omega)]
        have hne42 : sl t (st - 1) (e + 1) ≠ [42] := by rw [hraw]; exact fun hh => by cases hh
        refine pg_T.b (ps_sub hg hC hs hst he) (fun _ h => h.elim) (by omega) (by omega) (fun r g1 x1 hp => ?_)
        obtain ⟨b, rfl, hb⟩ := hp
        rw [← hlets] at hb
        have q1 := hq.ext hg x1 (fun h => h) (fun h => h) (fun h => h)
        obtain ⟨_, _, _, oy, -⟩ := id q1
        rw [pg_o1, pg_cv oy]
        refine pg_T.b (cq_addL x1.wf (hC.ext hg x1 (fun h => h)) q1 hc8 hb hne42 ht hto) (fun t h => Or.inr h) (by omega) (by omega) (fun r g2 x2 q2 => ?_)
        rw [nI_1]
        refine cr_at x2.wf ((h.ext hg x1 (fun h => h)).ext x1.wf x2 hEl) hE (Or.inl rfl) (fun g3 x3 h3 => pg_T.ret x3.wf ?_)
        rw [if_pos hcond]
        exact ⟨h3, q2.ext x2.wf x3 (fun e => hEo e.symm) (fun e => hEl e.symm) (fun e => hE e.symm)⟩
      · rw [if_neg (fun hh => h3 ((li_c 93 (c := 93) rfl (by omega) (by decide)).mp hh))]
        exact ill (fun hh => h3 (Option.some.inj (he?.symm.trans hh.2)))
    · rw [if_pos (nI_le (by omega) (by omega))]
      exact ill (fun hh => by rw [List.getElem?_eq_none (by omega)] at hh; cases hh.2)
theorem cr_setL {st : Nat} (hg : pg_Wf g) (h : cr_R g E a x (-1) s p) (hs : ps_S g s t) (hl60 : t.length ≤ 60) : ∀ m n e, e ≤ st + 6 → st ≤ e → m = 6 - (e - st) → 6 < (e - st) + n → e ≤ t.length → fX5_readSet_9 n a (some y) (nI st) (nI e) g.1 = fX5_readSet_48 a (some y) (nI st) (nI (sgrun t m e)) g.1 ∧ sgrun t m e ≤ t.length ∧ e ≤ sgrun t m e ∧ sgrun t m e ≤ st + 6 := by
  obtain ⟨fs, hso⟩ := ps_o hs
  intro m
  induction m with
  | zero =>
    intro n e h1 h2 hm hn he
    obtain ⟨n, rfl⟩ : ∃ n', n = n' + 1 := ⟨n - 1, by omega⟩
    rw [fX5_readSet_9, sgrun]
    simp only [pg_gR h.1 (k := 2) rfl, pg_o1, pg_cv hso, ps_length hs, pg_b0]
    refine ⟨?_, he, Nat.le_refl _, h1⟩
    by_cases hlt : e < t.length
    · rw [if_neg (nI_ge hlt (by omega)), pk_sub h2, if_pos (show (6 : Int32) ≤ nI (e - st) from nI_le (a := 6) (by omega) (by omega))]
    · rw [if_pos (nI_le (by omega) (by omega))]
  | succ m ih =>
    intro n e h1 h2 hm hn he
    obtain ⟨n, rfl⟩ : ∃ n', n = n' + 1 := ⟨n - 1, by omega⟩
    rw [fX5_readSet_9, sgrun]
    simp only [pg_gR h.1 (k := 2) rfl, pg_o1, pg_cv hso, ps_length hs, pg_b0]
    by_cases hlt : e < t.length
    · have c1 := ps_get (ps_lt hs) e hlt
      rw [if_neg (nI_ge hlt (by omega)), pk_sub h2, if_neg (show ¬ (6 : Int32) ≤ nI (e - st) from nI_ge (b := 6) (by omega) (by decide)), ps_charAt hs hlt, pg_b0, cl_letter (by omega), pg_b0, List.getElem?_eq_getElem hlt, ← ls_get hlt]
      cases hsg : sg (t.getD e 0) with
      | false => rw [bI_f, if_pos rfl, if_neg (by rw [Option.any_some, hsg]; decide)]; exact ⟨rfl, by omega, Nat.le_refl _, h1⟩
      | true =>
        rw [bI_t, if_neg (by decide), if_pos (by rw [Option.any_some, hsg]), nI_1]
        obtain ⟨i1, i2, i3, i4⟩ := ih n (e + 1) (by omega) (by omega) (by omega) (by omega) (by omega)
        exact ⟨i1, i2, by omega, i4⟩
    · rw [if_pos (nI_le (by omega) (by omega)), List.getElem?_eq_none (by omega), if_neg (by decide)]
      exact ⟨rfl, he, Nat.le_refl _, h1⟩
/-- one part -/
def ppp (t : List Nat) (n k : Nat) : Nat ⊕ Nat := if n = 8 then .inr k else pp_part t k
theorem cr_part (hg : pg_Wf g) (hC : pg_C g) (h : cr_R g E a x (-1) s p) (hs : ps_S g s t) (hq : cq_q2 g τo τl y c) (hE : E ≠ 0) (ht : τl ≠ 0) (hto : τo ≠ τl) (hto' : τo ≠ 0) (hEo : E ≠ τo) (hEl : E ≠ τl) (hl60 : t.length ≤ 60) (hp : p < t.length) : pg_T (fX5_readPart a (some y) g.1) 4 37 (fun t => t = E ∨ t = τo ∨ t = τl) g (fun _ g' => match ppp t c.length p with
    | .inr e => ∃ p', cr_R g' E a x (nI e) s p'
    | .inl e => cr_R g' E a x (-1) s e ∧ cq_q2 g' τo τl y (c ++ [sl t p e])) := by
  obtain ⟨fs, hso⟩ := ps_o hs
  have c1 := ps_get (ps_lt hs) p hp
  obtain ⟨ly, sty, psy, oy, oy2, oy3, oy4, oy5, oy6, oy7⟩ := id hq
  have he? : t[p]? = some (t.getD p 0) := by rw [List.getElem?_eq_getElem hp, ls_get hp]
  simp only [fX5_readPart, pg_gR h.1 (k := 2) rfl, pg_gI h.1 (k := 3) rfl, pg_o1, pg_cv hso, ps_charAt hs hp, pg_b0, pg_cv oy, cq_full hq, fX5_readPart_116]
  unfold ppp
  by_cases h8 : c.length = 8
  · rw [if_pos h8, decide_eq_true (by omega), bI_t, if_neg (by decide)]
    exact cr_il hg h hE (Or.inl rfl) (fun g1 x1 h1 => pg_T.ret x1.wf ⟨p, h1⟩)
  · rw [if_neg h8, decide_eq_false (by omega), bI_f, if_pos rfl]
    unfold pp_part
    rw [he?]
    show pg_T _ _ _ _ _ (fun _ g' => match (if sg (t.getD p 0) = true ∨ t.getD p 0 = 42 then .inl (p + 1) else if t.getD p 0 = 91 then (if p + 1 < sgrun t 6 (p + 1) ∧ t[sgrun t 6 (p + 1)]? = some 93 then .inl (sgrun t 6 (p + 1) + 1) else .inr (sgrun t 6 (p + 1))) else .inr p : Nat ⊕ Nat) with
      | .inr e => ∃ p', cr_R g' E a x (nI e) s p'
      | .inl e => cr_R g' E a x (-1) s e ∧ cq_q2 g' τo τl y (c ++ [sl t p e]))
    have hone : sl t p (p + 1) = [t.getD p 0] := by rw [sl_one hp, ls_get hp]
    by_cases h91 : t.getD p 0 = 91
    · rw [if_pos (by rw [h91]; rfl), if_neg (by rw [h91]; decide), if_pos h91, pg_cv h.1]
      simp only [fX5_readSet, pg_gI h.1 (k := 3) rfl, pg_o1, nI_1]
      obtain ⟨e1, e2, e3, e4⟩ := cr_setL (y := y) (st := p + 1) hg h hs hl60 6 vg_fuel (p + 1) (by omega) (Nat.le_refl _) (by omega) (by rw [ps_fuel]; omega) (by omega)
      rw [e1]
      refine pg_T.b (cr_set48 (t := t) hg hC h hs hq (by omega) hE ht hto hEo hEl hl60 e3 e4 e2 (by omega) (by rw [Nat.add_sub_cancel]; exact h91) (fun j hj1 hj2 => sgrun_sg 6 (p + 1) j hj1 hj2)) (fun t h => h.elim Or.inl (fun h => Or.inr (Or.inr h))) (by omega) (by omega) (fun r g1 x1 hp1 => pg_T.ret x1.wf ?_)
      rw [Nat.add_sub_cancel] at hp1
      by_cases hc : p + 1 < sgrun t 6 (p + 1) ∧ t[sgrun t 6 (p + 1)]? = some 93
      · rw [if_pos hc] at hp1 ⊢; exact hp1
      · rw [if_neg hc] at hp1 ⊢; exact hp1
    · rw [if_neg (fun hh => h91 ((li_c 91 (c := 91) rfl (by omega) (by decide)).mp hh))]
      by_cases h42 : t.getD p 0 = 42
      · rw [if_pos (by rw [h42]; rfl), if_pos (Or.inr h42)]
        refine pg_T.b (cq_addS hg hC hq (by omega) ht hto' hto) (fun t h => Or.inr h) (by omega) (by omega) (fun r g1 x1 q1 => ?_)
        have h1 := h.ext hg x1 (fun e => e.elim hEo hEl)
        rw [pg_gI h1.1 (k := 3) rfl, pg_o1, nI_1]
        refine cr_at x1.wf h1 hE (Or.inl rfl) (fun g2 x2 h2 => pg_T.ret x2.wf ⟨h2, ?_⟩)
        rw [hone, h42]
        exact q1.ext x1.wf x2 (fun e => hEo e.symm) (fun e => hEl e.symm) (fun e => hE e.symm)
      · rw [if_neg (fun hh => h42 ((li_c 42 (c := 42) rfl (by omega) (by decide)).mp hh)), cl_letter (by omega), pg_b0]
        cases hsg : sg (t.getD p 0) with
        | false =>
          rw [bI_f, if_pos rfl, if_neg (fun hh => hh.elim (fun hh => by cases hh) h42), if_neg h91, pg_gI h.1 (k := 3) rfl, pg_o1]
          exact cr_il hg h hE (Or.inl rfl) (fun g1 x1 h1 => pg_T.ret x1.wf ⟨p, h1⟩)
        | true =>
          rw [bI_t, if_neg (by decide), if_pos (Or.inl rfl), pg_gR h.1 (k := 2) rfl, pg_o1, pg_gI h.1 (k := 3) rfl, pg_o1, pg_o1, pg_o1, pg_cv hso, nI_1]
          refine pg_T.b (ps_sub hg hC hs (show p ≤ p + 1 by omega) (by omega)) (fun _ h => h.elim) (by omega) (by omega) (fun r g1 x1 hp1 => ?_)
          obtain ⟨b, rfl, hb⟩ := hp1
          have hle : lets (sl t p (p + 1)) = sl t p (p + 1) := by rw [hone, lets_1 hsg]
          rw [← hle] at hb
          have q1 := hq.ext hg x1 (fun h => h) (fun h => h) (fun h => h)
          obtain ⟨_, _, _, oy1, -⟩ := id q1
          rw [pg_cv oy1]
          refine pg_T.b (cq_addL x1.wf (hC.ext hg x1 (fun h => h)) q1 (by omega) hb (by rw [hone]; exact fun e => h42 (by simpa using e)) ht hto) (fun t h => Or.inr (Or.inr h)) (by omega) (by omega) (fun r g2 x2 q2 => ?_)
          have h2 := (h.ext hg x1 (fun h => h)).ext x1.wf x2 hEl
          rw [pg_gI h2.1 (k := 3) rfl, pg_o1, nI_1]
          exact cr_at x2.wf h2 hE (Or.inl rfl) (fun g3 x3 h3 => pg_T.ret x3.wf ⟨h3, q2.ext x2.wf x3 (fun e => hEo e.symm) (fun e => hEl e.symm) (fun e => hE e.symm)⟩)
end
