/-! The reader, to the end. -/
section
variable {g g' : pg_G} {W : Nat → Prop} {E a x s p τs : Nat} {out fo : Bool} {t : List Nat} {ps : List (List (List Nat))}
theorem cr_plain (hg : pg_Wf g) (hC : pg_C g) (hE : 100 ≤ E) (hτ : τs < 100) (h : cr_R g E a x (-1) s p) (hs : ps_S g s t) (hP : cr_P g E x τs out fo ps) (hl : ps.length < 6) (hl60 : t.length ≤ 60) (hp : p ≤ t.length) (hdeep : pp_deep t p = false) : pg_T (fX5_readPlainPiece a g.1) 41 430 (fun t => E ≤ t) g (fun _ g' => match pp_piece t p (lst ps) with
      | .inr e => ∃ p', cr_R g' E a x (nI e) s p'
      | .inl q => cr_R g' E a x (-1) s q.2 ∧ cr_P g' E x τs out fo (ps ++ [q.1])) := by
  unfold fX5_readPlainPiece
  have e0 : (0 : Int32) = bI false := rfl
  have hprog : (vg_nw 3 g.1.2.1 (vg_nO g.1 9 [.int 0, .null, .int 0]) fun a20 μ21 => vg_b (fX6_init a20 0 μ21) fun _ μ23 => vg_o (vg_gI μ23 a 8 3) fun x24 => fX5_readPlainPiece_16 vg_fuel a (some a20) x24 0 μ23) = (vg_nw 3 g.1.2.1 (vg_nO g.1 9 [.int 0, .null, .int 0]) fun a20 μ21 => vg_b (fX6_init a20 (bI false) μ21) fun _ μ23 => (fun a20 μ23 => vg_o (vg_gI μ23 a 8 3) fun x24 => fX5_readPlainPiece_16 vg_fuel a (some a20) x24 0 μ23) a20 μ23) := rfl
  rw [hprog]
  refine cq_new (τo := E + 10 + 3 * g.1.2.1) (τl := E + 11 + 3 * g.1.2.1) false hg (by omega) (by omega) (by omega) (by omega) (by omega) (by omega) (by omega) (fun g1 x1 hp1 => ?_)
  obtain ⟨l, o1, t1, l1⟩ := hp1
  have h1 := h.ext hg x1 (by omega)
  have hC1 := hC.ext hg x1 (by omega)
  have hs1 := hs.ext hg x1 (by omega)
  have hPy : cr_Py g1 E x τs out fo ps g.1.2.1 := by
    obtain ⟨l, sa, dv, pcs, q1, q2, q3, q4, q5, hyn⟩ := hP.py hg (Nat.le_refl _)
    refine ⟨l, sa, dv, pcs, q1.ext hg x1 (by omega) (by omega) (by omega), q2, q3, fun i hi => ?_, q5, hyn⟩
    have hil : i < pcs.length := by omega
    have hne : pcs.getD i 0 ≠ g.1.2.1 := fun e => hyn (by rw [← e, ls_get hil]; exact List.getElem_mem hil)
    exact (q4 i hi).ext hg x1 (by omega) (by omega) (by omega)
  have hq1 : cq_q2 g1 (E + 10 + 3 * g.1.2.1) (E + 11 + 3 * g.1.2.1) g.1.2.1 [] := ⟨l, 0, [], o1, t1, l1, rfl, by decide, fun i hi => absurd hi (Nat.not_lt_zero _), bs_eq bs_z (fun j _ => by rw [stb_out (Nat.zero_le _)])⟩
  show pg_T (vg_o (vg_gI g1.1 a 8 3) fun x24 => fX5_readPlainPiece_16 vg_fuel a (some g.1.2.1) x24 0 g1.1) _ _ _ _ _
  rw [pg_gI h1.1 (k := 3) rfl, pg_o1]
  have := cr_plainL (a := a) (x := x) (s := s) (out := out) (fo := fo) (t := t) (ps := ps) (y := g.1.2.1) (k := p) hE hτ hl hl60 hp hdeep 9 vg_fuel [] p g1 rfl (by rw [ps_fuel]; decide) x1.wf hC1 h1 hs1 hPy hq1 (Nat.le_refl _) hp (fun _ => rfl) (fun hh => absurd rfl hh) (by rw [sl_self]; rfl) (fun b hb => by cases hb)
  refine this.mono (by omega) (by omega) (fun t h => by omega) (fun r g' _ hp => ?_)
  unfold pp_piece
  rw [hdeep, if_neg (by decide)]
  exact hp
theorem cr_deep (hg : pg_Wf g) (hC : pg_C g) (hE : 100 ≤ E) (hτ : τs < 100) (h : cr_R g E a x (-1) s p) (hs : ps_S g s t) (hP : cr_P g E x τs out fo ps) (hl : ps.length < 6) (hl60 : t.length ≤ 60) (hp : p + 1 < t.length) (hdeep : pp_deep t p = true) : pg_T (fX5_readDeepPiece a g.1) 41 430 (fun t => E ≤ t) g (fun _ g' => match pp_piece t p (lst ps) with
      | .inr e => ∃ p', cr_R g' E a x (nI e) s p'
      | .inl q => cr_R g' E a x (-1) s q.2 ∧ cr_P g' E x τs out fo (ps ++ [q.1])) := by
  obtain ⟨_, _, _, _, ⟨o0, -⟩, -⟩ := id hP
  rw [fX5_readDeepPiece, pg_gR h.1 (k := 0) rfl, pg_o1, pg_o1, pg_cv o0, cr_ends hP, pg_b0]
  unfold pp_piece
  rw [if_pos hdeep]
  cases hlst : lst ps with
  | true =>
    rw [bI_t, if_neg (by decide), if_pos rfl, pg_gI h.1 (k := 3) rfl, pg_o1]
    exact cr_il hg h (by omega) (by omega) (fun g1 x1 h1 => pg_T.ret x1.wf ⟨p, h1⟩)
  | false =>
    rw [bI_f, if_pos rfl, if_neg (by decide), pg_gR h.1 (k := 0) rfl, pg_o1]
    have hprog : (vg_nw 3 g.1.2.1 (vg_nO g.1 9 [.int 0, .null, .int 0]) fun a6 μ7 => vg_b (fX6_init a6 1 μ7) fun _ μ9 => vg_o (some x) fun a10 => vg_cv 7 a10 μ9 (fX4_add a10 (some a6) μ9) fun _ μ12 => vg_o (vg_gI μ12 a 8 3) fun x13 => vg_o (vg_p μ12 a 8 3 (.int (x13 + 2))) fun μ14 => vg_cv 8 a μ14 (fX5_isInPiece a μ14) fun x15 μ16 => if x15 = 0 then fX5_readDeepPiece_59 μ16 else vg_o (vg_gI μ16 a 8 3) fun x17 => vg_o (vg_p μ16 a 8 1 (.int x17)) fun μ18 => fX5_readDeepPiece_59 μ18) = (vg_nw 3 g.1.2.1 (vg_nO g.1 9 [.int 0, .null, .int 0]) fun a6 μ7 => vg_b (fX6_init a6 (bI true) μ7) fun _ μ9 => (fun a6 μ9 => vg_o (some x) fun a10 => vg_cv 7 a10 μ9 (fX4_add a10 (some a6) μ9) fun _ μ12 => vg_o (vg_gI μ12 a 8 3) fun x13 => vg_o (vg_p μ12 a 8 3 (.int (x13 + 2))) fun μ14 => vg_cv 8 a μ14 (fX5_isInPiece a μ14) fun x15 μ16 => if x15 = 0 then fX5_readDeepPiece_59 μ16 else vg_o (vg_gI μ16 a 8 3) fun x17 => vg_o (vg_p μ16 a 8 1 (.int x17)) fun μ18 => fX5_readDeepPiece_59 μ18) a6 μ9) := rfl
    rw [hprog]
    refine cq_new (τo := E + 10 + 3 * g.1.2.1) (τl := E + 11 + 3 * g.1.2.1) true hg (by omega) (by omega) (by omega) (by omega) (by omega) (by omega) (by omega) (fun g1 x1 hp1 => ?_)
    obtain ⟨l, o1, t1, l1⟩ := hp1
    have h1 := h.ext hg x1 (by omega)
    have hC1 := hC.ext hg x1 (by omega)
    have hs1 := hs.ext hg x1 (by omega)
    have hP1 : cr_P g1 E x τs out fo ps := by
      obtain ⟨l, sa, dv, pcs, q1, q2, q3, q4, q5, hyn⟩ := hP.py hg (Nat.le_refl _)
      refine ⟨l, sa, dv, pcs, q1.ext hg x1 (by omega) (by omega) (by omega), q2, q3, fun i hi => ?_, q5⟩
      have hil : i < pcs.length := by omega
      have hne : pcs.getD i 0 ≠ g.1.2.1 := fun e => hyn (by rw [← e, ls_get hil]; exact List.getElem_mem hil)
      exact (q4 i hi).ext hg x1 (by omega) (by omega) (by omega)
    have hc1 : cr_c g1 E g.1.2.1 dpP := Or.inl ⟨rfl, l, 0, o1, t1⟩
    obtain ⟨_, _, _, _, ⟨ox, -⟩, -⟩ := id hP1
    show pg_T (vg_o (some x) fun a10 => vg_cv 7 a10 g1.1 (fX4_add a10 (some g.1.2.1) g1.1) fun _ μ12 => vg_o (vg_gI μ12 a 8 3) fun x13 => vg_o (vg_p μ12 a 8 3 (.int (x13 + 2))) fun μ14 => vg_cv 8 a μ14 (fX5_isInPiece a μ14) fun x15 μ16 => if x15 = 0 then fX5_readDeepPiece_59 μ16 else vg_o (vg_gI μ16 a 8 3) fun x17 => vg_o (vg_p μ16 a 8 1 (.int x17)) fun μ18 => fX5_readDeepPiece_59 μ18) _ _ _ _ _
    rw [pg_o1, pg_cv ox]
    refine pg_T.b (cr_add x1.wf hC1 hE hτ hP1 hl hc1) (fun t h => by omega) (by omega) (by omega) (fun r g2 x2 hP2 => ?_)
    have h2 := h1.ext x1.wf x2 (by omega)
    have hs2 := hs1.ext x1.wf x2 (by omega)
    rw [pg_gI h2.1 (k := 3) rfl, pg_o1, show (2 : Int32) = nI 2 from rfl, nI_add]
    refine cr_at x2.wf h2 (by omega) (by omega) (fun g3 x3 h3 => ?_)
    have hs3 := hs2.ext x2.wf x3 (by omega)
    have hP3 := hP2.ext x2.wf x3 (by omega) (by omega) (by omega) (by omega) (fun _ _ => ⟨by omega, by omega⟩)
    rw [pg_cv h3.1, cr_inP h3 hs3 (by omega), pg_b0]
    cases hin : inP t (p + 2) with
    | false =>
      rw [bI_f, if_pos rfl, if_pos (inP_no.mp hin)]
      exact pg_T.ret x3.wf ⟨h3, hP3⟩
    | true =>
      rw [bI_t, if_neg (by decide), if_neg (fun hh => by rw [inP_no.mpr hh] at hin; cases hin), pg_gI h3.1 (k := 3) rfl, pg_o1]
      exact cr_il x3.wf h3 (by omega) (by omega) (fun g4 x4 h4 => pg_T.ret x4.wf ⟨p + 2, h4⟩)
def ppq (t : List Nat) (ps : List (List (List Nat))) (k : Nat) : (List (List Nat) × Nat) ⊕ Nat := if ps.length = 6 then .inr k else pp_piece t k (lst ps)
theorem cr_piece (hg : pg_Wf g) (hC : pg_C g) (hE : 100 ≤ E) (hτ : τs < 100) (h : cr_R g E a x (-1) s p) (hs : ps_S g s t) (hP : cr_P g E x τs out fo ps) (hl60 : t.length ≤ 60) (hp : p ≤ t.length) : pg_T (fX5_readPiece a g.1) 41 430 (fun t => E ≤ t) g (fun _ g' => match ppq t ps p with
      | .inr e => ∃ p', cr_R g' E a x (nI e) s p'
      | .inl q => cr_R g' E a x (-1) s q.2 ∧ cr_P g' E x τs out fo (ps ++ [q.1])) := by
  obtain ⟨_, _, _, _, ⟨o0, -⟩, -⟩ := id hP
  obtain ⟨fs, hso⟩ := ps_o hs
  have hps6 : ps.length ≤ 6 := by obtain ⟨_, _, _, _, _, _, q, _⟩ := hP; exact q
  rw [fX5_readPiece, pg_gR h.1 (k := 0) rfl, pg_o1, pg_o1, pg_cv o0, cr_full hP, pg_b0]
  unfold ppq
  by_cases h6 : ps.length = 6
  · rw [decide_eq_true h6, bI_t, if_neg (by decide), if_pos h6, pg_gI h.1 (k := 3) rfl, pg_o1]
    exact cr_il hg h (by omega) (by omega) (fun g1 x1 h1 => pg_T.ret x1.wf ⟨p, h1⟩)
  · rw [decide_eq_false h6, bI_f, if_pos rfl, if_neg h6, pg_gI h.1 (k := 3) rfl, pg_o1, pg_gR h.1 (k := 2) rfl, pg_o1, pg_o1, pg_cv hso, ps_length hs, pg_b0, nI_1]
    have plain : pp_deep t p = false → pg_T (fX5_readPiece_78 a g.1) 41 430 (fun t => E ≤ t) g (fun _ g' => match pp_piece t p (lst ps) with
      | .inr e => ∃ p', cr_R g' E a x (nI e) s p'
      | .inl q => cr_R g' E a x (-1) s q.2 ∧ cr_P g' E x τs out fo (ps ++ [q.1])) := by
      intro hd
      rw [fX5_readPiece_78, pg_cv h.1]
      exact pg_T.b (cr_plain hg hC hE hτ h hs hP (by omega) hl60 hp hd) (fun _ h => h) (Nat.le_refl _) (Nat.le_refl _) (fun r g1 x1 hp1 => pg_T.ret x1.wf hp1)
    by_cases h1 : p + 1 < t.length
    · have he0 : t[p]? = some (t.getD p 0) := by rw [List.getElem?_eq_getElem (by omega), ls_get]
      have he1 : t[p + 1]? = some (t.getD (p + 1) 0) := by rw [List.getElem?_eq_getElem h1, ls_get]
      have c0 := ps_get (ps_lt hs) p (by omega)
      have c1 := ps_get (ps_lt hs) (p + 1) h1
      rw [if_neg (nI_ge h1 (by omega)), pg_gR h.1 (k := 2) rfl, pg_o1, pg_gI h.1 (k := 3) rfl, pg_o1, pg_o1, pg_cv hso, ps_charAt hs (show p < t.length by omega), pg_b0]
      by_cases h42 : t.getD p 0 = 42
      · rw [if_pos (by rw [h42]; rfl), pg_gR h.1 (k := 2) rfl, pg_o1, pg_gI h.1 (k := 3) rfl, pg_o1, pg_o1, pg_cv hso, nI_1, ps_charAt hs h1, pg_b0]
        by_cases h43 : t.getD (p + 1) 0 = 42
        · rw [if_pos (by rw [h43]; rfl), pg_cv h.1]
          have hd : pp_deep t p = true := by unfold pp_deep; rw [he0, he1, h42, h43]; decide
          exact pg_T.b (cr_deep hg hC hE hτ h hs hP (by omega) hl60 h1 hd) (fun _ h => h) (Nat.le_refl _) (Nat.le_refl _) (fun r g1 x1 hp1 => pg_T.ret x1.wf hp1)
        · rw [if_neg (fun hh => h43 ((li_c 42 (c := 42) rfl (by omega) (by decide)).mp hh))]
          refine plain ?_
          unfold pp_deep
          rw [he1, decide_eq_false (p := some (t.getD (p + 1) 0) = some 42) (fun e => h43 (Option.some.inj e)), Bool.and_false]
      · rw [if_neg (fun hh => h42 ((li_c 42 (c := 42) rfl (by omega) (by decide)).mp hh))]
        refine plain ?_
        unfold pp_deep
        rw [he0, decide_eq_false (p := some (t.getD p 0) = some 42) (fun e => h42 (Option.some.inj e)), Bool.false_and]
    · rw [if_pos (nI_le (by omega) (by omega))]
      refine plain ?_
      unfold pp_deep
      rw [List.getElem?_eq_none (l := t) (i := p + 1) (by omega), decide_eq_false (p := (none : Option Nat) = some 42) (by decide), Bool.and_false]
theorem cr_slash (hg : pg_Wf g) (hE : 100 ≤ E) (hτ : τs < 100) (h : cr_R g E a x (-1) s p) (hs : ps_S g s t) (hP : cr_P g E x τs out false ps) (hl60 : t.length ≤ 60) (hp : p ≤ t.length) : pg_T (fX5_passSlash a g.1) 0 0 (fun t => t = E ∨ t = E + 1) g (fun r g' => if p < t.length then r = bI (decide (p + 1 < t.length)) ∧ cr_R g' E a x (-1) s (p + 1) ∧ cr_P g' E x τs out (decide (¬ p + 1 < t.length)) ps else r = 0 ∧ cr_R g' E a x (-1) s p ∧ cr_P g' E x τs out false ps) := by
  obtain ⟨fs, hso⟩ := ps_o hs
  rw [fX5_passSlash, pg_gI h.1 (k := 3) rfl, pg_o1, pg_gR h.1 (k := 2) rfl, pg_o1, pg_o1, pg_cv hso, ps_length hs, pg_b0]
  by_cases hlt : p < t.length
  · rw [if_pos (nI_lt hlt (by omega)), pg_gI h.1 (k := 3) rfl, pg_o1, nI_1]
    refine cr_at hg h (by omega) (Or.inl rfl) (fun g1 x1 h1 => ?_)
    have hs1 := hs.ext hg x1 (by omega)
    obtain ⟨fs1, hso1⟩ := ps_o hs1
    have hP1 := hP.ext hg x1 (by omega) (by omega) (by omega) (by omega) (fun _ _ => ⟨by omega, by omega⟩)
    obtain ⟨l, sa, dv, pcs, ⟨q1, q2, q3, q4, q5⟩, q6, q7, q8, q9⟩ := id hP1
    rw [pg_gR h1.1 (k := 0) rfl, pg_o1, pg_gI h1.1 (k := 3) rfl, pg_o1, pg_gR h1.1 (k := 2) rfl, pg_o1, pg_o1, pg_cv hso1, ps_length hs1, pg_b0]
    simp only [if_pos hlt]
    have fin : ∀ b : Bool, b = decide (¬ p + 1 < t.length) → pg_T (fX5_passSlash_49 a (some x) (bI b) g1.1) 0 0 (fun t => t = E ∨ t = E + 1) g1 (fun r g' => r = bI (decide (p + 1 < t.length)) ∧ cr_R g' E a x (-1) s (p + 1) ∧ cr_P g' E x τs out (decide (¬ p + 1 < t.length)) ps) := by
      intro b hb
      rw [fX5_passSlash_49, pg_o1, bI_z, pg_o1]
      have x2 := pg_put_ext (W := fun t => t = E + 1) (e := .inr (7, [.int (bI out), .int (bI false), .ref l, .ref sa, .int dv].set 1 (.int (bI b)))) x1.wf q1 q2 (by simp [pg_kd])
      refine pg_T.p x1.wf q1 (by simp) (by rw [q2]; omega) (Or.inr q2) ?_
      have h2 := h1.ext x1.wf x2 (by omega)
      have o2 := pg_put_self g1 x (.inr (7, [.int (bI out), .int (bI false), .ref l, .ref sa, .int dv].set 1 (.int (bI b))))
      have hP2 : cr_P (pg_put g1 x (.inr (7, [.int (bI out), .int (bI false), .ref l, .ref sa, .int dv].set 1 (.int (bI b))))) E x τs out (decide (¬ p + 1 < t.length)) ps := ⟨l, sa, dv, pcs, ⟨by rw [← hb]; exact o2, q2, q3.ext x1.wf x2 (by decide) (by omega), x2.at x1.wf q4 (by rw [q5]; omega), q5⟩, q6, q7, fun i hi => (q8 i hi).ext x1.wf x2 (by omega) (by omega) (by omega), q9⟩
      rw [pg_gR h2.1 (k := 0) rfl, pg_o1, pg_o1, pg_gI o2 (k := 1) rfl, pg_o1, fX5_passSlash_67, fX5_passSlash_67, pg_z0, pg_z1, pg_o1, pg_o1]
      by_cases hc : p + 1 < t.length
      · have : b = false := by rw [hb]; exact decide_eq_false (fun h => h hc)
        rw [if_pos (by rw [this]; rfl), decide_eq_true hc]
        exact pg_T.ret x2.wf ⟨rfl, h2, hP2⟩
      · have : b = true := by rw [hb]; exact decide_eq_true hc
        rw [if_neg (by rw [this]; decide), decide_eq_false hc]
        exact pg_T.ret x2.wf ⟨rfl, h2, hP2⟩
    by_cases hc : p + 1 < t.length
    · rw [if_pos (nI_lt hc (by omega))]
      exact fin false (by rw [decide_eq_false (fun h => h hc)])
    · rw [if_neg (nI_nlt (by omega) (by omega))]
      exact fin true (by rw [decide_eq_true hc])
  · rw [if_neg (nI_nlt (by omega) (by omega)), pg_z0, pg_o1]
    refine pg_T.ret hg ?_
    rw [if_neg hlt]
    exact ⟨rfl, h, hP⟩
theorem cz_sg {t : List Nat} : ∀ m i, i ≤ t.length → sgrun t m i ≤ t.length := by
  intro m
  induction m with
  | zero => intro i hi; exact hi
  | succ m ihm =>
    intro i hi
    rw [sgrun]
    split
    · next hh =>
      refine ihm (i + 1) ?_
      by_cases hil : i < t.length
      · omega
      · rw [List.getElem?_eq_none (by omega)] at hh; cases hh
    · exact hi
theorem cz_part {t : List Nat} {k : Nat} (hk : k ≤ t.length) : (∀ e, pp_part t k = .inr e → e ≤ t.length) ∧ ∀ e, pp_part t k = .inl e → e ≤ t.length := by
  unfold pp_part
  cases hc : t[k]? with
  | none => exact ⟨fun e h => (by cases h; exact hk), fun e h => (by cases h)⟩
  | some c =>
    have hlt : k < t.length := by
      by_cases h : k < t.length
      · exact h
      · rw [List.getElem?_eq_none (by omega)] at hc; cases hc
    simp only
    split
    · exact ⟨fun e h => (by cases h), fun e h => (by cases h; omega)⟩
    · split
      · split
        · next hh =>
          refine ⟨fun e h => (by cases h), fun e h => ?_⟩
          cases h
          by_cases hx : sgrun t 6 (k + 1) < t.length
          · omega
          · rw [List.getElem?_eq_none (by omega)] at hh; cases hh.2
        · exact ⟨fun e h => (by cases h; exact cz_sg 6 (k + 1) (by omega)), fun e h => (by cases h)⟩
      · exact ⟨fun e h => (by cases h; exact hk), fun e h => (by cases h)⟩
theorem cz_plain {t : List Nat} : ∀ m acc i, i ≤ t.length → (∀ e, pp_plain t m acc i = .inr e → e ≤ t.length) ∧ ∀ q, pp_plain t m acc i = .inl q → q.2 ≤ t.length := by
  intro m
  induction m with
  | zero => intro acc i hi; exact ⟨fun e h => (by cases h; exact hi), fun q h => (by cases h)⟩
  | succ m ih =>
    intro acc i hi
    rw [pp_plain]
    split
    · exact ⟨fun e h => (by cases h), fun q h => (by cases h; exact hi)⟩
    · split
      · exact ⟨fun e h => (by cases h; exact hi), fun q h => (by cases h)⟩
      · have hp := cz_part hi
        cases hpp : pp_part t i with
        | inr e => exact ⟨fun e' h => (by cases h; exact hp.1 e hpp), fun q h => (by cases h)⟩
        | inl e => exact ih _ e (hp.2 e hpp)
theorem cz_piece {t : List Nat} {k e : Nat} {st : Bool} (hl : t.length ≤ 60) (hk : k ≤ t.length) (h : pp_piece t k st = .inr e) : e ≤ 1000 := by
  unfold pp_piece at h
  split at h
  · split at h
    · cases h; omega
    · split at h
      · cases h
      · cases h; omega
  · have := cz_plain (t := t) 9 [] k hk
    cases hp : pp_plain t 9 [] k with
    | inr e' =>
      rw [hp] at h
      cases h
      have := this.1 _ hp; omega
    | inl q =>
      rw [hp] at h
      simp only at h
      split at h
      · cases h; omega
      · cases h
theorem cz_piece2 {t : List Nat} {k : Nat} {q : List (List Nat) × Nat} {st : Bool} (hl : t.length ≤ 60) (hk : k ≤ t.length) (h : pp_piece t k st = .inl q) : q.2 ≤ t.length := by
  unfold pp_piece at h
  split at h
  · next hd =>
    split at h
    · cases h
    · split at h
      · cases h
        unfold pp_deep at hd
        rw [Bool.and_eq_true, decide_eq_true_eq, decide_eq_true_eq] at hd
        by_cases hx : k + 1 < t.length
        · exact hx
        · rw [List.getElem?_eq_none (l := t) (i := k + 1) (by omega)] at hd; cases hd.2
      · cases h
  · have := cz_plain (t := t) 9 [] k hk
    cases hp : pp_plain t 9 [] k with
    | inr e' => rw [hp] at h; cases h
    | inl q' =>
      rw [hp] at h
      simp only at h
      split at h
      · cases h
      · cases h; exact this.2 _ hp
theorem lst_snoc {c : List (List Nat)} : lst (ps ++ [c]) = decide (c = dpP) := by
  unfold lst
  rw [List.getLast?_append, List.getLast?_singleton]
  show decide (some c = some dpP) = _
  by_cases hc : c = dpP
  · rw [decide_eq_true hc, decide_eq_true (by rw [hc])]
  · rw [decide_eq_false hc, decide_eq_false (fun h => hc (Option.some.inj h))]
theorem cr_readL (hE : 100 ≤ E) (hτ : τs < 100) (hl60 : t.length ≤ 60) : ∀ m n (ps : List (List (List Nat))) p (g : pg_G), m + ps.length = 7 → 8 < ps.length + n → pg_Wf g → pg_C g → cr_R g E a x (-1) s p → ps_S g s t → cr_P g E x τs out false ps → p ≤ t.length → pg_T (fX5_read_4 n a 1 (nI ps.length) g.1) (41 * m) (430 * m) (fun t => E ≤ t) g (fun _ g' => match pp_go t m ps p (lst ps) with
      | .inr e => ∃ p', cr_R g' E a x (nI e) s p'
      | .inl q => (∃ p', cr_R g' E a x (-1) s p') ∧ cr_P g' E x τs out q.2 q.1) := by
  intro m
  induction m with
  | zero =>
    intro n ps p g hm hn hg hC h hs hP hp
    obtain ⟨_, _, _, _, _, _, q, _⟩ := hP
    omega
  | succ m ih =>
    intro n ps p g hm hn hg hC h hs hP hp
    obtain ⟨n, rfl⟩ : ∃ n', n = n' + 1 := ⟨n - 1, by omega⟩
    obtain ⟨n, rfl⟩ : ∃ n', n = n' + 1 := ⟨n - 1, by omega⟩
    have stop : ∀ (k : Nat) (g1 : pg_G) (C N : Nat) (Q : Unit → pg_G → Prop), pg_Wf g1 → k < 100 → Q () g1 → pg_T (fX5_read_4 (n + 1) a 0 (nI k) g1.1) C N (fun t => E ≤ t) g1 Q := by
      intro k g1 C N Q w1 hk hQ
      rw [fX5_read_4]
      by_cases h6 : (6 : Int32) < nI k
      · rw [if_pos h6]; exact pg_T.ret w1 hQ
      · rw [if_neg h6, if_pos rfl]; exact pg_T.ret w1 hQ
    rw [fX5_read_4, if_neg (show ¬ (6 : Int32) < nI ps.length from nI_nlt (a := 6) (by omega) (by decide)), if_neg (by decide), pg_cv h.1, pp_go]
    refine pg_T.b (cr_piece hg hC hE hτ h hs hP hl60 hp) (fun _ h => h) (by omega) (by omega) (fun r g1 x1 hp1 => ?_)
    unfold ppq at hp1
    by_cases h6 : ps.length = 6
    · rw [if_pos h6] at hp1 ⊢
      obtain ⟨p', hp1⟩ := hp1
      rw [pg_gI hp1.1 (k := 1) rfl, pg_o1, if_neg (by rw [li_m1 (by omega)]; exact fun h => h), fX5_read_37, fX5_read_38, nI_1]
      exact stop _ _ _ _ _ x1.wf (by omega) ⟨p', hp1⟩
    · rw [if_neg h6] at hp1 ⊢
      cases hpp : pp_piece t p (lst ps) with
      | inr e =>
        rw [hpp] at hp1
        obtain ⟨p', hp1⟩ := hp1
        have he : ¬ nI e = -1 := by
          intro hh
          -- places lie in the text
          have : e ≤ 1000 := cz_piece hl60 hp hpp
          rw [li_m1 (by omega)] at hh; exact hh
        rw [pg_gI hp1.1 (k := 1) rfl, pg_o1, if_neg he, fX5_read_37, fX5_read_38, nI_1]
        exact stop _ _ _ _ _ x1.wf (by omega) ⟨p', hp1⟩
      | inl q =>
        rw [hpp] at hp1
        obtain ⟨h1, hP1⟩ := hp1
        obtain ⟨k1, k2, k3, k4⟩ := pp_piece_ok hp hpp
        have hql : q.2 ≤ t.length := cz_piece2 hl60 hp hpp
        rw [pg_gI h1.1 (k := 1) rfl, pg_o1, if_pos rfl, pg_cv h1.1]
        have hs1 := hs.ext hg x1 (by omega)
        refine pg_T.b (cr_slash x1.wf hE hτ h1 hs1 hP1 hl60 hql) (fun t h => by omega) (Nat.zero_le _) (Nat.zero_le _) (fun r g2 x2 hp2 => ?_)
        by_cases hlt : q.2 < t.length
        · rw [if_pos hlt] at hp2
          obtain ⟨rfl, h2, hP2⟩ := hp2
          have h47 : t[q.2]? = some 47 := k3.resolve_left (fun e => by rw [List.getElem?_eq_getElem hlt] at e; cases e)
          by_cases hc : q.2 + 1 < t.length
          · have hcc : t[q.2]? = some 47 ∧ q.2 + 1 < t.length := ⟨h47, hc⟩
            rw [decide_eq_true hc, bI_t, if_neg (by decide)]
            simp only [if_pos hcc]
            rw [fX5_read_38, nI_1, show ps.length + 1 = (ps ++ [q.1]).length by rw [List.length_append]; rfl]
            rw [decide_eq_false (fun h => h hc)] at hP2
            have := ih (n + 1) (ps ++ [q.1]) (q.2 + 1) g2 (by rw [List.length_append, List.length_singleton]; omega) (by rw [List.length_append, List.length_singleton]; omega) x2.wf ((hC.ext hg x1 (by omega)).ext x1.wf x2 (by omega)) h2 (hs1.ext x1.wf x2 (by omega)) hP2 (by omega)
            have hl : lst (ps ++ [q.1]) = pp_deep t p := by
              rw [lst_snoc]
              by_cases hd : q.1 = dpP
              · rw [decide_eq_true hd, k4.mp hd]
              · rw [decide_eq_false hd]
                cases hpd : pp_deep t p with
                | false => rfl
                | true => exact absurd (k4.mpr hpd) hd
            rw [hl] at this
            exact this.mono (by omega) (by omega) (fun _ h => h) (fun _ _ _ h => h)
          · have hcc : ¬ (t[q.2]? = some 47 ∧ q.2 + 1 < t.length) := fun hh => hc hh.2
            rw [decide_eq_false hc, bI_f, if_pos rfl]
            simp only [if_neg hcc]
            rw [fX5_read_37, fX5_read_38, nI_1]
            rw [decide_eq_true hc] at hP2
            refine stop _ _ _ _ _ x2.wf (by omega) ⟨⟨_, h2⟩, ?_⟩
            show cr_P g2 E x τs out (decide (t[q.2]? = some 47)) (ps ++ [q.1])
            rw [decide_eq_true h47]; exact hP2
        · rw [if_neg hlt] at hp2
          obtain ⟨rfl, h2, hP2⟩ := hp2
          have hno : t[q.2]? ≠ some 47 := fun e => by rw [List.getElem?_eq_none (by omega)] at e; cases e
          have hcc : ¬ (t[q.2]? = some 47 ∧ q.2 + 1 < t.length) := fun hh => hno hh.1
          rw [if_pos rfl]
          simp only [if_neg hcc]
          rw [fX5_read_37, fX5_read_38, nI_1]
          refine stop _ _ _ _ _ x2.wf (by omega) ⟨⟨_, h2⟩, ?_⟩
          show cr_P g2 E x τs out (decide (t[q.2]? = some 47)) (ps ++ [q.1])
          rw [decide_eq_false hno]; exact hP2
theorem cr_read (hg : pg_Wf g) (hC : pg_C g) (hE : 100 ≤ E) (hτ : τs < 100) (hl60 : t.length ≤ 60) (h : cr_R g E a x (-1) s 0) (hs : ps_S g s t) (hP : cr_P g E x τs out false []) : pg_T (fX5_read a g.1) 287 3010 (fun t => E ≤ t) g (fun _ g' => (∃ p', cr_R g' E a x (iP (pp t)) s p') ∧ ∀ q, pp t = .inl q → cr_P g' E x τs out q.2 q.1) := by
  have := cr_readL (a := a) (x := x) (s := s) (out := out) hE hτ hl60 7 vg_fuel [] 0 g rfl (by rw [ps_fuel]; decide) hg hC h hs hP (Nat.zero_le _)
  refine this.mono (by omega) (by omega) (fun _ h => h) (fun r g' _ hp => ?_)
  have e : pp_go t 7 [] 0 (lst []) = pp t := rfl
  rw [e] at hp
  cases hpp : pp t with
  | inr e => rw [hpp] at hp; exact ⟨hp, fun q h => by cases h⟩
  | inl q => rw [hpp] at hp; exact ⟨hp.1, fun q' h => by cases h; exact hp.2⟩
end
