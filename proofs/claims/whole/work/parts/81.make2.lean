/-! make and cut. -/
section
variable {rd : Nat → Nat} {nq a p : Nat} {t : List Nat} {sp : List (Nat × Nat)} {g : pg_G} {A : Nat → Nat} {T : sT} {sn : Nat → Nat → Nat} {fr : Nat → Nat → Bool}
theorem pg_T.thr {α : Type} {C N k : Nat} {W : Nat → Prop} {Q : α ⊕ Nat → pg_G → Prop} (hg : pg_Wf g) (hc : 1 ≤ C) (hn : 6 ≤ N) (h : Q (.inr k) g) : pg_T (vg_thr k g.1) C N W g Q := ⟨.inr k, g, 1, 6, rfl, hc, hn, pg_Ext.refl hg, h⟩
theorem wd_name (hp : pt t = some sp) : ∀ i, i < sp.length → pt_name ((wd t sp).getD i []) = true := by
  intro i hi
  have := (sp_get (pt_ok hp).1 hi).2.2
  have e : (wd t sp).getD i [] = sl t (sp.getD i (0, 0)).1 (sp.getD i (0, 0)).2 := by
    rw [wd, List.getD_eq_getElem?_getD, List.getElem?_map, List.getD_eq_getElem?_getD, List.getElem?_eq_getElem hi]; rfl
  rw [e]; exact this
theorem cT_make54 (asF : Bool) (hW : WT T) (hg : pg_Wf g) (hC : pg_C g) (hT : cT g A T sn) (hS : cS rd nq T fr sn) (ho : cTo g a (A 60) (tnum T 60 0)) (hP : cp_P g 0 p t sp) (hp : pt t = some sp) : pg_T (fX8_make_54 a (some p) (bI asF) (some (A (tg T (wd t sp) 60).1)) (nI (tg T (wd t sp) 60).2) g.1) 40 1500 (fun t => 100 ≤ t ∨ t = 5) g (fun r g' => if sbad T (tg T (wd t sp) 60).1 (tg T (wd t sp) 60).2 sp.length (if asF then 2 else 1) = true then r = .inr 2 ∧ g' = g else r = .inl (nI (sp.length - (tg T (wd t sp) 60).2)) ∧ ∃ A' sn', cT g' A' (tput T fr ((wd t sp).drop (tg T (wd t sp) 60).2) (tg T (wd t sp) 60).1 (if asF then 2 else 1)).1 sn' ∧ cS rd nq (tput T fr ((wd t sp).drop (tg T (wd t sp) 60).2) (tg T (wd t sp) 60).1 (if asF then 2 else 1)).1 (tput T fr ((wd t sp).drop (tg T (wd t sp) 60).2) (tg T (wd t sp) 60).1 (if asF then 2 else 1)).2 sn' ∧ cTo g' a (A' 60) (tnum (tput T fr ((wd t sp).drop (tg T (wd t sp) 60).2) (tg T (wd t sp) 60).1 (if asF then 2 else 1)).1 60 0) ∧ WT (tput T fr ((wd t sp).drop (tg T (wd t sp) 60).2) (tg T (wd t sp) 60).1 (if asF then 2 else 1)).1) := by
  have h60 : 0 < kd T 60 := by rw [hW.1]; decide
  have hle := tg_le (T := T) (wd t sp) 60 (Nat.le_refl _)
  rw [wd_len] at hle
  have hkl := tg_kd (T := T) (wd t sp) 60 h60
  have hdp := tg_dp hW (wd t sp) 60 (Nat.le_refl _) h60
  rw [hW.2.2.1, Nat.zero_add] at hdp
  have hsp6 := (pt_ok hp).2.1
  have hstop := tg_stop (T := T) (wd t sp) 60
  rw [wd_len] at hstop
  have hnum := tnum_le (T := T) 60 0
  have hkd2 := hT.2.2 _ hle.1
  generalize hkf : (tg T (wd t sp) 60).1 = kf at *
  generalize hgf : (tg T (wd t sp) 60).2 = gf at *
  obtain ⟨s, st, en, f1, f2, h1, -⟩ := id hP
  obtain ⟨_, _, _, o1, -⟩ := id (hT.1 kf hle.1 hkl)
  simp only [fX8_make_54, pg_o1, pg_gI h1 (k := 3) rfl, pg_gI o1.1 (k := 2) rfl, pk_sub hle.2, li_0lt (show sp.length - gf < 2 ^ 31 by omega)]
  have main : (gf < sp.length → kd T kf = 2) → tnum T 60 0 + (sp.length - gf) ≤ 60 → pg_T (fX8_make_120 vg_fuel a (some p) (bI asF) (some (A kf)) (nI (sp.length - gf)) (nI gf) g.1) 40 1500 (fun t => 100 ≤ t ∨ t = 5) g (fun r g' => r = .inl (nI (sp.length - gf)) ∧ ∃ A' sn', cT g' A' (tput T fr ((wd t sp).drop gf) kf (if asF then 2 else 1)).1 sn' ∧ cS rd nq (tput T fr ((wd t sp).drop gf) kf (if asF then 2 else 1)).1 (tput T fr ((wd t sp).drop gf) kf (if asF then 2 else 1)).2 sn' ∧ cTo g' a (A' 60) (tnum (tput T fr ((wd t sp).drop gf) kf (if asF then 2 else 1)).1 60 0) ∧ WT (tput T fr ((wd t sp).drop gf) kf (if asF then 2 else 1)).1) := by
    intro h2 h3
    have := cT_makeL (rd := rd) (nq := nq) (a := a) (p := p) (t := t) (sp := sp) asF (tnum T 60 0) (sp.length - gf) (wd_name hp) (sp.length - gf) vg_fuel gf g A T sn fr kf rfl hle.2 hg hC hW hT hS hP ho hle.1 hkl (fun hl => ⟨h2 hl, ?_⟩) (by omega) h3 (by rw [ps_fuel]; omega)
    · refine this.mono (by omega) (by omega) (fun _ h => h) (fun r g' _ hq => ?_)
      obtain ⟨e1, A', sn', e2, e3, e4, e5, e6⟩ := hq
      exact ⟨e1, A', sn', e2, e3, by rw [e6]; exact e4, e5⟩
    · have := hstop hl
      unfold tcx at this
      rw [if_pos (h2 hl)] at this; exact this
  have thr : sbad T kf gf sp.length (if asF then 2 else 1) = true → pg_T (vg_thr 2 g.1) 40 1500 (fun t => 100 ≤ t ∨ t = 5) g (fun (r : Int32 ⊕ Nat) g' => if sbad T kf gf sp.length (if asF then 2 else 1) = true then r = .inr 2 ∧ g' = g else r = .inl (nI (sp.length - gf)) ∧ ∃ A' sn', cT g' A' (tput T fr ((wd t sp).drop gf) kf (if asF then 2 else 1)).1 sn' ∧ cS rd nq (tput T fr ((wd t sp).drop gf) kf (if asF then 2 else 1)).1 (tput T fr ((wd t sp).drop gf) kf (if asF then 2 else 1)).2 sn' ∧ cTo g' a (A' 60) (tnum (tput T fr ((wd t sp).drop gf) kf (if asF then 2 else 1)).1 60 0) ∧ WT (tput T fr ((wd t sp).drop gf) kf (if asF then 2 else 1)).1) := by
    intro hb
    refine pg_T.thr hg (by decide) (by decide) ?_
    rw [if_pos hb]
    exact ⟨rfl, rfl⟩
  have m81 : ∀ b : Bool, b = (decide (gf < sp.length) || asF) → pg_T (fX8_make_81 a (some p) (bI asF) (some (A kf)) (nI gf) (nI (sp.length - gf)) (bI (decide (kd T kf = 2))) (bI b) g.1) 40 1500 (fun t => 100 ≤ t ∨ t = 5) g (fun r g' => if sbad T kf gf sp.length (if asF then 2 else 1) = true then r = .inr 2 ∧ g' = g else r = .inl (nI (sp.length - gf)) ∧ ∃ A' sn', cT g' A' (tput T fr ((wd t sp).drop gf) kf (if asF then 2 else 1)).1 sn' ∧ cS rd nq (tput T fr ((wd t sp).drop gf) kf (if asF then 2 else 1)).1 (tput T fr ((wd t sp).drop gf) kf (if asF then 2 else 1)).2 sn' ∧ cTo g' a (A' 60) (tnum (tput T fr ((wd t sp).drop gf) kf (if asF then 2 else 1)).1 60 0) ∧ WT (tput T fr ((wd t sp).drop gf) kf (if asF then 2 else 1)).1) := by
    intro b hb
    have hbI : (bI (decide (kd T kf = 2)) = bI b) ↔ (decide (kd T kf = 2)) = b := by cases decide (kd T kf = 2) <;> cases b <;> decide
    rw [fX8_make_81]
    by_cases heq : (decide (kd T kf = 2)) = b
    · rw [if_pos (hbI.mpr heq), pg_gI ho.1 (k := 1) rfl, pg_o1, nI_add]
      by_cases h6 : tnum T 60 0 + (sp.length - gf) ≤ 60
      · rw [if_pos (show nI (tnum T 60 0 + (sp.length - gf)) ≤ 60 from nI_le (b := 60) h6 (by decide))]
        have hlt2 : gf < sp.length → kd T kf = 2 := fun hl => by
          rw [hb, decide_eq_true hl, Bool.true_or, decide_eq_true_eq] at heq; exact heq
        have hnb : ¬ sbad T kf gf sp.length (if asF then 2 else 1) = true := by
          unfold sbad
          by_cases hge : gf = sp.length
          · rw [if_pos hge, decide_eq_true_eq, Classical.not_not]
            rw [hb, decide_eq_false (p := gf < sp.length) (by omega), Bool.false_or] at heq
            cases asF with
            | true => rw [decide_eq_true_eq] at heq; exact heq
            | false =>
              rw [decide_eq_false_iff_not] at heq
              show kd T kf = 1
              omega
          · rw [if_neg hge, Bool.or_eq_true, decide_eq_true_eq, decide_eq_true_eq]
            intro h
            rcases h with h | h
            · exact h (hlt2 (by omega))
            · omega
        refine (main hlt2 h6).mono (Nat.le_refl _) (Nat.le_refl _) (fun _ h => h) (fun r g' _ hq => ?_)
        rw [if_neg hnb]; exact hq
      · rw [if_neg (show ¬ nI (tnum T 60 0 + (sp.length - gf)) ≤ 60 from nI_ge (a := 60) (by omega) (by omega))]
        refine thr ?_
        unfold sbad
        rw [if_neg (by omega), decide_eq_true (p := 60 < tnum T 60 0 + (sp.length - gf)) (by omega), Bool.or_true]
    · rw [if_neg (fun h => heq (hbI.mp h))]
      refine thr ?_
      unfold sbad
      by_cases hge : gf = sp.length
      · rw [if_pos hge, decide_eq_true_eq]
        rw [hb, decide_eq_false (p := gf < sp.length) (by omega), Bool.false_or] at heq
        intro h
        rw [h] at heq
        cases asF <;> exact heq (by decide)
      · rw [if_neg hge, Bool.or_eq_true, decide_eq_true_eq]
        left
        intro h
        rw [hb, decide_eq_true (p := gf < sp.length) (by omega), Bool.true_or, decide_eq_true h] at heq
        exact heq rfl
  by_cases hl : 0 < sp.length - gf
  · rw [if_pos hl, fX8_make_76]
    exact m81 true (by rw [decide_eq_true (by omega)]; rfl)
  · rw [if_neg hl]
    cases asF with
    | false =>
      rw [bI_f, if_pos rfl]
      exact m81 false (by rw [decide_eq_false (by omega)]; rfl)
    | true =>
      rw [bI_t, if_neg (by decide), fX8_make_76]
      exact m81 true (by rw [Bool.or_true])
theorem cT_make19 (asF : Bool) {C N : Nat} {W : Nat → Prop} {Q : Int32 ⊕ Nat → pg_G → Prop} (hW : WT T) (hp6 : sp.length ≤ 6) (g0 : pg_G) (hg0 : pg_Wf g0) (hC0 : pg_C g0) (hT0 : cT g0 A T sn) (hP0 : cp_P g0 0 p t sp) (hfin : ∀ g1, pg_Ext (fun _ => False) g0 g1 → pg_T (fX8_make_54 a (some p) (bI asF) (some (A (tg T (wd t sp) 60).1)) (nI (tg T (wd t sp) 60).2) g1.1) C N W g1 Q) : ∀ n i (g : pg_G) k, pg_Ext (fun _ => False) g0 g → k ≤ 60 → 0 < kd T k → i ≤ sp.length → sp.length < i + n → tg T (wd t sp) 60 = ((tg T ((wd t sp).drop i) k).1, (tg T ((wd t sp).drop i) k).2 + i) → pg_T (fX8_make_19 n a (some p) (bI asF) (some (A k)) (nI i) ((tcx T k ((wd t sp).getD i [])).map A) g.1) (C + 2 * (6 - i)) (N + 12 * (6 - i)) W g Q := by
  intro n
  induction n with
  | zero => intro i g k _ _ _ hi hn; omega
  | succ n ih =>
    intro i g k hx hk hl hi hn htg
    have hg := hx.wf
    have hC := hC0.ext hg0 hx (fun h => h)
    have hT := hT0.ext hg0 hx (fun h => h) (fun _ _ h => h)
    have hP := hP0.ext hg0 hx (fun h => h) (fun h => h)
    obtain ⟨s, st, en, f1, f2, h1, -⟩ := id hP
    have fin : (tg T ((wd t sp).drop i) k) = (k, 0) → pg_T (fX8_make_54 a (some p) (bI asF) (some (A k)) (nI i) g.1) (C + 2 * (6 - i)) (N + 12 * (6 - i)) W g Q := by
      intro e
      have := hfin g hx
      rw [htg, e] at this
      simp only [Nat.zero_add] at this
      exact this.mono (by omega) (by omega) (fun _ h => h) (fun _ _ _ h => h)
    rw [fX8_make_19]
    simp only [pg_o1, pg_gI h1 (k := 3) rfl]
    by_cases hie : i = sp.length
    · rw [if_pos (nI_le (by omega) (by omega))]
      refine fin ?_
      rw [List.drop_of_length_le (by rw [wd_len]; omega)]; rfl
    · have hlt : i < sp.length := by omega
      rw [if_neg (nI_ge hlt (by omega))]
      have hrest := getD_wd (ws := wd t sp) (i := i) (by rw [wd_len]; exact hlt)
      cases hc : tcx T k ((wd t sp).getD i []) with
      | none =>
        refine fin ?_
        rw [hrest, tg_cons, hc]
      | some c =>
        have hcs := tc_some (tcx_some hc).2
        show pg_T (vg_cv 6 p g.1 (fX3_name p (nI i + 1) g.1) _) _ _ _ _ _
        rw [pg_cv h1, nI_1]
        refine pg_T.b (cp_name hg hC hP (show i + 1 < 100 by omega)) (fun _ h => h.elim) (by omega) (by omega) (fun r g1 hx1 hp => ?_)
        obtain ⟨q, rfl, hq⟩ := hp
        have hT1 := hT.ext hg hx1 (fun h => h) (fun _ _ h => h)
        obtain ⟨_, _, _, o1, -⟩ := hT1.1 c (by omega) hcs.2.1
        rw [pg_cv o1.1, cT_child hW hT1 (by omega) hcs.2.1 hq, pg_b0]
        rw [hrest, tg_cons, hc] at htg
        refine (ih (i + 1) g1 c (hx.trans hx1) (by omega) hcs.2.1 (by omega) (by omega) ?_).mono (by omega) (by omega) (fun _ h => h) (fun _ _ _ h => h)
        rw [htg]
        show ((tg T ((wd t sp).drop (i + 1)) c).1, (tg T ((wd t sp).drop (i + 1)) c).2 + 1 + i) = _
        rw [show (tg T ((wd t sp).drop (i + 1)) c).2 + 1 + i = (tg T ((wd t sp).drop (i + 1)) c).2 + (i + 1) by omega]
theorem cT_make (asF : Bool) (hW : WT T) (hg : pg_Wf g) (hC : pg_C g) (hT : cT g A T sn) (hS : cS rd nq T fr sn) (ho : cTo g a (A 60) (tnum T 60 0)) (hP : cp_P g 0 p t sp) (hp : pt t = some sp) : pg_T (fX8_make a (some p) (bI asF) g.1) 60 1600 (fun t => 100 ≤ t ∨ t = 5) g (fun r g' => if sbad T (tg T (wd t sp) 60).1 (tg T (wd t sp) 60).2 sp.length (if asF then 2 else 1) = true then r = .inr 2 ∧ pg_Ext (fun _ => False) g g' else r = .inl (nI (sp.length - (tg T (wd t sp) 60).2)) ∧ ∃ A' sn', cT g' A' (tput T fr ((wd t sp).drop (tg T (wd t sp) 60).2) (tg T (wd t sp) 60).1 (if asF then 2 else 1)).1 sn' ∧ cS rd nq (tput T fr ((wd t sp).drop (tg T (wd t sp) 60).2) (tg T (wd t sp) 60).1 (if asF then 2 else 1)).1 (tput T fr ((wd t sp).drop (tg T (wd t sp) 60).2) (tg T (wd t sp) 60).1 (if asF then 2 else 1)).2 sn' ∧ cTo g' a (A' 60) (tnum (tput T fr ((wd t sp).drop (tg T (wd t sp) 60).2) (tg T (wd t sp) 60).1 (if asF then 2 else 1)).1 60 0) ∧ WT (tput T fr ((wd t sp).drop (tg T (wd t sp) 60).2) (tg T (wd t sp) 60).1 (if asF then 2 else 1)).1) := by
  have h60 : 0 < kd T 60 := by rw [hW.1]; decide
  have hsp6 := (pt_ok hp).2.1
  obtain ⟨s, st, en, f1, f2, h1, -⟩ := id hP
  simp only [fX8_make, pg_gR ho.1 (k := 0) rfl, pg_o1, pg_cv h1]
  have key := cp_name hg hC hP (show 0 < 100 by decide)
  rw [nI_0] at key
  refine pg_T.b key (fun _ h => h.elim) (by decide) (by decide) (fun r g1 hx1 hp1 => ?_)
  obtain ⟨q, rfl, hq⟩ := hp1
  have hT1 := hT.ext hg hx1 (fun h => h) (fun _ _ h => h)
  have hC1 := hC.ext hg hx1 (fun h => h)
  have hP1 := hP.ext hg hx1 (fun h => h) (fun h => h)
  have ho1 := ho.ext hg hx1 (fun h => h)
  obtain ⟨_, _, _, o1, -⟩ := hT1.1 60 (Nat.le_refl _) h60
  rw [pg_cv o1.1, cT_child hW hT1 (Nat.le_refl _) h60 hq, pg_b0, ← nI_0]
  refine (cT_make19 (C := 40) (N := 1500) asF hW hsp6 g1 hx1.wf hC1 hT1 hP1 (fun g2 hx2 => (cT_make54 asF hW hx2.wf (hC1.ext hx1.wf hx2 (fun h => h)) (hT1.ext hx1.wf hx2 (fun h => h) (fun _ _ h => h)) hS (ho1.ext hx1.wf hx2 (fun h => h)) (hP1.ext hx1.wf hx2 (fun h => h) (fun h => h)) hp).mono (Nat.le_refl _) (Nat.le_refl _) (fun _ h => h) (fun r g' _ hq => ?_)) vg_fuel 0 g1 60 (pg_Ext.refl hx1.wf) (Nat.le_refl _) h60 (Nat.zero_le _) (by rw [ps_fuel]; omega) rfl).mono (by decide) (by decide) (fun _ h => h) (fun _ _ _ h => h)
  by_cases hb : sbad T (tg T (wd t sp) 60).1 (tg T (wd t sp) 60).2 sp.length (if asF then 2 else 1) = true
  · rw [if_pos hb] at hq ⊢
    obtain ⟨e1, e2⟩ := hq
    subst e2
    exact ⟨e1, hx1.trans hx2⟩
  · rw [if_neg hb] at hq ⊢
    exact hq
theorem cT_cut {node : Nat} (hW : WT T) (hg : pg_Wf g) (hT : cT g A T sn) (hn : node < 60) (hl : 0 < kd T node) (ho : cTo g a (A 60) (tnum T 60 0)) : pg_T (fX8_cut a (some (A node)) g.1) 0 0 (fun t => 100 ≤ t ∨ t = 5) g (fun r g' => r = nI (tnum T 60 0 - tnum (tkill T node) 60 0) ∧ cT g' A (trem T node) (va_up sn (pa T node) (fun _ => 0)) ∧ cTo g' a (A 60) (tnum (trem T node) 60 0)) := by
  have hpn : pa T node ≤ 60 := (hW.2.2.2.2.1 node hn hl).2.1
  have hp2 := hW.kdn hn hl
  have hpl : 0 < kd T (pa T node) := by rw [hp2]; decide
  have hsz := cT_size hW hT 10 0 node (by omega) hl (by decide) (by decide)
  rw [Nat.sub_zero, tnum_rem hW hn hl, nI_0] at hsz
  have hcount := tnum_rem hW hn hl
  have hnum := tnum_le (T := T) 60 0
  have hrem : tnum (trem T node) 60 0 = tnum (tkill T node) 60 0 := tnum_eq 60 0 (fun j _ _ => (trem_kd hW hn hl j).1)
  obtain ⟨s, c, e, o1, -⟩ := id (hT.1 node (by omega) hl)
  rw [if_neg (by omega)] at o1
  have hNp := hT.1 (pa T node) hpn hpl
  obtain ⟨_, _, _, op, -⟩ := id hNp
  simp only [fX8_cut, hsz, pg_b0, pg_o1, pg_gR o1.1 (k := 1) rfl, vg_m, pg_cv op.1]
  refine pg_T.b (cn_drop hg hNp (List.mem_map.mpr ⟨node, (hW.mem hpn hpl).mpr ⟨hn, hl, rfl⟩, rfl⟩)) (fun t h => Or.inl (by omega)) (by decide) (by decide) (fun r g1 hx hN => ?_)
  rw [decide_eq_true hp2] at hN
  have hT1 := hT.cut hW hn hl hg hx (by omega) (fun t _ h => h) hN
  have ho1 := ho.ext hg hx (by omega)
  rw [fX8_cut_21, pg_gI ho1.1 (k := 1) rfl, pg_o1, pk_sub (by omega)]
  have xx := pg_put_ext (W := fun t => t = 5) (e := .inr (11, [.ref (A 60), .int (nI (tnum T 60 0))].set 1 (.int (nI (tnum T 60 0 - (tnum T 60 0 - tnum (tkill T node) 60 0)))))) hx.wf ho1.1 ho1.2 (by simp [pg_kd])
  refine pg_T.p hx.wf ho1.1 (by simp) (by rw [ho1.2]; decide) (Or.inr ho1.2) (pg_T.ret xx.wf ⟨rfl, hT1.ext hx.wf xx (by decide) (fun t h e => by omega), ?_, ho1.2⟩)
  rw [pg_put_self, hrem, show tnum T 60 0 - (tnum T 60 0 - tnum (tkill T node) 60 0) = tnum (tkill T node) 60 0 by omega]; rfl
end
