/-! The class as a whole. -/
def cQs (g : pg_G) (ql : Nat) (qx : List Nat) (qs : List sQ) (rd : Nat → Nat) : Prop := pl_L g 6 ql 10 qx ∧ qx.length = qs.length ∧ qs.length ≤ 6 ∧ ∀ q, q < qs.length → (∃ fs, cQ g q (qx.getD q 0) (qs.getD q ([], [])) (rd q) fs) ∧ (ins (qs.getD q ([], []))).length ≤ 4 ∧ (outs (qs.getD q ([], []))).length ≤ 4 ∧ ((qs.getD q ([], [])).1 = [] ∨ (pt (qs.getD q ([], [])).1).isSome = true)
def cGx (g : pg_G) (a tb tr ql wk ans pb : Nat) (A : Nat → Nat) (sn : Nat → Nat → Nat) (rd : Nat → Nat) (qx : List Nat) (B : Nat) (t : List Nat) (T : sT) (fr : Nat → Nat → Bool) (qs : List sQ) (plc : Int32) (an : List (List Nat)) (lk : Nat) : Prop :=
  (g.1.1 a = some (.inr (13, [.ref tb, .ref tr, .ref ql, .ref wk, .int plc])) ∧ g.2 a = 7) ∧ bu_B g 2 tb t ∧ (cTo g tr (A 60) (tnum T 60 0) ∧ cT g A T sn) ∧ (cQs g ql qx qs rd ∧ cS rd qs.length T fr sn ∧ ∀ q, q < qs.length → rd q ≤ B) ∧ (g.1.1 wk = some (.inr (12, [.ref ans, .ref pb])) ∧ g.2 wk = 0) ∧ bu_B g 3 pb [] ∧ cA g ans an lk ∧ WT T ∧ pg_C g ∧ pg_Wf g ∧ t.length ≤ 60 ∧ ∀ c ∈ t, 32 ≤ c ∧ c < 127
def cG (g : pg_G) (a B : Nat) (t : List Nat) (T : sT) (fr : Nat → Nat → Bool) (qs : List sQ) (plc : Int32) (an : List (List Nat)) (lk : Nat) : Prop := ∃ tb tr ql wk ans pb A sn rd qx, cGx g a tb tr ql wk ans pb A sn rd qx B t T fr qs plc an lk
section
variable {g g' : pg_G} {W : Nat → Prop} {a tb tr ql wk ans pb B lk : Nat} {A : Nat → Nat} {sn : Nat → Nat → Nat} {rd : Nat → Nat} {qx : List Nat} {t : List Nat} {T : sT} {fr : Nat → Nat → Bool} {qs : List sQ} {plc : Int32} {an : List (List Nat)}
theorem cQs.ext (h : cQs g ql qx qs rd) (hg : pg_Wf g) (he : pg_Ext W g g') (h0 : ¬ W 0) (h6 : ¬ W 6) (hw : ∀ t, 10 ≤ t → t < 100 → ¬ W t) : cQs g' ql qx qs rd := by
  obtain ⟨q1, q2, q3, q4⟩ := h
  refine ⟨q1.ext hg he (by decide) h6, q2, q3, fun q hq => ?_⟩
  obtain ⟨⟨fs, c1⟩, c2⟩ := q4 q hq
  exact ⟨⟨fs, c1.ext hg he h0 (hw _ (by omega) (by omega)) (hw _ (by omega) (by omega)) (fun i hi => hw _ (by omega) (by omega))⟩, c2⟩
/-- all but the text -/
theorem cGx.txt {t' : List Nat} (h : cGx g a tb tr ql wk ans pb A sn rd qx B t T fr qs plc an lk) (he : pg_Ext W g g') (hw : ∀ s, W s → s = 2) (hb : bu_B g' 2 tb t') (hl : t'.length ≤ 60) (hc : ∀ c ∈ t', 32 ≤ c ∧ c < 127) : cGx g' a tb tr ql wk ans pb A sn rd qx B t' T fr qs plc an lk := by
  obtain ⟨⟨a1, a2⟩, a3, ⟨a4, a5⟩, ⟨a6, a7, a8⟩, ⟨a9, a10⟩, a11, a12, a13, a14, a15, a16, a17⟩ := h
  have nw : ∀ s, s ≠ 2 → ¬ W s := fun s h1 h2 => h1 (hw s h2)
  exact ⟨⟨he.at a15 a1 (by rw [a2]; exact nw 7 (by decide)), by rw [he.tag a15 a1, a2]⟩, hb, ⟨a4.ext a15 he (nw 5 (by decide)), a5.ext a15 he (nw 0 (by decide)) (fun s hs => nw s (by omega))⟩, ⟨a6.ext a15 he (nw 0 (by decide)) (nw 6 (by decide)) (fun s h1 h2 => nw s (by omega)), a7, a8⟩, ⟨he.at a15 a9 (by rw [a10]; exact nw 0 (by decide)), by rw [he.tag a15 a9, a10]⟩, a11.ext a15 he (nw 3 (by decide)), a12.ext a15 he (nw 4 (by decide)) (nw 8 (by decide)) (nw 9 (by decide)), a13, a14.ext a15 he (nw 0 (by decide)), he.wf, hl, hc⟩
theorem cGx.ext (h : cGx g a tb tr ql wk ans pb A sn rd qx B t T fr qs plc an lk) (he : pg_Ext (fun _ => False) g g') : cGx g' a tb tr ql wk ans pb A sn rd qx B t T fr qs plc an lk := by
  obtain ⟨_, a3, _, _, _, _, _, _, _, a15, a16, a17⟩ := id h
  exact h.txt he (fun _ h => h.elim) (a3.ext a15 he (fun h => h)) a16 a17
theorem cGx.w (h : cGx g a tb tr ql wk ans pb A sn rd qx B t T fr qs plc an lk) : pg_Wf g ∧ pg_C g ∧ WT T := by
  obtain ⟨_, _, _, _, _, _, _, a13, a14, a15, _⟩ := h
  exact ⟨a15, a14, a13⟩
theorem cGx.take (h : cGx g a tb tr ql wk ans pb A sn rd qx B t T fr qs plc an lk) : pg_T (fX10_takeText a g.1) 2 64 (fun s => s = 2) g (fun r g' => ∃ s, r = some s ∧ ps_S g' s t ∧ cGx g' a tb tr ql wk ans pb A sn rd qx B [] T fr qs plc an lk) := by
  obtain ⟨⟨a1, a2⟩, a3, _, _, _, _, _, _, a14, a15, a16, a17⟩ := id h
  obtain ⟨fb, hbo⟩ := bu_is a3
  rw [fX10_takeText, pg_gR a1 (k := 0) rfl, pg_o1, pg_o1, pg_cv hbo]
  refine pg_T.b (bu_str (by decide) a15 a3) (fun _ h => h.elim) (by omega) (by omega) (fun r g1 x1 hp => ?_)
  obtain ⟨s, rfl, hs⟩ := hp
  have h1 := h.ext x1
  obtain ⟨⟨b1, b2⟩, b3, _, _, _, _, _, _, b14, b15, _⟩ := id h1
  obtain ⟨fb1, hbo1⟩ := bu_is b3
  rw [pg_gR b1 (k := 0) rfl, pg_o1, pg_o1, pg_cv hbo1]
  have key := bu_set (n := 0) b15 b3 (by decide) (Nat.zero_le _)
  rw [nI_0] at key
  refine pg_T.b key (fun _ h => h) (Nat.zero_le _) (Nat.zero_le _) (fun r g2 x2 hb => pg_T.ret x2.wf ⟨s, rfl, hs.ext b15 x2 (by decide), ?_⟩)
  exact h1.txt x2 (fun _ h => h) hb (by decide) (fun c hc => by cases hc)
theorem cG_type {c : Nat} (h : cG g a B t T fr qs plc an lk) (hc : c < 65536) : pg_T (fX10_type a (nI c) g.1) 1 70 (fun s => 2 ≤ s) g (fun r g' => r = bI (sty t c).1 ∧ cG g' a B (sty t c).2 T fr qs plc an lk) := by
  obtain ⟨tb, tr, ql, wk, ans, pb, A, sn, rd, qx, h⟩ := h
  obtain ⟨⟨a1, a2⟩, a3, _, _, _, _, _, _, a14, a15, a16, a17⟩ := id h
  obtain ⟨fb, hbo⟩ := bu_is a3
  have no : ¬ (32 ≤ c ∧ c ≤ 126 ∧ t.length < 60) → pg_T (fX10_type_24 g.1) 1 70 (fun s => 2 ≤ s) g (fun r g' => r = bI (sty t c).1 ∧ cG g' a B (sty t c).2 T fr qs plc an lk) := by
    intro hn
    rw [fX10_type_24, pg_z0, pg_o1]
    refine pg_T.ret a15 ?_
    unfold sty
    rw [if_neg hn]
    exact ⟨rfl, tb, tr, ql, wk, ans, pb, A, sn, rd, qx, h⟩
  rw [fX10_type]
  by_cases h1 : c < 32
  · rw [if_pos (show nI c < 32 from nI_lt (b := 32) h1 (by decide))]
    exact no (by omega)
  · rw [if_neg (show ¬ nI c < 32 from nI_nlt (b := 32) (by omega) (by omega))]
    by_cases h2 : 126 < c
    · rw [if_pos (show (126 : Int32) < nI c from nI_lt (a := 126) h2 (by omega))]
      exact no (by omega)
    · rw [if_neg (show ¬ (126 : Int32) < nI c from nI_nlt (a := 126) (by omega) (by decide)), pg_gR a1 (k := 0) rfl, pg_o1, pg_o1, pg_cv hbo, bu_length a3, pg_b0]
      by_cases h3 : t.length < 60
      · rw [if_pos (show nI t.length < 60 from nI_lt (b := 60) h3 (by decide)), pg_gR a1 (k := 0) rfl, pg_o1, pg_o1, pg_cv hbo]
        refine pg_T.b (bu_app1 a15 a3 (by decide) (by omega) (by omega)) (fun s h => by omega) (Nat.le_refl _) (Nat.le_refl _) (fun r g1 x1 hb => ?_)
        rw [pg_z1, pg_o1]
        refine pg_T.ret x1.wf ?_
        unfold sty
        rw [if_pos ⟨by omega, by omega, h3⟩]
        refine ⟨rfl, tb, tr, ql, wk, ans, pb, A, sn, rd, qx, h.txt x1 (fun _ h => h) hb (by rw [List.length_append]; show t.length + 1 ≤ 60; omega) (fun d hd => ?_)⟩
        rcases List.mem_append.mp hd with hd | hd
        · exact a17 d hd
        · rw [List.mem_singleton.mp hd]; omega
      · rw [if_neg (show ¬ nI t.length < 60 from nI_nlt (b := 60) (by omega) (by omega))]
        exact no (by omega)
theorem pg_T.bx {α β : Type} {x : vg_R (α ⊕ Nat)} {f : α → vg_M → vg_R (β ⊕ Nat)} {C N C1 N1 : Nat} {W1 : Nat → Prop} {P : α ⊕ Nat → pg_G → Prop} {Q : β ⊕ Nat → pg_G → Prop} (h : pg_T x C1 N1 W1 g P) (hw : ∀ t, W1 t → W t) (hc : C1 ≤ C) (hn : N1 ≤ N) (kl : ∀ r g1, pg_Ext W1 g g1 → P (.inl r) g1 → pg_T (f r g1.1) (C - C1) (N - N1) W g1 Q) (kr : ∀ k g1, pg_Ext W1 g g1 → P (.inr k) g1 → Q (.inr k) g1) : pg_T (vg_bx x f) C N W g Q := by
  obtain ⟨r, g1, c1, n1, e1, h1, h2, h3, h4⟩ := h
  cases r with
  | inl r =>
    obtain ⟨r2, g2, c2, n2, e2, k1, k2, k3, k4⟩ := kl r g1 h3 h4
    refine ⟨r2, g2, c1 + c2, n1 + n2, ?_, by omega, by omega, (h3.mono hw).trans k3, k4⟩
    rw [e1]; simp only [vg_bx, e2]
  | inr k =>
    refine ⟨.inr k, g1, c1, n1, ?_, by omega, by omega, h3.mono hw, kr k g1 h3 h4⟩
    rw [e1]; rfl
theorem pg_cx {α β : Type} {ci a : Nat} {μ : vg_M} {x : vg_R (α ⊕ Nat)} {f : α → vg_M → vg_R (β ⊕ Nat)} {fs : List Value} (h : μ.1 a = some (.inr (ci, fs))) : vg_cx ci a μ x f = vg_bx x f := by simp only [vg_cx, h, if_true]
theorem cGx.takeP (h : cGx g a tb tr ql wk ans pb A sn rd qx B t T fr qs plc an lk) : pg_T (fX10_takePath a g.1) 128 4070 (fun s => s = 2) g (fun r g' => cGx g' a tb tr ql wk ans pb A sn rd qx B [] T fr qs plc an lk ∧ match pt t with
    | none => r = .inr 1
    | some sp => ∃ p, r = .inl (some p) ∧ cp_P g' 0 p t sp) := by
  obtain ⟨⟨a1, a2⟩, a3, _, _, _, _, _, _, a14, a15, a16, a17⟩ := id h
  rw [fX10_takePath, pg_cv a1]
  refine pg_T.b h.take (fun _ h => h) (by decide) (by decide) (fun r g1 x1 hp => ?_)
  obtain ⟨s, rfl, hs, h1⟩ := hp
  obtain ⟨w1, c1, -⟩ := h1.w
  refine pg_T.b (cp_read w1 c1 hs a16) (fun _ h => h.elim) (by decide) (by decide) (fun r g2 x2 hp2 => ?_)
  have h2 := h1.ext x2
  cases hpt : pt t with
  | none =>
    rw [hpt] at hp2
    rw [hp2]
    exact pg_T.thr x2.wf (by decide) (by decide) ⟨h2, rfl⟩
  | some sp =>
    rw [hpt] at hp2
    obtain ⟨q, rfl, hq⟩ := hp2
    exact pg_T.ret x2.wf ⟨h2, q, rfl, hq⟩
/-- a new tree -/
theorem cGx.tree {A' : Nat → Nat} {sn' : Nat → Nat → Nat} {T' : sT} {fr' : Nat → Nat → Bool} (h : cGx g a tb tr ql wk ans pb A sn rd qx B t T fr qs plc an lk) (he : pg_Ext W g g') (hw : ∀ s, W s → 100 ≤ s ∨ s = 5) (hT : cT g' A' T' sn') (ho : cTo g' tr (A' 60) (tnum T' 60 0)) (hS : cS rd qs.length T' fr' sn') (hW' : WT T') : cGx g' a tb tr ql wk ans pb A' sn' rd qx B t T' fr' qs plc an lk := by
  obtain ⟨⟨a1, a2⟩, a3, ⟨a4, a5⟩, ⟨a6, a7, a8⟩, ⟨a9, a10⟩, a11, a12, a13, a14, a15, a16, a17⟩ := h
  have nw : ∀ s, s < 100 → s ≠ 5 → ¬ W s := fun s h1 h2 h3 => by have := hw s h3; omega
  exact ⟨⟨he.at a15 a1 (by rw [a2]; exact nw 7 (by decide) (by decide)), by rw [he.tag a15 a1, a2]⟩, a3.ext a15 he (nw 2 (by decide) (by decide)), ⟨ho, hT⟩, ⟨a6.ext a15 he (nw 0 (by decide) (by decide)) (nw 6 (by decide) (by decide)) (fun s h1 h2 => nw s h2 (by omega)), hS, a8⟩, ⟨he.at a15 a9 (by rw [a10]; exact nw 0 (by decide) (by decide)), by rw [he.tag a15 a9, a10]⟩, a11.ext a15 he (nw 3 (by decide) (by decide)), a12.ext a15 he (nw 4 (by decide) (by decide)) (nw 8 (by decide) (by decide)) (nw 9 (by decide) (by decide)), hW', a14.ext a15 he (nw 0 (by decide) (by decide)), he.wf, a16, a17⟩
theorem cG_put (asF : Bool) (h : cG g a B t T fr qs plc an lk) {f : vg_R (Int32 ⊕ Nat)} (hf : f = vg_o (vg_gR g.1 a 13 1) fun x1 => vg_cx 13 a g.1 (fX10_takePath a g.1) fun x2 μ3 => vg_o x1 fun a4 => vg_cx 11 a4 μ3 (fX8_make a4 x2 (bI asF) μ3) fun x5 μ6 => vg_ret (.inl x5) μ6) : pg_T f 188 5670 (fun s => 2 ≤ s) g (fun r g' => r = (if (sput t T fr (if asF then 2 else 1)).1 = 0 then .inl (nI (sput t T fr (if asF then 2 else 1)).2.1) else .inr (sput t T fr (if asF then 2 else 1)).1) ∧ cG g' a B [] (sput t T fr (if asF then 2 else 1)).2.2.1 (sput t T fr (if asF then 2 else 1)).2.2.2 qs plc an lk) := by
  obtain ⟨tb, tr, ql, wk, ans, pb, A, sn, rd, qx, h⟩ := h
  obtain ⟨⟨a1, a2⟩, _⟩ := id h
  rw [hf, pg_gR a1 (k := 1) rfl, pg_o1, pg_cx a1]
  unfold sput
  refine pg_T.bx h.takeP (fun s h => by omega) (by decide) (by decide) (fun r g1 x1 hp => ?_) (fun k g1 x1 hp => ?_)
  · obtain ⟨h1, hp⟩ := hp
    cases hpt : pt t with
    | none => rw [hpt] at hp; cases hp
    | some sp =>
      rw [hpt] at hp
      obtain ⟨p, hr, hP⟩ := hp
      cases hr
      obtain ⟨_, _, ⟨b4, b5⟩, ⟨b6, b7, b8⟩, _, _, _, b13, b14, b15, _⟩ := id h1
      rw [pg_o1, pg_cx b4.1]
      refine pg_T.bx (cT_make asF b13 b15 b14 b5 b7 b4 hP hpt) (fun s h => by omega) (by decide) (by decide) (fun r g2 x2 hp2 => ?_) (fun k g2 x2 hp2 => ?_)
      · simp only
        by_cases hb : sbad T (tg T (wd t sp) 60).1 (tg T (wd t sp) 60).2 sp.length (if asF then 2 else 1) = true
        · rw [if_pos hb] at hp2; cases hp2.1
        · rw [if_neg hb] at hp2
          obtain ⟨e1, A', sn', e2, e3, e4, e5⟩ := hp2
          cases e1
          refine pg_T.ret x2.wf ?_
          rw [if_neg hb]
          exact ⟨rfl, tb, tr, ql, wk, ans, pb, A', sn', rd, qx, h1.tree x2 (fun s h => h) e2 e4 e3 e5⟩
      · simp only
        by_cases hb : sbad T (tg T (wd t sp) 60).1 (tg T (wd t sp) 60).2 sp.length (if asF then 2 else 1) = true
        · rw [if_pos hb] at hp2
          obtain ⟨e1, e2⟩ := hp2
          cases e1
          rw [if_pos hb]
          exact ⟨rfl, tb, tr, ql, wk, ans, pb, A, sn, rd, qx, h1.ext e2⟩
        · rw [if_neg hb] at hp2; cases hp2.1
  · obtain ⟨h1, hp⟩ := hp
    cases hpt : pt t with
    | none => rw [hpt] at hp; cases hp; exact ⟨rfl, tb, tr, ql, wk, ans, pb, A, sn, rd, qx, h1⟩
    | some sp => rw [hpt] at hp; obtain ⟨p, hr, _⟩ := hp; cases hr
theorem cG_remove (h : cG g a B t T fr qs plc an lk) : pg_T (fX10_remove a g.1) 188 5670 (fun s => 2 ≤ s) g (fun r g' => r = (if (srem t T fr).1 = 0 then .inl (nI (srem t T fr).2.1) else .inr (srem t T fr).1) ∧ cG g' a B [] (srem t T fr).2.2.1 (srem t T fr).2.2.2 qs plc an lk) := by
  obtain ⟨tb, tr, ql, wk, ans, pb, A, sn, rd, qx, h⟩ := h
  obtain ⟨⟨a1, a2⟩, _⟩ := id h
  rw [fX10_remove, pg_gR a1 (k := 1) rfl, pg_o1, pg_cx a1]
  unfold srem
  refine pg_T.bx h.takeP (fun s h => by omega) (by decide) (by decide) (fun r g1 x1 hp => ?_) (fun k g1 x1 hp => ?_)
  · obtain ⟨h1, hp⟩ := hp
    cases hpt : pt t with
    | none => rw [hpt] at hp; cases hp
    | some sp =>
      rw [hpt] at hp
      obtain ⟨p, hr, hP⟩ := hp
      cases hr
      obtain ⟨_, _, ⟨b4, b5⟩, ⟨b6, b7, b8⟩, _, _, _, b13, b14, b15, _⟩ := id h1
      have hle := tg_le (T := T) (wd t sp) 60 (Nat.le_refl _)
      rw [wd_len] at hle
      simp only
      rw [pg_o1, pg_cv b4.1]
      refine pg_T.b (cT_at b13 b15 b14 b5 b4 hP) (fun _ h => h.elim) (by decide) (by decide) (fun r g2 x2 hp2 => ?_)
      have h2 := h1.ext x2
      by_cases hf : (tg T (wd t sp) 60).2 < sp.length
      · rw [if_neg (by omega)] at hp2
        rw [hp2, if_pos hf]
        exact pg_T.thr x2.wf (by decide) (by decide) ⟨rfl, tb, tr, ql, wk, ans, pb, A, sn, rd, qx, h2⟩
      · rw [if_pos (by omega)] at hp2
        rw [hp2, if_neg hf]
        obtain ⟨⟨c1, c2⟩, _, ⟨c4, c5⟩, ⟨c6, c7, c8⟩, _, _, _, c13, c14, c15, _⟩ := id h2
        have h60 := tg_60 (T := T) (wd t sp) 60 (by rw [wd_len]; omega) (fun e => by have h1 := congrArg List.length e; rw [wd_len, List.length_nil] at h1; have h2 := (pt_ok hpt).2.2; omega)
        show pg_T (vg_o (vg_gR g2.1 a 13 1) _) _ _ _ _ _
        rw [pg_gR c1 (k := 1) rfl, pg_o1, pg_o1, pg_cv c4.1]
        refine pg_T.b (cT_cut c13 c15 c5 h60.1 h60.2 c4) (fun s h => by omega) (Nat.zero_le _) (Nat.zero_le _) (fun r g3 x3 hp3 => ?_)
        obtain ⟨rfl, d1, d2⟩ := hp3
        refine pg_T.ret x3.wf ⟨rfl, tb, tr, ql, wk, ans, pb, A, _, rd, qx, h2.tree x3 (fun s h => h) d1 d2 ?_ (c13.rem h60.1 h60.2)⟩
        refine ⟨c7.1, fun k hk hl => ?_⟩
        have hl' : 0 < kd T k := by
          rw [(trem_kd c13 h60.1 h60.2 k).1, tkill_kd] at hl
          by_cases hx : k < 60 ∧ tun T (tg T (wd t sp) 60).1 k = true
          · rw [if_pos hx] at hl; exact absurd hl (by decide)
          · rw [if_neg hx] at hl; exact hl
        exact (c7.touch (node := pa T (tg T (wd t sp) 60).1)).2 k hk hl'
  · obtain ⟨h1, hp⟩ := hp
    cases hpt : pt t with
    | none => rw [hpt] at hp; cases hp; exact ⟨rfl, tb, tr, ql, wk, ans, pb, A, sn, rd, qx, h1⟩
    | some sp => rw [hpt] at hp; obtain ⟨p, hr, _⟩ := hp; cases hr
end
