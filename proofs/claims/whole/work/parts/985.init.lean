/-! A new object. -/
section
variable {g : pg_G} {W : Nat → Prop}
theorem ct_init {a : Nat} (hg : pg_Wf g) (hC : pg_C g) (h1 : g.1.1 a = some (.inr (11, [.null, .int 0]))) (h2 : g.2 a = 5) : pg_T (fX8_init a g.1) 3 15 (fun t => t = 5 ∨ t = 100 + 3 * g.1.2.1 ∨ t = 101 + 3 * g.1.2.1) g (fun _ g' => g'.1.1 a = some (.inr (11, [.ref g.1.2.1, .int 0])) ∧ g'.2 a = 5 ∧ cn_N g' g.1.2.1 [] none true [] true (fun _ => 0)) := by
  have hal := hg.lt h1
  unfold fX8_init
  refine pg_T.nO (t := 100 + 3 * g.1.2.1) hg (by decide) (by decide) ?_
  have x1 := pg_new_ext (W := fun _ => False) (t := 100 + 3 * g.1.2.1) (e := .inr (4, [.null, .null, .int 0, .null, .null, .int 0])) hg
  have a1 := x1.at hg h1 (fun h => h)
  have t1 : (pg_new g (100 + 3 * g.1.2.1) (.inr (4, [.null, .null, .int 0, .null, .null, .int 0]))).2 a = 5 := by rw [x1.tag hg h1]; exact h2
  have o1 := pg_new_self g (100 + 3 * g.1.2.1) (.inr (4, [.null, .null, .int 0, .null, .null, .int 0]))
  have u1 := pg_new_tag g (100 + 3 * g.1.2.1) (.inr (4, [.null, .null, .int 0, .null, .null, .int 0]))
  have c1 := hC.ext hg x1 (fun h => h)
  generalize pg_new g (100 + 3 * g.1.2.1) (.inr (4, [.null, .null, .int 0, .null, .null, .int 0])) = g1 at *
  rw [vg_k]
  have key := cn_init (pr := none) (isF := true) x1.wf o1 u1 c1.1
  rw [bI_t] at key
  refine pg_T.b key (fun t h => Or.inr h) (by decide) (by decide) (fun r g2 x2 hN => ?_)
  have a2 := x2.at x1.wf a1 (by rw [t1]; omega)
  have t2 : g2.2 a = 5 := by rw [x2.tag x1.wf a1]; exact t1
  have w2 := x2.wf
  have x3 := pg_put_ext (W := fun t => t = 5) (e := .inr (11, [.null, .int 0].set 0 (.ref g.1.2.1))) w2 a2 t2 (by simp [pg_kd])
  refine pg_T.p w2 a2 (by simp) (by rw [t2]; decide) (Or.inl t2) ?_
  have a3 := pg_put_self g2 a (.inr (11, [.null, .int 0].set 0 (.ref g.1.2.1)))
  have t3 : (pg_put g2 a (.inr (11, [.null, .int 0].set 0 (.ref g.1.2.1)))).2 a = 5 := t2
  have n3 := hN.ext w2 x3 (by decide) (fun i hi h => by omega)
  have w3 := x3.wf
  generalize pg_put g2 a (.inr (11, [.null, .int 0].set 0 (.ref g.1.2.1))) = g3 at *
  rw [pg_gR a3 (k := 0) rfl, pg_o1, pg_o1, pg_z1, pg_o1]
  obtain ⟨s, c, e, o3, s3, l3, q3⟩ := n3
  have x4 := pg_put_ext (W := fun t => t = 100 + 3 * g.1.2.1) (e := .inr (4, [.ref s, va_rf none, .int (bI true), .ref c, .ref e, .int (bI false)].set 5 (.int 1))) w3 o3.1 o3.2 (by simp [pg_kd])
  refine pg_T.p w3 o3.1 (by simp) (by rw [o3.2]; omega) (Or.inr (Or.inl o3.2)) (pg_T.ret x4.wf ⟨x4.at w3 a3 (by rw [t3]; omega), by rw [x4.tag w3 a3, t3], s, c, e, ⟨pg_put_self _ _ _, o3.2⟩, s3.ext w3 x4 (by omega), l3.ext w3 x4 (by decide) (by omega), q3.ext w3 x4 (by omega)⟩)
theorem ca_init {a : Nat} (hg : pg_Wf g) (h1 : g.1.1 a = some (.inr (3, [.int 0, .int 0, .null, .null]))) (h2 : g.2 a = 4) : pg_T (fX0_init a g.1) 2 3240 (fun t => t = 4) g (fun _ g' => cA g' a [] 0) := by
  have hal := hg.lt h1
  unfold fX0_init
  rw [show (3180 : Int32) = nI 3180 from rfl, pg_lenN (by decide), pg_o1]
  refine pg_T.nA (t := 8) hg (by decide) (by decide) ?_
  have x1 := pg_new_ext (W := fun _ => False) (t := 8) (e := .inl (1, 3180, .inl (fun _ => 0))) hg
  have a1 := x1.at hg h1 (fun h => h)
  have t1 : (pg_new g 8 (.inl (1, 3180, .inl (fun _ => 0)))).2 a = 4 := by rw [x1.tag hg h1]; exact h2
  have o1 := pg_new_self g 8 (.inl (1, 3180, .inl (fun _ => 0)))
  have u1 := pg_new_tag g 8 (.inl (1, 3180, .inl (fun _ => 0)))
  have w1 := x1.wf
  generalize pg_new g 8 (.inl (1, 3180, .inl (fun _ => 0))) = g1 at *
  have x2 := pg_put_ext (W := fun t => t = 4) (e := .inr (3, [.int 0, .int 0, .null, .null].set 2 (.ref g.1.2.1))) w1 a1 t1 (by simp [pg_kd])
  refine pg_T.p w1 a1 (by simp) (by rw [t1]; decide) t1 ?_
  have a2 := pg_put_self g1 a (.inr (3, [.int 0, .int 0, .null, .null].set 2 (.ref g.1.2.1)))
  have t2 : (pg_put g1 a (.inr (3, [.int 0, .int 0, .null, .null].set 2 (.ref g.1.2.1)))).2 a = 4 := t1
  have o2 := x2.at w1 o1 (by rw [u1]; decide)
  have u2 : (pg_put g1 a (.inr (3, [.int 0, .int 0, .null, .null].set 2 (.ref g.1.2.1)))).2 g.1.2.1 = 8 := u1
  have w2 := x2.wf
  generalize pg_put g1 a (.inr (3, [.int 0, .int 0, .null, .null].set 2 (.ref g.1.2.1))) = g2 at *
  rw [show (60 : Int32) = nI 60 from rfl, pg_lenN (by decide), pg_o1]
  refine pg_T.nA (t := 9) w2 (by decide) (by decide) ?_
  have x3 := pg_new_ext (W := fun _ => False) (t := 9) (e := .inl (2, 60, .inl (fun _ => 0))) w2
  have a3 := x3.at w2 a2 (fun h => h)
  have t3 : (pg_new g2 9 (.inl (2, 60, .inl (fun _ => 0)))).2 a = 4 := by rw [x3.tag w2 a2]; exact t2
  have o3 := x3.at w2 o2 (fun h => h)
  have u3 : (pg_new g2 9 (.inl (2, 60, .inl (fun _ => 0)))).2 g.1.2.1 = 8 := by rw [x3.tag w2 o2]; exact u2
  have p3 := pg_new_self g2 9 (.inl (2, 60, .inl (fun _ => 0)))
  have v3 := pg_new_tag g2 9 (.inl (2, 60, .inl (fun _ => 0)))
  have w3 := x3.wf
  generalize pg_new g2 9 (.inl (2, 60, .inl (fun _ => 0))) = g3 at *
  have x4 := pg_put_ext (W := fun t => t = 4) (e := .inr (3, ([.int 0, .int 0, .null, .null].set 2 (.ref g.1.2.1)).set 3 (.ref g2.1.2.1))) w3 a3 t3 (by simp [pg_kd])
  exact pg_T.p w3 a3 (by simp) (by rw [t3]; decide) t3 (pg_T.ret x4.wf ⟨g.1.2.1, g2.1.2.1, fun _ => 0, fun _ => 0, ⟨pg_put_self _ _ _, t3⟩, x4.at w3 o3 (by rw [u3]; decide), u3, x4.at w3 p3 (by rw [v3]; decide), v3, by decide, fun i hi => absurd hi (Nat.not_lt_zero _)⟩)
theorem cw_init {w ε : Nat} (hg : pg_Wf g) (h1 : g.1.1 w = some (.inr (12, [.null, .null]))) (h2 : g.2 w = ε) (hε : 10 ≤ ε) : pg_T (fX9_init w g.1) 5 3264 (fun t => t = ε ∨ t = 3 ∨ t = 4) g (fun _ g' => ∃ ans pb, g'.1.1 w = some (.inr (12, [.ref ans, .ref pb])) ∧ g'.2 w = ε ∧ cA g' ans [] 0 ∧ bu_B g' 3 pb []) := by
  have hal := hg.lt h1
  unfold fX9_init
  refine pg_T.nO (t := 4) hg (by decide) (by decide) ?_
  have x1 := pg_new_ext (W := fun _ => False) (t := 4) (e := .inr (3, [.int 0, .int 0, .null, .null])) hg
  have a1 := x1.at hg h1 (fun h => h)
  have t1 : (pg_new g 4 (.inr (3, [.int 0, .int 0, .null, .null]))).2 w = ε := by rw [x1.tag hg h1]; exact h2
  have o1 := pg_new_self g 4 (.inr (3, [.int 0, .int 0, .null, .null]))
  have u1 := pg_new_tag g 4 (.inr (3, [.int 0, .int 0, .null, .null]))
  have w1 := x1.wf
  generalize pg_new g 4 (.inr (3, [.int 0, .int 0, .null, .null])) = g1 at *
  refine pg_T.b (ca_init w1 o1 u1) (fun t h => Or.inr (Or.inr h)) (by decide) (by decide) (fun r g2 x2 hA => ?_)
  have a2 := x2.at w1 a1 (by rw [t1]; omega)
  have t2 : g2.2 w = ε := by rw [x2.tag w1 a1]; exact t1
  have w2 := x2.wf
  have x3 := pg_put_ext (W := fun t => t = ε) (e := .inr (12, [.null, .null].set 0 (.ref g.1.2.1))) w2 a2 t2 (by simp [pg_kd])
  refine pg_T.p w2 a2 (by simp) (by rw [t2]; omega) (Or.inl t2) ?_
  have a3 := pg_put_self g2 w (.inr (12, [.null, .null].set 0 (.ref g.1.2.1)))
  have t3 : (pg_put g2 w (.inr (12, [.null, .null].set 0 (.ref g.1.2.1)))).2 w = ε := t2
  have A3 := hA.ext w2 x3 (by omega) (by omega) (by omega)
  have w3 := x3.wf
  generalize pg_put g2 w (.inr (12, [.null, .null].set 0 (.ref g.1.2.1))) = g3 at *
  refine pg_T.nO (t := 3) w3 (by decide) (by decide) ?_
  have x4 := pg_new_ext (W := fun _ => False) (t := 3) (e := .inr (1, [.null, .int 0, .int 0, .int 0])) w3
  have a4 := x4.at w3 a3 (fun h => h)
  have t4 : (pg_new g3 3 (.inr (1, [.null, .int 0, .int 0, .int 0]))).2 w = ε := by rw [x4.tag w3 a3]; exact t3
  have A4 := A3.ext w3 x4 (fun h => h) (fun h => h) (fun h => h)
  have o4 := pg_new_self g3 3 (.inr (1, [.null, .int 0, .int 0, .int 0]))
  have u4 := pg_new_tag g3 3 (.inr (1, [.null, .int 0, .int 0, .int 0]))
  have w4 := x4.wf
  generalize pg_new g3 3 (.inr (1, [.null, .int 0, .int 0, .int 0])) = g4 at *
  refine pg_T.b (bu_init w4 o4 u4 (by decide)) (fun t h => Or.inr (Or.inl h)) (by decide) (by decide) (fun r g5 x5 hB => ?_)
  have a5 := x5.at w4 a4 (by rw [t4]; omega)
  have t5 : g5.2 w = ε := by rw [x5.tag w4 a4]; exact t4
  have A5 := A4.ext w4 x5 (by decide) (by decide) (by decide)
  have x6 := pg_put_ext (W := fun t => t = ε) (e := .inr (12, ([.null, .null].set 0 (.ref g.1.2.1)).set 1 (.ref g3.1.2.1))) x5.wf a5 t5 (by simp [pg_kd])
  exact pg_T.p x5.wf a5 (by simp) (by rw [t5]; omega) (Or.inl t5) (pg_T.ret x6.wf ⟨g.1.2.1, g3.1.2.1, pg_put_self _ _ _, t5, A5.ext x5.wf x6 (by omega) (by omega) (by omega), hB.ext x5.wf x6 (by omega)⟩)
/-- the empty tree -/
def T0 : sT := fun k => if k = 60 then (2, 0, [], true, [], 0) else (0, 0, [], false, [], 0)
theorem T0_kd {k : Nat} : kd T0 k = if k = 60 then 2 else 0 := by unfold kd T0; split <;> rfl
theorem T0_WT : WT T0 := by
  have k0 : ∀ k, k < 60 → kd T0 k = 0 := fun k hk => by rw [T0_kd, if_neg (by omega)]
  refine ⟨rfl, rfl, rfl, rfl, fun k hk hl => by rw [k0 k hk] at hl; omega, fun k k' hk _ hl => by rw [k0 k hk] at hl; omega, fun k hk hl => ?_⟩
  have hk60 : k = 60 := by
    by_cases h : k = 60
    · exact h
    · rw [k0 k (by omega)] at hl; omega
  rw [hk60]
  refine ⟨fun c => ⟨fun h => (by cases h), fun ⟨h1, h2, _⟩ => by rw [k0 c h1] at h2; omega⟩, List.Pairwise.nil⟩
theorem T0_num : tnum T0 60 0 = 0 := by decide
theorem pg_T.freshE {α : Type} {x : vg_R α} {C N : Nat} {P Q : α → pg_G → Prop} (ε : Nat) (hg : pg_Wf g) (hε : ∀ b, b < g.1.2.1 → g.2 b ≠ ε) (h : pg_T x C N (fun t => W t ∨ t = ε) g P) (hq : ∀ r g', pg_Ext (fun t => W t ∨ t = ε) g g' → P r g' → Q r (g'.1, fun b => if g'.2 b = ε then 0 else g'.2 b)) : pg_T x C N W g Q := by
  obtain ⟨r, g1, c1, n1, e1, h1, h2, h3, h4⟩ := h
  refine ⟨r, (g1.1, fun b => if g1.2 b = ε then 0 else g1.2 b), c1, n1, e1, h1, h2, ?_, hq r g1 h3 h4⟩
  obtain ⟨a1, a2, a3, a4, a5, a6⟩ := h3
  have old : ∀ b, b < g.1.2.1 → (if g1.2 b = ε then 0 else g1.2 b) = g.2 b := fun b hb => by rw [a3 b hb, if_neg (hε b hb)]
  refine ⟨a1, a2, old, fun b hb hn => a4 b hb (fun h => h.elim hn (fun h => hε b hb h)), a5, a6.1, a6.2.1, fun b hb => ?_⟩
  have hb' : b < g1.1.2.2.1 := hb
  have hs : g1.1.2.2.1 = g.1.2.2.1 := by rw [a2]
  have hlt : b < g.1.2.1 := by have := hg.2.1; omega
  show (if g1.2 b = ε then 0 else g1.2 b) = 0
  rw [old b hlt]
  exact hg.2.2 b (by omega)
theorem pg_rt {g : pg_G} {ε : Nat} {b τ : Nat} (h : g.2 b = τ) (hτ : τ ≠ ε) : (fun b => if g.2 b = ε then 0 else g.2 b) b = τ := by
  show (if g.2 b = ε then 0 else g.2 b) = τ
  rw [h, if_neg hτ]
theorem ps_S.rt {g : pg_G} {ε a : Nat} {cs : List Nat} (h : ps_S g a cs) (hε : 0 ≠ ε) : ps_S (g.1, fun b => if g.2 b = ε then 0 else g.2 b) a cs := by
  obtain ⟨v, q, z, f, h1, h2, h3, h4, h5, h6, h7⟩ := h
  exact ⟨v, q, z, f, h1, h2, h3, h4, h5, pg_rt h6 hε, pg_rt h7 hε⟩
theorem pl_L.re {g : pg_G} {ε t a ci : Nat} {xs : List Nat} (h : pl_L g t a ci xs) (hε : t ≠ ε) : pl_L (g.1, fun b => if g.2 b = ε then 0 else g.2 b) t a ci xs := by
  obtain ⟨e, md, h1, h2, h3, h4, h5⟩ := h
  refine ⟨e, md, h1, pg_rt h2 hε, h3, h4, h5.elim Or.inl (fun ⟨cap, f, q1, q2, q3⟩ => Or.inr ⟨cap, f, q1, pg_rt q2 hε, q3⟩)⟩
theorem bu_B.re {g : pg_G} {ε t a : Nat} {cs : List Nat} (h : bu_B g t a cs) (hε : t ≠ ε) : bu_B (g.1, fun b => if g.2 b = ε then 0 else g.2 b) t a cs := by
  obtain ⟨v, cap, ml, f, h1, h2, h3, h4, h5⟩ := h
  exact ⟨v, cap, ml, f, h1, pg_rt h2 hε, h3, pg_rt h4 hε, h5⟩
theorem cn_N.re {g : pg_G} {ε a : Nat} {w : List Nat} {pr : Option Nat} {isF pkg : Bool} {cs : List Nat} {sn : Nat → Nat} (h : cn_N g a w pr isF cs pkg sn) (hε : ε < 100) (h0 : 0 ≠ ε) : cn_N (g.1, fun b => if g.2 b = ε then 0 else g.2 b) a w pr isF cs pkg sn := by
  obtain ⟨s, c, e, h1, h2, h3, h4⟩ := h
  refine ⟨s, c, e, ⟨h1.1, pg_rt h1.2 (by omega)⟩, h2.rt h0, h3.re (by omega), ?_⟩
  obtain ⟨f, q1, q2, q3⟩ := h4
  exact ⟨f, q1, pg_rt q2 (by omega), q3⟩
theorem cA.re {g : pg_G} {ε a lk : Nat} {an : List (List Nat)} (h : cA g a an lk) (hε : 10 ≤ ε) : cA (g.1, fun b => if g.2 b = ε then 0 else g.2 b) a an lk := by
  obtain ⟨lt, ln, fl, fn, ⟨h1, h2⟩, h3, h4, h5, h6, h7⟩ := h
  exact ⟨lt, ln, fl, fn, ⟨h1, pg_rt h2 (by omega)⟩, h3, pg_rt h4 (by omega), h5, pg_rt h6 (by omega), h7⟩
theorem pg_C.re {g : pg_G} {ε : Nat} (h : pg_C g) (hε : 0 ≠ ε) : pg_C (g.1, fun b => if g.2 b = ε then 0 else g.2 b) := by
  obtain ⟨h0, h1, h4, h8, h9, h17, f, h31, h31t⟩ := h
  exact ⟨h0.rt hε, h1.rt hε, h4.rt hε, h8.rt hε, h9.rt hε, h17.rt hε, f, h31, pg_rt h31t hε⟩
theorem cG_init {x : Nat} (hg : pg_Wf g) (hC : pg_C g) (h1 : g.1.1 x = some (.inr (13, [.null, .null, .null, .null, .int 0]))) (h2 : g.2 x = 7) (h50 : ∀ b, b < g.1.2.1 → g.2 b ≠ 50) : pg_T (fX10_init x g.1) 20 3400 (fun t => 2 ≤ t) g (fun _ g' => cG g' x 1 [] T0 (fun _ _ => true) [] (-1) [] 0) := by
  have hal := hg.lt h1
  refine pg_T.freshE (P := fun _ g' => ∃ tb tr ql wk ans pb A, (g'.1.1 x = some (.inr (13, [.ref tb, .ref tr, .ref ql, .ref wk, .int (-1)])) ∧ g'.2 x = 7) ∧ bu_B g' 2 tb [] ∧ (g'.1.1 tr = some (.inr (11, [.ref A, .int 0])) ∧ g'.2 tr = 5) ∧ cn_N g' A [] none true [] true (fun _ => 0) ∧ pl_L g' 6 ql 10 [] ∧ (g'.1.1 wk = some (.inr (12, [.ref ans, .ref pb])) ∧ g'.2 wk = 50) ∧ cA g' ans [] 0 ∧ bu_B g' 3 pb [] ∧ pg_C g') 50 hg h50 ?_ (fun r g' hx hp => ?_)
  · unfold fX10_init
    -- the text
    refine pg_T.nO (t := 2) hg (by decide) (by decide) ?_
    have x1 := pg_new_ext (W := fun _ => False) (t := 2) (e := .inr (1, [.null, .int 0, .int 0, .int 0])) hg
    have a1 := x1.at hg h1 (fun h => h)
    have t1 : (pg_new g 2 (.inr (1, [.null, .int 0, .int 0, .int 0]))).2 x = 7 := by rw [x1.tag hg h1]; exact h2
    have C1 := hC.ext hg x1 (fun h => h)
    have o1 := pg_new_self g 2 (.inr (1, [.null, .int 0, .int 0, .int 0]))
    have u1 := pg_new_tag g 2 (.inr (1, [.null, .int 0, .int 0, .int 0]))
    have z1 : (pg_new g 2 (.inr (1, [.null, .int 0, .int 0, .int 0]))).1.2.1 = g.1.2.1 + 1 := rfl
    have w1 := x1.wf
    generalize pg_new g 2 (.inr (1, [.null, .int 0, .int 0, .int 0])) = g1 at *
    refine pg_T.b (bu_init w1 o1 u1 (by decide)) (fun t h => Or.inl (by omega)) (by decide) (by decide) (fun r g2 x2 B2 => ?_)
    have a2 := x2.at w1 a1 (by rw [t1]; decide)
    have t2 : g2.2 x = 7 := by rw [x2.tag w1 a1]; exact t1
    have C2 := C1.ext w1 x2 (by decide)
    have w2 := x2.wf
    have x3 := pg_put_ext (W := fun t => t = 7) (e := .inr (13, [.null, .null, .null, .null, .int 0].set 0 (.ref g.1.2.1))) w2 a2 t2 (by simp [pg_kd])
    refine pg_T.p w2 a2 (by simp) (by rw [t2]; decide) (Or.inl (by rw [t2]; decide)) ?_
    have a3 := pg_put_self g2 x (.inr (13, [.null, .null, .null, .null, .int 0].set 0 (.ref g.1.2.1)))
    have t3 : (pg_put g2 x (.inr (13, [.null, .null, .null, .null, .int 0].set 0 (.ref g.1.2.1)))).2 x = 7 := t2
    have B3 := B2.ext w2 x3 (by decide)
    have C3 := C2.ext w2 x3 (by decide)
    have w3 := x3.wf
    generalize pg_put g2 x (.inr (13, [.null, .null, .null, .null, .int 0].set 0 (.ref g.1.2.1))) = g3 at *
    -- the tree
    refine pg_T.nO (t := 5) w3 (by decide) (by decide) ?_
    have x4 := pg_new_ext (W := fun _ => False) (t := 5) (e := .inr (11, [.null, .int 0])) w3
    have a4 := x4.at w3 a3 (fun h => h)
    have t4 : (pg_new g3 5 (.inr (11, [.null, .int 0]))).2 x = 7 := by rw [x4.tag w3 a3]; exact t3
    have B4 := B3.ext w3 x4 (fun h => h)
    have C4 := C3.ext w3 x4 (fun h => h)
    have o4 := pg_new_self g3 5 (.inr (11, [.null, .int 0]))
    have u4 := pg_new_tag g3 5 (.inr (11, [.null, .int 0]))
    have z4 : (pg_new g3 5 (.inr (11, [.null, .int 0]))).1.2.1 = g3.1.2.1 + 1 := rfl
    have w4 := x4.wf
    generalize pg_new g3 5 (.inr (11, [.null, .int 0])) = g4 at *
    refine pg_T.b (ct_init w4 C4 o4 u4) (fun t h => Or.inl (by omega)) (by decide) (by decide) (fun r g5 x5 q5 => ?_)
    obtain ⟨o5, u5, N5⟩ := q5
    have a5 := x5.at w4 a4 (by rw [t4]; omega)
    have t5 : g5.2 x = 7 := by rw [x5.tag w4 a4]; exact t4
    have B5 := B4.ext w4 x5 (by omega)
    have C5 := C4.ext w4 x5 (by omega)
    have w5 := x5.wf
    generalize hA : g4.1.2.1 = A at *
    have x6 := pg_put_ext (W := fun t => t = 7) (e := .inr (13, ([.null, .null, .null, .null, .int 0].set 0 (.ref g.1.2.1)).set 1 (.ref g3.1.2.1))) w5 a5 t5 (by simp [pg_kd])
    refine pg_T.p w5 a5 (by simp) (by rw [t5]; decide) (Or.inl (by rw [t5]; decide)) ?_
    have a6 := pg_put_self g5 x (.inr (13, ([.null, .null, .null, .null, .int 0].set 0 (.ref g.1.2.1)).set 1 (.ref g3.1.2.1)))
    have t6 : (pg_put g5 x (.inr (13, ([.null, .null, .null, .null, .int 0].set 0 (.ref g.1.2.1)).set 1 (.ref g3.1.2.1)))).2 x = 7 := t5
    have B6 := B5.ext w5 x6 (by decide)
    have C6 := C5.ext w5 x6 (by decide)
    have o6 := x6.at w5 o5 (by rw [u5]; decide)
    have u6 : (pg_put g5 x (.inr (13, ([.null, .null, .null, .null, .int 0].set 0 (.ref g.1.2.1)).set 1 (.ref g3.1.2.1)))).2 g3.1.2.1 = 5 := u5
    have N6 := N5.ext w5 x6 (by decide) (fun i hi h => by omega)
    have w6 := x6.wf
    generalize pg_put g5 x (.inr (13, ([.null, .null, .null, .null, .int 0].set 0 (.ref g.1.2.1)).set 1 (.ref g3.1.2.1))) = g6 at *
    -- the list
    refine pg_T.nO (t := 6) w6 (by decide) (by decide) ?_
    have x7 := pg_new_ext (W := fun _ => False) (t := 6) (e := .inr (2, [.int 0, .null, .int 0])) w6
    have a7 := x7.at w6 a6 (fun h => h)
    have t7 : (pg_new g6 6 (.inr (2, [.int 0, .null, .int 0]))).2 x = 7 := by rw [x7.tag w6 a6]; exact t6
    have B7 := B6.ext w6 x7 (fun h => h)
    have C7 := C6.ext w6 x7 (fun h => h)
    have o7 := x7.at w6 o6 (fun h => h)
    have u7 : (pg_new g6 6 (.inr (2, [.int 0, .null, .int 0]))).2 g3.1.2.1 = 5 := by rw [x7.tag w6 o6]; exact u6
    have N7 := N6.ext w6 x7 (fun h => h) (fun i hi h => h)
    have p7 := pg_new_self g6 6 (.inr (2, [.int 0, .null, .int 0]))
    have v7 := pg_new_tag g6 6 (.inr (2, [.int 0, .null, .int 0]))
    have w7 := x7.wf
    generalize pg_new g6 6 (.inr (2, [.int 0, .null, .int 0])) = g7 at *
    refine pg_T.b (pl_init (ci := 10) w7 p7 v7 (by decide)) (fun t h => Or.inl (by omega)) (by decide) (by decide) (fun r g8 x8 L8 => ?_)
    have a8 := x8.at w7 a7 (by rw [t7]; omega)
    have t8 : g8.2 x = 7 := by rw [x8.tag w7 a7]; exact t7
    have B8 := B7.ext w7 x8 (by omega)
    have C8 := C7.ext w7 x8 (by omega)
    have o8 := x8.at w7 o7 (by rw [u7]; omega)
    have u8 : g8.2 g3.1.2.1 = 5 := by rw [x8.tag w7 o7]; exact u7
    have N8 := N7.ext w7 x8 (by omega) (fun i hi h => by omega)
    have w8 := x8.wf
    have x9 := pg_put_ext (W := fun t => t = 7) (e := .inr (13, (([.null, .null, .null, .null, .int 0].set 0 (.ref g.1.2.1)).set 1 (.ref g3.1.2.1)).set 2 (.ref g6.1.2.1))) w8 a8 t8 (by simp [pg_kd])
    refine pg_T.p w8 a8 (by simp) (by rw [t8]; decide) (Or.inl (by rw [t8]; decide)) ?_
    have a9 := pg_put_self g8 x (.inr (13, (([.null, .null, .null, .null, .int 0].set 0 (.ref g.1.2.1)).set 1 (.ref g3.1.2.1)).set 2 (.ref g6.1.2.1)))
    have t9 : (pg_put g8 x (.inr (13, (([.null, .null, .null, .null, .int 0].set 0 (.ref g.1.2.1)).set 1 (.ref g3.1.2.1)).set 2 (.ref g6.1.2.1)))).2 x = 7 := t8
    have B9 := B8.ext w8 x9 (by decide)
    have C9 := C8.ext w8 x9 (by decide)
    have o9 := x9.at w8 o8 (by rw [u8]; decide)
    have u9 : (pg_put g8 x (.inr (13, (([.null, .null, .null, .null, .int 0].set 0 (.ref g.1.2.1)).set 1 (.ref g3.1.2.1)).set 2 (.ref g6.1.2.1)))).2 g3.1.2.1 = 5 := u8
    have N9 := N8.ext w8 x9 (by decide) (fun i hi h => by omega)
    have L9 := L8.ext w8 x9 (by decide) (by decide)
    have w9 := x9.wf
    generalize pg_put g8 x (.inr (13, (([.null, .null, .null, .null, .int 0].set 0 (.ref g.1.2.1)).set 1 (.ref g3.1.2.1)).set 2 (.ref g6.1.2.1))) = g9 at *
    -- the walk
    refine pg_T.nO (t := 50) w9 (by decide) (by decide) ?_
    have x10 := pg_new_ext (W := fun _ => False) (t := 50) (e := .inr (12, [.null, .null])) w9
    have a10 := x10.at w9 a9 (fun h => h)
    have t10 : (pg_new g9 50 (.inr (12, [.null, .null]))).2 x = 7 := by rw [x10.tag w9 a9]; exact t9
    have B10 := B9.ext w9 x10 (fun h => h)
    have C10 := C9.ext w9 x10 (fun h => h)
    have o10 := x10.at w9 o9 (fun h => h)
    have u10 : (pg_new g9 50 (.inr (12, [.null, .null]))).2 g3.1.2.1 = 5 := by rw [x10.tag w9 o9]; exact u9
    have N10 := N9.ext w9 x10 (fun h => h) (fun i hi h => h)
    have L10 := L9.ext w9 x10 (by decide) (fun h => h)
    have p10 := pg_new_self g9 50 (.inr (12, [.null, .null]))
    have v10 := pg_new_tag g9 50 (.inr (12, [.null, .null]))
    have w10 := x10.wf
    generalize pg_new g9 50 (.inr (12, [.null, .null])) = g10 at *
    refine pg_T.b (cw_init w10 p10 v10 (by decide)) (fun t h => by omega) (by decide) (by decide) (fun r g11 x11 q11 => ?_)
    obtain ⟨ans, pb, p11, v11, A11, D11⟩ := q11
    have a11 := x11.at w10 a10 (by rw [t10]; omega)
    have t11 : g11.2 x = 7 := by rw [x11.tag w10 a10]; exact t10
    have B11 := B10.ext w10 x11 (by omega)
    have C11 := C10.ext w10 x11 (by omega)
    have o11 := x11.at w10 o10 (by rw [u10]; omega)
    have u11 : g11.2 g3.1.2.1 = 5 := by rw [x11.tag w10 o10]; exact u10
    have N11 := N10.ext w10 x11 (by omega) (fun i hi h => by omega)
    have L11 := L10.ext w10 x11 (by decide) (by omega)
    have w11 := x11.wf
    have x12 := pg_put_ext (W := fun t => t = 7) (e := .inr (13, ((([.null, .null, .null, .null, .int 0].set 0 (.ref g.1.2.1)).set 1 (.ref g3.1.2.1)).set 2 (.ref g6.1.2.1)).set 3 (.ref g9.1.2.1))) w11 a11 t11 (by simp [pg_kd])
    refine pg_T.p w11 a11 (by simp) (by rw [t11]; decide) (Or.inl (by rw [t11]; decide)) ?_
    have a12 := pg_put_self g11 x (.inr (13, ((([.null, .null, .null, .null, .int 0].set 0 (.ref g.1.2.1)).set 1 (.ref g3.1.2.1)).set 2 (.ref g6.1.2.1)).set 3 (.ref g9.1.2.1)))
    have t12 : (pg_put g11 x (.inr (13, ((([.null, .null, .null, .null, .int 0].set 0 (.ref g.1.2.1)).set 1 (.ref g3.1.2.1)).set 2 (.ref g6.1.2.1)).set 3 (.ref g9.1.2.1)))).2 x = 7 := t11
    have B12 := B11.ext w11 x12 (by decide)
    have C12 := C11.ext w11 x12 (by decide)
    have o12 := x12.at w11 o11 (by rw [u11]; decide)
    have u12 : (pg_put g11 x (.inr (13, ((([.null, .null, .null, .null, .int 0].set 0 (.ref g.1.2.1)).set 1 (.ref g3.1.2.1)).set 2 (.ref g6.1.2.1)).set 3 (.ref g9.1.2.1)))).2 g3.1.2.1 = 5 := u11
    have N12 := N11.ext w11 x12 (by decide) (fun i hi h => by omega)
    have L12 := L11.ext w11 x12 (by decide) (by decide)
    have p12 := x12.at w11 p11 (by rw [v11]; decide)
    have v12 : (pg_put g11 x (.inr (13, ((([.null, .null, .null, .null, .int 0].set 0 (.ref g.1.2.1)).set 1 (.ref g3.1.2.1)).set 2 (.ref g6.1.2.1)).set 3 (.ref g9.1.2.1)))).2 g9.1.2.1 = 50 := v11
    have A12 := A11.ext w11 x12 (by decide) (by decide) (by decide)
    have D12 := D11.ext w11 x12 (by decide)
    have w12 := x12.wf
    generalize pg_put g11 x (.inr (13, ((([.null, .null, .null, .null, .int 0].set 0 (.ref g.1.2.1)).set 1 (.ref g3.1.2.1)).set 2 (.ref g6.1.2.1)).set 3 (.ref g9.1.2.1))) = g12 at *
    have x13 := pg_put_ext (W := fun t => t = 7) (e := .inr (13, (((([.null, .null, .null, .null, .int 0].set 0 (.ref g.1.2.1)).set 1 (.ref g3.1.2.1)).set 2 (.ref g6.1.2.1)).set 3 (.ref g9.1.2.1)).set 4 (.int (-1)))) w12 a12 t12 (by simp [pg_kd])
    refine pg_T.p w12 a12 (by simp) (by rw [t12]; decide) (Or.inl (by rw [t12]; decide)) (pg_T.ret x13.wf ?_)
    exact ⟨g.1.2.1, g3.1.2.1, g6.1.2.1, g9.1.2.1, ans, pb, A, ⟨pg_put_self _ _ _, t12⟩, B12.ext w12 x13 (by decide), ⟨x13.at w12 o12 (by rw [u12]; decide), u12⟩, N12.ext w12 x13 (by decide) (fun i hi h => by omega), L12.ext w12 x13 (by decide) (by decide), ⟨x13.at w12 p12 (by rw [v12]; decide), v12⟩, A12.ext w12 x13 (by decide) (by decide) (by decide), D12.ext w12 x13 (by decide), C12.ext w12 x13 (by decide)⟩
  · obtain ⟨tb, tr, ql, wk, ans, pb, A, ⟨a1, a2⟩, a3, ⟨a4, a5⟩, a6, a7, ⟨a8, a9⟩, a10, a11, a12⟩ := hp
    have k60 : ∀ k, k ≤ 60 → 0 < kd T0 k → k = 60 := fun k hk hl => by
      rw [T0_kd] at hl
      by_cases h : k = 60
      · exact h
      · rw [if_neg h] at hl; omega
    have hw : pg_Wf (g'.1, fun b => if g'.2 b = 50 then 0 else g'.2 b) := by
      refine ⟨hx.wf.1, hx.wf.2.1, fun b hb => ?_⟩
      have := hx.wf.2.2 b hb
      show (if g'.2 b = 50 then 0 else g'.2 b) = 0
      rw [this]; rfl
    refine ⟨tb, tr, ql, wk, ans, pb, fun _ => A, fun _ _ => 0, fun _ => 1, [], ⟨a1, pg_rt a2 (by decide)⟩, a3.re (by decide), ⟨⟨by rw [T0_num]; exact a4, pg_rt a5 (by decide)⟩, fun k hk hl => ?_, fun k k' hk hk' hl hl' _ => by rw [k60 k hk hl, k60 k' hk' hl'], fun k _ => by rw [T0_kd]; split <;> omega⟩, ⟨⟨a7.re (by decide), rfl, by decide, fun q hq => absurd hq (Nat.not_lt_zero _)⟩, ⟨fun q hq => absurd hq (Nat.not_lt_zero _), fun k hk hl => ⟨fun q hq => absurd hq (Nat.not_lt_zero _), fun q hq => rfl⟩⟩, fun q hq => absurd hq (Nat.not_lt_zero _)⟩, ⟨a8, ?_⟩, a11.re (by decide), a10.re (by decide), T0_WT, a12.re (by decide), hw, by decide, fun c hc => absurd hc List.not_mem_nil⟩
    · rw [k60 k hk hl]
      exact a6.re (by decide) (by decide)
    · show (if g'.2 wk = 50 then 0 else g'.2 wk) = 0
      rw [if_pos a9]
end
