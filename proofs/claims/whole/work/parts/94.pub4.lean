/-! pattern. -/
section
theorem b_nw {α β : Type} {k q : Nat} {μ1 : vg_M} {f : Nat → vg_M → vg_R α} {h : α → vg_M → vg_R β} : vg_b (vg_nw k q μ1 f) h = vg_nw k q μ1 (fun a m => vg_b (f a m) h) := by
  simp only [vg_nw]
  cases hX : f q μ1 with
  | none => rfl
  | some w =>
    obtain ⟨r, m, c, n⟩ := w
    simp only [vg_b, vg_n]
    cases hf : h r m with
    | none => rfl
    | some z => obtain ⟨r', m', c', n'⟩ := z; simp [Nat.add_assoc]
theorem b_b {α β γ : Type} {x : vg_R γ} {f : γ → vg_M → vg_R α} {h : α → vg_M → vg_R β} : vg_b (vg_b x f) h = vg_b x (fun a m => vg_b (f a m) h) := by
  cases x with
  | none => rfl
  | some w =>
    obtain ⟨r, m, c, n⟩ := w
    simp only [vg_b]
    cases hf : f r m with
    | none => rfl
    | some z =>
      obtain ⟨r', m', c', n'⟩ := z
      simp only
      cases hh : h r' m' with
      | none => rfl
      | some y => obtain ⟨r2, m2, c2, n2⟩ := y; simp [Nat.add_assoc]
theorem b_cv {α β γ : Type} {ci a : Nat} {μ : vg_M} {x : vg_R γ} {f : γ → vg_M → vg_R α} {h : α → vg_M → vg_R β} : vg_b (vg_cv ci a μ x f) h = vg_cv ci a μ x (fun r m => vg_b (f r m) h) := by
  unfold vg_cv
  split
  · split
    · exact b_b
    · rfl
  · rfl
theorem b_r {α β : Type} {v : α} {μ : vg_M} {h : α → vg_M → vg_R β} : vg_b (vg_ret v μ) h = h v μ := by rw [vu_ret, pg_b0]
variable {g g' : pg_G} {W : Nat → Prop} {a tb tr ql wk ans pb B lk : Nat} {A : Nat → Nat} {sn : Nat → Nat → Nat} {rd : Nat → Nat} {qx : List Nat} {t : List Nat} {T : sT} {fr : Nat → Nat → Bool} {qs : List sQ} {plc : Int32} {an : List (List Nat)} {E x τs : Nat} {out fo : Bool} {ps : List (List (List Nat))}
theorem bu_B.rN {t0 b : Nat} {cs : List Nat} (h : bu_B g' t0 b cs) (ht : t0 < E) : bu_B (g'.1, pg_rN g' E) t0 b cs := by
  obtain ⟨v, cap, ml, f, h1, h2, h3, h4, h5⟩ := h
  exact ⟨v, cap, ml, f, h1, pg_rN_lt h2 ht, h3, pg_rN_lt h4 ht, h5⟩
theorem cr_P.rN (h : cr_P g' E x τs out fo ps) (ht : τs < E) : cq_P (g'.1, pg_rN g' E) 0 τs x (out, ps, fo) (fun _ => 0) := by
  obtain ⟨l, sa, dv, pcs, ⟨q1, q2, q3, q4, q5⟩, q6, q7, q8, q9⟩ := h
  refine ⟨l, sa, dv, pcs, q1, pg_rN_E (by rw [q2]; omega), q3.rN (by omega), q6, q7, fun i hi => ?_, q9, q4, pg_rN_lt q5 ht⟩
  rcases q8 i hi with ⟨e, l', st', c1, c2⟩ | ⟨e, hq⟩
  · exact Or.inl ⟨e, l', st', c1, pg_rN_E (by rw [c2]; omega)⟩
  · exact Or.inr ⟨e, hq.rN (by omega) (by omega)⟩
theorem pp_go_le (hl : t.length ≤ 60) : ∀ m acc k st e, k ≤ t.length → pp_go t m acc k st = .inr e → e ≤ 1000 := by
  intro m
  induction m with
  | zero => intro acc k st e hk h; cases h; omega
  | succ m ih =>
    intro acc k st e hk h
    rw [pp_go] at h
    split at h
    · cases h; omega
    · cases hp : pp_piece t k st with
      | inr e' => rw [hp] at h; cases h; exact cz_piece hl hk hp
      | inl q =>
        rw [hp] at h
        simp only at h
        split at h
        · next hc => exact ih _ _ _ e (by omega) h
        · cases h
theorem cr_new (hg : pg_Wf g) (hC : pg_C g) (hE : 100 ≤ E) (hτ : τs < 100) {s a1 : Nat} (h1 : g.1.1 a1 = some (.inr (8, [.null, .int 0, .null, .int 0]))) (h2 : g.2 a1 = E) (hs : ps_S g s t) : pg_T (fX5_init a1 (some s) (bI out) g.1) 3 15 (fun t => E ≤ t) g (fun _ g' => ∃ x, cr_R g' E a1 x (-1) s 0 ∧ cr_P g' E x τs out false []) := by
  have hal := hg.lt h1
  unfold fX5_init
  have x1 := pg_put_ext (W := fun t => t = E) (e := .inr (8, [.null, .int 0, .null, .int 0].set 1 (.int (-1)))) hg h1 h2 (by simp [pg_kd])
  refine pg_T.p hg h1 (by simp) (by rw [h2]; omega) (by rw [h2]; exact Nat.le_refl _) ?_
  have o1 := pg_put_self g a1 (.inr (8, [.null, .int 0, .null, .int 0].set 1 (.int (-1))))
  have u1 : (pg_put g a1 (.inr (8, [.null, .int 0, .null, .int 0].set 1 (.int (-1))))).2 a1 = E := h2
  have w1 := x1.wf
  generalize pg_put g a1 (.inr (8, [.null, .int 0, .null, .int 0].set 1 (.int (-1)))) = g1 at *
  have x2 := pg_put_ext (W := fun t => t = E) (e := .inr (8, ([.null, .int 0, .null, .int 0].set 1 (.int (-1))).set 2 (va_rf (some s)))) w1 o1 u1 (by simp [pg_kd])
  refine pg_T.p w1 o1 (by simp) (by rw [u1]; omega) (by rw [u1]; exact Nat.le_refl _) ?_
  have o2 := pg_put_self g1 a1 (.inr (8, ([.null, .int 0, .null, .int 0].set 1 (.int (-1))).set 2 (va_rf (some s))))
  have u2 : (pg_put g1 a1 (.inr (8, ([.null, .int 0, .null, .int 0].set 1 (.int (-1))).set 2 (va_rf (some s))))).2 a1 = E := u1
  have w2 := x2.wf
  generalize pg_put g1 a1 (.inr (8, ([.null, .int 0, .null, .int 0].set 1 (.int (-1))).set 2 (va_rf (some s)))) = g2 at *
  refine pg_T.nO (t := E + 1) w2 (by decide) (by decide) ?_
  have x3 := pg_new_ext (W := fun _ => False) (t := E + 1) (e := .inr (7, [.int 0, .int 0, .null, .null, .int 0])) w2
  have o3 := x3.at w2 o2 (fun h => h)
  have u3 : (pg_new g2 (E + 1) (.inr (7, [.int 0, .int 0, .null, .null, .int 0]))).2 a1 = E := by rw [x3.tag w2 o2]; exact u2
  have p3 := pg_new_self g2 (E + 1) (.inr (7, [.int 0, .int 0, .null, .null, .int 0]))
  have q3 := pg_new_tag g2 (E + 1) (.inr (7, [.int 0, .int 0, .null, .null, .int 0]))
  have w3 := x3.wf
  generalize pg_new g2 (E + 1) (.inr (7, [.int 0, .int 0, .null, .null, .int 0])) = g3 at *
  unfold fX4_init
  refine pg_T.b (C1 := 2) (N1 := 10) (W1 := fun t => t = E + 1 ∨ t = E + 2) (P := fun _ g' => ∃ l sa, cr_O g' E g2.1.2.1 τs out false l sa 0 []) ?_ (fun t h => by omega) (by decide) (by decide) (fun r g8 x8 hp => ?_)
  · refine pg_T.nO (t := E + 2) w3 (by decide) (by decide) ?_
    have x4 := pg_new_ext (W := fun _ => False) (t := E + 2) (e := .inr (2, [.int 0, .null, .int 0])) w3
    have p4 := x4.at w3 p3 (fun h => h)
    have q4 : (pg_new g3 (E + 2) (.inr (2, [.int 0, .null, .int 0]))).2 g2.1.2.1 = E + 1 := by rw [x4.tag w3 p3]; exact q3
    have l4 := pg_new_self g3 (E + 2) (.inr (2, [.int 0, .null, .int 0]))
    have lu4 := pg_new_tag g3 (E + 2) (.inr (2, [.int 0, .null, .int 0]))
    have w4 := x4.wf
    generalize pg_new g3 (E + 2) (.inr (2, [.int 0, .null, .int 0])) = g4 at *
    refine pg_T.b (pl_init (ci := 9) w4 l4 lu4 (by omega)) (fun t h => Or.inr h) (by decide) (by decide) (fun r g5 x5 l5 => ?_)
    have p5 := x5.at w4 p4 (by rw [q4]; omega)
    have q5 : g5.2 g2.1.2.1 = E + 1 := by rw [x5.tag w4 p4]; exact q4
    have w5 := x5.wf
    have x6 := pg_put_ext (W := fun t => t = E + 1) (e := .inr (7, [.int 0, .int 0, .null, .null, .int 0].set 2 (.ref g3.1.2.1))) w5 p5 q5 (by simp [pg_kd])
    refine pg_T.p w5 p5 (by simp) (by rw [q5]; omega) (Or.inl q5) ?_
    have p6 := pg_put_self g5 g2.1.2.1 (.inr (7, [.int 0, .int 0, .null, .null, .int 0].set 2 (.ref g3.1.2.1)))
    have q6 : (pg_put g5 g2.1.2.1 (.inr (7, [.int 0, .int 0, .null, .null, .int 0].set 2 (.ref g3.1.2.1)))).2 g2.1.2.1 = E + 1 := q5
    have l6 := l5.ext w5 x6 (by decide) (by omega)
    have w6 := x6.wf
    generalize pg_put g5 g2.1.2.1 (.inr (7, [.int 0, .int 0, .null, .null, .int 0].set 2 (.ref g3.1.2.1))) = g6 at *
    rw [show (7 : Int32) = nI 7 from rfl, pg_lenN (by decide), pg_o1]
    refine pg_T.nA (t := τs) w6 (by decide) (by decide) ?_
    have x7 := pg_new_ext (W := fun _ => False) (t := τs) (e := .inl (2, 7, .inl (fun _ => 0))) w6
    have p7 := x7.at w6 p6 (fun h => h)
    have q7 : (pg_new g6 τs (.inl (2, 7, .inl (fun _ => 0)))).2 g2.1.2.1 = E + 1 := by rw [x7.tag w6 p6]; exact q6
    have l7 := l6.ext w6 x7 (by decide) (fun h => h)
    have s7 := pg_new_self g6 τs (.inl (2, 7, .inl (fun _ => 0)))
    have su7 := pg_new_tag g6 τs (.inl (2, 7, .inl (fun _ => 0)))
    have w7 := x7.wf
    generalize pg_new g6 τs (.inl (2, 7, .inl (fun _ => 0))) = g7 at *
    have x8 := pg_put_ext (W := fun t => t = E + 1) (e := .inr (7, ([.int 0, .int 0, .null, .null, .int 0].set 2 (.ref g3.1.2.1)).set 3 (.ref g6.1.2.1))) w7 p7 q7 (by simp [pg_kd])
    refine pg_T.p w7 p7 (by simp) (by rw [q7]; omega) (Or.inl q7) ?_
    have p8 := pg_put_self g7 g2.1.2.1 (.inr (7, ([.int 0, .int 0, .null, .null, .int 0].set 2 (.ref g3.1.2.1)).set 3 (.ref g6.1.2.1)))
    have l8 := l7.ext w7 x8 (by decide) (by omega)
    have s8 := x8.at w7 s7 (by rw [su7]; omega)
    have w8 := x8.wf
    have q8 : (pg_put g7 g2.1.2.1 (.inr (7, ([.int 0, .int 0, .null, .null, .int 0].set 2 (.ref g3.1.2.1)).set 3 (.ref g6.1.2.1)))).2 g2.1.2.1 = E + 1 := q7
    have su8 : (pg_put g7 g2.1.2.1 (.inr (7, ([.int 0, .int 0, .null, .null, .int 0].set 2 (.ref g3.1.2.1)).set 3 (.ref g6.1.2.1)))).2 g6.1.2.1 = τs := su7
    generalize pg_put g7 g2.1.2.1 (.inr (7, ([.int 0, .int 0, .null, .null, .int 0].set 2 (.ref g3.1.2.1)).set 3 (.ref g6.1.2.1))) = g8 at *
    rw [bI_z, pg_o1]
    have x9 := pg_put_ext (W := fun t => t = E + 1) (e := .inr (7, (([.int 0, .int 0, .null, .null, .int 0].set 2 (.ref g3.1.2.1)).set 3 (.ref g6.1.2.1)).set 0 (.int (bI out)))) w8 p8 q8 (by simp [pg_kd])
    exact pg_T.p w8 p8 (by simp) (by rw [q8]; omega) (Or.inl q8) (pg_T.ret x9.wf ⟨_, _, pg_put_self _ _ _, q8, l8.ext w8 x9 (by decide) (by omega), x9.at w8 s8 (by rw [su8]; omega), su8⟩)
  · obtain ⟨l, sa, hO⟩ := hp
    have o8 := x8.at w3 o3 (by rw [u3]; omega)
    have u8 : g8.2 a1 = E := by rw [x8.tag w3 o3]; exact u3
    have x9 := pg_put_ext (W := fun t => t = E) (e := .inr (8, (([.null, .int 0, .null, .int 0].set 1 (.int (-1))).set 2 (va_rf (some s))).set 0 (.ref g2.1.2.1))) x8.wf o8 u8 (by simp [pg_kd])
    refine pg_T.p x8.wf o8 (by simp) (by rw [u8]; omega) (by rw [u8]; exact Nat.le_refl _) (pg_T.ret x9.wf ⟨g2.1.2.1, ⟨pg_put_self _ _ _, u8⟩, l, sa, 0, [], hO.ext x8.wf x9 (by omega) (by omega) (by omega), rfl, by decide, fun i hi => absurd hi (Nat.not_lt_zero _), bs_eq bs_z (fun j _ => by rw [dpf_out (Nat.zero_le _)])⟩)
/-- the reader, from its making to its end -/
def rdp (a : Nat) (out : Int32) (μ : vg_M) : vg_R Nat :=
  vg_nw 4 μ.2.1 (vg_nO μ 8 [.null, .int 0, .null, .int 0]) fun a1 μ2 =>
  vg_cv 13 a μ2 (fX10_takeText a μ2) fun x3 μ4 =>
  vg_b (fX5_init a1 x3 out μ4) fun _ μ6 =>
  vg_cv 8 a1 μ6 (fX5_read a1 μ6) fun _ μ8 => vg_ret a1 μ8
theorem cG_rdp (h : cGx g a tb tr ql wk ans pb A sn rd qx B t T fr qs plc an lk) (hτ : τs < 100) : pg_T (rdp a (bI out) g.1) 293 3100 (fun s => s = 2) g (fun a1 g' => bu_B g' 2 tb [] ∧ ∃ x r, g'.1.1 a1 = some (.inr (8, .ref x :: .int (iP (pp t)) :: r)) ∧ g'.2 a1 = 0 ∧ ∀ q, pp t = .inl q → cq_P g' 0 τs x (out, q.1, q.2) (fun _ => 0)) := by
  obtain ⟨⟨a1, a2⟩, a3, _, _, _, _, _, _, a14, a15, a16, a17⟩ := id h
  have hE : 100 ≤ pg_fr g + 100 := by omega
  refine pg_T.freshN (P := fun r g' => r = g.1.2.1 ∧ bu_B g' 2 tb [] ∧ ∃ x s p', cr_R g' (pg_fr g + 100) g.1.2.1 x (iP (pp t)) s p' ∧ ∀ q, pp t = .inl q → cr_P g' (pg_fr g + 100) x τs out q.2 q.1) a15 ?_ (fun r g' hx hp => ?_)
  · generalize pg_fr g + 100 = E at *
    unfold rdp
    refine pg_T.nO (t := E) a15 (by decide) (by decide) ?_
    have x1 := pg_new_ext (W := fun _ => False) (t := E) (e := .inr (8, [.null, .int 0, .null, .int 0])) a15
    have o1 := pg_new_self g E (.inr (8, [.null, .int 0, .null, .int 0]))
    have u1 := pg_new_tag g E (.inr (8, [.null, .int 0, .null, .int 0]))
    have h1 := h.ext x1
    generalize pg_new g E (.inr (8, [.null, .int 0, .null, .int 0])) = g1 at *
    obtain ⟨⟨b1, b2⟩, _⟩ := id h1
    rw [pg_cv b1]
    refine pg_T.b h1.take (fun s h => Or.inl h) (by decide) (by decide) (fun r g2 x2 hp2 => ?_)
    obtain ⟨s, rfl, hs, h2⟩ := hp2
    obtain ⟨w2, c2, -⟩ := h2.w
    have hb2 : bu_B g2 2 tb [] := h2.2.1
    have o2 := x2.at x1.wf o1 (by rw [u1]; omega)
    have u2 : g2.2 g.1.2.1 = E := by rw [x2.tag x1.wf o1]; exact u1
    refine pg_T.b (cr_new (out := out) w2 c2 hE hτ o2 u2 hs) (fun s h => Or.inr h) (by decide) (by decide) (fun r g3 x3 hp3 => ?_)
    obtain ⟨x, hR, hP⟩ := hp3
    have w3 := x3.wf
    have hs3 := hs.ext w2 x3 (by omega)
    have c3 := c2.ext w2 x3 (by omega)
    have hb3 := hb2.ext w2 x3 (by omega)
    rw [pg_cv hR.1]
    refine pg_T.b (cr_read w3 c3 hE hτ a16 hR hs3 hP) (fun s h => Or.inr h) (by decide) (by decide) (fun r g4 x4 hp4 => pg_T.ret x4.wf ?_)
    obtain ⟨⟨p', hR4⟩, hP4⟩ := hp4
    exact ⟨rfl, hb3.ext w3 x4 (by omega), x, s, p', hR4, hP4⟩
  · obtain ⟨rfl, hb, x, s, p', hR, hP⟩ := hp
    exact ⟨hb.rN (by omega), x, _, hR.1, pg_rN_E (by rw [hR.2]; exact Nat.le_refl _), fun q hq => (hP q hq).rN (by omega)⟩
theorem cG.mono {B' : Nat} (h : cG g a B t T fr qs plc an lk) (hB : B ≤ B') : cG g a B' t T fr qs plc an lk := by
  obtain ⟨tb, tr, ql, wk, ans, pb, A, sn, rd, qx, a1, a3, a4, ⟨a6, a7, a8⟩, rest⟩ := h
  exact ⟨tb, tr, ql, wk, ans, pb, A, sn, rd, qx, a1, a3, a4, ⟨a6, a7, fun q hq => Nat.le_trans (a8 q hq) hB⟩, rest⟩
theorem cGx.place {plc' : Int32} (h : cGx g a tb tr ql wk ans pb A sn rd qx B t T fr qs plc an lk) : pg_Ext (fun s => s = 7) g (pg_put g a (.inr (13, [.ref tb, .ref tr, .ref ql, .ref wk, .int plc].set 4 (.int plc')))) ∧ cGx (pg_put g a (.inr (13, [.ref tb, .ref tr, .ref ql, .ref wk, .int plc].set 4 (.int plc')))) a tb tr ql wk ans pb A sn rd qx B t T fr qs plc' an lk := by
  obtain ⟨⟨a1, a2⟩, a3, ⟨a4, a5⟩, ⟨a6, a7, a8⟩, ⟨a9, a10⟩, a11, a12, a13, a14, a15, a16, a17⟩ := h
  have he := pg_put_ext (W := fun s => s = 7) (e := .inr (13, [.ref tb, .ref tr, .ref ql, .ref wk, .int plc].set 4 (.int plc'))) a15 a1 a2 (by simp [pg_kd])
  exact ⟨he, ⟨pg_put_self _ _ _, a2⟩, a3.ext a15 he (by decide), ⟨a4.ext a15 he (by decide), a5.ext a15 he (by decide) (fun s hs h => by omega)⟩, ⟨a6.ext a15 he (by decide) (by decide) (fun s h1 h2 h => by omega), a7, a8⟩, ⟨he.at a15 a9 (by rw [a10]; decide), by rw [he.tag a15 a9, a10]⟩, a11.ext a15 he (by decide), a12.ext a15 he (by decide) (by decide) (by decide), a13, a14.ext a15 he (by decide), he.wf, a16, a17⟩
theorem ins_len {Q : sQ} : (ins Q).length = (Q.2.filter (fun P => decide (P.1 = false))).length ∧ (outs Q).length = (Q.2.filter (fun P => decide (P.1 = true))).length ∧ Q.2.length = (ins Q).length + (outs Q).length := by
  unfold ins outs
  obtain ⟨t0, L⟩ := Q
  show (L.filter _).length = _ ∧ (L.filter _).length = _ ∧ L.length = _
  induction L with
  | nil => exact ⟨rfl, rfl, rfl⟩
  | cons P L ih =>
    obtain ⟨i1, i2, i3⟩ := ih
    simp only [List.filter_cons]
    cases hP : P.1 <;> simp [i1, i2, i3] <;> omega
theorem cG_pattern {q : Int32} {out : Bool} (h : cG g a B t T fr qs plc an lk) : pg_T (fX10_pattern a q (bI out) g.1) 300 3200 (fun s => 2 ≤ s) g (fun r g' => r = (if (spat t qs q out).1 = 0 then .inl () else .inr (spat t qs q out).1) ∧ cG g' a (B + 1) [] T (if (spat t qs q out).1 = 0 then frN fr q.toNatClampNeg else fr) (spat t qs q out).2 (iP (pp t)) an lk) := by
  obtain ⟨tb, tr, ql, wk, ans, pb, A, sn, rd, qx, h⟩ := h
  obtain ⟨⟨a1, a2⟩, a3, _, ⟨⟨b1, b2, b3, b4⟩, _⟩, _, _, _, _, a14, a15, a16, a17⟩ := id h
  have e : fX10_pattern a q (bI out) g.1 = vg_b (rdp a (bI out) g.1) (fun a1 μ8 =>
      vg_o (vg_gI μ8 a1 8 1) fun x9 => vg_o (vg_p μ8 a 13 4 (.int x9)) fun μ10 => vg_cv 13 a μ10 (fX10_queryAt a q μ10) fun x11 μ12 => vg_m x11 (vg_thr 1 μ12) fun a13 => (vg_o (vg_gI μ12 a 13 4) fun x14 => if x14 = ((-1)) then (vg_cv 10 a13 μ12 (fX7_hasRoomFor a13 (bI out) μ12) fun x15 μ16 => if x15 = 0 then (vg_thr 2 μ16) else (vg_o (vg_gR μ16 a1 8 0) fun x17 => vg_cv 10 a13 μ16 (fX7_add a13 x17 μ16) fun _ μ19 => vg_ret (.inl ()) μ19)) else (vg_thr 1 μ12))) := by
    unfold rdp
    rw [b_nw]
    simp only [b_cv, b_b, b_r]
    rfl
  rw [e]
  obtain ⟨τs, hτ, hτq⟩ : ∃ τs, τs < 100 ∧ ∀ k, q = nI k → k < qs.length → τs = 30 + 8 * k + (qs.getD k ([], [])).2.length := by
    by_cases hv : q < 0 ∨ nI qs.length ≤ q
    · exact ⟨99, by decide, fun k hk hkl => absurd hv (by rw [hk]; exact fun hh => hh.elim (nI_pos (by omega)) (nI_ge hkl (by omega)))⟩
    · obtain ⟨k, hk, hkl, -⟩ := qAt_nat hv b3
      obtain ⟨⟨fs, p, l, xs, q1, q2, q3, q4, q5, q6⟩, h4, h5, -⟩ := b4 k hkl
      refine ⟨30 + 8 * k + (qs.getD k ([], [])).2.length, by omega, fun k' hk' hkl' => ?_⟩
      rw [hk] at hk'
      rw [(nI_eq (by omega) (by omega)).mp hk']
  refine pg_T.b (cG_rdp (out := out) h hτ) (fun s h => by omega) (by decide) (by decide) (fun a1' g1 x1 hp1 => ?_)
  obtain ⟨hb1, x, r, o1, u1, hpat⟩ := hp1
  have h1 := h.txt x1 (fun _ h => h) hb1 (by decide) (fun c hc => by cases hc)
  obtain ⟨w1, -, -⟩ := h1.w
  obtain ⟨⟨c1, c2⟩, _⟩ := id h1
  rw [pg_gI o1 (k := 1) rfl, pg_o1]
  obtain ⟨x2, h2⟩ := h1.place (plc' := iP (pp t))
  refine pg_T.p w1 c1 (by simp) (by rw [c2]; decide) (by rw [c2]; decide) ?_
  have o2 := x2.at w1 o1 (by rw [u1]; decide)
  have hpat2 : ∀ q, pp t = .inl q → cq_P (pg_put g1 a (.inr (13, [.ref tb, .ref tr, .ref ql, .ref wk, .int plc].set 4 (.int (iP (pp t)))))) 0 τs x (out, q.1, q.2) (fun _ => 0) := by
    intro P hP
    by_cases h7 : τs = 7
    · -- no pattern bears this owner
      refine (hpat P hP).imp (fun l hl => ?_)
      obtain ⟨sa, dv, pcs, q1, q2, q3, q4, q5, q6, q7, q8, q9⟩ := hl
      have hne : sa ≠ a := fun e => by rw [e, c1] at q8; cases q8
      exact ⟨sa, dv, pcs, x2.at w1 q1 (by rw [q2]; decide), by rw [x2.tag w1 q1, q2], q3.ext w1 x2 (by decide) (by decide), q4, q5, fun i hi => (q6 i hi).ext w1 x2 (by decide) (by decide), q7, by rw [pg_put_ne _ _ hne]; exact q8, q9⟩
    · exact (hpat P hP).ext w1 x2 (by decide) (by decide) h7
  generalize pg_put g1 a (.inr (13, [.ref tb, .ref tr, .ref ql, .ref wk, .int plc].set 4 (.int (iP (pp t))))) = g2 at *
  obtain ⟨⟨d1, d2⟩, d3, ⟨d4, d5⟩, ⟨⟨e1, e2, e3, e4⟩, d7, d8⟩, ⟨d9, d10⟩, d11, d12, d13, d14, d15, d16, d17⟩ := id h2
  have hG2 : cG g2 a (B + 1) [] T fr qs (iP (pp t)) an lk := cG.mono ⟨tb, tr, ql, wk, ans, pb, A, sn, rd, qx, h2⟩ (by omega)
  rw [pg_cv d1, h2.qAt, pg_b0]
  unfold spat
  by_cases hv : q < 0 ∨ nI qs.length ≤ q
  · rw [if_pos hv, if_pos hv]
    exact pg_T.thr x2.wf (by decide) (by decide) ⟨rfl, hG2⟩
  · rw [if_neg hv, if_neg hv]
    obtain ⟨k, hk, hkl, hkc⟩ := qAt_nat hv b3
    rw [hkc]
    have hτk := hτq k hk hkl
    obtain ⟨⟨fs, hQ⟩, hins, houts, hpok⟩ := e4 k hkl
    generalize hQQ : qs.getD k ([], []) = Q at *
    generalize hqa : qx.getD k 0 = qa at *
    obtain ⟨pq, lq, xs, oq, oqt, hPq, hlq, h8, hcl⟩ := id hQ
    show pg_T (vg_o (vg_gI g2.1 a 13 4) _) _ _ _ _ _
    rw [pg_gI d1 (k := 4) rfl, pg_o1]
    cases hpp : pp t with
    | inr e =>
      have he := pp_go_le a16 7 [] 0 false e (Nat.zero_le _) hpp
      rw [hpp] at hG2
      rw [if_neg (by show ¬ nI e = -1; rw [li_m1 (by omega)]; exact fun h => h)]
      exact pg_T.thr x2.wf (by decide) (by decide) ⟨rfl, hG2⟩
    | inl P =>
      rw [hpp] at hG2
      rw [if_pos (show iP (Sum.inl P : (List (List (List Nat)) × Bool) ⊕ Nat) = -1 from rfl), pg_cv oq, cQ_room hQ, pg_b0]
      obtain ⟨i1, i2, i3⟩ := ins_len (Q := Q)
      have hroom : ((if out = true then outs Q else ins Q).length = 4) ↔ ¬ (Q.2.filter (fun P => decide (P.1 = out))).length < 4 := by
        cases out with
        | true => rw [if_pos rfl, i2]; omega
        | false => rw [if_neg (by decide), i1]; omega
      by_cases hr : (Q.2.filter (fun P => decide (P.1 = out))).length < 4
      · have hn4 : ¬ (if out = true then outs Q else ins Q).length = 4 := fun hh => hroom.mp hh hr
        rw [decide_eq_true hr, bI_t, if_neg (by decide), pg_gR o2 (k := 0) rfl, pg_o1, pg_cv oq]
        simp only [if_neg hn4]
        have hlen7 : Q.2.length < 8 := by
          cases out with
          | true => rw [if_pos rfl] at hn4; omega
          | false => rw [if_neg (by decide)] at hn4; omega
        have hPx := hpat2 P hpp
        obtain ⟨fsx, hxo⟩ := hPx.obj
        obtain ⟨fl, hlo⟩ := pl_is hlq
        unfold fX7_add
        rw [pg_gR oq (k := 2) rfl, pg_o1, pg_o1, pg_cv hlo]
        refine pg_T.b (C1 := 1) (N1 := 26) (W1 := fun s => s = 10 + k ∨ s = 20 + k) (P := fun _ g' => ∃ fs', cQ g' k qa (Q.1, Q.2 ++ [(out, P.1, P.2)]) (rd k + 1) fs') ?_ (fun s h => by omega) (by decide) (by decide) (fun r g5 x5 hQ5 => pg_T.ret x5.wf ?_)
        · refine pg_T.b (pl_add d15 d14 (Or.inr (Or.inr (Or.inl rfl))) hlq (by omega) ⟨_, hxo⟩ (by rw [hcl.1]; omega)) (fun s h => Or.inr h) (by omega) (by rw [hcl.1]; omega) (fun r g3 x3 l3 => ?_)
          have oq3 := x3.at d15 oq (by rw [oqt]; omega)
          have oqt3 : g3.2 qa = 10 + k := by rw [x3.tag d15 oq]; exact oqt
          rw [pg_gI oq3 (k := 3) rfl, pg_o1, nI_1]
          have x4 := pg_put_ext (W := fun s => s = 10 + k) (e := .inr (10, [.ref pq, .int (nI k), .ref lq, .int (nI (rd k))].set 3 (.int (nI (rd k + 1))))) x3.wf oq3 oqt3 (by simp [pg_kd])
          refine pg_T.p x3.wf oq3 (by simp) (by rw [oqt3]; omega) (Or.inl oqt3) (pg_T.ret x4.wf ⟨va_up fs Q.2.length (fun _ => 0), pq, lq, xs ++ [x], pg_put_self _ _ _, oqt3, (hPq.ext d15 x3 (by omega) (by omega)).ext x3.wf x4 (by omega) (by omega), l3.ext x3.wf x4 (by decide) (by omega), ?_, ?_, fun i hi => ?_⟩)
          · show (Q.2 ++ [(out, P.1, P.2)]).length ≤ 8
            rw [List.length_append]; show Q.2.length + 1 ≤ 8; omega
          · show (xs ++ [x]).length = (Q.2 ++ [(out, P.1, P.2)]).length
            rw [List.length_append, List.length_append, hcl.1]; rfl
          · have hi : i < (Q.2 ++ [(out, P.1, P.2)]).length := hi
            rw [List.length_append] at hi
            have hi : i < Q.2.length + 1 := hi
            show cq_P _ 0 (30 + 8 * k + i) ((xs ++ [x]).getD i 0) ((Q.2 ++ [(out, P.1, P.2)]).getD i (false, [], false)) _
            rw [getD_snoc, getD_app, hcl.1]
            by_cases hie : i = Q.2.length
            · rw [if_neg (by omega), if_pos hie, if_neg (by omega), if_pos hie, hie, va_up_self, ← hτk]
              exact (hPx.ext d15 x3 (by omega) (by omega) (by omega)).ext x3.wf x4 (by omega) (by omega) (by omega)
            · rw [if_pos (by omega), if_pos (by omega), va_up_ne _ _ hie]
              exact ((hcl.2 i (by omega)).ext d15 x3 (by omega) (by omega) (by omega)).ext x3.wf x4 (by omega) (by omega) (by omega)
        · obtain ⟨fs5, hQ5⟩ := hQ5
          rw [hpp] at d1
          refine ⟨rfl, tb, tr, ql, wk, ans, pb, A, sn, va_up rd k (rd k + 1), qx, ⟨x5.at d15 d1 (by rw [d2]; omega), by rw [x5.tag d15 d1, d2]⟩, d3.ext d15 x5 (by omega), ⟨d4.ext d15 x5 (by omega), d5.ext d15 x5 (by omega) (fun s hs h => by omega)⟩, ⟨⟨e1.ext d15 x5 (by decide) (by omega), by rw [List.length_set]; exact e2, by rw [List.length_set]; exact e3, fun q' hq' => ?_⟩, ⟨fun q' hq' => ?_, fun j hj hl => ?_⟩, fun q' hq' => ?_⟩, ⟨x5.at d15 d9 (by rw [d10]; omega), by rw [x5.tag d15 d9, d10]⟩, d11.ext d15 x5 (by omega), d12.ext d15 x5 (by omega) (by omega) (by omega), d13, d14.ext d15 x5 (by omega), x5.wf, d16, d17⟩
          · rw [List.length_set] at hq'
            by_cases hqq : q' = k
            · subst hqq
              have eg : (qs.set q' (Q.1, Q.2 ++ [(out, P.1, P.2)])).getD q' ([], []) = (Q.1, Q.2 ++ [(out, P.1, P.2)]) := by
                rw [List.getD_eq_getElem?_getD, List.getElem?_set_self (by omega)]; rfl
              rw [eg, hqa, va_up_self]
              refine ⟨⟨fs5, hQ5⟩, ?_, ?_, hpok⟩
              · show ((Q.2 ++ [(out, P.1, P.2)]).filter (fun P => !P.1)).length ≤ 4
                rw [List.filter_append, List.length_append]
                show (ins Q).length + _ ≤ 4
                cases out with
                | true => show (ins Q).length + 0 ≤ 4; omega
                | false => rw [if_neg (by decide)] at hn4; show (ins Q).length + 1 ≤ 4; omega
              · show ((Q.2 ++ [(out, P.1, P.2)]).filter (fun P => P.1)).length ≤ 4
                rw [List.filter_append, List.length_append]
                show (outs Q).length + _ ≤ 4
                cases out with
                | true => rw [if_pos rfl] at hn4; show (outs Q).length + 1 ≤ 4; omega
                | false => show (outs Q).length + 0 ≤ 4; omega
            · have eg : (qs.set k (Q.1, Q.2 ++ [(out, P.1, P.2)])).getD q' ([], []) = qs.getD q' ([], []) := by
                rw [List.getD_eq_getElem?_getD, List.getElem?_set_ne (Ne.symm hqq), ← List.getD_eq_getElem?_getD]
              rw [eg, va_up_ne _ _ hqq]
              obtain ⟨⟨fs', k1⟩, k2⟩ := e4 q' hq'
              exact ⟨⟨fs', k1.ext d15 x5 (by omega) (by omega) (by omega) (fun i hi => by omega)⟩, k2⟩
          · rw [List.length_set] at hq'
            by_cases hqq : q' = k
            · rw [hqq, va_up_self]; omega
            · rw [va_up_ne _ _ hqq]; exact d7.1 q' hq'
          · obtain ⟨k1, k2⟩ := d7.2 j hj hl
            rw [List.length_set]
            refine ⟨fun q' hq' => ?_, k2⟩
            show frN fr k q' j = _ ∧ _
            unfold frN
            by_cases hqq : q' = k
            · have := (k1 k hkl).2
              rw [hqq, va_up_self, decide_eq_true rfl, Bool.true_or, decide_eq_true (by omega)]
              exact ⟨rfl, by omega⟩
            · rw [va_up_ne _ _ hqq, decide_eq_false hqq, Bool.false_or]
              exact k1 q' hq'
          · rw [List.length_set] at hq'
            by_cases hqq : q' = k
            · rw [hqq, va_up_self]; have := d8 k hkl; omega
            · rw [va_up_ne _ _ hqq]; have := d8 q' hq'; omega
      · have hn4 : (if out = true then outs Q else ins Q).length = 4 := hroom.mpr hr
        rw [decide_eq_false hr, bI_f, if_pos rfl]
        simp only [if_pos hn4]
        exact pg_T.thr x2.wf (by decide) (by decide) ⟨rfl, hG2⟩
end
