/-! pack, query. -/
section
variable {g g' : pg_G} {W : Nat → Prop} {a tb tr ql wk ans pb B lk : Nat} {A : Nat → Nat} {sn : Nat → Nat → Nat} {rd : Nat → Nat} {qx : List Nat} {t : List Nat} {T : sT} {fr : Nat → Nat → Bool} {qs : List sQ} {plc : Int32} {an : List (List Nat)}
theorem cT.tpk {k : Nat} {on : Bool} (h : cT g A T sn) (hk : k ≤ 60) (hl : 0 < kd T k) (hg : pg_Wf g) (hx : pg_Ext W g g') (h0 : ¬ W 0) (hw : ∀ t, 100 ≤ t → W t → 100 + 3 * A k ≤ t ∧ t ≤ 102 + 3 * A k) (hN : cn_N g' (A k) (nm T k) (if k = 60 then none else some (A (pa T k))) (decide (kd T k = 2)) ((ch T k).map A) on (sn k)) : cT g' A (tpk T k on) sn := by
  refine ⟨fun j hj hjl => ?_, fun j j' hj hj' hl' hl'' e => ?_, fun j hj => by rw [tpk_o.1]; exact h.2.2 j hj⟩
  · rw [tpk_o.1] at hjl
    rw [tpk_o.1, tpk_o.2.1, tpk_o.2.2.1, tpk_o.2.2.2.1, tpk_o.2.2.2.2.2]
    by_cases hjk : j = k
    · rw [if_pos hjk, hjk]; exact hN
    · rw [if_neg hjk]
      have hA : A j ≠ A k := fun e => hjk (h.2.1 j k hj hk hjl hl e)
      exact (h.1 j hj hjl).ext hg hx h0 (fun i hi hWt => by have := hw _ (by omega) hWt; omega)
  · rw [tpk_o.1] at hl' hl''
    exact h.2.1 j j' hj hj' hl' hl'' e
theorem tnum_tpk {k : Nat} {on : Bool} : tnum (tpk T k on) 60 0 = tnum T 60 0 := tnum_eq 60 0 (fun j _ _ => tpk_o.1)
theorem cG_pack {on : Bool} (h : cG g a B t T fr qs plc an lk) : pg_T (fX10_pack a (bI on) g.1) 188 5670 (fun s => 2 ≤ s) g (fun r g' => r = (if (spack t T fr on).1 = 0 then .inl () else .inr (spack t T fr on).1) ∧ cG g' a B [] (spack t T fr on).2.1 (spack t T fr on).2.2 qs plc an lk) := by
  obtain ⟨tb, tr, ql, wk, ans, pb, A, sn, rd, qx, h⟩ := h
  obtain ⟨⟨a1, a2⟩, _⟩ := id h
  rw [fX10_pack, pg_gR a1 (k := 1) rfl, pg_o1, pg_cx a1]
  unfold spack
  refine pg_T.bx h.takeP (fun s h => by omega) (by decide) (by decide) (fun r g1 x1 hp => ?_) (fun k g1 x1 hp => ?_)
  · obtain ⟨h1, hp⟩ := hp
    cases hpt : pt t with
    | none => rw [hpt] at hp; cases hp
    | some sp =>
      rw [hpt] at hp
      obtain ⟨p, hr, hP⟩ := hp
      cases hr
      obtain ⟨_, _, ⟨b4, b5⟩, ⟨b6, b7, b8⟩, _, _, _, b13, b14, b15, _⟩ := id h1
      have hle := tg_le (T := T) (wd t sp) 60 (Nat.le_refl _)
      rw [wd_len] at hle
      simp only
      rw [pg_o1, pg_cv b4.1]
      refine pg_T.b (cT_at b13 b15 b14 b5 b4 hP) (fun _ h => h.elim) (by decide) (by decide) (fun r g2 x2 hp2 => ?_)
      have h2 := h1.ext x2
      have no : ((tg T (wd t sp) 60).2 < sp.length ∨ kd T (tg T (wd t sp) 60).1 ≠ 2 ∨ pk T (tg T (wd t sp) 60).1 = on) → pg_T (vg_thr 2 g2.1) (188 - 128 - 12) (5670 - 4070 - 72) (fun s => 2 ≤ s) g2 (fun (r : Unit ⊕ Nat) g' => r = (if (if (tg T (wd t sp) 60).2 < sp.length ∨ kd T (tg T (wd t sp) 60).1 ≠ 2 ∨ pk T (tg T (wd t sp) 60).1 = on then (2, T, fr) else (0, tpk T (tg T (wd t sp) 60).1 on, frT fr (pa T (tg T (wd t sp) 60).1))).1 = 0 then .inl () else .inr (if (tg T (wd t sp) 60).2 < sp.length ∨ kd T (tg T (wd t sp) 60).1 ≠ 2 ∨ pk T (tg T (wd t sp) 60).1 = on then (2, T, fr) else (0, tpk T (tg T (wd t sp) 60).1 on, frT fr (pa T (tg T (wd t sp) 60).1))).1) ∧ cG g' a B [] (if (tg T (wd t sp) 60).2 < sp.length ∨ kd T (tg T (wd t sp) 60).1 ≠ 2 ∨ pk T (tg T (wd t sp) 60).1 = on then (2, T, fr) else (0, tpk T (tg T (wd t sp) 60).1 on, frT fr (pa T (tg T (wd t sp) 60).1))).2.1 (if (tg T (wd t sp) 60).2 < sp.length ∨ kd T (tg T (wd t sp) 60).1 ≠ 2 ∨ pk T (tg T (wd t sp) 60).1 = on then (2, T, fr) else (0, tpk T (tg T (wd t sp) 60).1 on, frT fr (pa T (tg T (wd t sp) 60).1))).2.2 qs plc an lk) := by
        intro hc
        rw [if_pos hc]
        exact pg_T.thr x2.wf (by decide) (by decide) ⟨rfl, tb, tr, ql, wk, ans, pb, A, sn, rd, qx, h2⟩
      by_cases hf : (tg T (wd t sp) 60).2 < sp.length
      · rw [if_neg (by omega)] at hp2
        rw [hp2]
        exact no (Or.inl hf)
      · rw [if_pos (by omega)] at hp2
        rw [hp2]
        obtain ⟨⟨c1, c2⟩, _, ⟨c4, c5⟩, ⟨c6, c7, c8⟩, _, _, _, c13, c14, c15, _⟩ := id h2
        have h60 := tg_60 (T := T) (wd t sp) 60 (by rw [wd_len]; omega) (fun e => by have h1 := congrArg List.length e; rw [wd_len, List.length_nil] at h1; have h2 := (pt_ok hpt).2.2; omega)
        generalize hk : (tg T (wd t sp) 60).1 = k at *
        obtain ⟨s, c, e, o1, o2, o3, o4⟩ := id (c5.1 k (by omega) h60.2)
        show pg_T (vg_o (vg_gI g2.1 (A k) 4 2) _) _ _ _ _ _
        rw [pg_gI o1.1 (k := 2) rfl, pg_o1]
        by_cases hkd : kd T k = 2
        · rw [decide_eq_true hkd, bI_t, if_neg (by decide), pg_gI o1.1 (k := 5) rfl, pg_o1]
          have hbI : (bI (pk T k) = bI on) ↔ pk T k = on := by cases pk T k <;> cases on <;> decide
          by_cases hpk : pk T k = on
          · rw [if_pos (hbI.mpr hpk)]
            exact no (Or.inr (Or.inr hpk))
          · have hcond : ¬ ((tg T (wd t sp) 60).2 < sp.length ∨ kd T k ≠ 2 ∨ pk T k = on) := fun hh => hh.elim hf (fun hh => hh.elim (fun hh => hh hkd) hpk)
            rw [if_neg (fun hh => hpk (hbI.mp hh)), bI_z, pg_o1, if_neg hcond]
            have hpn : pa T k ≤ 60 := (c13.2.2.2.2.1 k h60.1 h60.2).2.1
            have hp2' := c13.kdn h60.1 h60.2
            have hpl : 0 < kd T (pa T k) := by rw [hp2']; decide
            have hne : pa T k ≠ k := fun e => by
              have := (c13.2.2.2.2.1 k h60.1 h60.2).2.2.2.1
              rw [e] at this; omega
            rw [if_neg (by omega)] at o1
            have x3 := pg_put_ext (W := fun s => s = 100 + 3 * A k) (e := .inr (4, [.ref s, va_rf (some (A (pa T k))), .int (bI (decide (kd T k = 2))), .ref c, .ref e, .int (bI (pk T k))].set 5 (.int (bI on)))) c15 o1.1 o1.2 (by simp [pg_kd])
            refine pg_T.p c15 o1.1 (by simp) (by rw [o1.2]; omega) (by rw [o1.2]; omega) ?_
            have q3 := pg_put_self g2 (A k) (.inr (4, [.ref s, va_rf (some (A (pa T k))), .int (bI (decide (kd T k = 2))), .ref c, .ref e, .int (bI (pk T k))].set 5 (.int (bI on))))
            have hN3 : cn_N (pg_put g2 (A k) (.inr (4, [.ref s, va_rf (some (A (pa T k))), .int (bI (decide (kd T k = 2))), .ref c, .ref e, .int (bI (pk T k))].set 5 (.int (bI on))))) (A k) (nm T k) (if k = 60 then none else some (A (pa T k))) (decide (kd T k = 2)) ((ch T k).map A) on (sn k) := by
              rw [if_neg (by omega)]
              exact ⟨s, c, e, ⟨q3, o1.2⟩, o2.ext c15 x3 (by omega), o3.ext c15 x3 (by decide) (by omega), o4.ext c15 x3 (by omega)⟩
            have hT3 := c5.tpk (on := on) (by omega) h60.2 c15 x3 (by omega) (fun t h1 h2 => by omega) hN3
            have x3w : pg_Ext (fun s => 100 ≤ s ∨ s = 5) g2 (pg_put g2 (A k) (.inr (4, [.ref s, va_rf (some (A (pa T k))), .int (bI (decide (kd T k = 2))), .ref c, .ref e, .int (bI (pk T k))].set 5 (.int (bI on))))) := x3.mono (fun s h => by omega)
            have w3 := x3.wf
            have ho3 := c4.ext c15 x3 (by omega)
            generalize pg_put g2 (A k) (.inr (4, [.ref s, va_rf (some (A (pa T k))), .int (bI (decide (kd T k = 2))), .ref c, .ref e, .int (bI (pk T k))].set 5 (.int (bI on)))) = g3 at *
            have hNp := hT3.1 (pa T k) hpn (by rw [tpk_o.1]; exact hpl)
            obtain ⟨_, _, _, op, -⟩ := id hNp
            rw [pg_gR q3 (k := 1) rfl, pg_o1]
            simp only [vg_m, pg_o1]
            rw [pg_cv op.1]
            refine pg_T.b (cn_touch w3 hNp) (fun s h => by omega) (Nat.zero_le _) (Nat.zero_le _) (fun r g4 x4 hN4 => ?_)
            have hT4 := hT3.one hpn (by rw [tpk_o.1]; exact hpl) w3 x4 (by omega) (fun t h1 h2 => by omega) hN4
            refine pg_T.ret x4.wf ⟨rfl, tb, tr, ql, wk, ans, pb, A, _, rd, qx, h2.tree (x3w.trans (x4.mono (fun s h => by omega))) (fun s h => h) hT4 ?_ ?_ (c13.tpk h60.1 hkd)⟩
            · rw [tnum_tpk]; exact ho3.ext w3 x4 (by omega)
            · refine ⟨c7.1, fun j hj hjl => ?_⟩
              rw [tpk_o.1] at hjl
              exact (c7.touch (node := pa T k)).2 j hj hjl
        · rw [decide_eq_false hkd, bI_f, if_pos rfl]
          exact no (Or.inr (Or.inl hkd))
  · obtain ⟨h1, hp⟩ := hp
    cases hpt : pt t with
    | none => rw [hpt] at hp; cases hp; exact ⟨rfl, tb, tr, ql, wk, ans, pb, A, sn, rd, qx, h1⟩
    | some sp => rw [hpt] at hp; obtain ⟨p, hr, _⟩ := hp; cases hr
theorem vg_nwb {α β γ : Type} {k q : Nat} {μ1 : vg_M} {X : Nat → vg_M → vg_R γ} {f : Nat → vg_M → vg_R β} : vg_nw k q μ1 (fun a m => vg_b (X a m) (fun _ m' => f a m')) = vg_b (vg_nw k q μ1 (fun a m => vg_b (X a m) (fun _ m' => vg_ret a m'))) (fun a m' => f a m') := by
  simp only [vg_nw]
  cases hX : X q μ1 with
  | none => rfl
  | some w =>
    obtain ⟨r, m, c, n⟩ := w
    simp only [vg_b, vg_ret, vg_n]
    cases hf : f q m with
    | none => rfl
    | some z => simp only [Nat.add_zero]; obtain ⟨r', m', c', n'⟩ := z; simp [Nat.add_assoc]
theorem cG_query27 {p : Nat} {t0 : List Nat} (h : cGx g a tb tr ql wk ans pb A sn rd qx B t T fr qs plc an lk) (hP : cp_P g 0 p t0 ((pt t0).getD [])) (hok : t0 = [] ∨ (pt t0).isSome = true) (hB : 1 ≤ B) : pg_T (fX10_query_27 a (some p) g.1) 5 60 (fun s => 2 ≤ s) g (fun r g' => if qs.length = 6 then r = .inr 2 ∧ cG g' a B t T fr qs plc an lk else r = .inl (nI qs.length) ∧ cG g' a B t T (frN fr qs.length) (qs ++ [(t0, [])]) plc an lk) := by
  obtain ⟨⟨a1, a2⟩, a3, ⟨a4, a5⟩, ⟨a6, a7, a8⟩, ⟨a9, a10⟩, a11, a12, a13, a14, a15, a16, a17⟩ := id h
  obtain ⟨b1, b2, b3, b4⟩ := id a6
  obtain ⟨fl, hlo⟩ := pl_is b1
  show pg_T (vg_o (vg_gR g.1 a 13 2) _) _ _ _ _ _
  rw [pg_gR a1 (k := 2) rfl, pg_o1, pg_o1, pg_cv hlo, pl_size b1, pg_b0, b2]
  by_cases h6 : qs.length = 6
  · rw [if_neg (show ¬ nI qs.length < 6 from nI_nlt (b := 6) (by omega) (by omega))]
    refine pg_T.thr a15 (by decide) (by decide) ?_
    rw [if_pos h6]
    exact ⟨rfl, tb, tr, ql, wk, ans, pb, A, sn, rd, qx, h⟩
  · rw [if_pos (show nI qs.length < 6 from nI_lt (b := 6) (by omega) (by decide)), pg_gR a1 (k := 2) rfl, pg_o1]
    have hq6 : qs.length < 6 := by omega
    refine pg_T.nO (t := 10 + qs.length) a15 (by decide) (by decide) ?_
    have x1 := pg_new_ext (W := fun s => s = 10 + qs.length ∨ s = 20 + qs.length ∨ s = 6) (t := 10 + qs.length) (e := .inr (10, [.null, .int 0, .null, .int 0])) a15
    have x1f := pg_new_ext (W := fun _ => False) (t := 10 + qs.length) (e := .inr (10, [.null, .int 0, .null, .int 0])) a15
    have o1 := pg_new_self g (10 + qs.length) (.inr (10, [.null, .int 0, .null, .int 0]))
    have u1 := pg_new_tag g (10 + qs.length) (.inr (10, [.null, .int 0, .null, .int 0]))
    have P1 := hP.ext a15 x1f (fun h => h) (fun h => h)
    generalize hg1 : pg_new g (10 + qs.length) (.inr (10, [.null, .int 0, .null, .int 0])) = g1 at *
    have w1 := x1.wf
    unfold fX7_init
    refine pg_T.b (C1 := 1) (N1 := 3) (W1 := fun s => s = 10 + qs.length ∨ s = 20 + qs.length) (P := fun _ g' => ∃ fs, cQ g' qs.length g.1.2.1 (t0, []) 1 fs) ?_ (fun s h => by omega) (by decide) (by decide) (fun r g5 x5 hQ5 => ?_)
    · refine pg_T.nO (t := 20 + qs.length) w1 (by decide) (by decide) ?_
      have x2 := pg_new_ext (W := fun _ => False) (t := 20 + qs.length) (e := .inr (2, [.int 0, .null, .int 0])) w1
      have o2 := x2.at w1 o1 (fun h => h)
      have u2 : (pg_new g1 (20 + qs.length) (.inr (2, [.int 0, .null, .int 0]))).2 g.1.2.1 = 10 + qs.length := by rw [x2.tag w1 o1]; exact u1
      have l2 := pg_new_self g1 (20 + qs.length) (.inr (2, [.int 0, .null, .int 0]))
      have lu2 := pg_new_tag g1 (20 + qs.length) (.inr (2, [.int 0, .null, .int 0]))
      have P2 := P1.ext w1 x2 (fun h => h) (fun h => h)
      generalize pg_new g1 (20 + qs.length) (.inr (2, [.int 0, .null, .int 0])) = g2 at *
      have w2 := x2.wf
      refine pg_T.b (pl_init (ci := 7) w2 l2 lu2 (by omega)) (fun s h => Or.inr h) (by decide) (by decide) (fun r g3 x3 l3 => ?_)
      have o3 := x3.at w2 o2 (by rw [u2]; omega)
      have u3 : g3.2 g.1.2.1 = 10 + qs.length := by rw [x3.tag w2 o2]; exact u2
      have P3 := P2.ext w2 x3 (by omega) (by omega)
      have put : ∀ (gz : pg_G) (fs : List Value) (k : Nat) (v : Value) (β : Type) (f : vg_M → vg_R β) (C N : Nat) (Q : β → pg_G → Prop), pg_Wf gz → gz.1.1 g.1.2.1 = some (.inr (10, fs)) → gz.2 g.1.2.1 = 10 + qs.length → pl_L gz (20 + qs.length) g1.1.2.1 7 [] → cp_P gz 0 p t0 ((pt t0).getD []) → k < fs.length → (∀ gy, pg_Wf gy → gy.1.1 g.1.2.1 = some (.inr (10, fs.set k v)) → gy.2 g.1.2.1 = 10 + qs.length → pl_L gy (20 + qs.length) g1.1.2.1 7 [] → cp_P gy 0 p t0 ((pt t0).getD []) → pg_T (f gy.1) C N (fun s => s = 10 + qs.length ∨ s = 20 + qs.length) gy Q) → pg_T (vg_o (vg_p gz.1 g.1.2.1 10 k v) f) C N (fun s => s = 10 + qs.length ∨ s = 20 + qs.length) gz Q := by
        intro gz fs k v β f C N Q hz z1 z2 z3 z4 hk kk
        have xx := pg_put_ext (W := fun s => s = 10 + qs.length) (e := .inr (10, fs.set k v)) hz z1 z2 (by simp [pg_kd])
        exact pg_T.p hz z1 hk (by rw [z2]; omega) (Or.inl z2) (kk _ xx.wf (pg_put_self _ _ _) z2 (z3.ext hz xx (by decide) (by omega)) (z4.ext hz xx (by omega) (by omega)))
      refine put g3 _ _ _ _ _ _ _ _ x3.wf o3 u3 l3 P3 (by simp) (fun g4 w4 o4 u4 l4 P4 => ?_)
      refine put g4 _ _ _ _ _ _ _ _ w4 o4 u4 l4 P4 (by simp) (fun g5 w5 o5 u5 l5 P5 => ?_)
      refine put g5 _ _ _ _ _ _ _ _ w5 o5 u5 l5 P5 (by simp) (fun g6 w6 o6 u6 l6 P6 => ?_)
      refine put g6 _ _ _ _ _ _ _ _ w6 o6 u6 l6 P6 (by simp) (fun g7 w7 o7 u7 l7 P7 => ?_)
      exact pg_T.ret w7 ⟨fun _ _ => 0, p, _, [], o7, u7, P7, l7, Nat.zero_le _, rfl, fun i hi => absurd hi (Nat.not_lt_zero _)⟩
    · obtain ⟨fsQ, hQ5⟩ := hQ5
      have x15 := x1.trans (x5.mono (fun s h => by omega))
      have l5 := b1.ext a15 x15 (by decide)
      have nW : ∀ s, s ≠ 10 + qs.length → s ≠ 20 + qs.length → ¬ (s = 10 + qs.length ∨ s = 20 + qs.length) := fun s h1 h2 h3 => h3.elim h1 h2
      have x15' : pg_Ext (fun s => s = 10 + qs.length ∨ s = 20 + qs.length) g g5 := (x1f.mono (fun _ h => h.elim)).trans x5
      have l5 := b1.ext a15 x15' (by decide) (by omega)
      obtain ⟨fl5, hlo5⟩ := pl_is l5
      obtain ⟨p5, lq5, xs5, oq5, -⟩ := id hQ5
      have hC5 := a14.ext a15 x15' (by omega)
      rw [pg_o1, pg_cv hlo5]
      refine pg_T.b (pl_add x5.wf hC5 (Or.inr (Or.inr (Or.inr (Or.inr rfl)))) l5 (by decide) ⟨_, oq5⟩ (by omega)) (fun s h => by omega) (by omega) (by omega) (fun r g6 x6 l6 => pg_T.ret x6.wf ?_)
      rw [if_neg h6]
      have xx : pg_Ext (fun s => s = 10 + qs.length ∨ s = 20 + qs.length ∨ s = 6) g g6 := (x15'.mono (fun s h => by omega)).trans (x6.mono (fun s h => by omega))
      refine ⟨rfl, tb, tr, ql, wk, ans, pb, A, sn, va_up rd qs.length 1, qx ++ [g.1.2.1], ⟨xx.at a15 a1 (by rw [a2]; omega), by rw [xx.tag a15 a1, a2]⟩, a3.ext a15 xx (by omega), ⟨a4.ext a15 xx (by omega), a5.ext a15 xx (by omega) (fun s hs h => by omega)⟩, ⟨⟨l6, by rw [List.length_append, List.length_append, b2]; rfl, by rw [List.length_append]; show qs.length + 1 ≤ 6; omega, fun q hq => ?_⟩, ⟨fun q hq => ?_, fun k hk hl => ?_⟩, fun q hq => ?_⟩, ⟨xx.at a15 a9 (by rw [a10]; omega), by rw [xx.tag a15 a9, a10]⟩, a11.ext a15 xx (by omega), a12.ext a15 xx (by omega) (by omega) (by omega), a13, a14.ext a15 xx (by omega), xx.wf, a16, a17⟩
      · rw [List.length_append] at hq
        have hq : q < qs.length + 1 := hq
        rw [getD_snoc, b2, getD_app]
        by_cases hqe : q = qs.length
        · rw [if_neg (by omega), if_pos hqe, if_neg (by omega), if_pos hqe, hqe, va_up_self]
          exact ⟨⟨fsQ, hQ5.ext x5.wf x6 (by omega) (by omega) (by omega) (fun i hi => by omega)⟩, Nat.zero_le _, Nat.zero_le _, hok⟩
        · rw [if_pos (by omega), if_pos (by omega), va_up_ne _ _ hqe]
          obtain ⟨⟨fs, c1⟩, c2⟩ := b4 q (by omega)
          exact ⟨⟨fs, c1.ext a15 xx (by omega) (by omega) (by omega) (fun i hi => by omega)⟩, c2⟩
      · rw [List.length_append] at hq
        have hq : q < qs.length + 1 := hq
        by_cases hqe : q = qs.length
        · rw [hqe, va_up_self]; exact Nat.le_refl _
        · rw [va_up_ne _ _ hqe]; exact a7.1 q (by omega)
      · obtain ⟨k1, k2⟩ := a7.2 k hk hl
        rw [List.length_append]
        refine ⟨fun q hq => ?_, fun q hq => k2 q (by have : qs.length + 1 ≤ q := hq; omega)⟩
        have hq : q < qs.length + 1 := hq
        unfold frN
        by_cases hqe : q = qs.length
        · rw [hqe, va_up_self, decide_eq_true rfl, Bool.true_or, k2 qs.length (Nat.le_refl _)]
          exact ⟨rfl, Nat.zero_le _⟩
        · rw [va_up_ne _ _ hqe, decide_eq_false hqe, Bool.false_or]
          exact k1 q (by omega)
      · rw [List.length_append] at hq
        have hq : q < qs.length + 1 := hq
        by_cases hqe : q = qs.length
        · rw [hqe, va_up_self]; exact hB
        · rw [va_up_ne _ _ hqe]; exact a8 q (by omega)
theorem cG_query (h : cG g a B t T fr qs plc an lk) (hB : 1 ≤ B) : pg_T (fX10_query a g.1) 188 5670 (fun s => 2 ≤ s) g (fun r g' => r = (if (sqry t qs).1 = 0 then .inl (nI (sqry t qs).2.1) else .inr (sqry t qs).1) ∧ cG g' a B [] T (if (sqry t qs).1 = 0 then frN fr qs.length else fr) (sqry t qs).2.2 plc an lk) := by
  obtain ⟨tb, tr, ql, wk, ans, pb, A, sn, rd, qx, h⟩ := h
  obtain ⟨⟨a1, a2⟩, _, _, _, _, _, _, _, _, a15, a16, _⟩ := id h
  rw [fX10_query, pg_cv a1]
  refine pg_T.b h.take (fun s h => by omega) (by decide) (by decide) (fun r g1 x1 hp => ?_)
  obtain ⟨s, rfl, hs, h1⟩ := hp
  obtain ⟨w1, c1, -⟩ := h1.w
  obtain ⟨fs, hso⟩ := ps_o hs
  rw [pg_o1, pg_cv hso, ps_isEmpty hs, pg_b0]
  have fin : ∀ (g2 : pg_G) (p C N : Nat), 5 ≤ C → 60 ≤ N → cGx g2 a tb tr ql wk ans pb A sn rd qx B [] T fr qs plc an lk → cp_P g2 0 p t ((pt t).getD []) → (t = [] ∨ (pt t).isSome = true) → pg_T (fX10_query_27 a (some p) g2.1) C N (fun s => 2 ≤ s) g2 (fun r g' => r = (if (sqry t qs).1 = 0 then .inl (nI (sqry t qs).2.1) else .inr (sqry t qs).1) ∧ cG g' a B [] T (if (sqry t qs).1 = 0 then frN fr qs.length else fr) (sqry t qs).2.2 plc an lk) := by
    intro g2 p C N hC hN h2 hP hok
    refine (cG_query27 h2 hP hok hB).mono hC hN (fun _ h => h) (fun r g' _ hp => ?_)
    unfold sqry
    have hn : ¬ (t ≠ [] ∧ (pt t).isSome = false) := fun hh => hok.elim hh.1 (fun e => by rw [e] at hh; cases hh.2)
    rw [if_neg hn]
    by_cases h6 : qs.length = 6
    · rw [if_pos h6] at hp ⊢; exact hp
    · rw [if_neg h6] at hp ⊢; exact hp
  by_cases h0 : t.length = 0
  · have ht : t = [] := List.eq_nil_of_length_eq_zero h0
    rw [if_pos h0, if_neg (by decide), vg_nwb (α := Nat)]
    refine pg_T.b (C1 := 3) (N1 := 16) (W1 := fun _ => False) (P := fun r g' => cp_P g' 0 r t []) ?_ (fun _ h => h.elim) (by decide) (by decide) (fun r g2 x2 hP2 => ?_)
    · refine pg_T.fresh (P := fun r g' => r = g1.1.2.1 ∧ cp_P g' (pg_fr g1) g1.1.2.1 t []) w1 ?_ (fun r g' hx hp => ⟨pg_re g1 g' 0, fun b hb => if_pos hb, ?_⟩)
      · exact cp_new w1 hs (pg_fr g1) pg_fr_0 (Or.inr rfl) (by decide) (by decide) (fun g2 hx hP => pg_T.ret hx.wf ⟨rfl, hP⟩)
      · rw [hp.1]; exact hp.2.re hx
    · refine fin g2 r _ _ (by decide) (by decide) (h1.ext x2) ?_ (Or.inl ht)
      have : (pt t).getD [] = [] := by rw [ht]; rfl
      rw [this]; exact hP2
  · rw [if_neg h0, if_pos rfl]
    refine pg_T.b (cp_read w1 c1 hs a16) (fun _ h => h.elim) (by decide) (by decide) (fun r g2 x2 hp2 => ?_)
    have h2 := h1.ext x2
    cases hpt : pt t with
    | none =>
      rw [hpt] at hp2
      rw [hp2]
      refine pg_T.thr x2.wf (by decide) (by decide) ?_
      unfold sqry
      have hcond : t ≠ [] ∧ (pt t).isSome = false := ⟨fun e => h0 (by rw [e]; rfl), by rw [hpt]; rfl⟩
      rw [if_pos hcond]
      exact ⟨rfl, tb, tr, ql, wk, ans, pb, A, sn, rd, qx, h2⟩
    | some sp =>
      rw [hpt] at hp2
      obtain ⟨q, rfl, hq⟩ := hp2
      exact fin g2 q _ _ (by decide) (by decide) h2 (by rw [hpt]; exact hq) (Or.inr (by rw [hpt]; rfl))
end
