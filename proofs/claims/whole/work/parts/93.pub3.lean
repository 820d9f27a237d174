/-! pattern, ask, and what tells. -/
section
variable {g g' : pg_G} {W : Nat → Prop} {a tb tr ql wk ans pb B lk : Nat} {A : Nat → Nat} {sn : Nat → Nat → Nat} {rd : Nat → Nat} {qx : List Nat} {t : List Nat} {T : sT} {fr : Nat → Nat → Bool} {qs : List sQ} {plc : Int32} {an : List (List Nat)}
theorem cG_place (h : cG g a B t T fr qs plc an lk) : fX10_place a g.1 = some (plc, g.1, 0, 0) := by
  obtain ⟨tb, tr, ql, wk, ans, pb, A, sn, rd, qx, ⟨a1, a2⟩, _⟩ := h
  simp only [fX10_place, pg_gI a1 (k := 4) rfl, pg_o1, vu_ret]
theorem cG_looked (h : cG g a B t T fr qs plc an lk) : fX10_looked a g.1 = some (nI lk, g.1, 0, 0) := by
  obtain ⟨tb, tr, ql, wk, ans, pb, A, sn, rd, qx, ⟨a1, a2⟩, _, _, _, ⟨a9, a10⟩, _, ⟨lt, ln, fl, fn, o1, -⟩, _⟩ := h
  simp only [fX10_looked, pg_gR a1 (k := 3) rfl, pg_o1, pg_gR a9 (k := 0) rfl, pg_gI o1.1 (k := 1) rfl, vu_ret]
theorem cG_answer {k i : Int32} (h : cG g a B t T fr qs plc an lk) : fX10_answer a k i g.1 = some (sans an k i, g.1, 0, 0) := by
  obtain ⟨tb, tr, ql, wk, ans, pb, A, sn, rd, qx, ⟨a1, a2⟩, _, _, _, ⟨a9, a10⟩, _, a12, _⟩ := h
  obtain ⟨lt, ln, fl, fn, o1, -⟩ := id a12
  simp only [fX10_answer, pg_gR a1 (k := 3) rfl, pg_o1, pg_gR a9 (k := 0) rfl, pg_cv o1.1, cA_letter a12, pg_b0, vu_ret]
theorem cGx.qAt {q : Int32} (h : cGx g a tb tr ql wk ans pb A sn rd qx B t T fr qs plc an lk) : fX10_queryAt a q g.1 = some (if q < 0 ∨ nI qs.length ≤ q then none else some (qx.getD q.toNatClampNeg 0), g.1, 0, 0) := by
  obtain ⟨⟨a1, a2⟩, _, _, ⟨⟨b1, b2, b3, b4⟩, _⟩, _⟩ := h
  obtain ⟨fl, hlo⟩ := pl_is b1
  simp only [fX10_queryAt, pg_gR a1 (k := 2) rfl, pg_o1, pg_cv hlo, pl_size b1, pg_b0, b2, fX10_queryAt_29, fX10_queryAt_30, vu_ret]
  by_cases h0 : q < 0
  · rw [if_pos h0, if_pos (Or.inl h0)]
  · rw [if_neg h0]
    by_cases h1 : nI qs.length ≤ q
    · rw [if_pos h1, if_pos (Or.inr h1)]
    · rw [if_neg h1, if_neg (fun hh => hh.elim h0 h1)]
      obtain ⟨k, hk, rfl⟩ := nI_of h0
      have hkl : k < qs.length := Classical.byContradiction (fun hh => h1 (nI_le (by omega) (by omega)))
      obtain ⟨⟨fs, p, l, xs, q1, -⟩, -⟩ := b4 k hkl
      rw [pl_get b1 (by omega), pg_b0, pg_ckO q1, nI_clamp (by omega)]
theorem qAt_nat {q : Int32} (h : ¬ (q < 0 ∨ nI qs.length ≤ q)) (h6 : qs.length ≤ 6) : ∃ k, q = nI k ∧ k < qs.length ∧ q.toNatClampNeg = k := by
  have h0 : ¬ q < 0 := fun hh => h (Or.inl hh)
  obtain ⟨k, hk, rfl⟩ := nI_of h0
  have hkl : k < qs.length := Classical.byContradiction (fun hh => h (Or.inr (nI_le (by omega) (by omega))))
  exact ⟨k, rfl, hkl, nI_clamp (by omega)⟩
theorem wkL_sub {Q : sQ} : ∀ d ks ns, (wkL T Q d ks ns).Sublist (visG T (wgo T) d ks) := by
  intro d
  induction d with
  | zero => intro ks ns; exact List.Sublist.refl _
  | succ d ih =>
    intro ks ns
    induction ks with
    | nil => exact List.Sublist.refl _
    | cons c ks ihk =>
      rw [wkL_cons, vis_cons]
      refine List.Sublist.append ?_ ihk
      by_cases hw : wgo T c = true
      · rw [if_pos hw, if_pos hw]
        by_cases hq : qgoes Q (ns ++ [nm T c]) = true
        · rw [if_pos hq]
          show (c :: wkL T Q d (ch T c) (ns ++ [nm T c])).Sublist _
          exact List.Sublist.cons₂ _ (ih _ _)
        · rw [if_neg hq, List.nil_append]
          exact List.Sublist.cons _ (ih _ _)
      · rw [if_neg hw]
        exact List.nil_sublist _
theorem lkd_nodup {Q : sQ} {r : Nat} (hW : WT T) (hr : r ≤ 60) (hk : kd T r = 2) : (r :: wkL T Q 7 (ch T r) []).Nodup ∧ ∀ x ∈ r :: wkL T Q 7 (ch T r) [], x ≤ 60 ∧ 0 < kd T x := by
  have hl : 0 < kd T r := by omega
  have hch : ∀ c ∈ ch T r, c < 60 ∧ 0 < kd T c ∧ pa T c = r := fun c hc => (hW.mem hr hl).mp hc
  have hdp : ∀ c ∈ ch T r, dp T c = dp T r + 1 := fun c hc => by
    have := (hW.2.2.2.2.1 c (hch c hc).1 (hch c hc).2.1).2.2.2.1
    rw [(hch c hc).2.2] at this; exact this
  have hvm : ∀ x ∈ visG T (wgo T) 7 (ch T r), x < 60 ∧ 0 < kd T x ∧ ∃ c ∈ ch T r, tun T c x = true := fun x hx => vis_mem hW 7 _ x (fun c hc => ⟨(hch c hc).1, (hch c hc).2.1⟩) hx
  have hsub := wkL_sub (T := T) (Q := Q) 7 (ch T r) []
  have hnn : r ∉ visG T (wgo T) 7 (ch T r) := fun h => by
    obtain ⟨_, _, c, hc, ht⟩ := hvm r h
    have := tun_dp hW (hch c hc).1 (dp T r) r (by omega) hl (Nat.le_refl _) ht
    have := hdp c hc; omega
  refine ⟨List.nodup_cons.mpr ⟨fun h => hnn (hsub.subset h), (vis_nodup hW 7 _ (dp T r + 1) (fun c hc => ⟨(hch c hc).1, (hch c hc).2.1, hdp c hc⟩) (hW.nod hr hl)).sublist hsub⟩, fun x hx => ?_⟩
  rcases List.mem_cons.mp hx with h | h
  · rw [h]; exact ⟨hr, hl⟩
  · have := hvm x (hsub.subset h)
    exact ⟨by omega, this.2.1⟩
theorem filter_congr' {p r : Nat → Bool} : ∀ (L : List Nat), (∀ x ∈ L, p x = r x) → L.filter p = L.filter r := by
  intro L
  induction L with
  | nil => intro _; rfl
  | cons x L ih =>
    intro h
    rw [List.filter_cons, List.filter_cons, h x List.mem_cons_self, ih (fun y hy => h y (List.mem_cons_of_mem _ hy))]
theorem cG_ask {q : Nat} (h : cG g a B t T fr qs plc an lk) (hq : q < qs.length) (hB : B + 1 < 2 ^ 30) : pg_T (fX10_ask a (nI q) g.1) 132 8472 (fun s => 2 ≤ s) g (fun r g' => r = nI (sfind T (qs.getD q ([], []))).1.length ∧ cG g' a (B + 1) t T (frA fr q (sfind T (qs.getD q ([], []))).2) qs plc (sfind T (qs.getD q ([], []))).1 ((sfind T (qs.getD q ([], []))).2.filter (fr q)).length) := by
  obtain ⟨tb, tr, ql, wk, ans, pb, A, sn0, rd, qx, h0⟩ := h
  -- slots that are not there count as 0
  obtain ⟨sn, hs1, hs2⟩ : ∃ sn : Nat → Nat → Nat, (∀ k, k ≤ 60 → 0 < kd T k → sn k = sn0 k) ∧ ∀ k, ¬ (k ≤ 60 ∧ 0 < kd T k) → sn k = fun _ => 0 := ⟨fun k => if k ≤ 60 ∧ 0 < kd T k then sn0 k else fun _ => 0, fun k hk hl => if_pos ⟨hk, hl⟩, fun k h => if_neg h⟩
  have h : cGx g a tb tr ql wk ans pb A sn rd qx B t T fr qs plc an lk := by
    obtain ⟨a1, a3, ⟨a4, a5⟩, ⟨a6, a7, a8⟩, rest⟩ := h0
    refine ⟨a1, a3, ⟨a4, ⟨fun k hk hl => ?_, a5.2⟩⟩, ⟨a6, ⟨a7.1, fun k hk hl => ?_⟩, a8⟩, rest⟩
    · rw [hs1 k hk hl]; exact a5.1 k hk hl
    · rw [hs1 k hk hl]; exact a7.2 k hk hl
  have hle0 : ∀ x, sn x q ≤ rd q := by
    intro x
    obtain ⟨_, _, _, ⟨_, a7, _⟩, _⟩ := h0
    by_cases hx : x ≤ 60 ∧ 0 < kd T x
    · rw [hs1 x hx.1 hx.2]; exact ((a7.2 x hx.1 hx.2).1 q hq).2
    · rw [hs2 x hx]; exact Nat.zero_le _
  clear h0
  obtain ⟨⟨a1, a2⟩, a3, ⟨a4, a5⟩, ⟨a6, a7, a8⟩, ⟨a9, a10⟩, a11, a12, a13, a14, a15, a16, a17⟩ := id h
  obtain ⟨b1, b2, b3, b4⟩ := id a6
  have hrdB := a8 q hq
  have hrd1 := a7.1 q hq
  have hqA := h.qAt (q := nI q)
  rw [if_neg (fun hh => hh.elim (nI_pos (by omega)) (nI_ge hq (by omega))), nI_clamp (by omega)] at hqA
  rw [fX10_ask, pg_cv a1, hqA, pg_b0]
  obtain ⟨⟨fs, hQ⟩, hins, houts, hpok⟩ := b4 q hq
  generalize hQQ : qs.getD q ([], []) = Q at *
  generalize hqa : qx.getD q 0 = qa at *
  obtain ⟨lt, ln, fl, fn, ao, -⟩ := id a12
  show pg_T (vg_o (vg_gR g.1 a 13 3) _) _ _ _ _ _
  rw [pg_gR a1 (k := 3) rfl, pg_o1, pg_o1, pg_gR a9 (k := 0) rfl, pg_o1, pg_o1, pg_cv ao.1]
  refine pg_T.b (cA_clear a15 a12) (fun s h => by omega) (Nat.zero_le _) (Nat.zero_le _) (fun r g1 x1 hA1 => ?_)
  have w1 := x1.wf
  have hQ1 := hQ.ext a15 x1 (by omega) (by omega) (by omega) (fun i hi => by omega)
  obtain ⟨p1, l1, xs1, oq1, -⟩ := id hQ1
  rw [pg_cv oq1]
  refine pg_T.b (cQ_begin w1 hQ1 (by omega)) (fun s h => by omega) (Nat.zero_le _) (Nat.zero_le _) (fun r g2 x2 hp2 => ?_)
  obtain ⟨fs2, hQ2, hQf2⟩ := hp2
  have w2 := x2.wf
  have x12 : pg_Ext (fun s => s = 4 ∨ s = 10 + q ∨ (30 + 8 * q ≤ s ∧ s < 38 + 8 * q)) g g2 := (x1.mono (fun s h => Or.inl h)).trans (x2.mono (fun s h => Or.inr h))
  have o2 := x12.at a15 a1 (by rw [a2]; omega)
  have ot2 : g2.2 a = 7 := by rw [x12.tag a15 a1, a2]
  have hT2 := a5.ext a15 x12 (by omega) (fun s hs h => by omega)
  have hTo2 := a4.ext a15 x12 (by omega)
  have hC2 := a14.ext a15 x12 (by omega)
  have hwk2 := x12.at a15 a9 (by rw [a10]; omega)
  have hwkt2 : g2.2 wk = 0 := by rw [x12.tag a15 a9, a10]
  have hB2 := a11.ext a15 x12 (by omega)
  have hA2 := hA1.ext w1 x2 (by omega) (by omega) (by omega)
  obtain ⟨p2, l2, xs2, oq2, oqt2, hP2, -⟩ := id hQ2
  rw [pg_gR o2 (k := 1) rfl, pg_o1, pg_gR oq2 (k := 0) rfl, pg_o1, pg_o1, pg_cv hTo2.1]
  refine pg_T.b (cT_at a13 w2 hC2 hT2 hTo2 hP2) (fun _ h => h.elim) (by omega) (by omega) (fun r g3 x3 hp3 => ?_)
  have w3 := x3.wf
  have x13 : pg_Ext (fun s => s = 4 ∨ s = 10 + q ∨ (30 + 8 * q ≤ s ∧ s < 38 + 8 * q)) g g3 := x12.trans (x3.mono (fun _ h => h.elim))
  have o3 := x3.at w2 o2 (fun h => h)
  have ot3 : g3.2 a = 7 := by rw [x3.tag w2 o2]; exact ot2
  have hT3 := hT2.ext w2 x3 (fun h => h) (fun _ _ h => h)
  have hC3 := hC2.ext w2 x3 (fun h => h)
  have hwk3 := x3.at w2 hwk2 (fun h => h)
  have hwkt3 : g3.2 wk = 0 := by rw [x3.tag w2 hwk2]; exact hwkt2
  have hB3 := hB2.ext w2 x3 (fun h => h)
  have hA3 := hA2.ext w2 x3 (fun h => h) (fun h => h) (fun h => h)
  have hQ3 := hQ2.ext w2 x3 (fun h => h) (fun h => h) (fun h => h) (fun _ _ h => h)
  -- the end, for the nodes that were looked at
  have fin : ∀ (g4 : pg_G) (an4 : List (List Nat)) (lkd : List Nat) (fs4 : Nat → Nat → Int32) (C N : Nat), pg_Ext (fun s => s = 4 ∨ s = 10 + q ∨ s = 3 ∨ s = 8 ∨ s = 9 ∨ (30 + 8 * q ≤ s ∧ s < 38 + 8 * q) ∨ 100 ≤ s) g g4 → cT g4 A T (mkL q (rd q + 1) lkd sn) → cQ g4 q qa Q (rd q + 1) fs4 → bu_B g4 3 pb [] → cA g4 ans an4 ((lkd.filter (fr q)).length) → sfind T Q = (an4, lkd) → g4.1.1 a = some (.inr (13, [.ref tb, .ref tr, .ref ql, .ref wk, .int plc])) → g4.1.1 wk = some (.inr (12, [.ref ans, .ref pb])) → pg_T (fX10_ask_59 a g4.1) C N (fun s => 2 ≤ s) g4 (fun r g' => r = nI (sfind T Q).1.length ∧ cG g' a (B + 1) t T (frA fr q (sfind T Q).2) qs plc (sfind T Q).1 ((sfind T Q).2.filter (fr q)).length) := by
    intro g4 an4 lkd fs4 C N x4 hT4 hQ4 hB4 hA4 hsf o4 hwk4
    obtain ⟨lt4, ln4, fl4, fn4, ao4, -⟩ := id hA4
    rw [fX10_ask_59, pg_gR o4 (k := 3) rfl, pg_o1, pg_o1, pg_gR hwk4 (k := 0) rfl, pg_o1, pg_o1, pg_gI ao4.1 (k := 0) rfl, pg_o1, hsf]
    refine pg_T.ret x4.wf ⟨rfl, tb, tr, ql, wk, ans, pb, A, mkL q (rd q + 1) lkd sn, va_up rd q (rd q + 1), qx, ⟨o4, by rw [x4.tag a15 a1, a2]⟩, a3.ext a15 x4 (by omega), ⟨a4.ext a15 x4 (by omega), hT4⟩, ⟨⟨b1.ext a15 x4 (by decide) (by omega), b2, b3, fun q' hq' => ?_⟩, ⟨fun q' hq' => ?_, fun k hk hl => ?_⟩, fun q' hq' => ?_⟩, ⟨hwk4, by rw [x4.tag a15 a9, a10]⟩, hB4, hA4, a13, a14.ext a15 x4 (by omega), x4.wf, a16, a17⟩
    · by_cases hqq : q' = q
      · subst hqq
        rw [hQQ, hqa, va_up_self]
        exact ⟨⟨fs4, hQ4⟩, hins, houts, hpok⟩
      · rw [va_up_ne _ _ hqq]
        obtain ⟨⟨fs', c1⟩, c2⟩ := b4 q' hq'
        exact ⟨⟨fs', c1.ext a15 x4 (by omega) (by omega) (by omega) (fun i hi => by omega)⟩, c2⟩
    · by_cases hqq : q' = q
      · rw [hqq, va_up_self]; omega
      · rw [va_up_ne _ _ hqq]; exact a7.1 q' hq'
    · obtain ⟨k1, k2⟩ := a7.2 k hk hl
      refine ⟨fun q' hq' => ?_, fun q' hq' => ?_⟩
      · rw [mkL_get]
        unfold frA
        by_cases hqq : q' = q
        · rw [hqq, va_up_self, if_pos rfl]
          by_cases hm : k ∈ lkd
          · rw [if_pos ⟨hm, rfl⟩, List.contains_iff_mem.mpr hm, decide_eq_false (fun h => h rfl)]
            exact ⟨rfl, Nat.le_refl _⟩
          · have hle := hle0 k
            rw [if_neg (fun hh => hm hh.1), decide_eq_true (by omega)]
            refine ⟨?_, by omega⟩
            cases hcc : lkd.contains k with
            | false => rfl
            | true => exact absurd (List.contains_iff_mem.mp hcc) hm
        · rw [va_up_ne _ _ hqq, if_neg hqq, if_neg (fun hh => hqq hh.2)]
          exact k1 q' hq'
      · rw [mkL_get, if_neg (fun hh => by omega)]
        exact k2 q' hq'
    · by_cases hqq : q' = q
      · rw [hqq, va_up_self]; omega
      · rw [va_up_ne _ _ hqq]; have := a8 q' hq'; omega
  have w13 : pg_Ext (fun s => s = 4 ∨ s = 10 + q ∨ s = 3 ∨ s = 8 ∨ s = 9 ∨ (30 + 8 * q ≤ s ∧ s < 38 + 8 * q) ∨ 100 ≤ s) g g3 := x13.mono (fun s h => by omega)
  have hnone : pkg T Q.1 = none → pg_T (fX10_ask_59 a g3.1) (132 - 0 - 0 - 12) (8472 - 0 - 0 - 72) (fun s => 2 ≤ s) g3 (fun r g' => r = nI (sfind T Q).1.length ∧ cG g' a (B + 1) t T (frA fr q (sfind T Q).2) qs plc (sfind T Q).1 ((sfind T Q).2.filter (fr q)).length) := by
    intro hpk
    exact fin g3 [] [] fs2 _ _ w13 hT3 hQ3 hB3 hA3 (by unfold sfind; rw [hpk]) o3 hwk3
  have hpkg : ∀ sp, (pt Q.1).getD [] = sp → pkg T Q.1 = if (tg T (wd Q.1 sp) 60).2 = sp.length then (if pk T (tg T (wd Q.1 sp) 60).1 = true then some (tg T (wd Q.1 sp) 60).1 else none) else none := by
    intro sp hsp
    unfold pkg
    by_cases hQ0 : Q.1 = []
    · have : sp = [] := by rw [← hsp, hQ0]; rfl
      rw [if_pos hQ0, this]
      have e : tg T (wd Q.1 ([] : List (Nat × Nat))) 60 = (60, 0) := rfl
      rw [e]
      simp only [List.length_nil, if_true, a13.2.1]
    · rw [if_neg hQ0]
      cases hpt : pt Q.1 with
      | none => rw [hpt] at hpok; exact absurd hpok (fun hh => hh.elim hQ0 (fun e => by cases e))
      | some sp' =>
        have : sp = sp' := by rw [← hsp, hpt]; rfl
        rw [this]
        show (if (tg T (wd Q.1 sp') 60).2 = sp'.length ∧ kd T (tg T (wd Q.1 sp') 60).1 = 2 ∧ pk T (tg T (wd Q.1 sp') 60).1 = true then some (tg T (wd Q.1 sp') 60).1 else none) = _
        by_cases h1 : (tg T (wd Q.1 sp') 60).2 = sp'.length
        · rw [if_pos h1]
          by_cases h2 : pk T (tg T (wd Q.1 sp') 60).1 = true
          · have hk2 : kd T (tg T (wd Q.1 sp') 60).1 = 2 := by
              have hle := (tg_le (T := T) (wd Q.1 sp') 60 (Nat.le_refl _)).1
              by_cases h6 : (tg T (wd Q.1 sp') 60).1 = 60
              · rw [h6]; exact a13.1
              · exact (a13.2.2.2.2.1 _ (by omega) (tg_kd _ _ (by rw [a13.1]; decide))).2.2.2.2.2 h2
            rw [if_pos ⟨h1, hk2, h2⟩, if_pos h2]
          · rw [if_neg (fun hh => h2 hh.2.2), if_neg h2]
        · rw [if_neg (fun hh => h1 hh.1), if_neg h1]
  have hpk0 := hpkg _ rfl
  generalize (pt Q.1).getD [] = sp at *
  by_cases hat : (tg T (wd Q.1 sp) 60).2 = sp.length
  · rw [if_pos hat] at hp3 hpk0
    rw [hp3]
    have hle := (tg_le (T := T) (wd Q.1 sp) 60 (Nat.le_refl _)).1
    have hkl := tg_kd (T := T) (wd Q.1 sp) 60 (by rw [a13.1]; decide)
    generalize (tg T (wd Q.1 sp) 60).1 = k at *
    obtain ⟨_, _, _, ok, -⟩ := id (hT3.1 k hle hkl)
    show pg_T (vg_o (vg_gI g3.1 (A k) 4 5) _) _ _ _ _ _
    rw [pg_gI ok.1 (k := 5) rfl, pg_o1]
    cases hpk : pk T k with
    | false =>
      rw [bI_f, if_pos rfl]
      rw [hpk, if_neg (by decide)] at hpk0
      exact hnone hpk0
    | true =>
      rw [hpk, if_pos rfl] at hpk0
      have hk2 := (pkg_ok a13 hpk0).2
      rw [bI_t, if_neg (by decide), pg_gR o3 (k := 3) rfl, pg_o1, pg_o1, pg_cv hwk3, ← nI_0]
      have hvl := vis_len (g := wgo T) (d := 7) a13 hle hkl
      have hS3 : wS g3 A T sn q qa Q (rd q + 1) fs2 wk pb ans [] [] 0 := ⟨w3, hC3, hwk3, hwkt3, hT3, hQ3, hQf2, hB3, hA3⟩
      have key := cw_look (A := A) (aq := qa) (w := wk) (pb := pb) (ans := ans) (Q := Q) (rd := rd q + 1) a13 (show q < 6 by omega) (by omega) (by omega) 10 0 k [] g3 sn fs2 [] 0 hle hk2 rfl (Nat.zero_le _) (by decide) (by decide) (fun x hx => by cases hx) hS3 (fun x => by have := hle0 x; omega) (by rw [List.length_nil, Nat.zero_add]; exact hvl)
      simp only [Nat.sub_zero] at key
      refine pg_T.b key (fun s h => by unfold wW at h; omega) (by omega) (by omega) (fun r g4 x4 hp4 => ?_)
      obtain ⟨fs4, ⟨w4, hC4, hwk4, hwkt4, hT4, hQ4, hQf4, hB4, hA4⟩, -⟩ := hp4
      obtain ⟨nd, hlive⟩ := lkd_nodup (Q := Q) a13 hle hk2
      have hsf : sfind T Q = (wkA T Q 7 (ch T k) [], k :: wkL T Q 7 (ch T k) []) := by unfold sfind; rw [hpk0]
      have hcnt : kct q (rd q + 1) (k :: wkL T Q 7 (ch T k) []) sn = ((k :: wkL T Q 7 (ch T k) []).filter (fr q)).length := by
        rw [kct_filter _ sn sn nd (fun _ _ => rfl), filter_congr' _ (fun x hx => ?_)]
        obtain ⟨y1, y2⟩ := hlive x hx
        rw [((a7.2 x y1 y2).1 q hq).1, Nat.add_sub_cancel]
      have hA4 : cA g4 ans ([] ++ wkA T Q 7 (ch T k) []) (0 + kct q (rd q + 1) (k :: wkL T Q 7 (ch T k) []) sn) := hA4
      rw [List.nil_append, Nat.zero_add, hcnt] at hA4
      exact fin g4 _ _ fs4 _ _ (w13.trans (x4.mono (fun s h => by unfold wW at h; omega))) hT4 hQ4 hB4 hA4 hsf (x4.at w3 o3 (by rw [ot3]; unfold wW; omega)) hwk4
  · rw [if_neg hat] at hp3 hpk0
    rw [hp3]
    exact hnone hpk0
theorem cG_askN {q : Int32} (h : cG g a B t T fr qs plc an lk) (hq : q < 0 ∨ nI qs.length ≤ q) : fX10_ask a q g.1 = some (-1, g.1, 0, 0) := by
  obtain ⟨tb, tr, ql, wk, ans, pb, A, sn, rd, qx, h⟩ := h
  obtain ⟨⟨a1, a2⟩, _⟩ := id h
  rw [fX10_ask, pg_cv a1, h.qAt, pg_b0, if_pos hq]; rfl
end
