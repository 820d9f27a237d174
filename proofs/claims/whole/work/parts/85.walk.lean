/-! The class's walk. -/
section
variable {T : sT} {Q : sQ}
theorem stp_dead {ps : List (List (List Nat))} {s : Nat → Bool} {w : List Nat} (h : ∀ j, j < ps.length → s j = false) : ∀ j, j ≤ ps.length → stp ps s w j = false := by
  intro j hj
  cases j with
  | zero =>
    show (dpf ps 0 && s 0) = false
    by_cases h0 : 0 < ps.length
    · rw [h 0 h0, Bool.and_false]
    · rw [dpf_out (by omega), Bool.false_and]
  | succ j =>
    show ((dpf ps (j + 1) && s (j + 1)) || (decide (j < ps.length) && !dpf ps j && s j && pfit (ps.getD j []) w)) = false
    rw [h j (by omega), Bool.and_false, Bool.false_and, Bool.or_false]
    by_cases hl : j + 1 < ps.length
    · rw [h (j + 1) hl, Bool.and_false]
    · rw [dpf_out (by omega), Bool.false_and]
theorem clo_dead {ps : List (List (List Nat))} {s : Nat → Bool} (h : ∀ j, j ≤ ps.length → s j = false) : ∀ j, j ≤ ps.length → clo ps s j = false := by
  intro j
  induction j with
  | zero => intro hj; exact h 0 hj
  | succ j ih =>
    intro hj
    show (s (j + 1) || (dpf ps j && clo ps s j)) = false
    rw [h (j + 1) hj, ih (by omega), Bool.and_false]; rfl
theorem pb_dead {ps : List (List (List Nat))} {ns : List (List Nat)} {w : List Nat} (h : ∀ j, j < ps.length → pbits ps ns j = false) : ∀ j, j ≤ ps.length → pbits ps (ns ++ [w]) j = false := by
  rw [pbits_snoc]
  exact clo_dead (stp_dead h)
theorem q_dead {ns : List (List Nat)} {w : List Nat} (h : qgoes Q ns = false) : qgoes Q (ns ++ [w]) = false ∧ ∀ isF, qtakes Q (ns ++ [w]) isF = false := by
  unfold qgoes at h
  rw [List.any_eq_false] at h
  have h' : ∀ P ∈ ins Q, ∀ j, j < P.2.1.length → pbits P.2.1 ns j = false := fun P hP j hj => by
    have := h P hP
    unfold pgoes at this
    cases hb : pbits P.2.1 ns j with
    | false => rfl
    | true => exact absurd (List.any_eq_true.mpr ⟨j, List.mem_range.mpr hj, hb⟩) this
  constructor
  · unfold qgoes
    rw [List.any_eq_false]
    intro P hP hg
    unfold pgoes at hg
    obtain ⟨j, hj, hb⟩ := List.any_eq_true.mp hg
    rw [pb_dead (h' P hP) j (by have := List.mem_range.mp hj; omega)] at hb; cases hb
  · intro isF
    unfold qtakes
    have : (ins Q).any (fun P => ffits P (ns ++ [w]) isF) = false := by
      rw [List.any_eq_false]
      intro P hP hf
      unfold ffits at hf
      rw [pb_dead (h' P hP) _ (Nat.le_refl _), Bool.and_false] at hf
      cases hf
    rw [this]; rfl
theorem wk_dead : ∀ d ks ns, qgoes Q ns = false → wkA T Q d ks ns = [] ∧ wkL T Q d ks ns = [] := by
  intro d
  induction d with
  | zero => intro ks ns _; exact ⟨rfl, rfl⟩
  | succ d ih =>
    intro ks ns h
    induction ks with
    | nil => exact ⟨rfl, rfl⟩
    | cons c ks ihk =>
      have hq := q_dead (w := nm T c) h
      have hd := ih (ch T c) (ns ++ [nm T c]) hq.1
      rw [wkA_cons, wkL_cons, ihk.1, ihk.2, hq.2, hq.1, hd.1, hd.2]
      simp
/-- how many of a list count, one behind the other, each marked -/
def mks (q rd : Nat) (sn : Nat → Nat → Nat) (x : Nat) : Nat → Nat → Nat := va_up sn x (va_up (sn x) q rd)
def mkL (q rd : Nat) : List Nat → (Nat → Nat → Nat) → Nat → Nat → Nat
  | [], sn => sn
  | x :: L, sn => mkL q rd L (mks q rd sn x)
def kct (q rd : Nat) : List Nat → (Nat → Nat → Nat) → Nat
  | [], _ => 0
  | x :: L, sn => (if sn x q = rd - 1 then 0 else 1) + kct q rd L (mks q rd sn x)
theorem mkL_app {q rd : Nat} : ∀ (L L' : List Nat) sn, mkL q rd (L ++ L') sn = mkL q rd L' (mkL q rd L sn) := by
  intro L
  induction L with
  | nil => intro L' sn; rfl
  | cons x L ih => intro L' sn; exact ih L' _
theorem kct_app {q rd : Nat} : ∀ (L L' : List Nat) sn, kct q rd (L ++ L') sn = kct q rd L sn + kct q rd L' (mkL q rd L sn) := by
  intro L
  induction L with
  | nil => intro L' sn; show _ = 0 + _; rw [Nat.zero_add]; rfl
  | cons x L ih =>
    intro L' sn
    show (if sn x q = rd - 1 then 0 else 1) + kct q rd (L ++ L') (mks q rd sn x) = (if sn x q = rd - 1 then 0 else 1) + kct q rd L (mks q rd sn x) + kct q rd L' (mkL q rd L (mks q rd sn x))
    rw [ih]; omega
theorem kct_filter {q rd : Nat} : ∀ (L : List Nat) (sn sn0 : Nat → Nat → Nat), L.Nodup → (∀ x ∈ L, sn x q = sn0 x q) → kct q rd L sn = (L.filter (fun x => decide (sn0 x q ≠ rd - 1))).length := by
  intro L
  induction L with
  | nil => intro _ _ _ _; rfl
  | cons x L ih =>
    intro sn sn0 hn he
    rw [List.nodup_cons] at hn
    show (if sn x q = rd - 1 then 0 else 1) + kct q rd L (mks q rd sn x) = _
    rw [ih (mks q rd sn x) sn0 hn.2 (fun y hy => ?_), List.filter_cons, he x List.mem_cons_self]
    · by_cases h : sn0 x q = rd - 1
      · rw [if_pos h, decide_eq_false (fun h' => h' h), if_neg (by decide), Nat.zero_add]
      · rw [if_neg h, decide_eq_true h, if_pos rfl, List.length_cons, Nat.add_comm]
    · unfold mks
      have hyx : y ≠ x := fun e => hn.1 (by rw [← e]; exact hy)
      rw [va_up_ne _ _ hyx]
      exact he y (List.mem_cons_of_mem _ hy)
theorem mkL_get {q rd : Nat} : ∀ (L : List Nat) sn x q', mkL q rd L sn x q' = if x ∈ L ∧ q' = q then rd else sn x q' := by
  intro L
  induction L with
  | nil => intro sn x q'; rw [if_neg (fun h => by cases h.1)]; rfl
  | cons y L ih =>
    intro sn x q'
    show mkL q rd L (mks q rd sn y) x q' = _
    rw [ih]
    by_cases h1 : x ∈ L ∧ q' = q
    · rw [if_pos h1, if_pos ⟨List.mem_cons_of_mem _ h1.1, h1.2⟩]
    · rw [if_neg h1]
      unfold mks
      by_cases hxy : x = y
      · rw [hxy, va_up_self]
        by_cases hq : q' = q
        · rw [hq, va_up_self, if_pos ⟨List.mem_cons_self, rfl⟩]
        · rw [va_up_ne _ _ hq, if_neg (fun h => hq h.2)]
      · rw [va_up_ne _ _ hxy, if_neg (fun h => h1 ⟨(List.mem_cons.mp h.1).resolve_left hxy, h.2⟩)]
end
section
variable {g : pg_G} {A : Nat → Nat} {T : sT} {sn : Nat → Nat → Nat}
theorem cT.one {k : Nat} {s' : Nat → Nat} {g' : pg_G} {W : Nat → Prop} (h : cT g A T sn) (hk : k ≤ 60) (hl : 0 < kd T k) (hg : pg_Wf g) (hx : pg_Ext W g g') (h0 : ¬ W 0) (hw : ∀ t, 100 ≤ t → W t → 100 + 3 * A k ≤ t ∧ t ≤ 102 + 3 * A k) (hN : cn_N g' (A k) (nm T k) (if k = 60 then none else some (A (pa T k))) (decide (kd T k = 2)) ((ch T k).map A) (pk T k) s') : cT g' A T (va_up sn k s') := by
  refine ⟨fun j hj hjl => ?_, h.2⟩
  by_cases hjk : j = k
  · rw [hjk, va_up_self]; exact hN
  · rw [va_up_ne _ _ hjk]
    have hA : A j ≠ A k := fun e => hjk (h.2.1 j k hj hk hjl hl e)
    exact (h.1 j hj hjl).ext hg hx h0 (fun i hi hWt => by have := hw _ (by omega) hWt; omega)
theorem cQ_look {q aq rd k : Nat} {Q : sQ} {fs : Nat → Nat → Int32} (hg : pg_Wf g) (hT : cT g A T sn) (hQ : cQ g q aq Q rd fs) (hk : k ≤ 60) (hl : 0 < kd T k) (hq : q < 6) (hr1 : 1 ≤ rd) (hr : rd < 2 ^ 30) (hs : sn k q ≤ rd) : pg_T (fX7_looksAnewAt aq (some (A k)) g.1) 0 0 (fun t => t = 102 + 3 * A k) g (fun r g' => r = (if sn k q = rd - 1 then 0 else 1) ∧ cT g' A T (mks q rd sn k)) := by
  obtain ⟨p, l, xs, q1, q2, q3, q4, q5, q6⟩ := hQ
  obtain ⟨s, c, e, o1, o2, o3, f, f1, f2, f3⟩ := hT.1 k hk hl
  simp only [fX7_looksAnewAt, pg_o1, pg_gR o1.1 (k := 4) rfl, pg_gI q1 (k := 1) rfl, if_neg (nI_pos (n := q) (by omega)), pg_al f1 (by decide), if_pos (nI_lt hq (by decide)), pg_aI f1 hq (by decide), pg_gI q1 (k := 3) rfl, f3 q hq, li_sub1 hr1, nI_eq (show sn k q < 2 ^ 31 by omega) (show rd - 1 < 2 ^ 31 by omega), fX7_looksAnewAt_44]
  have xx := pg_put_ext (W := fun t => t = 102 + 3 * A k) (e := .inl (2, 6, .inl (upd f q (vp_nar (vg_tyI 2) (nI rd))))) hg f1 f2 (by simp [pg_kd])
  have hT' : cT (pg_put g e (.inl (2, 6, .inl (upd f q (vp_nar (vg_tyI 2) (nI rd)))))) A T (mks q rd sn k) := by
    refine hT.one hk hl hg xx (by omega) (fun t _ h => by omega) ⟨s, c, e, o1.ext hg xx (by omega), o2.ext hg xx (by omega), o3.ext hg xx (by decide) (by omega), _, pg_put_self _ _ _, f2, fun q' hq' => ?_⟩
    show upd f q (nI rd) q' = _
    by_cases hqq : q' = q
    · rw [hqq, pk_us, va_up_self]
    · rw [pk_un hqq, va_up_ne _ _ hqq]; exact f3 q' hq'
  by_cases hc : sn k q = rd - 1
  · rw [if_pos hc, if_pos hc, pg_z0]
    exact pg_T.sI hg f1 hq (by decide) (by rw [f2]; omega) f2 (pg_T.ret xx.wf ⟨rfl, hT'⟩)
  · rw [if_neg hc, if_neg hc, pg_z1]
    exact pg_T.sI hg f1 hq (by decide) (by rw [f2]; omega) f2 (pg_T.ret xx.wf ⟨rfl, hT'⟩)
end
/-- where a walk stands -/
def wS (g : pg_G) (A : Nat → Nat) (T : sT) (sn : Nat → Nat → Nat) (q aq : Nat) (Q : sQ) (rd : Nat) (fs : Nat → Nat → Int32) (w pb ans : Nat) (tr : List Nat) (an : List (List Nat)) (lk : Nat) : Prop := pg_Wf g ∧ pg_C g ∧ g.1.1 w = some (.inr (12, [.ref ans, .ref pb])) ∧ g.2 w = 0 ∧ cT g A T sn ∧ cQ g q aq Q rd fs ∧ cQf Q fs (tr.map (nm T)) ∧ bu_B g 3 pb (pstr (tr.map (nm T))) ∧ cA g ans an lk
def wW (q : Nat) (t : Nat) : Prop := t = 3 ∨ t = 4 ∨ t = 8 ∨ t = 9 ∨ (30 + 8 * q ≤ t ∧ t < 38 + 8 * q) ∨ 100 ≤ t
section
variable {A : Nat → Nat} {T : sT} {q aq rd w pb ans : Nat} {Q : sQ}
theorem cQf.take {fs fs' : Nat → Nat → Int32} {ns ms : List (List Nat)} (h : cQf Q fs ns) (he : ∀ j k, k ≤ ns.length → fs' j k = fs j k) : cQf Q fs' ns := fun i hi j hj => by rw [he i j hj]; exact h i hi j hj
/-- the rest of a node's children -/
theorem cw_loop (hW : WT T) (hq : q < 6) (hr1 : 1 ≤ rd) (hr : rd < 2 ^ 30) {k d n0 : Nat} {tr : List Nat} (hk : k ≤ 60) (hk2 : kd T k = 2) (hd : d = tr.length) (hdp : d ≤ dp T k) (htr : ∀ x ∈ tr, (nm T x).length ≤ 8)
    (rec : ∀ c (g : pg_G) (sn : Nat → Nat → Nat) (fs : Nat → Nat → Int32) (an : List (List Nat)) (lk : Nat), c < 60 → kd T c = 2 → pa T c = k → wS g A T sn q aq Q rd fs w pb ans (tr ++ [c]) an lk → (∀ x, sn x q ≤ rd) → an.length + (visG T (wgo T) (6 - d) (ch T c)).length ≤ 60 → pg_T (gX9_lookInto n0 w (some aq) (some (A c)) (nI (d + 1)) g.1) (2 * (visG T (wgo T) (6 - d) (ch T c)).length) (140 * (visG T (wgo T) (6 - d) (ch T c)).length) (wW q) g (fun _ g' => ∃ fs', wS g' A T (mkL q rd (c :: wkL T Q (6 - d) (ch T c) ((tr ++ [c]).map (nm T))) sn) q aq Q rd fs' w pb ans (tr ++ [c]) (an ++ wkA T Q (6 - d) (ch T c) ((tr ++ [c]).map (nm T))) (lk + kct q rd (c :: wkL T Q (6 - d) (ch T c) ((tr ++ [c]).map (nm T))) sn) ∧ ∀ j k, k ≤ d + 1 → fs' j k = fs j k)) :
    ∀ n i (g : pg_G) (sn : Nat → Nat → Nat) (fs : Nat → Nat → Int32) (an : List (List Nat)) (lk : Nat), wS g A T sn q aq Q rd fs w pb ans tr an lk → (∀ x, sn x q ≤ rd) → i ≤ (ch T k).length → (ch T k).length < i + n → an.length + (visG T (wgo T) (7 - d) ((ch T k).drop i)).length ≤ 60 → pg_T (fX9_lookInto_24 (gX9_lookInto n0) n w (some aq) (some (A k)) (nI d) (nI i) g.1) (2 * (visG T (wgo T) (7 - d) ((ch T k).drop i)).length) (140 * (visG T (wgo T) (7 - d) ((ch T k).drop i)).length) (wW q) g (fun _ g' => ∃ fs', wS g' A T (mkL q rd (wkL T Q (7 - d) ((ch T k).drop i) (tr.map (nm T))) sn) q aq Q rd fs' w pb ans tr (an ++ wkA T Q (7 - d) ((ch T k).drop i) (tr.map (nm T))) (lk + kct q rd (wkL T Q (7 - d) ((ch T k).drop i) (tr.map (nm T))) sn) ∧ ∀ j k, k ≤ d → fs' j k = fs j k) := by
  have hkl : 0 < kd T k := by omega
  have hlen := hW.len hk hkl
  have hlm : ((ch T k).map A).length = (ch T k).length := List.length_map ..
  intro n
  induction n with
  | zero => intro i g sn fs an lk _ _ hi hn; omega
  | succ n ih =>
    intro i g sn fs an lk hS hsn hi hn h60
    obtain ⟨hg, hC, hwo, hwt, hT, hQ, hQf, hB, hA⟩ := hS
    obtain ⟨s, c0, e, o1, o2, o3, o4⟩ := hT.1 k hk hkl
    obtain ⟨fl, hlo⟩ := pl_is o3
    rw [fX9_lookInto_24]
    simp only [pg_o1, pg_gR o1.1 (k := 3) rfl, pg_cv hlo, pl_size o3, pg_b0, fX9_lookInto_80, hlm]
    by_cases hie : i = (ch T k).length
    · rw [if_pos (nI_le (by omega) (by omega)), hie, List.drop_length, wkA_nil, wkL_nil]
      refine pg_T.ret hg ⟨fs, ?_, fun _ _ _ => rfl⟩
      rw [List.append_nil]
      exact ⟨hg, hC, hwo, hwt, hT, hQ, hQf, hB, hA⟩
    · have hlt : i < (ch T k).length := by omega
      have hcm : (ch T k).getD i 0 ∈ ch T k := by rw [ls_get hlt]; exact List.getElem_mem hlt
      obtain ⟨c1, c2, c3⟩ := (hW.mem hk hkl).mp hcm
      obtain ⟨v1, v2, v3, v4, v5, v6⟩ := hW.2.2.2.2.1 _ c1 c2
      rw [c3] at v4
      have e1 : (ch T k).drop i = (ch T k).getD i 0 :: (ch T k).drop (i + 1) := by rw [List.drop_eq_getElem_cons hlt, ls_get hlt]
      have hge : ((ch T k).map A).getD i 0 = A ((ch T k).getD i 0) := by
        rw [List.getD_eq_getElem?_getD, List.getElem?_map, List.getElem?_eq_getElem hlt, ls_get hlt]; rfl
      rw [if_neg (nI_ge hlt (by omega)), if_neg (show ¬ (6 : Int32) ≤ nI d from nI_ge (b := 6) (by omega) (by decide)), pl_get o3 (by rw [hlm]; exact hlt), pg_b0, hge]
      generalize hc : (ch T k).getD i 0 = c at *
      have hNc := hT.1 c (by omega) c2
      obtain ⟨sc, cc, ec, oc1, oc2, oc3, oc4⟩ := id hNc
      rw [pg_ckO oc1.1, pg_o1, pg_gI oc1.1 (k := 5) rfl, pg_o1, e1, show 7 - d = (6 - d) + 1 by omega, wkA_cons, wkL_cons, vis_cons]
      rw [e1, show 7 - d = (6 - d) + 1 by omega, vis_cons, List.length_append, List.length_cons] at h60
      rw [List.length_append, List.length_cons]
      rw [show 7 - d = (6 - d) + 1 by omega] at ih
      cases hpk : pk T c with
      | true =>
        have hw1 : woth T c = true := by unfold woth; rw [decide_eq_true (v6 hpk), hpk]; rfl
        have hw2 : wgo T c = false := by unfold wgo; rw [hpk]; cases decide (kd T c = 2) <;> rfl
        rw [bI_t, if_neg (by decide), fX9_lookInto_74, nI_1, if_pos hw1, hw2, if_neg (by decide), if_neg (by decide), List.nil_append, List.nil_append]
        rw [hw2, if_neg (by decide)] at h60
        exact (ih (i + 1) g sn fs an lk ⟨hg, hC, hwo, hwt, hT, hQ, hQf, hB, hA⟩ hsn (by omega) (by omega) (by rw [List.length_nil] at h60; omega)).mono (by omega) (by omega) (fun _ h => h) (fun _ _ _ h => h)
      | false =>
        have hw1 : ¬ woth T c = true := by unfold woth; rw [hpk, Bool.and_false]; decide
        have hw2 : wgo T c = decide (kd T c = 2) := by unfold wgo; rw [hpk]; cases decide (kd T c = 2) <;> rfl
        rw [bI_f, if_pos rfl, pg_cv hwo, if_neg hw1]
        have h8 : (nm T c).length ≤ 8 := by
          simp only [pt_name, Bool.and_eq_true, decide_eq_true_eq] at v3; omega
        have hpl := pstr_len (T := T) (tr := tr) htr
        have hplc := pstr_len (T := T) (tr := tr ++ [c]) (fun x hx => (List.mem_append.mp hx).elim (htr x) (fun h => by rw [List.mem_singleton.mp h]; exact h8))
        rw [List.length_append] at hplc
        have hplc : (pstr ((tr ++ [c]).map (nm T))).length ≤ 9 * (tr.length + 1) - 1 := hplc
        have hmap : (tr ++ [c]).map (nm T) = tr.map (nm T) ++ [nm T c] := by rw [List.map_append]; rfl
        have hpj : pstr ((tr ++ [c]).map (nm T)) = pj (pstr (tr.map (nm T))) (nm T c) := by rw [hmap, pstr_snoc]
        -- the way behind this child
        have after : ∀ (C N : Nat) (g5 : pg_G) (sn5 : Nat → Nat → Nat) (fs5 : Nat → Nat → Int32) (an5 : List (List Nat)) (lk5 : Nat), wS g5 A T sn5 q aq Q rd fs5 w pb ans (tr ++ [c]) an5 lk5 → pg_T (fX9_passBy_90 (gX9_lookInto n0) w (nI (pstr (tr.map (nm T))).length) g5.1) C N (fun t => t = 3) g5 (fun _ g6 => wS g6 A T sn5 q aq Q rd fs5 w pb ans tr an5 lk5) := by
          intro C N g5 sn5 fs5 an5 lk5 h5
          obtain ⟨hg5, hC5, hwo5, hwt5, hT5, hQ5, hQf5, hB5, hA5⟩ := h5
          obtain ⟨fb, hbo⟩ := bu_is hB5
          rw [fX9_passBy_90, pg_gR hwo5 (k := 1) rfl, pg_o1, pg_o1, pg_cv hbo]
          have hle : (pstr (tr.map (nm T))).length ≤ (pstr ((tr ++ [c]).map (nm T))).length := by
            rw [hpj]; unfold pj; split
            · omega
            · rw [List.length_append]; omega
          refine pg_T.b (bu_set hg5 hB5 (by decide) hle) (fun _ h => h) (Nat.zero_le _) (Nat.zero_le _) (fun r g6 hx6 hb6 => pg_T.ret hx6.wf ?_)
          refine ⟨hx6.wf, hC5.ext hg5 hx6 (by decide), hx6.at hg5 hwo5 (by rw [hwt5]; decide), by rw [hx6.tag hg5 hwo5, hwt5], hT5.ext hg5 hx6 (by decide) (fun t h e => by omega), hQ5.ext hg5 hx6 (by decide) (by omega) (by omega) (fun i hi => by omega), fun i hi j hj => ?_, ?_, hA5.ext hg5 hx6 (by decide) (by decide) (by decide)⟩
          · have := hQf5 i hi j (by rw [hmap, List.length_append]; omega)
            rw [hmap, List.take_append_of_le_length hj] at this; exact this
          · have e : (pstr ((tr ++ [c]).map (nm T))).take (pstr (tr.map (nm T))).length = pstr (tr.map (nm T)) := by
              rw [hpj]; unfold pj
              by_cases h0 : (pstr (tr.map (nm T))).length = 0
              · rw [if_pos h0, h0, List.take_zero, List.eq_nil_of_length_eq_zero h0]
              · rw [if_neg h0, List.take_left']; rfl
            rw [e] at hb6; exact hb6
        have p68 : ∀ (g4 : pg_G) (fs4 : Nat → Nat → Int32) (an4 : List (List Nat)), wS g4 A T sn q aq Q rd fs4 w pb ans (tr ++ [c]) an4 lk → an4.length + (if kd T c = 2 then (visG T (wgo T) (6 - d) (ch T c)).length else 0) ≤ 60 → pg_T (fX9_passBy_68 (gX9_lookInto n0) w (some aq) (some (A c)) (nI (d + 1)) (nI (pstr (tr.map (nm T))).length) g4.1) (2 * (if kd T c = 2 then (visG T (wgo T) (6 - d) (ch T c)).length else 0)) (140 * (if kd T c = 2 then (visG T (wgo T) (6 - d) (ch T c)).length else 0)) (wW q) g4 (fun _ g' => ∃ fs', wS g' A T (mkL q rd (if wgo T c = true then (if qgoes Q (tr.map (nm T) ++ [nm T c]) = true then [c] else []) ++ wkL T Q (6 - d) (ch T c) (tr.map (nm T) ++ [nm T c]) else []) sn) q aq Q rd fs' w pb ans tr (an4 ++ (if kd T c = 2 then wkA T Q (6 - d) (ch T c) (tr.map (nm T) ++ [nm T c]) else [])) (lk + kct q rd (if wgo T c = true then (if qgoes Q (tr.map (nm T) ++ [nm T c]) = true then [c] else []) ++ wkL T Q (6 - d) (ch T c) (tr.map (nm T) ++ [nm T c]) else []) sn) ∧ ∀ j k, k ≤ d + 1 → fs' j k = fs4 j k) := by
          intro g4 fs4 an4 h4 hroom
          obtain ⟨hg4, hC4, hwo4, hwt4, hT4, hQ4, hQf4, hB4, hA4⟩ := id h4
          obtain ⟨sc4, cc4, ec4, oc14, -⟩ := id (hT4.1 c (by omega) c2)
          rw [fX9_passBy_68, pg_o1, pg_gI oc14.1 (k := 2) rfl, pg_o1, hw2]
          by_cases hf : kd T c = 2
          · rw [if_pos hf] at hroom
            simp only [if_pos hf, decide_eq_true hf]
            rw [bI_t, if_neg (by decide), pg_o1]
            obtain ⟨pq, lq, xq, oq, -⟩ := id hQ4
            rw [pg_cv oq, cQ_goes (tr := (tr ++ [c]).map (nm T)) hQ4 hQf4 (by rw [List.length_map, List.length_append, hd]; rfl) (by omega), pg_b0, hmap]
            cases hgo : qgoes Q (tr.map (nm T) ++ [nm T c]) with
            | false =>
              obtain ⟨d1, d2⟩ := wk_dead (T := T) (6 - d) (ch T c) _ hgo
              rw [bI_f, if_pos rfl, d1, d2]
              refine (after _ _ g4 sn fs4 an4 lk h4).mono (Nat.le_refl _) (Nat.le_refl _) (fun t h => Or.inl h) (fun r g' _ hp => ⟨fs4, ?_, fun _ _ _ => rfl⟩)
              simp only [Bool.false_eq_true, if_false, List.append_nil, if_true]
              exact hp
            | true =>
              rw [bI_t, if_neg (by decide), pg_cv hwo4]
              have hr := rec c g4 sn fs4 an4 lk c1 hf c3 h4 hsn hroom
              refine pg_T.b hr (fun _ h => h) (Nat.le_refl _) (Nat.le_refl _) (fun r g5 hx5 hp => ?_)
              obtain ⟨fs5, hp1, hp2⟩ := hp
              refine (after _ _ g5 _ fs5 _ _ hp1).mono (Nat.le_refl _) (Nat.le_refl _) (fun t h => Or.inl h) (fun r g' _ hp => ⟨fs5, ?_, hp2⟩)
              rw [hmap] at hp
              simp only [if_true, List.cons_append, List.nil_append]
              exact hp
          · simp only [if_neg hf, decide_eq_false hf]
            rw [bI_f, if_pos rfl]
            refine (after _ _ g4 sn fs4 an4 lk h4).mono (Nat.le_refl _) (Nat.le_refl _) (fun t h => Or.inl h) (fun r g' _ hp => ⟨fs4, ?_, fun _ _ _ => rfl⟩)
            simp only [Bool.false_eq_true, if_false, List.append_nil]
            exact hp
        have h3W : ∀ t : Nat, t = 3 → ¬ (t = 0) ∧ t ≠ 4 ∧ t ≠ 8 ∧ t ≠ 9 ∧ ¬ 100 ≤ t ∧ t < 10 := fun t h => by omega
        -- from the name appended on
        have p24 : ∀ (g2 : pg_G), pg_Wf g2 → pg_Ext (fun t => t = 3) g g2 → bu_B g2 3 pb (if (pstr (tr.map (nm T))).length = 0 then [] else pstr (tr.map (nm T)) ++ [47]) → pg_T (fX9_passBy_24 (gX9_lookInto n0) w (some aq) (some (A c)) (nI (d + 1)) (nI (pstr (tr.map (nm T))).length) g2.1) (1 + 2 * (if kd T c = 2 then (visG T (wgo T) (6 - d) (ch T c)).length else 0)) (70 + 140 * (if kd T c = 2 then (visG T (wgo T) (6 - d) (ch T c)).length else 0)) (wW q) g2 (fun _ g' => ∃ fs', wS g' A T (mkL q rd (if wgo T c = true then (if qgoes Q (tr.map (nm T) ++ [nm T c]) = true then [c] else []) ++ wkL T Q (6 - d) (ch T c) (tr.map (nm T) ++ [nm T c]) else []) sn) q aq Q rd fs' w pb ans tr (an ++ ((if qtakes Q (tr.map (nm T) ++ [nm T c]) (decide (kd T c = 2)) = true then [pstr (tr.map (nm T) ++ [nm T c])] else []) ++ (if kd T c = 2 then wkA T Q (6 - d) (ch T c) (tr.map (nm T) ++ [nm T c]) else []))) (lk + kct q rd (if wgo T c = true then (if qgoes Q (tr.map (nm T) ++ [nm T c]) = true then [c] else []) ++ wkL T Q (6 - d) (ch T c) (tr.map (nm T) ++ [nm T c]) else []) sn) ∧ ∀ j k, k ≤ d → fs' j k = fs j k) := by
          intro g2 hg2 x2 hB2
          have hwo2 := x2.at hg hwo (by rw [hwt]; decide)
          have hwt2 : g2.2 w = 0 := by rw [x2.tag hg hwo, hwt]
          have hT2 := hT.ext hg x2 (by decide) (fun t h e => by omega)
          have hQ2 := hQ.ext hg x2 (by decide) (by omega) (by omega) (fun i hi => by omega)
          have hA2 := hA.ext hg x2 (by decide) (by decide) (by decide)
          have hC2 := hC.ext hg x2 (by decide)
          obtain ⟨sc2, cc2, ec2, oc12, oc22, -⟩ := id (hT2.1 c (by omega) c2)
          obtain ⟨fb, hbo⟩ := bu_is hB2
          rw [fX9_passBy_24, pg_gR hwo2 (k := 1) rfl, pg_o1, pg_o1, pg_gR oc12.1 (k := 0) rfl, pg_o1, pg_o1, pg_cv hbo]
          have hBl : (if (pstr (tr.map (nm T))).length = 0 then [] else pstr (tr.map (nm T)) ++ [47]).length + (nm T c).length ≤ 70 := by
            split
            · rw [List.length_nil]; omega
            · rw [List.length_append, List.length_singleton]; omega
          refine pg_T.b (bu_app hg2 hB2 oc22 (by decide) hBl (by omega)) (fun t h => Or.inl h) (by omega) (by omega) (fun r g3 x3 hB3 => ?_)
          have hpb3 : (if (pstr (tr.map (nm T))).length = 0 then [] else pstr (tr.map (nm T)) ++ [47]) ++ nm T c = pstr ((tr ++ [c]).map (nm T)) := by
            rw [hpj]; unfold pj
            by_cases h0 : (pstr (tr.map (nm T))).length = 0
            · rw [if_pos h0, if_pos h0, List.nil_append]
            · rw [if_neg h0, if_neg h0, List.append_assoc]; rfl
          rw [hpb3] at hB3
          have hg3 := x3.wf
          have hwo3 := x3.at hg2 hwo2 (by rw [hwt2]; decide)
          have hwt3 : g3.2 w = 0 := by rw [x3.tag hg2 hwo2, hwt2]
          have hT3 := hT2.ext hg2 x3 (by decide) (fun t h e => by omega)
          have hQ3 := hQ2.ext hg2 x3 (by decide) (by omega) (by omega) (fun i hi => by omega)
          have hA3 := hA2.ext hg2 x3 (by decide) (by decide) (by decide)
          have hC3 := hC2.ext hg2 x3 (by decide)
          obtain ⟨sc3, cc3, ec3, oc13, oc23, -⟩ := id (hT3.1 c (by omega) c2)
          obtain ⟨pq, lq, xq, oq, -⟩ := id hQ3
          rw [pg_gR oc13.1 (k := 0) rfl, pg_o1, pg_o1, pg_cv oq]
          refine pg_T.b (cQ_pass hg3 hQ3 hQf oc23 (by rw [List.length_map, hd]) (by omega)) (fun t h => Or.inr (Or.inr (Or.inr (Or.inr (Or.inl h))))) (Nat.zero_le _) (Nat.zero_le _) (fun r g4 x4 hp4 => ?_)
          obtain ⟨fs4, hQ4, hQf4, hfs4⟩ := hp4
          have hg4 := x4.wf
          have hwo4 := x4.at hg3 hwo3 (by rw [hwt3]; omega)
          have hwt4 : g4.2 w = 0 := by rw [x4.tag hg3 hwo3, hwt3]
          have hT4 := hT3.ext hg3 x4 (by omega) (fun t h e => by omega)
          have hA4 := hA3.ext hg3 x4 (by omega) (by omega) (by omega)
          have hC4 := hC3.ext hg3 x4 (by omega)
          have hB4 := hB3.ext hg3 x4 (by omega)
          obtain ⟨sc4, cc4, ec4, oc14, -⟩ := id (hT4.1 c (by omega) c2)
          obtain ⟨pq4, lq4, xq4, oq4, -⟩ := id hQ4
          rw [pg_gI oc14.1 (k := 2) rfl, pg_o1, pg_cv oq4, cQ_takes (tr := tr.map (nm T) ++ [nm T c]) hQ4 hQf4 (by rw [List.length_append, List.length_map, hd]; rfl) (by omega), pg_b0]
          have hroom0 : an.length + (if kd T c = 2 then (visG T (wgo T) (6 - d) (ch T c)).length else 0) + 1 ≤ 60 := by
            rw [hw2] at h60
            by_cases hf : kd T c = 2
            · rw [if_pos (decide_eq_true hf)] at h60; rw [if_pos hf]; omega
            · rw [if_neg (by rw [decide_eq_false hf]; decide), List.length_nil] at h60; rw [if_neg hf]; omega
          cases htk : qtakes Q (tr.map (nm T) ++ [nm T c]) (decide (kd T c = 2)) with
          | false =>
            rw [bI_f, if_pos rfl]
            simp only [Bool.false_eq_true, if_false, List.nil_append]
            refine (p68 g4 fs4 an ⟨hg4, hC4, hwo4, hwt4, hT4, hQ4, by rw [hmap]; exact hQf4, hB4, hA4⟩ (by omega)).mono (by omega) (by omega) (fun _ h => h) (fun r g' _ hp => ?_)
            obtain ⟨fs', e1, e2⟩ := hp
            exact ⟨fs', e1, fun j k hk => by rw [e2 j k (by omega), hfs4 j k hk]⟩
          | true =>
            obtain ⟨lt, ln, fll, fnn, ao, -⟩ := id hA4
            rw [bI_t, if_neg (by decide), pg_gR hwo4 (k := 0) rfl, pg_o1, pg_gR hwo4 (k := 1) rfl, pg_o1, pg_o1, pg_cv ao.1]
            simp only [if_true]
            refine pg_T.b (cA_add hg4 hA4 hB4 (by omega) (by omega)) (fun t h => by unfold wW; omega) (Nat.zero_le _) (Nat.zero_le _) (fun r g5 x5 hA5 => ?_)
            have hg5 := x5.wf
            refine (p68 g5 fs4 (an ++ [pstr ((tr ++ [c]).map (nm T))]) ⟨hg5, hC4.ext hg4 x5 (by decide), x5.at hg4 hwo4 (by rw [hwt4]; decide), by rw [x5.tag hg4 hwo4, hwt4], hT4.ext hg4 x5 (by decide) (fun t h e => by omega), hQ4.ext hg4 x5 (by decide) (by omega) (by omega) (fun i hi => by omega), by rw [hmap]; exact hQf4, hB4.ext hg4 x5 (by decide), hA5⟩ (by rw [List.length_append, List.length_singleton]; omega)).mono (by omega) (by omega) (fun _ h => h) (fun r g' _ hp => ?_)
            obtain ⟨fs', e1, e2⟩ := hp
            rw [hmap, List.append_assoc] at e1
            exact ⟨fs', e1, fun j k hk => by rw [e2 j k (by omega), hfs4 j k hk]⟩
        have pby : pg_T (fX9_passBy (gX9_lookInto n0) w (some aq) (some (A c)) (nI d + 1) g.1) (2 + 2 * (if kd T c = 2 then (visG T (wgo T) (6 - d) (ch T c)).length else 0)) (140 + 140 * (if kd T c = 2 then (visG T (wgo T) (6 - d) (ch T c)).length else 0)) (wW q) g (fun _ g' => ∃ fs', wS g' A T (mkL q rd (if wgo T c = true then (if qgoes Q (tr.map (nm T) ++ [nm T c]) = true then [c] else []) ++ wkL T Q (6 - d) (ch T c) (tr.map (nm T) ++ [nm T c]) else []) sn) q aq Q rd fs' w pb ans tr (an ++ ((if qtakes Q (tr.map (nm T) ++ [nm T c]) (decide (kd T c = 2)) = true then [pstr (tr.map (nm T) ++ [nm T c])] else []) ++ (if kd T c = 2 then wkA T Q (6 - d) (ch T c) (tr.map (nm T) ++ [nm T c]) else []))) (lk + kct q rd (if wgo T c = true then (if qgoes Q (tr.map (nm T) ++ [nm T c]) = true then [c] else []) ++ wkL T Q (6 - d) (ch T c) (tr.map (nm T) ++ [nm T c]) else []) sn) ∧ ∀ j k, k ≤ d → fs' j k = fs j k) := by
          obtain ⟨fb, hbo⟩ := bu_is hB
          rw [fX9_passBy, pg_gR hwo (k := 1) rfl, pg_o1, pg_o1, pg_cv hbo, bu_length hB, pg_b0, nI_1]
          by_cases h0 : (pstr (tr.map (nm T))).length = 0
          · rw [if_pos (by rw [li_le0 (by omega)]; exact h0)]
            refine (p24 g hg (pg_Ext.refl hg) ?_).mono (by omega) (by omega) (fun _ h => h) (fun _ _ _ h => h)
            rw [if_pos h0]
            rw [List.eq_nil_of_length_eq_zero h0] at hB; exact hB
          · rw [if_neg (by rw [li_le0 (by omega)]; exact h0), pg_gR hwo (k := 1) rfl, pg_o1, pg_o1, pg_cv hbo]
            refine pg_T.b (bu_app1 (c := 47) hg hB (by decide) (by omega) (by decide)) (fun t h => Or.inl h) (by omega) (by omega) (fun r g2 x2 hB2 => ?_)
            refine (p24 g2 x2.wf x2 ?_).mono (by omega) (by omega) (fun _ h => h) (fun _ _ _ h => h)
            rw [if_neg h0]; exact hB2
        have hcost : (if wgo T c = true then visG T (wgo T) (6 - d) (ch T c) else []).length = if kd T c = 2 then (visG T (wgo T) (6 - d) (ch T c)).length else 0 := by
          rw [hw2]
          by_cases hf : kd T c = 2
          · rw [if_pos (decide_eq_true hf), if_pos hf]
          · rw [if_neg (by rw [decide_eq_false hf]; decide), if_neg hf]; rfl
        rw [hcost] at h60 ⊢
        refine pg_T.b pby (fun _ h => h) (by omega) (by omega) (fun r g1 hx1 hp => ?_)
        obtain ⟨fs1, hp1, hp2⟩ := hp
        rw [fX9_lookInto_74, nI_1]
        have hlenA : ((if qtakes Q (tr.map (nm T) ++ [nm T c]) (decide (kd T c = 2)) = true then [pstr (tr.map (nm T) ++ [nm T c])] else []) ++ (if kd T c = 2 then wkA T Q (6 - d) (ch T c) (tr.map (nm T) ++ [nm T c]) else [])).length ≤ 1 + (if kd T c = 2 then (visG T (wgo T) (6 - d) (ch T c)).length else 0) := by
          rw [List.length_append]
          have a1 : (if qtakes Q (tr.map (nm T) ++ [nm T c]) (decide (kd T c = 2)) = true then [pstr (tr.map (nm T) ++ [nm T c])] else []).length ≤ 1 := by split <;> simp
          have a2 : (if kd T c = 2 then wkA T Q (6 - d) (ch T c) (tr.map (nm T) ++ [nm T c]) else []).length ≤ (if kd T c = 2 then (visG T (wgo T) (6 - d) (ch T c)).length else 0) := by
            by_cases hf : kd T c = 2
            · rw [if_pos hf, if_pos hf]; exact wkA_len _ _ _
            · rw [if_neg hf, if_neg hf]; exact Nat.le_refl _
          omega
        refine (ih (i + 1) g1 _ fs1 _ _ hp1 (fun x => ?_) (by omega) (by omega) (by rw [List.length_append]; omega)).mono (by omega) (by omega) (fun _ h => h) (fun r g' _ hp => ?_)
        · have key : ∀ (p : Prop) [Decidable p], (if p then rd else sn x q) ≤ rd := fun p _ => by
            by_cases hp : p
            · rw [if_pos hp]; exact Nat.le_refl _
            · rw [if_neg hp]; exact hsn x
          rw [mkL_get]
          exact key _
        · obtain ⟨fs', e1, e2⟩ := hp
          rw [← mkL_app, List.append_assoc, Nat.add_assoc, ← kct_app] at e1
          exact ⟨fs', e1, fun j k hk => by rw [e2 j k hk, hp2 j k hk]⟩
end
