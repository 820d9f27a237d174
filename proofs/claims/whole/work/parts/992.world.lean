/-! The law's start, out of the Statement's words. -/
section LWW
variable {s : State} {args : Array Value}
theorem lw_asb (h : (Cond.selects RJ4 yJ5_isLatin1_aae02 yJ5_isLatin1_aae02).before args s = true) : ∀ y : MethodName, y.cls = RJ5 → ∀ mk, s.methodNamed? y = some mk → ∃ k, s.vm.classes[mk.cls]? = some k ∧ k.isInterface = false := by
  obtain ⟨c2, r2, m2, -, -, q3, -, kP, hkP, hkPi⟩ := Cond.selects_spec h
  intro y hy mk hn
  have h1 : s.vm.findClass y.cls = some mk.cls := findClass_of_methodNamed hn
  have h2 : s.vm.findClass yJ5_isLatin1_aae02.cls = some m2.cls := findClass_of_methodNamed q3
  rw [hy] at h1
  have e : mk.cls = m2.cls := Option.some.inj (h1.symm.trans h2)
  rw [e]
  exact ⟨kP, hkP, hkPi⟩
theorem lw_T (hts : ∀ w ∈ lw_tbl, w.before args s = true) : ∀ w ∈ vg_T, w.before args s = true := by
  have hA := lw_asb (hts (.selects RJ4 yJ5_isLatin1_aae02 yJ5_isLatin1_aae02) (by decide +kernel))
  have hI := hts (.instantiable RJ4 4) (by decide +kernel)
  intro w hw
  rcases List.mem_append.mp (List.mem_filter.mp hw).1 with h | h
  · simp only [vg_sel, List.mem_cons, List.not_mem_nil, or_false] at h
    rcases h with rfl | rfl | rfl | rfl | rfl | rfl
    · exact vg_selP (by decide +kernel) hI (hts (.privateMethod yJ5_ensureCapacityInternal_d00df) (by decide +kernel)) (hts (.instanceMethod yJ5_ensureCapacityInternal_d00df) (by decide +kernel)) (hA _ rfl)
    · exact vg_selP (by decide +kernel) hI (hts (.privateMethod yJ5_newCapacity_0f7a4) (by decide +kernel)) (hts (.instanceMethod yJ5_newCapacity_0f7a4) (by decide +kernel)) (hA _ rfl)
    · exact vg_selP (by decide +kernel) hI (hts (.privateMethod yJ5_inflate_da8c8) (by decide +kernel)) (hts (.instanceMethod yJ5_inflate_da8c8) (by decide +kernel)) (hA _ rfl)
    · exact vg_selP (by decide +kernel) hI (hts (.privateMethod yJ5_appendNull_278bc) (by decide +kernel)) (hts (.instanceMethod yJ5_appendNull_278bc) (by decide +kernel)) (hA _ rfl)
    · exact vg_selP (by decide +kernel) hI (hts (.privateMethod yJ5_putStringAt_47b60) (by decide +kernel)) (hts (.instanceMethod yJ5_putStringAt_47b60) (by decide +kernel)) (hA _ rfl)
    · exact vg_selP (by decide +kernel) hI (hts (.privateMethod yJ5_inflateIfNeededFor_a7421) (by decide +kernel)) (hts (.instanceMethod yJ5_inflateIfNeededFor_a7421) (by decide +kernel)) (hA _ rfl)
  · exact hts w h
set_option maxRecDepth 100000 in
theorem lw_inLit : ∀ q ∈ vg_lits, Cond.stringRef q.1 q.2.1 q.2.2.1 ∈ tables_1 := by decide +kernel
set_option maxRecDepth 100000 in
theorem lw_exLit : ∀ q ∈ vg_lits, Cond.exactly (.string q.1 q.2.1) "java/lang/String" ∈ flatC (Jvm.Cond.and given_1 narrow_1) := by decide +kernel
theorem lw_ixLit : ∀ q ∈ vg_lits, ∀ q' ∈ vg_lits, q.2.2.2 = q'.2.2.2 → q = q' := by decide +kernel
set_option maxRecDepth 100000 in
theorem lw_inNest : ∀ w ∈ vg_nest, w ∈ tables_1 := by decide +kernel
theorem lw_onNest : ∀ w ∈ vg_nest, w.onTables = true := by decide +kernel
theorem lw_lits (hts : ∀ w ∈ lw_tbl, w.before args s = true) (hf : ∀ w ∈ flatC (Jvm.Cond.and given_1 narrow_1), w.before args s = true) : ∃ ad : Nat → Nat, ∀ q ∈ vg_lits, vk_R q.1 q.2.1 q.2.2.1 (ad q.2.2.2) s ∧ (Term.string q.1 q.2.1).eval args s none [] s = some (.ref (ad q.2.2.2)) := by
  have h0 : ∀ i : Nat, ∃ a : Nat, ∀ q ∈ vg_lits, q.2.2.2 = i → vk_R q.1 q.2.1 q.2.2.1 a s ∧ (Term.string q.1 q.2.1).eval args s none [] s = some (.ref a) := by
    intro i
    by_cases hq : ∃ q ∈ vg_lits, q.2.2.2 = i
    · obtain ⟨q, hm, hi⟩ := hq
      obtain ⟨a, c, cA, kA, q1, -⟩ := Cond.exactly_spec (args := args) (first := s) (o := none) (s := s) (idx := []) (hf _ (lw_exLit q hm))
      refine ⟨a, fun q' hm' hi' => ?_⟩
      have e : q' = q := lw_ixLit q' hm' q hm (hi'.trans hi.symm)
      subst e
      exact ⟨vk_R.of (hts _ (List.mem_append_right _ (lw_inLit q' hm'))) q1, q1⟩
    · exact ⟨0, fun q hm hi => absurd ⟨q, hm, hi⟩ hq⟩
  obtain ⟨ad, had⟩ := Classical.axiomOfChoice h0
  exact ⟨ad, fun q hm => had _ q hm rfl⟩
theorem lw_str {own : String} {k : Nat} {cs : List Nat} {a : Nat} {cS : ClassId} {iS : Nat → Nat} (hT : ∀ w ∈ vg_T, w.before args s = true) (hf : ∀ w ∈ flatC (Jvm.Cond.and given_1 narrow_1), w.before args s = true) (hK : u_Kn s RJ0 TJ0 4 cS iS) (hev : (Term.string own k).eval args s none [] s = some (.ref a)) (hN : cs.length < 2 ^ 31)
    (hex : Cond.exactly (.string own k) "java/lang/String" ∈ flatC (Jvm.Cond.and given_1 narrow_1)) (hco : Cond.eq (.field (.string own k) "java/lang/String" "coder" "B") (.int 0) ∈ flatC (Jvm.Cond.and given_1 narrow_1)) (har : Cond.arrayOf (.field (.string own k) "java/lang/String" "value" "[B") .byte ∈ flatC (Jvm.Cond.and given_1 narrow_1)) (hle : Cond.eq (.length (.field (.string own k) "java/lang/String" "value" "[B")) (.int (Int32.ofNat cs.length)) ∈ flatC (Jvm.Cond.and given_1 narrow_1))
    (hel : ∀ j : Nat, j < cs.length → Cond.eq (.elem (.field (.string own k) "java/lang/String" "value" "[B") (.int (Int32.ofNat j))) (.int (nI (cs.getD j 0))) ∈ flatC (Jvm.Cond.and given_1 narrow_1)) : ∃ v kc, StrA s iS cS a v ∧ ByA s v cs kc :=
  str_of hT vcl_0.2.1 hK hev hN (hf _ hex) (hf _ hco) (hf _ har) (hf _ hle) (fun j hj => hf _ (hel j hj))
set_option maxRecDepth 100000 in
set_option maxHeartbeats 4000000 in
theorem lw_world {l : Launch} {p : Program} {m : MethodId} {meth : Method} {c : Code} {b L : Nat} {xs : Nat → Int32} (hL : L ≤ 1536) (hls : l.stackTraces = false) (C0 : lw_At p s m meth c b L xs) : ∃ (D : va_G) (cy : Nat → ClassId) (g : pg_G), LK D cy l p s m c b L xs ∧ vg_H D cy s.heap g.1 s.heap ∧ pg_Wf g ∧ pg_C g ∧ ∀ b, g.2 b = 0 := by
  obtain ⟨hx, hb, hr, hml, hown, hts, hX, hbl, hlocks, hgv⟩ := C0
  have hT := lw_T hts
  have hf : ∀ w ∈ flatC (Jvm.Cond.and given_1 narrow_1), w.before #[Value.ref b] s = true := flat_of_before _ hgv
  clear hgv
  have hfr : ∀ a : Nat, a < s.heap.size → ¬ vg_fr s.heap a := fun a h => Nat.not_le.mpr h
  obtain ⟨D, hD⟩ := vg_knows hT
  obtain ⟨c0, A0, F0'⟩ := vg_arrC (hts (.arrayClass .byte) (by decide +kernel))
  obtain ⟨c1, A1, F1'⟩ := vg_arrC (hts (.arrayClass .char) (by decide +kernel))
  obtain ⟨c2, A2, F2'⟩ := vg_arrC (hts (.arrayClass .int) (by decide +kernel))
  obtain ⟨c3, A3, F3'⟩ := vg_arrC (hts (.arrayClass .boolean) (by decide +kernel))
  obtain ⟨c4, A4, F4'⟩ := vg_arrC (hts (.arrayClass .long) (by decide +kernel))
  obtain ⟨c5, A5, F5'⟩ := vg_arrO (hts (.arrayOver (.object "java/lang/Object")) (by decide +kernel))
  obtain ⟨ad, had⟩ := lw_lits hts hf
  have hK0 : u_Kn s RJ0 TJ0 4 (D.1 0) (D.2 0) := hD 0 _ rfl
  obtain ⟨v0, k0, S0, B0⟩ := lw_str (cs := []) hT hf hK0 (had ("GlobRows$Tree", 11, "", 0) (by decide +kernel)).2 (by decide) (by decide +kernel) (by decide +kernel) (by decide +kernel) (by decide +kernel) (fun j hj => absurd hj (Nat.not_lt_zero _))
  obtain ⟨v1, k1, S1, B1⟩ := lw_str (cs := []) hT hf hK0 (had ("java/lang/StringLatin1", 151, "", 1) (by decide +kernel)).2 (by decide) (by decide +kernel) (by decide +kernel) (by decide +kernel) (by decide +kernel) (fun j hj => absurd hj (Nat.not_lt_zero _))
  obtain ⟨v2, k2, S2, B2⟩ := lw_str (cs := []) hT hf hK0 (had ("GlobRows$Path", 62, "", 4) (by decide +kernel)).2 (by decide) (by decide +kernel) (by decide +kernel) (by decide +kernel) (by decide +kernel) (fun j hj => absurd hj (Nat.not_lt_zero _))
  obtain ⟨v3, k3, S3, B3⟩ := lw_str (cs := [46]) hT hf hK0 (had ("GlobRows", 198, ".", 8) (by decide +kernel)).2 (by decide) (by decide +kernel) (by decide +kernel) (by decide +kernel) (by decide +kernel) (fun j hj => by
    match j, hj with
    | 0, _ => decide +kernel)
  obtain ⟨v4, k4, S4, B4⟩ := lw_str (cs := [46, 46]) hT hf hK0 (had ("GlobRows", 203, "..", 9) (by decide +kernel)).2 (by decide) (by decide +kernel) (by decide +kernel) (by decide +kernel) (by decide +kernel) (fun j hj => by
    match j, hj with
    | 0, _ => decide +kernel
    | 1, _ => decide +kernel)
  obtain ⟨v5, k5, S5, B5⟩ := lw_str (cs := []) hT hf hK0 (had ("GlobRows$Piece", 32, "", 17) (by decide +kernel)).2 (by decide) (by decide +kernel) (by decide +kernel) (by decide +kernel) (by decide +kernel) (fun j hj => absurd hj (Nat.not_lt_zero _))
  have hCo := va_Zof (A := vg_fr s.heap) (hts (.laysStatic "java/lang/String" "COMPACT_STRINGS" "Z") (by decide +kernel)) (hts (.initialized "java/lang/String") (by decide +kernel)) (va_eqt (hf (.eq (.static "java/lang/String" "COMPACT_STRINGS" "Z") (.int 1)) (by decide +kernel))) hfr
  obtain ⟨p0, hP0⟩ : ∃ p0 : Nat, va_Z "jdk/internal/util/Preconditions" "SIOOBE_FORMATTER" "Ljava/util/function/BiFunction;" (va_rf (vg_dec p0)) (vg_fr s.heap) s s.heap := by
    rcases va_Zqof (A := vg_fr s.heap) (hts (.laysStatic "jdk/internal/util/Preconditions" "SIOOBE_FORMATTER" "Ljava/util/function/BiFunction;") (by decide +kernel)) (hts (.initialized "jdk/internal/util/Preconditions") (by decide +kernel)) (hf (.isRef (.static "jdk/internal/util/Preconditions" "SIOOBE_FORMATTER" "Ljava/util/function/BiFunction;")) (by decide +kernel)) hfr with h | ⟨t, h⟩
    · exact ⟨0, h⟩
    · exact ⟨t + 1, h⟩
  obtain ⟨t5, cE, cell5, kE, e1, e2, e3, e4, e5, e6, -⟩ := Cond.exactly_spec (args := #[Value.ref b]) (first := s) (o := none) (s := s) (idx := []) (hf (.exactly (.static "java/util/ArrayList" "DEFAULTCAPACITY_EMPTY_ELEMENTDATA" "[Ljava/lang/Object;") "[Ljava/lang/Object;") (by decide +kernel))
  obtain ⟨t5', ht5, cell5', g1, g2, g3, -, g5, -⟩ := va_Tof (N := 0) (f := fun _ => .null) (A := fun _ => False) (by decide) (hf (.arrayOf (.static "java/util/ArrayList" "DEFAULTCAPACITY_EMPTY_ELEMENTDATA" "[Ljava/lang/Object;") (.object "java/lang/Object")) (by decide +kernel)) (va_eqt (hf (.eq (.length (.static "java/util/ArrayList" "DEFAULTCAPACITY_EMPTY_ELEMENTDATA" "[Ljava/lang/Object;")) (.int 0)) (by decide +kernel))) (fun j hj => absurd hj (Nat.not_lt_zero _)) (fun _ _ h => h)
  cases e1.symm.trans ht5
  cases e3.symm.trans g1
  have hDf := va_Zref (A := vg_fr s.heap) (hts (.laysStatic "java/util/ArrayList" "DEFAULTCAPACITY_EMPTY_ELEMENTDATA" "[Ljava/lang/Object;") (by decide +kernel)) (hts (.initialized "java/util/ArrayList") (by decide +kernel)) e1 hfr
  obtain ⟨mi, hMi⟩ := va_Mi.of (hf (.isRef (.mirror "[Ljava/lang/Object;")) (by decide +kernel))
  have hU := vx_Zqof (A := vg_fr s.heap) (hts (.laysStatic Bundle.tN "UNASSIGNED_STACK" Bundle.steD) (by decide +kernel)) (hts (.initialized Bundle.tN) (by decide +kernel)) (hf (.isRef (.static Bundle.tN "UNASSIGNED_STACK" Bundle.steD)) (by decide +kernel)) hfr
  have hV := vx_Zqof (A := vg_fr s.heap) (hts (.laysStatic Bundle.tN "SUPPRESSED_SENTINEL" Bundle.listD) (by decide +kernel)) (hts (.initialized Bundle.tN) (by decide +kernel)) (hf (.isRef (.static Bundle.tN "SUPPRESSED_SENTINEL" Bundle.listD)) (by decide +kernel)) hfr
  have hO := va_AO.of (hts (.arrayOver (.object "java/lang/Object")) (by decide +kernel))
  have hNc := va_Nc.of (hf (.not (.castable "java/lang/IllegalStateException" "java/lang/IllegalArgumentException")) (by decide +kernel))
  have hN : ∀ w ∈ vg_nest, va_Nw w s := fun w hw => va_Nw.of (lw_onNest w hw) (hts w (List.mem_append_right _ (lw_inNest w hw)))
  have c5e : cE = c5 := Option.some.inj (e2.symm.trans (va_nmO F5' rfl))
  have hAv : ∀ {v : Nat} {cs : List Nat} {kc : ClassId}, ByA s v cs kc → ArrOfT s kc .byte := fun h => by
    obtain ⟨cell, -, -, -, ⟨-, k, hk, comp, hkd⟩, h5, -⟩ := h
    exact fun n z => ⟨fun k h => (by cases h), k, by rw [← h5]; exact hk, comp, hkd⟩
  have hcv : ∀ i, ArrOfT s ((fun i => if i = 0 then k0 else if i = 1 then k1 else if i = 2 then k2 else if i = 3 then k3 else if i = 4 then k4 else if i = 5 then k5 else c0) i) .byte := fun i => by
    show ArrOfT s (if i = 0 then k0 else if i = 1 then k1 else if i = 2 then k2 else if i = 3 then k3 else if i = 4 then k4 else if i = 5 then k5 else c0) .byte
    split
    · exact hAv B0
    · split
      · exact hAv B1
      · split
        · exact hAv B2
        · split
          · exact hAv B3
          · split
            · exact hAv B4
            · split
              · exact hAv B5
              · exact A0
  obtain ⟨cv, hcvE⟩ : ∃ cv : Nat → Nat, cv = (fun i => if i = 0 then k0 else if i = 1 then k1 else if i = 2 then k2 else if i = 3 then k3 else if i = 4 then k4 else if i = 5 then k5 else c0) := ⟨_, rfl⟩
  rw [← hcvE] at hcv
  obtain ⟨cy, hcy⟩ : ∃ cy : Nat → ClassId, cy = cyF c0 c1 c2 c3 c4 c5 ad p0 t5 mi cv := ⟨_, rfl⟩
  have y0 : cy 0 = c0 := by rw [hcy]; rfl
  have y1 : cy 1 = c1 := by rw [hcy]; rfl
  have y2 : cy 2 = c2 := by rw [hcy]; rfl
  have y3 : cy 3 = c3 := by rw [hcy]; rfl
  have y4 : cy 4 = c4 := by rw [hcy]; rfl
  have y5 : cy 5 = c5 := by rw [hcy]; rfl
  have y130 : cy 130 = p0 := by rw [hcy]; rfl
  have y131 : cy 131 = t5 := by rw [hcy]; rfl
  have y132 : cy 132 = mi := by rw [hcy]; rfl
  have yad : ∀ i, i < 30 → cy (100 + i) = ad i := fun i hi => by rw [hcy]; exact cyF_ad hi
  have ycv : ∀ i, cy (200 + i) = cv i := fun i => by rw [hcy]; exact cyF_cv
  have hlt : ∀ q ∈ vg_lits, q.2.2.2 < 30 := by decide +kernel
  have hKK : vg_K D cy s := by
    refine ⟨hD, fun k q hk => ?_⟩
    match k with
    | 0 => cases hk; rw [y0]; exact ⟨A0, F0'⟩
    | 1 => cases hk; rw [y1]; exact ⟨A1, F1'⟩
    | 2 => cases hk; rw [y2]; exact ⟨A2, F2'⟩
    | 3 => cases hk; rw [y3]; exact ⟨A3, F3'⟩
    | 4 => cases hk; rw [y4]; exact ⟨A4, F4'⟩
    | 5 => cases hk; rw [y5]; exact ⟨A5, F5'⟩
    | k + 6 => exact absurd (List.getElem?_eq_some_iff.mp hk).1 (by simp [vg_tys])
  have hG : vg_G D cy s.heap s := ⟨hKK, fun q hq => by rw [yad _ (hlt q hq)]; exact (had q hq).1, hCo, by rw [y130]; exact hP0, by rw [y131]; exact hDf, by rw [y132]; exact hMi, hN, hU, hV, hO, fun i => by rw [ycv]; exact hcv i⟩
  have hXX : vg_X D cy s.heap p s m #[Value.ref b] c cL_law RL := ⟨hx, hb, hT, hown, hG⟩
  have e0 := yad 0 (by decide)
  have e1' := yad 1 (by decide)
  have e4' := yad 4 (by decide)
  have e8 := yad 8 (by decide)
  have e9 := yad 9 (by decide)
  have e17 := yad 17 (by decide)
  obtain ⟨g, w1, w2, w3, w4⟩ := st_world (D := D) (cy := cy) (k5 := t5) (cell5 := cell5) hK0.2 (fun i => ad ([0, 1, 4, 8, 9, 17].getD i 0)) (fun i => [v0, v1, v2, v3, v4, v5].getD i 0) (fun i => [[], [], [], [46], [46, 46], []].getD i []) (fun i => [k0, k1, k2, k3, k4, k5].getD i 0)
    (fun i hi => by
      match i, hi with
      | 0, _ => exact ⟨S0, B0, by decide, by decide⟩
      | 1, _ => exact ⟨S1, B1, by decide, by decide⟩
      | 2, _ => exact ⟨S2, B2, by decide, by decide⟩
      | 3, _ => exact ⟨S3, B3, by decide, by decide⟩
      | 4, _ => exact ⟨S4, B4, by decide, by decide⟩
      | 5, _ => exact ⟨S5, B5, by decide, by decide⟩)
    (fun i hi => by
      rw [ycv, hcvE]
      match i, hi with
      | 0, _ => rfl
      | 1, _ => rfl
      | 2, _ => rfl
      | 3, _ => rfl
      | 4, _ => rfl
      | 5, _ => rfl)
    e3 g3 g2 (by rw [y5, ← c5e]; exact e6) g5 y131 ⟨e0, e1', e4', e8, e9, e17⟩ ⟨rfl, rfl, rfl, rfl, rfl, rfl⟩
  exact ⟨D, cy, g, ⟨hXX, hml, hX, hbl, hNc, hL, hls⟩, w1, w2, w3, w4⟩
end LWW
