/-! Builders of strings. -/
def bu_cap (cap : Nat) : Prop := cap = 16 ∨ cap = 34 ∨ cap = 70
/-- a builder with its row at hand -/
def bu_P (g : pg_G) (t a v cap : Nat) (ml : Int32) (f : Nat → Int32) (cs : List Nat) : Prop := g.1.1 a = some (.inr (1, [.ref v, .int 0, .int ml, .int (nI cs.length)])) ∧ g.2 a = t ∧ g.1.1 v = some (.inl (0, cap, .inl f)) ∧ g.2 v = t ∧ cs.length ≤ cap ∧ bu_cap cap ∧ (∀ i, vp_nar .byte (f i) = f i) ∧ (∀ i, i < cs.length → f i = nI (cs.getD i 0)) ∧ ∀ c ∈ cs, c < 128
def bu_B (g : pg_G) (t a : Nat) (cs : List Nat) : Prop := ∃ v cap ml f, bu_P g t a v cap ml f cs
theorem bu_P.ext {W : Nat → Prop} {g g' : pg_G} {t a v cap : Nat} {ml : Int32} {f : Nat → Int32} {cs : List Nat} (h : bu_P g t a v cap ml f cs) (hg : pg_Wf g) (he : pg_Ext W g g') (hw : ¬ W t) : bu_P g' t a v cap ml f cs := by
  obtain ⟨h1, h2, h3, h4, h5⟩ := h
  exact ⟨he.at hg h1 (by rw [h2]; exact hw), by rw [he.tag hg h1, h2], he.at hg h3 (by rw [h4]; exact hw), by rw [he.tag hg h3, h4], h5⟩
theorem bu_B.ext {W : Nat → Prop} {g g' : pg_G} {t a : Nat} {cs : List Nat} (h : bu_B g t a cs) (hg : pg_Wf g) (he : pg_Ext W g g') (hw : ¬ W t) : bu_B g' t a cs := by
  obtain ⟨v, cap, ml, f, h⟩ := h
  exact ⟨v, cap, ml, f, h.ext hg he hw⟩
theorem bu_shl0 (x : Int32) : x <<< ((0 : Int32) &&& 31) = x := by simp
section
variable {g : pg_G} {t a v cap : Nat} {ml : Int32} {f : Nat → Int32} {cs : List Nat}
theorem bu_cap.le (h : bu_cap cap) : cap ≤ 70 ∧ 16 ≤ cap := by unfold bu_cap at h; omega
theorem bu_length (h : bu_B g t a cs) : fJ4_length_8abf5 a g.1 = some (nI cs.length, g.1, 0, 0) := by
  obtain ⟨v, cap, ml, f, h1, -⟩ := h
  simp only [fJ4_length_8abf5, fJ5_length_8abf5, pg_cv h1, pg_gI h1 (k := 3) rfl, pg_o1, pg_br, vg_ret, pg_b0]
theorem bu_is (h : bu_B g t a cs) : pg_is g a 1 := by obtain ⟨v, cap, ml, f, h1, -⟩ := h; exact ⟨_, h1⟩
theorem bu_len (h : bu_B g t a cs) : cs.length ≤ 70 := by
  obtain ⟨v, cap, ml, f, h1, h2, h3, h4, h5, h6, -⟩ := h
  have := h6.le; omega
theorem bu_latin (h : bu_P g t a v cap ml f cs) : fJ5_isLatin1_aae02 a g.1 = some (1, g.1, 0, 0) := by
  simp only [fJ5_isLatin1_aae02, fJ5_isLatin1_aae02_18, pg_gI h.1 (k := 1) rfl, pg_o1, if_true, pg_z1, vg_ret]
theorem bu_charAt {i : Nat} (h : bu_B g t a cs) (hi : i < cs.length) : fJ4_charAt_5068e a (nI i) g.1 = some (nI (cs.getD i 0), g.1, 0, 0) := by
  obtain ⟨v, cap, ml, f, h1, h2, h3, h4, h5, h6, h7, h8, h9⟩ := h
  have hcap := h6.le
  have hc := ps_c128 _ (ps_get h9 i hi)
  have hm : (if nI cap < nI cs.length then nI cap else nI cs.length) = nI cs.length := by rw [if_neg (nI_nlt h5 (by omega))]
  simp only [fJ4_charAt_5068e, fJ5_charAt_5068e, pg_cv h1, pg_gI h1 (k := 1) rfl, pg_gI h1 (k := 3) rfl, pg_gR h1 (k := 0) rfl, pg_o1, pg_al h3 (show 0 < 6 by decide), sb_shr0, hm, ps_chk hi (show cs.length < 2 ^ 31 by omega), pg_b0, if_true, pg_aI h3 (show i < cap by omega) (show cap < 2 ^ 31 by omega), h8 i hi, hc.1, hc.2.1, vg_ret]
theorem bu_ens {m : Nat} (hg : pg_Wf g) (h : bu_P g t a v cap ml f cs) (ht : t ≠ 0) (hm : m ≤ 70) (hm' : m ≤ cap + 18) : pg_T (fJ5_ensureCapacityInternal_d00df a (nI m) g.1) 1 70 (fun t' => t' = t) g (fun _ g' => ∃ v' cap' f', bu_P g' t a v' cap' ml f' cs ∧ m ≤ cap') := by
  obtain ⟨h1, h2, h3, h4, h5, h6, h7, h8, h9⟩ := id h
  have hcap := h6.le
  simp only [fJ5_ensureCapacityInternal_d00df, pg_gR h1 (k := 0) rfl, pg_gI h1 (k := 1) rfl, pg_o1, pg_al h3 (show 0 < 6 by decide), sb_shr0, bu_shl0, pg_cv h1]
  by_cases hle : m ≤ cap
  · have : nI m - nI cap ≤ 0 := by
      have e := pk_sub_toInt (a := m) (b := cap) (by omega) (by omega)
      rw [Int32.le_iff_toInt_le, e, Int32.toInt_zero]; omega
    rw [if_pos this]
    exact pg_T.ret hg ⟨v, cap, f, h, hle⟩
  · have h70 : cap = 16 ∨ cap = 34 := by unfold bu_cap at h6; omega
    rw [if_neg (by rw [pk_sub (by omega), li_le0 (by omega)]; omega)]
    unfold fJ5_newCapacity_0f7a4 fJ8_newLength_cabcc
    simp only [pg_gR h1 (k := 0) rfl, pg_gI h1 (k := 1) rfl, pg_o1, pg_al h3 (show 0 < 6 by decide), sb_shr0, bu_shl0]
    have hmax : (if nI m - nI cap < nI cap + 2 then nI cap + 2 else nI m - nI cap) = nI (cap + 2) := by
      rw [pk_sub (by omega), show (2 : Int32) = nI 2 from rfl, nI_add]
      by_cases hx : m - cap < cap + 2
      · rw [if_pos (nI_lt hx (by omega))]
      · rw [if_neg (nI_nlt (by omega) (by omega)), show m - cap = cap + 2 by omega]
    rw [hmax, nI_add, if_neg (by rw [li_le0 (by omega)]; omega), if_neg (show ¬ (2147483639 : Int32) < nI (cap + (cap + 2)) from nI_nlt (a := 2147483639) (b := cap + (cap + 2)) (by omega) (by decide)), show vg_ret (nI (cap + (cap + 2))) g.1 = some (nI (cap + (cap + 2)), g.1, 0, 0) from rfl, pg_b0, if_neg (by rw [show (2147483647 : Int32) = nI 2147483647 from rfl, nI_eq (by omega) (by decide)]; omega)]
    rw [pg_gI h1 (k := 1) rfl, pg_o1, sb_shr0, show vg_ret (nI (cap + (cap + 2))) g.1 = some (nI (cap + (cap + 2)), g.1, 0, 0) from rfl, pg_b0, pg_gI h1 (k := 1) rfl, pg_o1, bu_shl0]
    unfold fJ7_copyOf_9075b
    rw [pg_o1, pg_al h3 (by decide), pg_o1, if_neg (by rw [nI_eq (by omega) (by omega)]; omega), pg_lenN (by omega), pg_o1]
    have hal := hg.lt h1
    have hvl := hg.lt h3
    refine pg_T.b (C1 := 1) (N1 := 70) (W1 := fun t' => t' = t) (P := fun r g' => ∃ f', r = some g.1.2.1 ∧ g'.1.1 a = some (.inr (1, [.ref v, .int 0, .int ml, .int (nI cs.length)])) ∧ g'.2 a = t ∧ g'.1.1 g.1.2.1 = some (.inl (0, cap + (cap + 2), .inl f')) ∧ g'.2 g.1.2.1 = t ∧ (∀ i, vp_nar .byte (f' i) = f' i) ∧ (∀ i, i < cap → f' i = f i)) ?_ (fun _ h => h) (by decide) (by decide) (fun r g1 hx hp => ?_)
    · refine pg_T.nA (t := t) hg (by decide) (by omega) ?_
      have hv1 : (pg_new g t (.inl (0, cap + (cap + 2), .inl (fun _ => 0)))).1.1 v = some (.inl (0, cap, .inl f)) := by rw [pg_new_ne _ _ _ (by omega)]; exact h3
      have hq1 := pg_new_self g t (.inl (0, cap + (cap + 2), .inl (fun _ => 0)))
      have htag := pg_new_tag g t (.inl (0, cap + (cap + 2), .inl (fun _ => 0)))
      have e1 := pg_cpB (g := pg_new g t (.inl (0, cap + (cap + 2), .inl (fun _ => 0)))) (n := cap) (sp := 0) (dp := 0) hv1 hq1 hg.2.1 (by omega) (by omega) (by omega) (by omega) (fun i hi => h7 _)
      rw [nI_0] at e1
      rw [pg_al hv1 (by decide), pg_o1, if_neg (nI_nlt (by omega) (by omega)), e1, pg_o1]
      refine pg_T.pre (pg_put_ext (pg_new_wf hg) hq1 htag (by simp [pg_kd])) (pg_T.ret (pg_put_wf (pg_new_wf hg) hq1) ⟨va_cpy f (fun _ => 0) 0 0 cap, rfl, ?_, ?_, pg_put_self _ _ _, htag, fun i => ?_, fun i hi => ?_⟩)
      · rw [pg_put_ne _ _ (by omega), pg_new_ne _ _ _ (by omega)]; exact h1
      · rw [pg_put_t, pg_new_t (by omega)]; exact h2
      · by_cases hi : i < cap
        · rw [pk_cpy_in (Nat.zero_le _) (by omega)]; exact h7 _
        · rw [pk_cpy_out (by omega)]; decide
      · rw [pk_cpy_in (Nat.zero_le _) (by omega)]; show f (0 + (i - 0)) = f i; rw [Nat.zero_add, Nat.sub_zero]
    · obtain ⟨f', rfl, p2, p3, p4, p5, p6, p7⟩ := hp
      refine pg_T.p hx.wf p2 (by simp) (by rw [p3]; exact ht) p3 ?_
      refine pg_T.ret (pg_put_wf hx.wf p2) ⟨g.1.2.1, cap + (cap + 2), f', ⟨?_, p3, ?_, p5, by omega, ?_, p6, fun i hi => ?_, h9⟩, by omega⟩
      · rw [pg_put_self]; rfl
      · rw [pg_put_ne _ _ (by omega)]; exact p4
      · unfold bu_cap; omega
      · rw [p7 i (by omega)]; exact h8 i hi
theorem getD_snoc {c i : Nat} : (cs ++ [c]).getD i 0 = if i < cs.length then cs.getD i 0 else if i = cs.length then c else 0 := by
  by_cases h : i < cs.length
  · rw [if_pos h, List.getD_eq_getElem?_getD, List.getElem?_append_left h, ← List.getD_eq_getElem?_getD]
  · rw [if_neg h, List.getD_eq_getElem?_getD, List.getElem?_append_right (by omega)]
    by_cases h2 : i = cs.length
    · rw [if_pos h2, h2, Nat.sub_self]; rfl
    · rw [if_neg h2, List.getElem?_eq_none (by simp only [List.length_cons, List.length_nil]; omega)]; rfl
theorem bu_app1 {c : Nat} (hg : pg_Wf g) (h : bu_B g t a cs) (ht : t ≠ 0) (hl : cs.length ≤ 60) (hc : c < 128) : pg_T (fJ4_append_cf468 a (nI c) g.1) 1 70 (fun t' => t' = t) g (fun _ g' => bu_B g' t a (cs ++ [c])) := by
  obtain ⟨v, cap, ml, f, h⟩ := h
  have c8 := (ps_c128 c hc).2.2.2
  have cn := (ps_c128 c hc).2.2.1
  have h5 := h.2.2.2.2.1
  simp only [fJ4_append_cf468, pg_cv h.1, fJ5_append_3fe6f, pg_gI h.1 (k := 3) rfl, pg_o1, nI_1]
  refine pg_T.b (C1 := 1) (N1 := 70) (W1 := fun t' => t' = t) (P := fun _ g' => bu_B g' t a (cs ++ [c])) ?_ (fun _ h => h) (by decide) (by decide) (fun r gz hz hp => pg_T.ret hz.wf hp)
  refine pg_T.b (bu_ens (m := cs.length + 1) hg h ht (by omega) (by omega)) (fun _ h => h) (by decide) (by decide) (fun r g1 hx hp => ?_)
  obtain ⟨v', cap', f', hp, hcap'⟩ := hp
  obtain ⟨p1, p2, p3, p4, p5, p6, p7, p8, p9⟩ := id hp
  have w1 := hx.wf
  have hc70 := p6.le
  have hnv : v' ≠ a := fun e => by rw [e, p1] at p3; cases p3
  rw [pg_cv p1, bu_latin hp, pg_b0, if_neg (by decide), fJ1_canEncode_fc78d, if_neg (show ¬ (255 : Int32) < nI c from nI_nlt (a := 255) (b := c) (by omega) (by decide)), fJ1_canEncode_fc78d_12, pg_z1, pg_o1, show vg_ret (1 : Int32) g1.1 = some (1, g1.1, 0, 0) from rfl, pg_b0, if_neg (by decide), pg_gR p1 (k := 0) rfl, pg_o1, pg_gI p1 (k := 3) rfl, pg_o1, nI_1]
  refine pg_T.p w1 p1 (by simp) (by rw [p2]; exact ht) p2 ?_
  rw [pg_o1, c8]
  have p3' : (pg_put g1 a (.inr (1, [.ref v', .int 0, .int ml, .int (nI cs.length)].set 3 (.int (nI (cs.length + 1)))))).1.1 v' = some (.inl (0, cap', .inl f')) := by rw [pg_put_ne _ _ hnv]; exact p3
  have w2 := pg_put_wf (e := .inr (1, [.ref v', .int 0, .int ml, .int (nI cs.length)].set 3 (.int (nI (cs.length + 1))))) w1 p1
  refine pg_T.sI w2 p3' (by omega) (by omega) (by rw [pg_put_t, p4]; exact ht) p4 ?_
  refine pg_T.ret (pg_put_wf w2 p3') ⟨v', cap', ml, upd f' cs.length (vp_nar (vg_tyI 0) (nI c)), ?_, p2, pg_put_self _ _ _, p4, by rw [List.length_append]; exact hcap', p6, fun i => ?_, fun i hi => ?_, fun d hd => ?_⟩
  · rw [pg_put_ne _ _ (Ne.symm hnv), pg_put_self, List.length_append]; rfl
  · show vp_nar .byte (upd f' cs.length (vp_nar .byte (nI c)) i) = upd f' cs.length (vp_nar .byte (nI c)) i
    rw [cn]
    by_cases hi : i = cs.length
    · rw [hi, pk_us]; exact cn
    · rw [pk_un hi]; exact p7 i
  · show upd f' cs.length (vp_nar .byte (nI c)) i = _
    rw [cn, getD_snoc]
    rw [List.length_append] at hi
    have hi' : i < cs.length + 1 := hi
    by_cases h1 : i < cs.length
    · rw [if_pos h1, pk_un (by omega)]; exact p8 i h1
    · rw [if_neg h1, if_pos (by omega), show i = cs.length by omega, pk_us]
  · rcases List.mem_append.mp hd with h | h
    · exact p9 d h
    · rw [List.mem_singleton.mp h]; exact hc
theorem getD_ap2 {ds : List Nat} {i : Nat} : (cs ++ ds).getD i 0 = if i < cs.length then cs.getD i 0 else ds.getD (i - cs.length) 0 := by
  by_cases h : i < cs.length
  · rw [if_pos h, List.getD_eq_getElem?_getD, List.getElem?_append_left h, ← List.getD_eq_getElem?_getD]
  · rw [if_neg h, List.getD_eq_getElem?_getD, List.getElem?_append_right (by omega), ← List.getD_eq_getElem?_getD]
theorem bu_app {b : Nat} {ds : List Nat} (hg : pg_Wf g) (h : bu_B g t a cs) (hs : ps_S g b ds) (ht : t ≠ 0) (hl : cs.length + ds.length ≤ 70) (hd : ds.length ≤ 18) : pg_T (fJ4_append_15ec4 a (some b) g.1) 1 70 (fun t' => t' = t) g (fun _ g' => bu_B g' t a (cs ++ ds)) := by
  obtain ⟨v, cap, ml, f, h⟩ := h
  have h5 := h.2.2.2.2.1
  obtain ⟨w, x, z, fw, s1, s2, s3, s4, s5, s6, s7⟩ := id hs
  simp only [fJ4_append_15ec4, pg_cv h.1, fJ5_append_cf1ce, vg_m, pg_cv s1, ps_length hs, pg_b0, pg_gI h.1 (k := 3) rfl, pg_o1, nI_add]
  refine pg_T.b (C1 := 1) (N1 := 70) (W1 := fun t' => t' = t) (P := fun _ g' => bu_B g' t a (cs ++ ds)) ?_ (fun _ h => h) (by decide) (by decide) (fun r gz hz hp => pg_T.ret hz.wf hp)
  refine pg_T.b (bu_ens (m := cs.length + ds.length) hg h ht hl (by omega)) (fun _ h => h) (by decide) (by decide) (fun r g1 hx hp => ?_)
  obtain ⟨v', cap', f', hp, hcap'⟩ := hp
  obtain ⟨p1, p2, p3, p4, p5, p6, p7, p8, p9⟩ := id hp
  have w1 := hx.wf
  have hc70 := p6.le
  have hnv : v' ≠ a := fun e => by rw [e, p1] at p3; cases p3
  have hs1 := hs.ext hg hx (fun e => ht e.symm)
  have s1' := hx.at hg s1 (by rw [s6]; exact fun e => ht e.symm)
  have s2' := hx.at hg s2 (by rw [s7]; exact fun e => ht e.symm)
  have e1 := pg_cpB (g := g1) (n := ds.length) (sp := 0) (dp := cs.length) s2' p3 (w1.s0 (by rw [p4]; exact ht)) (by omega) (by omega) (by omega) (by omega) (fun i hi => by rw [Nat.zero_add, s3 i hi]; exact (ps_c128 _ (ps_get s4 i hi)).2.2.1)
  rw [nI_0] at e1
  simp only [pg_gI p1 (k := 3) rfl, pg_o1, pg_cv p1, fJ5_putStringAt_47b60, fJ5_inflateIfNeededFor_a7421, pg_gI p1 (k := 1) rfl, pg_cv s1', ps_coder hs1, pg_b0, if_true, fJ5_inflateIfNeededFor_a7421_21, show ∀ (x : Unit) (μ : vg_M), vg_ret x μ = some (x, μ, 0, 0) from fun _ _ => rfl, pg_gR p1 (k := 0) rfl, fJ0_getBytes_840e7, pg_gR s1' (k := 0) rfl, pg_al s2' (show 0 < 6 by decide), bu_shl0, e1]
  have p1' : (pg_put g1 v' (.inl (0, cap', .inl (va_cpy fw f' 0 cs.length ds.length)))).1.1 a = some (.inr (1, [.ref v', .int 0, .int ml, .int (nI cs.length)])) := by rw [pg_put_ne _ _ (Ne.symm hnv)]; exact p1
  have w2 := pg_put_wf (e := .inl (0, cap', .inl (va_cpy fw f' 0 cs.length ds.length))) w1 p3
  simp only [pg_gI p1' (k := 3) rfl, pg_o1, nI_add]
  refine pg_T.pre (pg_put_ext (e := .inl (0, cap', .inl (va_cpy fw f' 0 cs.length ds.length))) w1 p3 p4 (by simp [pg_kd])) (pg_T.p w2 p1' (by simp) (by rw [pg_put_t, p2]; exact ht) p2 (pg_T.ret (pg_put_wf w2 p1') ⟨v', cap', ml, va_cpy fw f' 0 cs.length ds.length, ?_, p2, ?_, p4, by rw [List.length_append]; exact hcap', p6, fun i => ?_, fun i hi => ?_, fun d hd => ?_⟩))
  · rw [pg_put_self, List.length_append]; rfl
  · rw [pg_put_ne _ _ hnv, pg_put_self]
  · by_cases hi : cs.length ≤ i ∧ i < cs.length + ds.length
    · rw [pk_cpy_in hi.1 hi.2]
      show vp_nar .byte (fw (0 + (i - cs.length))) = fw (0 + (i - cs.length))
      rw [Nat.zero_add, s3 _ (by omega)]; exact (ps_c128 _ (ps_get s4 _ (by omega))).2.2.1
    · rw [pk_cpy_out (by omega)]; exact p7 i
  · rw [List.length_append] at hi
    rw [getD_ap2]
    by_cases h1 : i < cs.length
    · rw [if_pos h1, pk_cpy_out (by omega)]; exact p8 i h1
    · rw [if_neg h1, pk_cpy_in (by omega) (by omega)]
      show fw (0 + (i - cs.length)) = _
      rw [Nat.zero_add, s3 _ (by omega)]
  · rcases List.mem_append.mp hd with h | h
    · exact p9 d h
    · exact s4 d h
theorem bu_set {n : Nat} (hg : pg_Wf g) (h : bu_B g t a cs) (ht : t ≠ 0) (hn : n ≤ cs.length) : pg_T (fJ4_setLength_d00df a (nI n) g.1) 0 0 (fun t' => t' = t) g (fun _ g' => bu_B g' t a (cs.take n)) := by
  obtain ⟨v, cap, ml, f, h1, h2, h3, h4, h5, h6, h7, h8, h9⟩ := h
  have hcap := h6.le
  have hens : fJ5_ensureCapacityInternal_d00df a (nI n) g.1 = some ((), g.1, 0, 0) := by
    simp only [fJ5_ensureCapacityInternal_d00df, pg_gR h1 (k := 0) rfl, pg_gI h1 (k := 1) rfl, pg_o1, pg_al h3 (show 0 < 6 by decide), sb_shr0]
    have : nI n - nI cap ≤ 0 := by
      have e := pk_sub_toInt (a := n) (b := cap) (by omega) (by omega)
      rw [Int32.le_iff_toInt_le, e, Int32.toInt_zero]; omega
    rw [if_pos this]; rfl
  have hlen : (cs.take n).length = n := by rw [List.length_take]; omega
  have fin : ∀ (gz : pg_G) (mz : Int32), pg_Wf gz → gz.1.1 a = some (.inr (1, [.ref v, .int 0, .int mz, .int (nI cs.length)])) → gz.2 a = t → gz.1.1 v = some (.inl (0, cap, .inl f)) → gz.2 v = t → pg_T (fJ5_setLength_d00df_76 a (nI n) gz.1) 0 0 (fun t' => t' = t) gz (fun _ g' => bu_B g' t a (cs.take n)) := by
    intro gz mz wz z1 z2 z3 z4
    have hnv : v ≠ a := fun e => by rw [e, z1] at z3; cases z3
    unfold fJ5_setLength_d00df_76
    refine pg_T.p wz z1 (by simp) (by rw [z2]; exact ht) z2 (pg_T.ret (pg_put_wf wz z1) ⟨v, cap, mz, f, ?_, z2, ?_, z4, by omega, h6, h7, fun i hi => ?_, fun c hc => h9 c (List.mem_of_mem_take hc)⟩)
    · rw [pg_put_self, hlen]; rfl
    · rw [pg_put_ne _ _ hnv]; exact z3
    · rw [hlen] at hi
      rw [List.getD_eq_getElem?_getD, List.getElem?_take, if_pos hi, ← List.getD_eq_getElem?_getD]; exact h8 i (by omega)
  simp only [fJ4_setLength_d00df, pg_cv h1, fJ5_setLength_d00df, li_0le (show n < 2 ^ 31 by omega), if_true, hens, pg_b0, pg_gI h1 (k := 3) rfl, pg_o1, if_pos (nI_le hn (show cs.length < 2 ^ 31 by omega)), pg_z1]
  refine pg_T.b (C1 := 0) (N1 := 0) (W1 := fun t' => t' = t) (P := fun _ g' => bu_B g' t a (cs.take n)) ?_ (fun _ h => h) (by decide) (by decide) (fun r gz hz hp => pg_T.ret hz.wf hp)
  by_cases hx : cs.length ≤ n
  · rw [if_pos (nI_le hx (by omega))]
    exact fin g ml hg h1 h2 h3 h4
  · rw [if_neg (nI_ge (by omega) (by omega))]
    have hnv : v ≠ a := fun e => by rw [e, h1] at h3; cases h3
    refine pg_T.p hg h1 (by simp) (by rw [h2]; exact ht) h2 (fin _ 1 (pg_put_wf hg h1) ?_ h2 ?_ h4)
    · rw [pg_put_self]; rfl
    · rw [pg_put_ne _ _ hnv]; exact h3
theorem bu_init (hg : pg_Wf g) (h1 : g.1.1 a = some (.inr (1, [.null, .int 0, .int 0, .int 0]))) (h2 : g.2 a = t) (ht : t ≠ 0) : pg_T (fJ4_init_da8c8 a g.1) 1 16 (fun t' => t' = t) g (fun _ g' => bu_B g' t a []) := by
  have hal := hg.lt h1
  simp only [fJ4_init_da8c8, fJ5_init_d00df]
  rw [show (16 : Int32) = nI 16 from rfl, pg_lenN (by decide), pg_o1]
  refine pg_T.b (C1 := 1) (N1 := 16) (W1 := fun t' => t' = t) (P := fun _ g' => bu_B g' t a []) ?_ (fun _ h => h) (by decide) (by decide) (fun r gz hz hp => pg_T.ret hz.wf hp)
  refine pg_T.nA (t := t) hg (by decide) (by decide) ?_
  have h1' : (pg_new g t (.inl (0, 16, .inl (fun _ => 0)))).1.1 a = some (.inr (1, [.null, .int 0, .int 0, .int 0])) := by rw [pg_new_ne _ _ _ (by omega)]; exact h1
  have h2' : (pg_new g t (.inl (0, 16, .inl (fun _ => 0)))).2 a = t := by rw [pg_new_t (by omega)]; exact h2
  have hq := pg_new_self g t (.inl (0, 16, .inl (fun _ => 0)))
  have htag := pg_new_tag g t (.inl (0, 16, .inl (fun _ => 0)))
  refine pg_T.p (pg_new_wf hg) h1' (by simp) (by rw [h2']; exact ht) h2' ?_
  have h1'' := pg_put_self (pg_new g t (.inl (0, 16, .inl (fun _ => 0)))) a (.inr (1, [.null, .int 0, .int 0, .int 0].set 0 (.ref g.1.2.1)))
  have w2 := pg_put_wf (e := .inr (1, [.null, .int 0, .int 0, .int 0].set 0 (.ref g.1.2.1))) (pg_new_wf hg) h1'
  rw [show vg_z .byte 0 = some 0 by decide, pg_o1]
  refine pg_T.p w2 h1'' (by simp) (by rw [pg_put_t, h2']; exact ht) h2' (pg_T.ret (pg_put_wf w2 h1'') ⟨g.1.2.1, 16, 0, fun _ => 0, ?_, h2', ?_, htag, by decide, Or.inl rfl, fun _ => (show vp_nar .byte 0 = 0 by decide), fun i hi => absurd hi (Nat.not_lt_zero _), fun c hc => by cases hc⟩)
  · rw [pg_put_self]; rfl
  · rw [pg_put_ne _ _ (by omega), pg_put_ne _ _ (by omega)]; exact hq
theorem bu_str (ht : t ≠ 0) (hg : pg_Wf g) (h : bu_B g t a cs) : pg_T (fJ4_toString_0e30d a g.1) 2 (4 + cs.length) (fun _ => False) g (fun r g' => ∃ q, r = some q ∧ ps_S g' q cs) := by
  obtain ⟨v, cap, ml, f, h⟩ := h
  obtain ⟨h1, h2, h3, h4, h5, h6, h7, h8, h9⟩ := id h
  have hcap := h6.le
  have hal := hg.lt h1
  have hvl := hg.lt h3
  unfold fJ4_toString_0e30d fJ0_init_81219
  refine pg_T.fresh (P := fun r g' => r = some g.1.2.1 ∧ ∃ f', g'.1.1 g.1.2.1 = some (.inr (0, [.ref (g.1.2.1 + 1), .int 0, .int 0, .int 0])) ∧ g'.1.1 (g.1.2.1 + 1) = some (.inl (0, cs.length, .inl f')) ∧ ∀ i, i < cs.length → f' i = f i) hg ?_ (fun r g' hx hp => ?_)
  · refine pg_T.nO (t := pg_fr g) hg (by decide) (by omega) ?_
    have w1 : pg_Wf (pg_new g (pg_fr g) (.inr (0, [.null, .int 0, .int 0, .int 0]))) := pg_new_wf hg
    have h1z := h.ext hg (pg_new_ext (W := fun _ => False) (t := pg_fr g) (e := .inr (0, [.null, .int 0, .int 0, .int 0])) hg) (fun h => h)
    have ho := pg_new_self g (pg_fr g) (.inr (0, [.null, .int 0, .int 0, .int 0]))
    have hto := pg_new_tag g (pg_fr g) (.inr (0, [.null, .int 0, .int 0, .int 0]))
    have hsz : (pg_new g (pg_fr g) (.inr (0, [.null, .int 0, .int 0, .int 0]))).1.2.1 = g.1.2.1 + 1 := rfl
    generalize pg_new g (pg_fr g) (.inr (0, [.null, .int 0, .int 0, .int 0])) = gz at *
    have hbz : bu_B gz t a cs := ⟨_, _, _, _, h1z⟩
    refine pg_T.b (C1 := 1) (N1 := cs.length) (W1 := fun t => t = pg_fr g) (P := fun _ g' => ∃ f', g'.1.1 g.1.2.1 = some (.inr (0, [.ref (g.1.2.1 + 1), .int 0, .int 0, .int 0])) ∧ g'.1.1 (g.1.2.1 + 1) = some (.inl (0, cs.length, .inl f')) ∧ ∀ i, i < cs.length → f' i = f i) ?_ (fun _ h => Or.inr h) (by decide) (by omega) (fun _ g2 hx2 hp2 => pg_T.ret hx2.wf ⟨rfl, hp2⟩)
    refine pg_T.b (C1 := 1) (N1 := cs.length) (W1 := fun t => t = pg_fr g) (P := fun _ g' => ∃ f', g'.1.1 g.1.2.1 = some (.inr (0, [.ref (g.1.2.1 + 1), .int 0, .int 0, .int 0])) ∧ g'.1.1 (g.1.2.1 + 1) = some (.inl (0, cs.length, .inl f')) ∧ ∀ i, i < cs.length → f' i = f i) ?_ (fun _ h => h) (by decide) (by omega) (fun _ g2 hx2 hp2 => pg_T.ret hx2.wf hp2)
    simp only [fJ0_init_db425, pg_o1, pg_cv h1z.1, fJ5_getValue_6d5f1, pg_gR h1z.1 (k := 0) rfl, show ∀ (x : Option Nat) (μ : vg_M), vg_ret x μ = some (x, μ, 0, 0) from fun _ _ => rfl, pg_b0, bu_length hbz, bu_latin h1z, if_neg (show ¬ (1 : Int32) = 0 by decide), show vg_z .byte 0 = some 0 by decide]
    refine pg_T.p w1 ho (by simp) (by rw [hto]; exact pg_fr_0) hto ?_
    have ho1 := pg_put_self gz g.1.2.1 (.inr (0, [.null, .int 0, .int 0, .int 0].set 1 (.int 0)))
    have h3z : (pg_put gz g.1.2.1 (.inr (0, [.null, .int 0, .int 0, .int 0].set 1 (.int 0)))).1.1 v = some (.inl (0, cap, .inl f)) := by rw [pg_put_ne _ _ (by omega)]; exact h1z.2.2.1
    have w2 := pg_put_wf (e := .inr (0, [.null, .int 0, .int 0, .int 0].set 1 (.int 0))) w1 ho
    have hsz2 : (pg_put gz g.1.2.1 (.inr (0, [.null, .int 0, .int 0, .int 0].set 1 (.int 0)))).1.2.1 = g.1.2.1 + 1 := hsz
    have hto2 : (pg_put gz g.1.2.1 (.inr (0, [.null, .int 0, .int 0, .int 0].set 1 (.int 0)))).2 g.1.2.1 = pg_fr g := hto
    have hold : gz.1.2.2.1 ≤ v := Nat.not_lt.mp (fun hlt => ht (h1z.2.2.2.1.symm.trans (w1.2.2 v hlt)))
    have key := ps_copy (s := 0) (e := cs.length) 0 w2 h3z (Nat.zero_le _) h5 (by omega) (fun i _ => h7 i) (fun _ _ => ⟨hold, fun i _ => h7 i⟩)
    rw [nI_0] at key
    refine pg_T.b key (fun _ h => h.elim) (by decide) (by omega) (fun r g1 hx hp => ?_)
    obtain ⟨f', rfl, p2, p3, p4⟩ := hp
    rw [hsz2] at p2 p4 ⊢
    have ho2 := hx.at w2 ho1 (fun h => h)
    have ht2 : g1.2 g.1.2.1 = pg_fr g := by rw [hx.tag w2 ho1]; exact hto2
    refine pg_T.p hx.wf ho2 (by simp) (by rw [ht2]; exact pg_fr_0) ht2 (pg_T.ret (pg_put_wf hx.wf ho2) ⟨f', ?_, ?_, fun i hi => ?_⟩)
    · rw [pg_put_self]; rfl
    · rw [pg_put_ne _ _ (by omega)]; exact p2
    · rw [p3 i (by omega), Nat.zero_add]
  · obtain ⟨rfl, f', p1, p2, p3⟩ := hp
    refine ⟨fun b => if b < g.1.2.1 then g'.2 b else 0, fun b hb => if_pos hb, g.1.2.1, rfl, g.1.2.1 + 1, .int 0, .int 0, f', p1, p2, fun i hi => ?_, h9, by omega, ?_, ?_⟩
    · rw [p3 i hi]; exact h8 i hi
    · show (if g.1.2.1 < g.1.2.1 then _ else _) = _
      rw [if_neg (by omega)]
    · show (if g.1.2.1 + 1 < g.1.2.1 then _ else _) = _
      rw [if_neg (by omega)]
end
