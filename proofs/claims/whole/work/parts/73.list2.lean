/-! Lists of the class: begun, added to in the middle, taken from. -/
section
variable {g : pg_G} {t a ci : Nat} {xs : List Nat}
theorem pl_init (hg : pg_Wf g) (h1 : g.1.1 a = some (.inr (2, [.int 0, .null, .int 0]))) (h2 : g.2 a = t) (ht : t ≠ 0) : pg_T (fJx4a65c_init_da8c8 a g.1) 0 0 (fun t' => t' = t) g (fun _ g' => pl_L g' t a ci []) := by
  unfold fJx4a65c_init_da8c8 fJxc12de_init_da8c8 fJxa1e45_init_da8c8
  simp only [show vg_ret () g.1 = some ((), g.1, 0, 0) from rfl, pg_b0]
  refine pg_T.b (C1 := 0) (N1 := 0) (W1 := fun t' => t' = t) (P := fun _ g' => g'.1.1 a = some (.inr (2, [.int 0, .null, .int 0])) ∧ g'.2 a = t) ?_ (fun _ h => h) (by decide) (by decide) (fun r g1 e1 hp => ?_)
  · refine pg_T.p hg h1 (by simp) (by rw [h2]; exact ht) h2 ?_
    exact pg_T.ret (pg_put_wf hg h1) ⟨by rw [pg_put_self]; rfl, h2⟩
  · rw [vg_k]
    refine pg_T.p e1.wf hp.1 (by simp) (by rw [hp.2]; exact ht) hp.2 ?_
    refine pg_T.ret (pg_put_wf e1.wf hp.1) ⟨g1.1.2.2.2 31, 0, by rw [pg_put_self]; rfl, hp.2, fun x hx => (by cases hx), by simp, Or.inl ⟨rfl, rfl⟩⟩
theorem getD_mid {x j i : Nat} (hi : i ≤ xs.length) : (xs.take i ++ x :: xs.drop i).getD j 0 = if j < i then xs.getD j 0 else if j = i then x else xs.getD (j - 1) 0 := by
  have hl : (xs.take i).length = i := by rw [List.length_take]; omega
  by_cases h1 : j < i
  · rw [if_pos h1, List.getD_eq_getElem?_getD, List.getElem?_append_left (by omega), List.getElem?_take, if_pos h1, ← List.getD_eq_getElem?_getD]
  · rw [if_neg h1, List.getD_eq_getElem?_getD, List.getElem?_append_right (by omega), hl]
    by_cases h2 : j = i
    · rw [if_pos h2, h2, Nat.sub_self]; rfl
    · rw [if_neg h2, show j - i = (j - i - 1) + 1 by omega, List.getElem?_cons_succ, List.getElem?_drop, List.getD_eq_getElem?_getD, show i + (j - i - 1) = j - 1 by omega]
theorem pl_addAt {x i : Nat} (hg : pg_Wf g) (hC : pg_C g) (hc : ci = 4 ∨ ci = 5 ∨ ci = 7 ∨ ci = 9 ∨ ci = 10) (h : pl_L g t a ci xs) (ht : t ≠ 0) (hx : pg_is g x ci) (hl : xs.length < 100) (hi : i ≤ xs.length) : pg_T (fJx4a65c_add_7a177 a (nI i) (some x) g.1) 1 (2 * xs.length + 10) (fun t' => t' = t) g (fun _ g' => pl_L g' t a ci (xs.take i ++ x :: xs.drop i)) := by
  obtain ⟨e, md, h1, h2, h3, h4, h5⟩ := h
  have hc100 : ci < 100 := by omega
  have hal := hg.lt h1
  have hlen : (xs.take i ++ x :: xs.drop i).length = xs.length + 1 := by rw [List.length_append, List.length_cons, List.length_take, List.length_drop]; omega
  unfold fJx4a65c_add_7a177 fJx4a65c_rangeCheckForAdd_d00df
  simp only [pg_gI h1 (k := 2) rfl, pg_o1, pg_cv h1]
  rw [if_neg (nI_nlt hi (by omega)), if_pos (nI_pos' (by omega)), show vg_ret () g.1 = some ((), g.1, 0, 0) from rfl, pg_b0]
  simp only [pg_gI h1 (k := 0) rfl, pg_o1]
  refine pg_T.p hg h1 (by simp) (by rw [h2]; exact ht) h2 ?_
  have hW0 : pg_Ext (fun t' => t' = t) g (pg_put g a (.inr (2, [.int md, .ref e, .int (nI xs.length)].set 0 (.int (md + 1))))) := pg_put_ext hg h1 h2 (by simp [pg_kd])
  have g1 : (pg_put g a (.inr (2, [.int md, .ref e, .int (nI xs.length)].set 0 (.int (md + 1))))).1.1 a = some (.inr (2, [.int (md + 1), .ref e, .int (nI xs.length)])) := pg_put_self _ _ _
  have t1 : (pg_put g a (.inr (2, [.int md, .ref e, .int (nI xs.length)].set 0 (.int (md + 1))))).2 a = t := h2
  have wf1 := hW0.wf
  have hC1 := hC.ext hg hW0 (fun e => ht e.symm)
  have h31 : ∀ y ∈ xs, pg_is (pg_put g a (.inr (2, [.int md, .ref e, .int (nI xs.length)].set 0 (.int (md + 1))))) y ci := fun y hy => (h3 y hy).ext hg hW0 hc100
  have hx1 := hx.ext hg hW0 hc100
  have h51 : (xs = [] ∧ e = (pg_put g a (.inr (2, [.int md, .ref e, .int (nI xs.length)].set 0 (.int (md + 1))))).1.2.2.2 31) ∨ ∃ (cap : Nat) (f : Nat → Option Nat), (pg_put g a (.inr (2, [.int md, .ref e, .int (nI xs.length)].set 0 (.int (md + 1))))).1.1 e = some (.inl (5, cap, .inr (.inr (.inr (.inr f))))) ∧ (pg_put g a (.inr (2, [.int md, .ref e, .int (nI xs.length)].set 0 (.int (md + 1))))).2 e = t ∧ xs.length ≤ cap ∧ 10 ≤ cap ∧ cap ≤ 300 ∧ ∀ i, i < xs.length → f i = some (xs.getD i 0) := by
    rcases h5 with h5 | ⟨cap, f, q1, q2, q3⟩
    · exact Or.inl h5
    · refine Or.inr ⟨cap, f, ?_, q2, q3⟩
      rw [pg_put_ne _ _ (fun e' => by rw [e', h1] at q1; cases q1)]; exact q1
  generalize pg_put g a (.inr (2, [.int md, .ref e, .int (nI xs.length)].set 0 (.int (md + 1)))) = gg at *
  simp only [pg_gR g1 (k := 1) rfl, pg_gI g1 (k := 2) rfl, pg_o1, pg_cv g1]
  have fin : ∀ (gz : pg_G) (ez cz : Nat) (fz : Nat → Option Nat) (C N : Nat), pg_Wf gz → gz.1.1 a = some (.inr (2, [.int (md + 1), .ref ez, .int (nI xs.length)])) → gz.2 a = t → gz.1.1 ez = some (.inl (5, cz, .inr (.inr (.inr (.inr fz))))) → gz.2 ez = t → xs.length < cz → 10 ≤ cz → cz ≤ 300 → (∀ i, i < xs.length → fz i = some (xs.getD i 0)) → (∀ y ∈ xs, pg_is gz y ci) → pg_is gz x ci → pg_T (fJx4a65c_add_7a177_38 a (nI i) (some x) (nI xs.length) (some ez) gz.1) C N (fun t' => t' = t) gz (fun _ g' => pl_L g' t a ci (xs.take i ++ x :: xs.drop i)) := by
    intro gz ez cz fz C N wz za zt ze zet z1 z2 z3 z4 z5 z6
    unfold fJx4a65c_add_7a177_38
    have hnea : a ≠ ez := fun e' => by rw [← e', za] at ze; cases ze
    have s0 := wz.s0 (a := ez) (by rw [zet]; exact ht)
    have hob : ∀ k, k < xs.length - i → (fz (i + k)).all (vg_ob gz.1) = true := by
      intro k hk
      rw [z4 (i + k) (by omega)]
      show vg_ob gz.1 _ = true
      have hik : i + k < xs.length := by omega
      exact pl_ob (z5 _ (by rw [ls_get hik]; exact List.getElem_mem hik)) hc
    rw [pg_o1, nI_1, pk_sub hi, pg_cpR ze ze s0 (by omega) (by omega) (by omega) (by omega) hob, pg_o1]
    have hext0 := pg_put_ext (W := fun t' => t' = t) (e := .inl (5, cz, .inr (.inr (.inr (.inr (va_cpy fz fz i (i + 1) (xs.length - i))))))) wz ze zet (by simp [pg_kd])
    refine pg_T.pre hext0 ?_
    have ze1 : (pg_put gz ez (.inl (5, cz, .inr (.inr (.inr (.inr (va_cpy fz fz i (i + 1) (xs.length - i)))))))).1.1 ez = some (.inl (5, cz, .inr (.inr (.inr (.inr (va_cpy fz fz i (i + 1) (xs.length - i))))))) := pg_put_self _ _ _
    have za1 : (pg_put gz ez (.inl (5, cz, .inr (.inr (.inr (.inr (va_cpy fz fz i (i + 1) (xs.length - i)))))))).1.1 a = some (.inr (2, [.int (md + 1), .ref ez, .int (nI xs.length)])) := by rw [pg_put_ne _ _ hnea]; exact za
    have zt1 : (pg_put gz ez (.inl (5, cz, .inr (.inr (.inr (.inr (va_cpy fz fz i (i + 1) (xs.length - i)))))))).2 a = t := zt
    have zet1 : (pg_put gz ez (.inl (5, cz, .inr (.inr (.inr (.inr (va_cpy fz fz i (i + 1) (xs.length - i)))))))).2 ez = t := zet
    have z51 : ∀ y ∈ xs, pg_is (pg_put gz ez (.inl (5, cz, .inr (.inr (.inr (.inr (va_cpy fz fz i (i + 1) (xs.length - i)))))))) y ci := fun y hy => (z5 y hy).ext wz hext0 hc100
    have z61 := z6.ext wz hext0 hc100
    have w1 := hext0.wf
    generalize pg_put gz ez (.inl (5, cz, .inr (.inr (.inr (.inr (va_cpy fz fz i (i + 1) (xs.length - i))))))) = gy at *
    obtain ⟨fsx, hxx⟩ := id z61
    rw [pg_sR ze1 (show i < cz by omega) (by omega) (w1.s0 (by rw [zet1]; exact ht)) hxx hc, pg_o1]
    have hext := pg_put_ext (W := fun t' => t' = t) (e := .inl (5, cz, .inr (.inr (.inr (.inr (va_up (va_cpy fz fz i (i + 1) (xs.length - i)) i (some x))))))) w1 ze1 zet1 (by simp [pg_kd])
    refine pg_T.pre hext ?_
    have za2 : (pg_put gy ez (.inl (5, cz, .inr (.inr (.inr (.inr (va_up (va_cpy fz fz i (i + 1) (xs.length - i)) i (some x)))))))).1.1 a = some (.inr (2, [.int (md + 1), .ref ez, .int (nI xs.length)])) := by rw [pg_put_ne _ _ hnea]; exact za1
    rw [nI_1]
    refine pg_T.p hext.wf za2 (by simp) (by show gy.2 a ≠ 0; rw [zt1]; exact ht) zt1 ?_
    have hext2 := pg_put_ext (W := fun t' => t' = t) (e := .inr (2, [.int (md + 1), .ref ez, .int (nI xs.length)].set 2 (.int (nI (xs.length + 1))))) hext.wf za2 zt1 (by simp [pg_kd])
    refine pg_T.ret hext2.wf ⟨ez, md + 1, ?_, zt1, fun y hy => ?_, by omega, Or.inr ⟨cz, va_up (va_cpy fz fz i (i + 1) (xs.length - i)) i (some x), ?_, zet1, by omega, z2, by omega, fun j hj => ?_⟩⟩
    · rw [pg_put_self, hlen]; rfl
    · have hy' : y ∈ xs ∨ y = x := by
        rcases List.mem_append.mp hy with h | h
        · exact Or.inl (List.mem_of_mem_take h)
        · rcases List.mem_cons.mp h with h | h
          · exact Or.inr h
          · exact Or.inl (List.mem_of_mem_drop h)
      rcases hy' with h | h
      · exact ((z51 y h).ext w1 hext hc100).ext hext.wf hext2 hc100
      · rw [h]; exact (z61.ext w1 hext hc100).ext hext.wf hext2 hc100
    · rw [pg_put_ne _ _ (Ne.symm hnea), pg_put_self]
    · rw [hlen] at hj
      rw [getD_mid hi]
      by_cases hj1 : j < i
      · rw [if_pos hj1, va_up_ne _ _ (by omega), pk_cpy_out (by omega)]; exact z4 j (by omega)
      · rw [if_neg hj1]
        by_cases hj2 : j = i
        · rw [if_pos hj2, hj2, va_up_self]
        · rw [if_neg hj2, va_up_ne _ _ hj2, pk_cpy_in (by omega) (by omega), show i + (j - (i + 1)) = j - 1 by omega]; exact z4 (j - 1) (by omega)
  have grow : ∀ cap, cap = xs.length → ((xs = [] ∧ e = gg.1.2.2.2 31) ∨ ∃ (f : Nat → Option Nat), gg.1.1 e = some (.inl (5, cap, .inr (.inr (.inr (.inr f))))) ∧ gg.2 e = t ∧ 10 ≤ cap ∧ ∀ i, i < xs.length → f i = some (xs.getD i 0)) → pg_T (vg_b (fJx4a65c_grow_d5877 a gg.1) fun x13 μ14 => fJx4a65c_add_7a177_38 a (nI i) (some x) (nI xs.length) x13 μ14) 1 (2 * xs.length + 10) (fun t' => t' = t) gg (fun _ g' => pl_L g' t a ci (xs.take i ++ x :: xs.drop i)) := by
    intro cap hcap h5'
    refine pg_T.b (pl_grow (W := fun t' => t' = t) wf1 hC1 hc g1 t1 ht rfl h31 h4 hcap h5') (fun _ h => h) (Nat.le_refl _) (Nat.le_refl _) (fun r gz hz hp => ?_)
    obtain ⟨e', cap', f', p1, p2, p3, p4, p5, p6, p7, p8, p9, p10⟩ := hp
    rw [p1]
    exact fin gz e' cap' f' _ _ hz.wf p2 p3 p4 p5 p6 p7 (by omega) p9 (fun y hy => (h31 y hy).ext wf1 hz hc100) (hx1.ext wf1 hz hc100)
  rcases h51 with h5' | ⟨cap, f, q1, q2, q3, q4, q5, q6⟩
  · obtain ⟨f0, k1, k2⟩ := hC1.2.2.2.2.2.2
    have k1' : gg.1.1 e = some (.inl (5, 0, .inr (.inr (.inr (.inr f0))))) := by rw [h5'.2]; exact k1
    have hl0 : xs.length = 0 := by rw [h5'.1]; rfl
    rw [pg_al k1' (by decide), pg_o1, if_pos (by rw [hl0])]
    exact grow xs.length rfl (Or.inl h5')
  · rw [pg_al q1 (by decide), pg_o1]
    by_cases hfull : xs.length = cap
    · rw [if_pos (by rw [hfull])]
      exact grow cap hfull.symm (Or.inr ⟨f, q1, q2, q4, q6⟩)
    · rw [if_neg (fun h => hfull ((nI_eq (by omega) (by omega)).mp h))]
      exact fin gg e cap f _ _ wf1 g1 t1 q1 q2 (by omega) q4 q5 q6 h31 hx1
theorem getD_er {i j : Nat} : (xs.eraseIdx i).getD j 0 = if j < i then xs.getD j 0 else xs.getD (j + 1) 0 := by
  rw [List.getD_eq_getElem?_getD, List.getElem?_eraseIdx]
  split
  · rw [List.getD_eq_getElem?_getD]
  · rw [List.getD_eq_getElem?_getD]
theorem pl_remove {i : Nat} (hg : pg_Wf g) (hc : ci = 4 ∨ ci = 5 ∨ ci = 7 ∨ ci = 9 ∨ ci = 10) (h : pl_L g t a ci xs) (ht : t ≠ 0) (hi : i < xs.length) : pg_T (fJx4a65c_remove_915e3 a (nI i) g.1) 0 0 (fun t' => t' = t) g (fun _ g' => pl_L g' t a ci (xs.eraseIdx i)) := by
  obtain ⟨e, md, h1, h2, h3, h4, h5⟩ := h
  have hc100 : ci < 100 := by omega
  rcases h5 with h5 | ⟨cap, f, q1, q2, q3, q4, q5, q6⟩
  · rw [h5.1] at hi; exact absurd hi (Nat.not_lt_zero _)
  · have hlen : (xs.eraseIdx i).length = xs.length - 1 := List.length_eraseIdx_of_lt hi
    have hnea : a ≠ e := fun e' => by rw [← e', h1] at q1; cases q1
    unfold fJx4a65c_remove_915e3
    simp only [pg_gI h1 (k := 2) rfl, pg_o1, fJ15_checkIndex_7cf53, ps_chkI hi (show xs.length < 2 ^ 31 by omega), pg_b0, show ∀ (x : Int32) (μ : vg_M), vg_ret x μ = some (x, μ, 0, 0) from fun _ _ => rfl, pg_gR h1 (k := 1) rfl, pg_aR q1 (show i < cap by omega) (show cap < 2 ^ 31 by omega), pg_cv h1]
    unfold fJx4a65c_fastRemove_b59b0
    simp only [pg_gI h1 (k := 0) rfl, pg_o1]
    refine pg_T.b (C1 := 0) (N1 := 0) (W1 := fun t' => t' = t) (P := fun _ g' => pl_L g' t a ci (xs.eraseIdx i)) ?_ (fun _ h => h) (by decide) (by decide) (fun r gz hz hp => pg_T.ret hz.wf hp)
    refine pg_T.p hg h1 (by simp) (by rw [h2]; exact ht) h2 ?_
    have hW0 : pg_Ext (fun t' => t' = t) g (pg_put g a (.inr (2, [.int md, .ref e, .int (nI xs.length)].set 0 (.int (md + 1))))) := pg_put_ext hg h1 h2 (by simp [pg_kd])
    have g1 : (pg_put g a (.inr (2, [.int md, .ref e, .int (nI xs.length)].set 0 (.int (md + 1))))).1.1 a = some (.inr (2, [.int (md + 1), .ref e, .int (nI xs.length)])) := pg_put_self _ _ _
    have t1 : (pg_put g a (.inr (2, [.int md, .ref e, .int (nI xs.length)].set 0 (.int (md + 1))))).2 a = t := h2
    have wf1 := hW0.wf
    have h31 : ∀ y ∈ xs, pg_is (pg_put g a (.inr (2, [.int md, .ref e, .int (nI xs.length)].set 0 (.int (md + 1))))) y ci := fun y hy => (h3 y hy).ext hg hW0 hc100
    have q11 : (pg_put g a (.inr (2, [.int md, .ref e, .int (nI xs.length)].set 0 (.int (md + 1))))).1.1 e = some (.inl (5, cap, .inr (.inr (.inr (.inr f))))) := by rw [pg_put_ne _ _ (Ne.symm hnea)]; exact q1
    have q21 : (pg_put g a (.inr (2, [.int md, .ref e, .int (nI xs.length)].set 0 (.int (md + 1))))).2 e = t := q2
    generalize pg_put g a (.inr (2, [.int md, .ref e, .int (nI xs.length)].set 0 (.int (md + 1)))) = gg at *
    simp only [pg_gI g1 (k := 2) rfl, pg_o1, li_sub1 (show 1 ≤ xs.length by omega), nI_leI (show xs.length - 1 < 2 ^ 31 by omega) (show i < 2 ^ 31 by omega)]
    have fin : ∀ (gz : pg_G) (fz : Nat → Option Nat), pg_Wf gz → gz.1.1 a = some (.inr (2, [.int (md + 1), .ref e, .int (nI xs.length)])) → gz.2 a = t → gz.1.1 e = some (.inl (5, cap, .inr (.inr (.inr (.inr fz))))) → gz.2 e = t → (∀ j, j < xs.length - 1 → fz j = some ((xs.eraseIdx i).getD j 0)) → (∀ y ∈ xs, pg_is gz y ci) → pg_T (fJx4a65c_fastRemove_b59b0_34 a (some e) (nI (xs.length - 1)) gz.1) 0 0 (fun t' => t' = t) gz (fun _ g' => pl_L g' t a ci (xs.eraseIdx i)) := by
      intro gz fz wz za zt ze zet z4 z5
      unfold fJx4a65c_fastRemove_b59b0_34
      refine pg_T.p wz za (by simp) (by rw [zt]; exact ht) zt ?_
      have hext := pg_put_ext (W := fun t' => t' = t) (e := .inr (2, [.int (md + 1), .ref e, .int (nI xs.length)].set 2 (.int (nI (xs.length - 1))))) wz za zt (by simp [pg_kd])
      have ze1 : (pg_put gz a (.inr (2, [.int (md + 1), .ref e, .int (nI xs.length)].set 2 (.int (nI (xs.length - 1)))))).1.1 e = some (.inl (5, cap, .inr (.inr (.inr (.inr fz))))) := by rw [pg_put_ne _ _ (Ne.symm hnea)]; exact ze
      have zet1 : (pg_put gz a (.inr (2, [.int (md + 1), .ref e, .int (nI xs.length)].set 2 (.int (nI (xs.length - 1)))))).2 e = t := zet
      rw [pg_o1, pg_sRn ze1 (show xs.length - 1 < cap by omega) (by omega) (hext.wf.s0 (by rw [zet1]; exact ht)), pg_o1]
      have hext2 := pg_put_ext (W := fun t' => t' = t) (e := .inl (5, cap, .inr (.inr (.inr (.inr (va_up fz (xs.length - 1) none)))))) hext.wf ze1 zet1 (by simp [pg_kd])
      refine pg_T.pre hext2 (pg_T.ret hext2.wf ⟨e, md + 1, ?_, zt, fun y hy => ?_, by omega, Or.inr ⟨cap, va_up fz (xs.length - 1) none, pg_put_self _ _ _, zet, by omega, q4, by omega, fun j hj => ?_⟩⟩)
      · rw [pg_put_ne _ _ hnea, pg_put_self, hlen]; rfl
      · exact ((z5 y (List.mem_of_mem_eraseIdx hy)).ext wz hext hc100).ext hext.wf hext2 hc100
      · rw [hlen] at hj
        rw [va_up_ne _ _ (by omega)]; exact z4 j hj
    by_cases hlast : xs.length - 1 ≤ i
    · rw [if_pos hlast]
      exact fin gg f wf1 g1 t1 q11 q21 (fun j hj => by rw [getD_er, if_pos (by omega)]; exact q6 j (by omega)) h31
    · rw [if_neg hlast, nI_1, pk_sub (by omega)]
      have hob : ∀ k, k < xs.length - 1 - i → (f (i + 1 + k)).all (vg_ob gg.1) = true := by
        intro k hk
        have hik : i + 1 + k < xs.length := by omega
        rw [q6 _ hik]
        exact pl_ob (h31 _ (by rw [ls_get hik]; exact List.getElem_mem hik)) hc
      rw [pg_cpR q11 q11 (wf1.s0 (by rw [q21]; exact ht)) (by omega) (by omega) (by omega) (by omega) hob, pg_o1]
      have hext := pg_put_ext (W := fun t' => t' = t) (e := .inl (5, cap, .inr (.inr (.inr (.inr (va_cpy f f (i + 1) i (xs.length - 1 - i))))))) wf1 q11 q21 (by simp [pg_kd])
      refine pg_T.pre hext (fin _ _ hext.wf (by rw [pg_put_ne _ _ hnea]; exact g1) t1 (pg_put_self _ _ _) q21 (fun j hj => ?_) (fun y hy => (h31 y hy).ext wf1 hext hc100))
      rw [getD_er]
      by_cases hji : j < i
      · rw [if_pos hji, pk_cpy_out (by omega)]; exact q6 j (by omega)
      · rw [if_neg hji, pk_cpy_in (by omega) (by omega), show i + 1 + (j - i) = j + 1 by omega]; exact q6 (j + 1) (by omega)
end
