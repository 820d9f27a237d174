/-! The class's answer. -/
def cAo (g : pg_G) (a lt ln n lk : Nat) : Prop := g.1.1 a = some (.inr (3, [.int (nI n), .int (nI lk), .ref lt, .ref ln])) ∧ g.2 a = 4
def cA (g : pg_G) (a : Nat) (an : List (List Nat)) (lk : Nat) : Prop := ∃ lt ln fl fn, cAo g a lt ln an.length lk ∧ g.1.1 lt = some (.inl (1, 3180, .inl fl)) ∧ g.2 lt = 8 ∧ g.1.1 ln = some (.inl (2, 60, .inl fn)) ∧ g.2 ln = 9 ∧ an.length ≤ 60 ∧ ∀ i, i < an.length → fn i = nI (an.getD i []).length ∧ (an.getD i []).length ≤ 53 ∧ ∀ k, k < (an.getD i []).length → fl (53 * i + k) = nI ((an.getD i []).getD k 0)
section
variable {g g' : pg_G} {a lk : Nat} {an : List (List Nat)} {W : Nat → Prop}
theorem cAo.ext {lt ln n : Nat} (h : cAo g a lt ln n lk) (hg : pg_Wf g) (he : pg_Ext W g g') (hw : ¬ W 4) : cAo g' a lt ln n lk := ⟨he.at hg h.1 (by rw [h.2]; exact hw), by rw [he.tag hg h.1, h.2]⟩
theorem cA.ext (h : cA g a an lk) (hg : pg_Wf g) (he : pg_Ext W g g') (h4 : ¬ W 4) (h8 : ¬ W 8) (h9 : ¬ W 9) : cA g' a an lk := by
  obtain ⟨lt, ln, fl, fn, q1, q2, q3, q4, q5, q6⟩ := h
  exact ⟨lt, ln, fl, fn, q1.ext hg he h4, he.at hg q2 (by rw [q3]; exact h8), by rw [he.tag hg q2, q3], he.at hg q4 (by rw [q5]; exact h9), by rw [he.tag hg q4, q5], q6⟩
theorem li_nc : ∀ c, c < 128 → vp_nar .char (nI c) = nI c := by decide
theorem cA_addL {lt ln pb cnt : Nat} {fn : Nat → Int32} {P : List Nat} (hc : cnt < 60) (hP : P.length ≤ 53) : ∀ n i (g : pg_G) (fl : Nat → Int32), pg_Wf g → cAo g a lt ln cnt lk → g.1.1 lt = some (.inl (1, 3180, .inl fl)) → g.2 lt = 8 → g.1.1 ln = some (.inl (2, 60, .inl fn)) → g.2 ln = 9 → bu_B g 3 pb P → i ≤ P.length → P.length < i + n → (∀ j, j < i → fl (53 * cnt + j) = nI (P.getD j 0)) → pg_T (fX0_add_21 n a (some pb) (nI i) g.1) 0 0 (fun t => t = 4 ∨ t = 8 ∨ t = 9) g (fun _ g' => ∃ fl', cAo g' a lt ln (cnt + 1) lk ∧ g'.1.1 lt = some (.inl (1, 3180, .inl fl')) ∧ g'.2 lt = 8 ∧ g'.1.1 ln = some (.inl (2, 60, .inl (upd fn cnt (nI P.length)))) ∧ g'.2 ln = 9 ∧ (∀ j, j < 53 * cnt → fl' j = fl j) ∧ ∀ j, j < P.length → fl' (53 * cnt + j) = nI (P.getD j 0)) := by
  intro n
  induction n with
  | zero => intro i g fl _ _ _ _ _ _ _ hi hn; omega
  | succ n ih =>
    intro i g fl hg ho h1 h2 h3 h4 hB hi hn hf
    obtain ⟨fb, hbo⟩ := bu_is hB
    rw [fX0_add_21]
    simp only [pg_o1, pg_cv hbo, bu_length hB, pg_b0]
    by_cases hie : i = P.length
    · rw [if_pos (nI_le (by omega) (by omega)), pg_gR ho.1 (k := 3) rfl, pg_o1, pg_gI ho.1 (k := 0) rfl, pg_o1, pg_o1]
      have x1 := pg_put_ext (W := fun t => t = 9) (e := .inl (2, 60, .inl (upd fn cnt (vp_nar (vg_tyI 2) (nI P.length))))) hg h3 h4 (by simp [pg_kd])
      refine pg_T.sI hg h3 hc (by decide) (by rw [h4]; decide) (Or.inr (Or.inr h4)) ?_
      have ho1 := ho.ext hg x1 (by decide)
      have l1 := x1.at hg h1 (by rw [h2]; decide)
      have tl1 : (pg_put g ln (.inl (2, 60, .inl (upd fn cnt (vp_nar (vg_tyI 2) (nI P.length)))))).2 lt = 8 := h2
      have n1 := pg_put_self g ln (.inl (2, 60, .inl (upd fn cnt (vp_nar (vg_tyI 2) (nI P.length)))))
      have tn1 : (pg_put g ln (.inl (2, 60, .inl (upd fn cnt (vp_nar (vg_tyI 2) (nI P.length)))))).2 ln = 9 := h4
      have w1 := x1.wf
      generalize pg_put g ln (.inl (2, 60, .inl (upd fn cnt (vp_nar (vg_tyI 2) (nI P.length))))) = g1 at *
      rw [pg_gI ho1.1 (k := 0) rfl, pg_o1, nI_1]
      have x2 := pg_put_ext (W := fun t => t = 4) (e := .inr (3, [.int (nI cnt), .int (nI lk), .ref lt, .ref ln].set 0 (.int (nI (cnt + 1))))) w1 ho1.1 ho1.2 (by simp [pg_kd])
      refine pg_T.p w1 ho1.1 (by simp) (by rw [ho1.2]; decide) (Or.inl ho1.2) (pg_T.ret x2.wf ⟨fl, ⟨pg_put_self _ _ _, ho1.2⟩, x2.at w1 l1 (by rw [tl1]; decide), tl1, x2.at w1 n1 (by rw [tn1]; decide), tn1, fun _ _ => rfl, fun j hj => hf j (by omega)⟩)
    · have hlt : i < P.length := by omega
      rw [if_neg (nI_ge hlt (by omega)), pg_gR ho.1 (k := 2) rfl, pg_o1, pg_gI ho.1 (k := 0) rfl, pg_o1, bu_charAt hB hlt, pg_b0, pg_o1, show (53 : Int32) = nI 53 from rfl, pk_mul, nI_add]
      have hc128 : P.getD i 0 < 128 := by
        obtain ⟨v, cap, ml, f, q1, q2, q3, q4, q5, q6, q7, q8, q9⟩ := hB
        exact ps_get q9 i hlt
      have x1 := pg_put_ext (W := fun t => t = 8) (e := .inl (1, 3180, .inl (upd fl (cnt * 53 + i) (vp_nar (vg_tyI 1) (nI (P.getD i 0)))))) hg h1 h2 (by simp [pg_kd])
      refine pg_T.sI hg h1 (by omega) (by decide) (by rw [h2]; decide) (Or.inr (Or.inl h2)) ?_
      rw [nI_1]
      have e8 : vp_nar (vg_tyI 1) (nI (P.getD i 0)) = nI (P.getD i 0) := li_nc _ hc128
      refine (ih (i + 1) _ _ x1.wf (ho.ext hg x1 (by decide)) (pg_put_self _ _ _) h2 (x1.at hg h3 (by rw [h4]; decide)) h4 (hB.ext hg x1 (by decide)) (by omega) (by omega) (fun j hj => ?_)).mono (Nat.le_refl _) (Nat.le_refl _) (fun _ h => h) (fun r g' _ hp => ?_)
      · by_cases hji : j = i
        · rw [hji, show 53 * cnt + i = cnt * 53 + i by omega, pk_us]; exact e8
        · rw [pk_un (by omega)]; exact hf j (by omega)
      · obtain ⟨fl', e1, e2, e3, e4, e5, e6, e7⟩ := hp
        exact ⟨fl', e1, e2, e3, e4, e5, fun j hj => by rw [e6 j hj, pk_un (by omega)], e7⟩
theorem cA_add {pb : Nat} {P : List Nat} (hg : pg_Wf g) (h : cA g a an lk) (hB : bu_B g 3 pb P) (h60 : an.length < 60) (h53 : P.length ≤ 53) : pg_T (fX0_add a (some pb) g.1) 0 0 (fun t => t = 4 ∨ t = 8 ∨ t = 9) g (fun _ g' => cA g' a (an ++ [P]) lk) := by
  obtain ⟨lt, ln, fl, fn, q1, q2, q3, q4, q5, q6, q7⟩ := h
  obtain ⟨fb, hbo⟩ := bu_is hB
  rw [fX0_add, pg_gI q1.1 (k := 0) rfl, pg_o1, if_neg (show ¬ (60 : Int32) ≤ nI an.length from nI_ge (b := 60) h60 (by decide)), pg_o1, pg_cv hbo, bu_length hB, pg_b0, if_pos (show nI P.length ≤ 53 from nI_le (b := 53) h53 (by decide)), ← nI_0]
  refine (cA_addL h60 h53 vg_fuel 0 g fl hg q1 q2 q3 q4 q5 hB (Nat.zero_le _) (by rw [ps_fuel]; omega) (fun j hj => absurd hj (Nat.not_lt_zero _))).mono (Nat.le_refl _) (Nat.le_refl _) (fun _ h => h) (fun r g' _ hp => ?_)
  obtain ⟨fl', e1, e2, e3, e4, e5, e6, e7⟩ := hp
  refine ⟨lt, ln, fl', upd fn an.length (nI P.length), by rw [List.length_append]; exact e1, e2, e3, e4, e5, by rw [List.length_append]; show an.length + 1 ≤ 60; omega, fun i hi => ?_⟩
  rw [List.length_append] at hi
  have hi : i < an.length + 1 := hi
  rw [getD_app]
  by_cases hie : i = an.length
  · rw [hie, if_neg (Nat.lt_irrefl _), if_pos rfl, pk_us]
    exact ⟨rfl, h53, e7⟩
  · rw [if_pos (by omega), pk_un hie]
    obtain ⟨a1, a2, a3⟩ := q7 i (by omega)
    exact ⟨a1, a2, fun k hk => by rw [e6 _ (by omega)]; exact a3 k hk⟩
theorem cA_clear (hg : pg_Wf g) (h : cA g a an lk) : pg_T (fX0_clear a g.1) 0 0 (fun t => t = 4) g (fun _ g' => cA g' a [] 0) := by
  obtain ⟨lt, ln, fl, fn, q1, q2, q3, q4, q5, q6, q7⟩ := h
  unfold fX0_clear
  have x1 := pg_put_ext (W := fun t => t = 4) (e := .inr (3, [.int (nI an.length), .int (nI lk), .ref lt, .ref ln].set 0 (.int 0))) hg q1.1 q1.2 (by simp [pg_kd])
  have o1 := pg_put_self g a (.inr (3, [.int (nI an.length), .int (nI lk), .ref lt, .ref ln].set 0 (.int 0)))
  have t1 : (pg_put g a (.inr (3, [.int (nI an.length), .int (nI lk), .ref lt, .ref ln].set 0 (.int 0)))).2 a = 4 := q1.2
  refine pg_T.p hg q1.1 (by simp) (by rw [q1.2]; decide) q1.2 ?_
  have x2 := pg_put_ext (W := fun t => t = 4) (e := .inr (3, ([.int (nI an.length), .int (nI lk), .ref lt, .ref ln].set 0 (.int 0)).set 1 (.int 0))) x1.wf o1 t1 (by simp [pg_kd])
  have x12 := x1.trans x2
  refine pg_T.p x1.wf o1 (by simp) (by rw [t1]; decide) t1 (pg_T.ret x2.wf ⟨lt, ln, fl, fn, ⟨pg_put_self _ _ _, t1⟩, x12.at hg q2 (by rw [q3]; decide), q3, x12.at hg q4 (by rw [q5]; decide), q5, by decide, fun i hi => absurd hi (Nat.not_lt_zero _)⟩)
theorem cA_count (hg : pg_Wf g) (h : cA g a an lk) {β : Type} {f : vg_M → vg_R β} {C N : Nat} {Q : β → pg_G → Prop} (hW : W 4) (k : ∀ g1, pg_Ext (fun t => t = 4) g g1 → cA g1 a an (lk + 1) → pg_T (f g1.1) C N W g1 Q) : pg_T (vg_o (vg_gI g.1 a 3 1) fun x19 => vg_o (vg_p g.1 a 3 1 (.int (x19 + 1))) fun μ20 => f μ20) C N W g Q := by
  obtain ⟨lt, ln, fl, fn, q1, q2, q3, q4, q5, q6, q7⟩ := h
  rw [pg_gI q1.1 (k := 1) rfl, pg_o1, nI_1]
  have x1 := pg_put_ext (W := fun t => t = 4) (e := .inr (3, [.int (nI an.length), .int (nI lk), .ref lt, .ref ln].set 1 (.int (nI (lk + 1))))) hg q1.1 q1.2 (by simp [pg_kd])
  exact pg_T.p hg q1.1 (by simp) (by rw [q1.2]; decide) (by rw [q1.2]; exact hW) (k _ x1 ⟨lt, ln, fl, fn, ⟨pg_put_self _ _ _, q1.2⟩, x1.at hg q2 (by rw [q3]; decide), q3, x1.at hg q4 (by rw [q5]; decide), q5, q6, q7⟩)
theorem cA_letter {k i : Int32} (h : cA g a an lk) : fX0_letter a k i g.1 = some (sans an k i, g.1, 0, 0) := by
  obtain ⟨lt, ln, fl, fn, q1, q2, q3, q4, q5, q6, q7⟩ := h
  unfold sans
  simp only [fX0_letter, pg_gI q1.1 (k := 0) rfl, pg_gR q1.1 (k := 3) rfl, pg_gR q1.1 (k := 2) rfl, pg_o1, fX0_letter_26, vu_ret]
  by_cases hk : k < 0
  · rw [if_pos hk, if_pos (Or.inl hk)]
  · rw [if_neg hk]
    by_cases hk2 : nI an.length ≤ k
    · rw [if_pos hk2, if_pos (Or.inr (Or.inl hk2))]
    · rw [if_neg hk2]
      by_cases hi : i < 0
      · rw [if_pos hi, if_pos (Or.inr (Or.inr (Or.inl hi)))]
      · rw [if_neg hi]
        obtain ⟨kn, hkn, rfl⟩ := nI_of hk
        obtain ⟨ii, hii, rfl⟩ := nI_of hi
        have hkl : kn < an.length := Classical.byContradiction (fun h => hk2 (nI_le (by omega) (by omega)))
        obtain ⟨a1, a2, a3⟩ := q7 kn hkl
        rw [pg_aI q4 (show kn < 60 by omega) (by decide), pg_o1, a1, nI_clamp (by omega), nI_clamp (by omega)]
        by_cases hc : (an.getD kn []).length ≤ ii
        · rw [if_neg (nI_nlt hc (by omega)), if_pos (Or.inr (Or.inr (Or.inr (nI_le hc (by omega)))))]
        · rw [if_pos (nI_lt (by omega) (by omega)), show (53 : Int32) = nI 53 from rfl, pk_mul, nI_add, show kn * 53 + ii = 53 * kn + ii by omega, pg_aI q2 (show 53 * kn + ii < 3180 by omega) (by decide), pg_o1, a3 ii (by omega), if_neg]
          rintro (h | h | h | h)
          · exact hk h
          · exact hk2 h
          · exact hi h
          · exact nI_ge (by omega) (by omega) h
end
