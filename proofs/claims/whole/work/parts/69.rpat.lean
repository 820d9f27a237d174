/-! The reference: pattern. -/
/-- pattern: what is thrown, the queries behind it -/
def spat (t : List Nat) (qs : List sQ) (q : Int32) (out : Bool) : Nat × List sQ := if q < 0 ∨ nI qs.length ≤ q then (1, qs) else match pp t with
  | .inr _ => (1, qs)
  | .inl P => if (if out = true then outs (qs.getD q.toNatClampNeg ([], [])) else ins (qs.getD q.toNatClampNeg ([], []))).length = 4 then (2, qs) else (0, qs.set q.toNatClampNeg ((qs.getD q.toNatClampNeg ([], [])).1, (qs.getD q.toNatClampNeg ([], [])).2 ++ [(out, P.1, P.2)]))
section
variable {μ : vg_M} {m : Nat} {T : sT} {fr : Nat → Nat → Bool} {S : Nat → Int32} {F : Nat → Nat → Int32} {t : List Nat} {qs : List sQ} {B : Nat}
theorem rm_patL {q p : Nat} (hs : μ.2.2.1 ≤ m) (hq : q < 6) (hp : p < 48) (hT : RT t S F) : ∀ n i F', i ≤ t.length → t.length < i + n → fE [22] F F' → (∀ j, ¬ (60 * p ≤ j ∧ j < 60 * p + 60) → F' 22 j = F 22 j) → (∀ j, j < i → F' 22 (60 * p + j) = nI (t.getD j 0)) → ∃ S'' F'', fX11_pattern_159 n m (nI q) (nI p) (nI i) (rf_M μ m S F') = some ((), rf_M μ m S'' F'', 0, 0) ∧ sE [2] S S'' ∧ S'' 2 = 0 ∧ fE [22, 23] F F'' ∧ F'' 23 = rf_u F 23 q 1 23 ∧ (∀ j, ¬ (60 * p ≤ j ∧ j < 60 * p + 60) → F'' 22 j = F 22 j) ∧ ∀ j, j < t.length → F'' 22 (60 * p + j) = nI (t.getD j 0) := by
  obtain ⟨t1, t2, t3, t4⟩ := id hT
  intro n
  induction n with
  | zero => intro i F' h1 h2; omega
  | succ n ih =>
    intro i F' h1 h2 hE hlo hw
    unfold fX11_pattern_159
    simp only [rf_i2, t1, pg_o1, nI_leI (show t.length < 2 ^ 31 by omega) (show i < 2 ^ 31 by omega)]
    by_cases hi : i = t.length
    · subst hi
      rw [if_pos (Nat.le_refl _)]
      simp only [rf_r23, pg_o1, rf_s23 hs hq (show vp_nar .boolean 1 = 1 by decide), fX11_pattern_201, rf_p2 hs, vg_ret]
      refine ⟨_, _, rfl, sE.u (by decide), pk_us, (hE.trans fE.refl (by decide)).trans (fE.u (by decide)) (fun _ h => h), ?_, fun j hj => by simp (disch := decide) only [rf_u3, rf_u4, rf_u5, pk_us, pk_un]; exact hlo j hj, fun j hj => by simp (disch := decide) only [rf_u3, rf_u4, rf_u5, pk_us, pk_un]; exact hw j hj⟩
      funext x
      rw [rf_u5, rf_u5, hE 23 (by decide)]
    · have hil : i < t.length := by omega
      have hc := hT.lt hil
      rw [if_neg (by omega)]
      have e1 : F' 1 i = nI (t.getD i 0) := by rw [hE 1 (by decide)]; exact t3 i hil
      simp only [rf_r22, rf_r1, pg_o1, rf_a1 (show i < 60 by omega), e1, show (60 : Int32) = nI 60 from rfl, pk_mul, nI_add, rf_s22 hs (show 60 * p + i < 2880 by omega) (li_nb _ (show t.getD i 0 < 128 by omega)), nI_1]
      refine ih (i + 1) (rf_u F' 22 (60 * p + i) (nI (t.getD i 0))) (by omega) (by omega) (hE.trans (fE.u (by decide)) (fun _ h => h)) (fun j hj => by rw [rf_u2 _ _ _ (by omega)]; exact hlo j hj) (fun j hj => ?_)
      by_cases hji : j = i
      · subst hji; rw [rf_u1]
      · rw [rf_u2 _ _ _ (by omega)]; exact hw j (by omega)
theorem getD_app {α : Type} {l : List α} {x d : α} {i : Nat} : (l ++ [x]).getD i d = if i < l.length then l.getD i d else if i = l.length then x else d := by
  by_cases h : i < l.length
  · rw [if_pos h, List.getD_eq_getElem?_getD, List.getD_eq_getElem?_getD, List.getElem?_append_left h]
  · rw [if_neg h]
    by_cases h2 : i = l.length
    · rw [if_pos h2, h2]; simp [List.getD_eq_getElem?_getD]
    · rw [if_neg h2, List.getD_eq_getElem?_getD, List.getElem?_eq_none (by rw [List.length_append]; simp; omega)]; rfl
theorem rm_pattern {q : Int32} {out : Bool} (hs : μ.2.2.1 ≤ m) (hT : RT t S F) (hSn : RSn fr qs.length T B S F) (hQ : RQ qs S F) : ∃ S' F', fX11_pattern m q (bI out) (rf_M μ m S F) = some ((), rf_M μ m S' F', 0, 0) ∧ S' 0 = nI (spat t qs q out).1 ∧ S' 25 = iP (pp t) ∧ RT [] S' F' ∧ RSn (if (spat t qs q out).1 = 0 then frN fr q.toNatClampNeg else fr) qs.length T B S' F' ∧ RQ (spat t qs q out).2 S' F' ∧ sE [0, 2, 25] S S' ∧ fE [17, 18, 20, 22, 23] F F' := by
  obtain ⟨t1, t2, t3, t4⟩ := id hT
  obtain ⟨a1, a2, a3, a4⟩ := id hQ
  -- refused
  have ref : ∀ k : Nat, k ≤ 2 → k ≠ 0 → ∃ S' F', fX11_pattern_71 m q (bI out) m (nI k) (rf_M μ m (upd S 25 (iP (pp t))) F) = some ((), rf_M μ m S' F', 0, 0) ∧ S' 0 = nI k ∧ S' 25 = iP (pp t) ∧ RT [] S' F' ∧ RSn fr qs.length T B S' F' ∧ RQ qs S' F' ∧ sE [0, 2, 25] S S' ∧ fE [17, 18, 20, 22, 23] F F' := by
    intro k hk hk0
    unfold fX11_pattern_71
    simp only [rf_p0 hs, pg_o1, rf_i0, pk_us, li_eq0 (show k < 2 ^ 31 by omega), if_neg hk0, fX11_pattern_201, rf_p2 hs, vg_ret]
    have hsE : sE [0, 2, 25] S (upd (upd (upd S 25 (iP (pp t))) 0 (nI k)) 2 0) := ((sE.u (by decide)).trans (sE.u (by decide)) (fun _ h => h)).trans (sE.u (by decide)) (fun _ h => h)
    exact ⟨_, F, rfl, by simp (disch := decide) only [pk_us, pk_un], by simp (disch := decide) only [pk_us, pk_un], rt0 _ _ pk_us, hSn.e hsE (fE.refl (ks := [])) (by decide) (by decide), hQ.e hsE (fE.refl (ks := [])) (by decide) (by decide), hsE, fE.refl⟩
  have hill : fX11_ill m (rf_M μ m S F) = some (iP (pp t), rf_M μ m S F, 0, 0) := rm_ill hT
  have s15 : upd S 25 (iP (pp t)) 15 = nI qs.length := by rw [pk_un (by decide)]; exact a1
  have s25 : upd S 25 (iP (pp t)) 25 = iP (pp t) := pk_us
  unfold fX11_pattern spat
  rw [rf_cv, hill, pg_b0, rf_p25 hs, pg_o1]
  simp only [fX11_pattern_24, fX11_pattern_25, fX11_pattern_39, if_true, if_neg (show ¬ (1 : Int32) = 0 by decide), rf_i15, s15, rf_i25, s25, pg_o1]
  have one := ref 1 (by decide) (by decide)
  have two := ref 2 (by decide) (by decide)
  rw [show nI 1 = 1 from rfl] at one
  rw [show nI 2 = 2 from rfl] at two
  by_cases h1 : q < 0
  · rw [if_pos h1, if_pos (Or.inl h1)]; exact one
  · rw [if_neg h1]
    by_cases h2 : nI qs.length ≤ q
    · rw [if_pos h2, if_pos (Or.inr h2)]; exact one
    · rw [if_neg h2, if_neg (show ¬ (q < 0 ∨ nI qs.length ≤ q) from fun h => h.elim h1 h2)]
      obtain ⟨qn, hqn, rfl⟩ := nI_of h1
      rw [nI_clamp hqn]
      have hql : qn < qs.length := by
        apply Classical.byContradiction
        intro h
        exact h2 (nI_le (by omega) hqn)
      cases hpp : pp t with
      | inr e =>
        have he : e ≤ 60 := by
          apply Classical.byContradiction
          intro hgt
          have key : ∀ f acc k st, k ≤ t.length → pp_go t f acc k st = .inr e → e ≤ t.length := by
            intro f
            induction f with
            | zero => intro acc k st hk h; cases h; exact hk
            | succ f ih =>
              intro acc k st hk h
              unfold pp_go at h
              by_cases h6 : acc.length = 6
              · rw [if_pos h6] at h; cases h; exact hk
              · rw [if_neg h6] at h
                cases hpc : pp_piece t k st with
                | inr e' => rw [hpc] at h; cases h; exact ((pp_piece_le hk).2 e hpc).2
                | inl x =>
                  rw [hpc] at h
                  simp only at h
                  split at h
                  · next h47 => exact ih _ _ _ (by omega) h
                  · cases h
          have := key 7 [] 0 false (Nat.zero_le _) hpp
          omega
        rw [hpp] at one
        rw [show iP (Sum.inr e : (List (List (List Nat)) × Bool) ⊕ Nat) = nI e from rfl] at one ⊢
        rw [if_neg (by rw [li_m1 (by omega)]; exact fun h => h)]
        exact one
      | inl P =>
        obtain ⟨ps, fo⟩ := P
        obtain ⟨hraw, hPok⟩ := pp_ok hpp t2 t4
        rw [hpp] at two ref
        rw [show iP (Sum.inl (ps, fo) : (List (List (List Nat)) × Bool) ⊕ Nat) = -1 from rfl] at two ref ⊢
        rw [if_pos rfl]
        obtain ⟨b1, b2, b3, b4, b5, b6, b7, b8, b9, b10, b11⟩ := a3 qn hql
        have hq6 : qn < 6 := by omega
        -- taken
        have taken : ∀ (L : List sP), (L = if out = true then outs (qs.getD qn ([], [])) else ins (qs.getD qn ([], []))) → L.length < 4 → ∃ S' F', fX11_pattern_71 m (nI qn) (bI out) m 0 (rf_M μ m (upd S 25 (-1)) F) = some ((), rf_M μ m S' F', 0, 0) ∧ S' 0 = nI 0 ∧ S' 25 = -1 ∧ RT [] S' F' ∧ RSn (frN fr qn) qs.length T B S' F' ∧ RQ (qs.set qn ((qs.getD qn ([], [])).1, (qs.getD qn ([], [])).2 ++ [(out, ps, fo)])) S' F' ∧ sE [0, 2, 25] S S' ∧ fE [17, 18, 20, 22, 23] F F' := by
          intro L hL hL4
          -- where it is put, how many there are
          have hp : ∃ p, p = 8 * qn + (if out = true then 4 + L.length else L.length) := ⟨_, rfl⟩
          obtain ⟨p, hpe⟩ := hp
          have hp48 : p < 48 := by split at hpe <;> omega
          have hfe : ∃ F1 : Nat → Nat → Int32, F1 = rf_u (rf_u (rf_u F 18 qn (nI (outs (qs.getD qn ([], []))).length + bI out)) 17 qn (nI (ins (qs.getD qn ([], []))).length + bI (!out))) 20 p (nI t.length) := ⟨_, rfl⟩
          obtain ⟨F1, hF1⟩ := hfe
          have run : fX11_pattern_71 m (nI qn) (bI out) m 0 (rf_M μ m (upd S 25 (-1)) F) = fX11_pattern_159 vg_fuel m (nI qn) (nI p) 0 (rf_M μ m (upd (upd S 25 (-1)) 0 0) F1) := by
            have s2 : upd (upd S 25 (-1)) 0 0 2 = nI t.length := by rw [pk_un (by decide), pk_un (by decide)]; exact t1
            have e17 : (rf_u F 18 qn (nI (outs (qs.getD qn ([], []))).length + bI out)) 17 qn = nI (ins (qs.getD qn ([], []))).length := by simp (disch := decide) only [rf_u3, rf_u4, rf_u5, pk_us, pk_un]; exact b6
            unfold fX11_pattern_71
            simp only [rf_p0 hs, pg_o1, rf_i0, pk_us, if_true, rf_r17, rf_a17 hq6, b6, rf_r18, rf_a18 hq6, b8, fX11_pattern_106, fX11_pattern_125, fX11_pattern_143, show (8 : Int32) = nI 8 from rfl, show (4 : Int32) = nI 4 from rfl, pk_mul, nI_add]
            cases out with
            | true =>
              simp only [if_true] at hL hpe
              subst hL
              simp only [bI_t, if_neg (show ¬ (1 : Int32) = 0 by decide), rf_s18 hs hq6, rf_r17, rf_a17 hq6, pg_o1]
              rw [bI_t] at e17 hF1
              simp only [e17, if_neg (show ¬ (1 : Int32) = 0 by decide), rf_s17 hs hq6, rf_r20, rf_i2, s2, pg_o1]
              rw [show 8 * qn + (4 + (outs (qs.getD qn ([], []))).length) = p from hpe.symm, rf_s20 hs hp48, pg_o1, hF1]; rfl
            | false =>
              simp only [Bool.false_eq_true, if_false] at hL hpe
              subst hL
              simp only [bI_f, if_true, rf_s18 hs hq6, rf_r17, rf_a17 hq6, pg_o1]
              rw [bI_f] at e17 hF1
              simp only [e17, rf_s17 hs hq6, rf_r20, rf_i2, s2, pg_o1]
              rw [show 8 * qn + (ins (qs.getD qn ([], []))).length = p from hpe.symm, rf_s20 hs hp48, pg_o1, hF1]; rfl
          rw [run]
          have hF1E : fE [17, 18, 20] F F1 := by rw [hF1]; exact ((fE.u (by decide)).trans (fE.u (by decide)) (fun _ h => h)).trans (fE.u (by decide)) (fun _ h => h)
          have hT1 : RT t (upd (upd S 25 (-1)) 0 0) F1 := hT.mono (by rw [pk_un (by decide), pk_un (by decide)]) (hF1E 1 (by decide))
          obtain ⟨S2, F2, f1, f2, f3, f4, f5, f6, f7⟩ := rm_patL hs hq6 hp48 hT1 vg_fuel 0 F1 (Nat.zero_le _) (by rw [ps_fuel]; omega) fE.refl (fun _ _ => rfl) (fun j h => absurd h (Nat.not_lt_zero _))
          rw [nI_0] at f1
          have hsE : sE [0, 2, 25] S S2 := ((sE.u (by decide)).trans (sE.u (by decide)) (fun _ h => h)).trans (f2.trans sE.refl (by decide)) (fun _ h => h)
          have hfE : fE [17, 18, 20, 22, 23] F F2 := (hF1E.trans fE.refl (by decide)).trans (f4.trans fE.refl (by decide)) (fun _ h => h)
          refine ⟨S2, F2, f1, by rw [f2 0 (by decide), pk_us]; rfl, by rw [f2 25 (by decide), pk_un (by decide), pk_us], rt0 _ _ f3, ?_, ?_, hsE, hfE⟩
          · obtain ⟨ma, cg, ow, to, as, se, an, g1, g2, g3, g4, g5, g6, g7, g8⟩ := hSn
            refine ⟨ma, cg, ow, to, as, se, fun q => if q = qn then true else an q, by rw [hsE 13 (by decide)]; exact g1, by rw [hsE 14 (by decide)]; exact g2, g3, g4, fun k hk => by rw [hfE 9 (by decide), hfE 10 (by decide)]; exact g5 k hk, fun q hq => ?_, fun j hj => by rw [hfE 24 (by decide)]; exact g7 j hj, fun q hq k hk hl => ?_⟩
            · obtain ⟨c1, c2, c3⟩ := g6 q hq
              rw [hfE 19 (by decide), f5, rf_u5, hF1E 23 (by decide)]
              by_cases hqq : q = qn
              · simp only [hqq, if_true] at c1 c2 ⊢; exact ⟨c1, c2, rfl⟩
              · simp only [if_neg hqq]; exact ⟨c1, c2, c3⟩
            · unfold frN
              by_cases hqq : q = qn
              · simp [hqq]
              · simp only [if_neg hqq, hqq, decide_false, Bool.false_or]
                exact g8 q (by omega) k hk hl
          · -- the numbers of patterns
            have n17 : ∀ q, F2 17 q = if q = qn then nI (ins (qs.getD qn ([], []))).length + bI (!out) else F 17 q := fun q => by rw [f4 17 (by decide), hF1]; simp (disch := decide) only [rf_u3, rf_u4, rf_u5, pk_us, pk_un]
            have n18 : ∀ q, F2 18 q = if q = qn then nI (outs (qs.getD qn ([], []))).length + bI out else F 18 q := fun q => by rw [f4 18 (by decide), hF1]; simp (disch := decide) only [rf_u3, rf_u4, rf_u5, pk_us, pk_un]
            have n20 : ∀ x, F2 20 x = if x = p then nI t.length else F 20 x := fun x => by rw [f4 20 (by decide), hF1]; simp (disch := decide) only [rf_u3, rf_u4, rf_u5, pk_us, pk_un]
            have rpo : ∀ x ps' fo', x ≠ p → RP x ps' fo' F → RP x ps' fo' F2 := by
              intro x ps' fo' hx h
              refine ⟨h.1, h.2.1, by rw [n20, if_neg hx]; exact h.2.2.1, fun k hk => ?_⟩
              have hk60 : k < 60 := by have := h.2.1.2.2.2.1; omega
              rw [f6 _ (by omega), hF1E 22 (by decide)]; exact h.2.2.2 k hk
            have rpn : RP p ps fo F2 := by
              refine ⟨hp48, hPok, by rw [n20, if_pos rfl, ← hraw], fun k hk => ?_⟩
              rw [← hraw] at hk ⊢
              exact f7 k hk
            have hlen : (qs.set qn ((qs.getD qn ([], [])).1, (qs.getD qn ([], [])).2 ++ [(out, ps, fo)])).length = qs.length := List.length_set
            refine ⟨by rw [hsE 15 (by decide), hlen]; exact a1, by rw [hlen]; exact a2, fun q hq => ?_, fun q h1 h2 => ?_⟩
            · rw [hlen] at hq
              by_cases hqq : q = qn
              · have eg : (qs.set qn ((qs.getD qn ([], [])).1, (qs.getD qn ([], [])).2 ++ [(out, ps, fo)])).getD q ([], []) = ((qs.getD qn ([], [])).1, (qs.getD qn ([], [])).2 ++ [(out, ps, fo)]) := by
                  subst hqq; rw [List.getD_eq_getElem?_getD, List.getElem?_set_self hql]; rfl
                rw [eg]
                have ei : ins ((qs.getD qn ([], [])).1, (qs.getD qn ([], [])).2 ++ [(out, ps, fo)]) = ins (qs.getD qn ([], [])) ++ (if out = true then [] else [(out, ps, fo)]) := by
                  unfold ins; rw [List.filter_append]; cases out <;> rfl
                have eo : outs ((qs.getD qn ([], [])).1, (qs.getD qn ([], [])).2 ++ [(out, ps, fo)]) = outs (qs.getD qn ([], [])) ++ (if out = true then [(out, ps, fo)] else []) := by
                  unfold outs; rw [List.filter_append]; cases out <;> rfl
                subst hqq
                unfold RQ1
                rw [ei, eo, n17, n18, if_pos rfl, if_pos rfl]
                refine ⟨by rw [hfE 16 (by decide)]; exact b1, b2, fun i hi => by rw [hfE 21 (by decide)]; exact b3 i hi, b4, b5, ?_⟩
                cases out with
                | true =>
                  simp only [if_true] at hL hpe
                  subst hL
                  simp only [if_true, List.append_nil, Bool.not_true]
                  refine ⟨by rw [bI_f, ← nI_0, nI_add]; rfl, b7, by rw [bI_t, nI_1, List.length_append]; rfl, by rw [List.length_append, List.length_singleton]; omega, fun i hi => rpo _ _ _ (by omega) (b10 i hi), fun i hi => ?_⟩
                  rw [List.length_append] at hi
                  simp only [List.length_cons, List.length_nil] at hi
                  rw [getD_app]
                  by_cases hil : i < (outs (qs.getD q ([], []))).length
                  · rw [if_pos hil]; exact rpo _ _ _ (by omega) (b11 i hil)
                  · rw [if_neg hil, if_pos (by omega)]
                    have : 8 * q + 4 + i = p := by omega
                    rw [this]; exact rpn
                | false =>
                  simp only [Bool.false_eq_true, if_false] at hL hpe
                  subst hL
                  simp only [Bool.false_eq_true, if_false, List.append_nil, Bool.not_false]
                  refine ⟨by rw [bI_t, nI_1, List.length_append]; rfl, by rw [List.length_append, List.length_singleton]; omega, by rw [bI_f, ← nI_0, nI_add]; rfl, b9, fun i hi => ?_, fun i hi => rpo _ _ _ (by omega) (b11 i hi)⟩
                  rw [List.length_append] at hi
                  simp only [List.length_cons, List.length_nil] at hi
                  rw [getD_app]
                  by_cases hil : i < (ins (qs.getD q ([], []))).length
                  · rw [if_pos hil]; exact rpo _ _ _ (by omega) (b10 i hil)
                  · rw [if_neg hil, if_pos (by omega)]
                    have : 8 * q + i = p := by omega
                    rw [this]; exact rpn
              · have eg : (qs.set qn ((qs.getD qn ([], [])).1, (qs.getD qn ([], [])).2 ++ [(out, ps, fo)])).getD q ([], []) = qs.getD q ([], []) := by
                  rw [List.getD_eq_getElem?_getD, List.getElem?_set_ne (Ne.symm hqq), ← List.getD_eq_getElem?_getD]
                rw [eg]
                obtain ⟨d1, d2, d3, d4, d5, d6, d7, d8, d9, d10, d11⟩ := a3 q hq
                have hpr : 8 * qn ≤ p ∧ p < 8 * qn + 8 := by split at hpe <;> omega
                refine ⟨by rw [hfE 16 (by decide)]; exact d1, d2, fun i hi => by rw [hfE 21 (by decide)]; exact d3 i hi, d4, d5, by rw [n17, if_neg hqq]; exact d6, d7, by rw [n18, if_neg hqq]; exact d8, d9, fun i hi => rpo _ _ _ (by omega) (d10 i hi), fun i hi => rpo _ _ _ (by omega) (d11 i hi)⟩
            · rw [hlen] at h1
              rw [n17, n18, if_neg (by omega), if_neg (by omega)]; exact a4 q h1 h2
        simp only [rf_r17, rf_a17 hq6, b6, rf_r18, rf_a18 hq6, b8, pg_o1, fX11_pattern_62, li_c 4 (c := 4) rfl (show (ins (qs.getD qn ([], []))).length < 2 ^ 31 by omega) (by decide), li_c 4 (c := 4) rfl (show (outs (qs.getD qn ([], []))).length < 2 ^ 31 by omega) (by decide)]
        cases out with
        | true =>
          have tk := taken _ rfl
          simp only [bI_t, if_neg (show ¬ (1 : Int32) = 0 by decide), if_true] at tk two ⊢
          by_cases h4 : (outs (qs.getD qn ([], []))).length = 4
          · rw [if_pos h4, if_pos h4]; exact two
          · rw [if_neg h4, if_neg h4]; exact tk (by omega)
        | false =>
          have tk := taken _ rfl
          simp only [bI_f, if_true, Bool.false_eq_true, if_false] at tk two ⊢
          by_cases h4 : (ins (qs.getD qn ([], []))).length = 4
          · rw [if_pos h4, if_pos h4]; exact two
          · rw [if_neg h4, if_neg h4]; exact tk (by omega)
end
