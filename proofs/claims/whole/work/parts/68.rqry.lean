/-! The reference: the other calls. -/
section
variable {μ : vg_M} {m : Nat} {T : sT} {fr : Nat → Nat → Bool} {S : Nat → Int32} {F : Nat → Nat → Int32} {t : List Nat} {qs : List sQ} {B : Nat}
def sty (t : List Nat) (c : Nat) : Bool × List Nat := if 32 ≤ c ∧ c ≤ 126 ∧ t.length < 60 then (true, t ++ [c]) else (false, t)
theorem rm_type {c : Nat} (hs : μ.2.2.1 ≤ m) (hT : RT t S F) (hc : c < 65536) : ∃ S' F', fX11_type m (nI c) (rf_M μ m S F) = some (bI (sty t c).1, rf_M μ m S' F', 0, 0) ∧ RT (sty t c).2 S' F' ∧ sE [0, 2] S S' ∧ fE [1] F F' := by
  obtain ⟨t1, t2, t3, t4⟩ := id hT
  have s2 : upd S 0 0 2 = nI t.length := by rw [pk_un (by decide)]; exact t1
  have hT0 : RT t (upd S 0 0) F := hT.mono (pk_un (by decide)) rfl
  unfold fX11_type sty
  rw [rf_p0 hs, pg_o1, show (32 : Int32) = nI 32 from rfl, show (126 : Int32) = nI 126 from rfl]
  simp only [nI_ltI (show c < 2 ^ 31 by omega) (show 32 < 2 ^ 31 by decide), nI_ltI (show 126 < 2 ^ 31 by decide) (show c < 2 ^ 31 by omega), rf_i2, s2, pg_o1, li_c 60 (c := 60) rfl (show t.length < 2 ^ 31 by omega) (by decide), fX11_type_26, pg_z0, pg_z1, vg_ret]
  by_cases h1 : c < 32
  · rw [if_pos h1, if_neg (by omega)]; exact ⟨_, _, rfl, hT0, sE.u (by decide), fE.refl⟩
  · rw [if_neg h1]
    by_cases h2 : 126 < c
    · rw [if_pos h2, if_neg (by omega)]; exact ⟨_, _, rfl, hT0, sE.u (by decide), fE.refl⟩
    · rw [if_neg h2]
      by_cases h3 : t.length = 60
      · rw [if_pos h3, if_neg (by omega)]; exact ⟨_, _, rfl, hT0, sE.u (by decide), fE.refl⟩
      · have hl : t.length < 60 := by omega
        have hc8 := (ps_c128 c (by omega)).2.2.2
        rw [if_neg h3, if_pos ⟨by omega, by omega, hl⟩]
        simp only [rf_r1, pg_o1, hc8, rf_s1 hs hl (li_nb _ (show c < 128 by omega)), rf_i2, s2, nI_1, rf_p2 hs]
        refine ⟨upd (upd S 0 0) 2 (nI (t.length + 1)), rf_u F 1 t.length (nI c), rfl, ⟨by rw [pk_us, List.length_append]; simp, by rw [List.length_append]; simp; omega, fun i hi => ?_, fun d hd => ?_⟩, (sE.u (by decide)).trans (sE.u (by decide)) (fun _ h => h), fE.u (by decide)⟩
        · rw [List.length_append] at hi
          simp only [List.length_cons, List.length_nil] at hi
          rw [rf_u5]
          by_cases hil : i = t.length
          · subst hil; rw [if_pos rfl]; simp [List.getD_eq_getElem?_getD]
          · rw [if_neg hil, t3 i (by omega), List.getD_eq_getElem?_getD, List.getD_eq_getElem?_getD, List.getElem?_append_left (by omega)]
        · rcases List.mem_append.mp hd with h | h
          · exact t4 d h
          · rw [List.mem_singleton] at h; omega
/-- query: what is thrown, its number, the queries behind it -/
def sqry (t : List Nat) (qs : List sQ) : Nat × Nat × List sQ := if t ≠ [] ∧ (pt t).isSome = false then (1, 0, qs) else if qs.length = 6 then (2, 0, qs) else (0, qs.length, qs ++ [(t, [])])
def frN (fr : Nat → Nat → Bool) (q : Nat) : Nat → Nat → Bool := fun q' k => decide (q' = q) || fr q' k
theorem rt0 (S' : Nat → Int32) (F' : Nat → Nat → Int32) (h : S' 2 = 0) : RT [] S' F' := ⟨h, by decide, fun i hi => absurd hi (Nat.not_lt_zero _), fun c hc => by cases hc⟩
theorem rm_queryL (hs : μ.2.2.1 ≤ m) (h6 : qs.length < 6) (hT : RT t S F) : ∀ n i F', i ≤ t.length → t.length < i + n → fE [21] F F' → (∀ j, j < 60 * qs.length → F' 21 j = F 21 j) → (∀ j, j < i → F' 21 (60 * qs.length + j) = nI (t.getD j 0)) → S 15 = nI qs.length → ∃ S'' F'', fX11_query_62 n m (nI qs.length) (nI i) (rf_M μ m S F') = some (nI qs.length, rf_M μ m S'' F'', 0, 0) ∧ sE [2, 15] S S'' ∧ S'' 2 = 0 ∧ S'' 15 = nI (qs.length + 1) ∧ fE [21, 23] F F'' ∧ F'' 23 = rf_u F 23 qs.length 1 23 ∧ (∀ j, j < 60 * qs.length → F'' 21 j = F 21 j) ∧ ∀ j, j < t.length → F'' 21 (60 * qs.length + j) = nI (t.getD j 0) := by
  obtain ⟨t1, t2, t3, t4⟩ := id hT
  intro n
  induction n with
  | zero => intro i F' h1 h2; omega
  | succ n ih =>
    intro i F' h1 h2 hE hlo hw h15
    unfold fX11_query_62
    simp only [rf_i2, t1, pg_o1, nI_leI (show t.length < 2 ^ 31 by omega) (show i < 2 ^ 31 by omega)]
    by_cases hi : i = t.length
    · subst hi
      rw [if_pos (Nat.le_refl _)]
      simp only [rf_r23, pg_o1, rf_s23 hs h6 (show vp_nar .boolean 1 = 1 by decide), rf_i15, h15, nI_1, rf_p15 hs, fX11_query_110, rf_p2 hs, vg_ret]
      refine ⟨_, _, rfl, (sE.u (by decide)).trans (sE.u (by decide)) (fun _ h => h), pk_us, by simp (disch := decide) only [pk_us, pk_un], (hE.trans fE.refl (by decide)).trans (fE.u (by decide)) (fun _ h => h), ?_, fun j hj => by simp (disch := decide) only [rf_u3, rf_u4, rf_u5, pk_us, pk_un]; exact hlo j hj, fun j hj => by simp (disch := decide) only [rf_u3, rf_u4, rf_u5, pk_us, pk_un]; exact hw j hj⟩
      funext x
      rw [rf_u5, rf_u5, hE 23 (by decide)]
    · have hil : i < t.length := by omega
      have hc := hT.lt hil
      rw [if_neg (by omega)]
      have e1 : F' 1 i = nI (t.getD i 0) := by rw [hE 1 (by decide)]; exact t3 i hil
      simp only [rf_r21, rf_r1, pg_o1, rf_a1 (show i < 60 by omega), e1, show (60 : Int32) = nI 60 from rfl, pk_mul, nI_add, rf_s21 hs (show 60 * qs.length + i < 360 by omega) (li_nb _ (show t.getD i 0 < 128 by omega)), nI_1]
      refine ih (i + 1) (rf_u F' 21 (60 * qs.length + i) (nI (t.getD i 0))) (by omega) (by omega) (hE.trans (fE.u (by decide)) (fun _ h => h)) (fun j hj => by rw [rf_u2 _ _ _ (by omega)]; exact hlo j hj) (fun j hj => ?_) h15
      by_cases hji : j = i
      · subst hji; rw [rf_u1]
      · rw [rf_u2 _ _ _ (by omega)]; exact hw j (by omega)
theorem rm_query (hs : μ.2.2.1 ≤ m) (hT : RT t S F) (hSn : RSn fr qs.length T B S F) (hQ : RQ qs S F) : ∃ S' F', fX11_query m (rf_M μ m S F) = some (nI (sqry t qs).2.1, rf_M μ m S' F', 0, 0) ∧ S' 0 = nI (sqry t qs).1 ∧ RT [] S' F' ∧ RSn (if (sqry t qs).1 = 0 then frN fr qs.length else fr) (sqry t qs).2.2.length T B S' F' ∧ RQ (sqry t qs).2.2 S' F' ∧ sE [0, 2, 3, 15] S S' ∧ fE [4, 5, 16, 21, 23] F F' := by
  obtain ⟨t1, t2, t3, t4⟩ := id hT
  obtain ⟨a1, a2, a3, a4⟩ := id hQ
  -- refused, or taken
  have h33 : ∀ (k : Nat) (S1 : Nat → Int32) (F1 : Nat → Nat → Int32), sE [3] S S1 → fE [4, 5] F F1 → k ≤ 2 → (k = 0 → qs.length < 6 ∧ (t = [] ∨ (pt t).isSome = true)) → (sqry t qs = if k = 0 then (0, qs.length, qs ++ [(t, [])]) else (k, 0, qs)) → ∃ S' F', fX11_query_33 m m (nI k) (rf_M μ m S1 F1) = some (nI (sqry t qs).2.1, rf_M μ m S' F', 0, 0) ∧ S' 0 = nI (sqry t qs).1 ∧ RT [] S' F' ∧ RSn (if (sqry t qs).1 = 0 then frN fr qs.length else fr) (sqry t qs).2.2.length T B S' F' ∧ RQ (sqry t qs).2.2 S' F' ∧ sE [0, 2, 3, 15] S S' ∧ fE [4, 5, 16, 21, 23] F F' := by
    intro k S1 F1 e1 e2 hk hk0 hsq
    unfold fX11_query_33
    simp only [rf_p0 hs, pg_o1, rf_i0, pk_us, li_eq0 (show k < 2 ^ 31 by omega)]
    by_cases h0 : k = 0
    · obtain ⟨h6, hpt⟩ := hk0 h0
      rw [if_pos h0] at hsq
      rw [if_pos h0, hsq]
      have s15 : upd S1 0 (nI k) 15 = nI qs.length := by rw [pk_un (by decide), e1 15 (by decide)]; exact a1
      have s2 : upd S1 0 (nI k) 2 = nI t.length := by rw [pk_un (by decide), e1 2 (by decide)]; exact t1
      simp only [rf_i15, s15, rf_r16, rf_i2, s2, pg_o1, rf_s16 hs h6]
      have hT1 : RT t (upd S1 0 (nI k)) (rf_u F1 16 qs.length (nI t.length)) := ⟨s2, t2, fun i hi => by simp (disch := decide) only [rf_u3, rf_u4, rf_u5, pk_us, pk_un]; rw [e2 1 (by decide)]; exact t3 i hi, t4⟩
      obtain ⟨S2, F2, f1, f2, f3, f4, f5, f6, f7, f8⟩ := rm_queryL hs h6 hT1 vg_fuel 0 (rf_u F1 16 qs.length (nI t.length)) (Nat.zero_le _) (by rw [ps_fuel]; omega) fE.refl (fun _ _ => rfl) (fun j h => absurd h (Nat.not_lt_zero _)) s15
      rw [nI_0] at f1
      have hsE : sE [0, 2, 3, 15] S S2 := ((e1.trans sE.refl (by decide)).trans (sE.u (by decide)) (fun _ h => h)).trans (f2.trans sE.refl (by decide)) (fun _ h => h)
      have hfE : fE [4, 5, 16, 21, 23] F F2 := ((e2.trans fE.refl (by decide)).trans (fE.u (by decide)) (fun _ h => h)).trans (f5.trans fE.refl (by decide)) (fun _ h => h)
      have hlen : (qs ++ [(t, [])] : List sQ).length = qs.length + 1 := by simp
      refine ⟨S2, F2, f1, ?_, rt0 _ _ f3, ?_, ?_, hsE, hfE⟩
      · rw [f2 0 (by decide), pk_us, h0]
      · rw [if_pos trivial, hlen]
        obtain ⟨ma, cg, ow, to, as, se, an, g1, g2, g3, g4, g5, g6, g7, g8⟩ := hSn
        refine ⟨ma, cg, ow, to, as, se, fun q => if q = qs.length then true else an q, by rw [hsE 13 (by decide)]; exact g1, by rw [hsE 14 (by decide)]; exact g2, g3, g4, fun k hk => by rw [hfE 9 (by decide), hfE 10 (by decide)]; exact g5 k hk, fun q hq => ?_, fun j hj => by rw [hfE 24 (by decide)]; exact g7 j hj, fun q hq k hk hl => ?_⟩
        · obtain ⟨c1, c2, c3⟩ := g6 q hq
          rw [hfE 19 (by decide), f6, rf_u5, rf_u3 _ _ _ _ (by decide), e2 23 (by decide)]
          by_cases hqq : q = qs.length
          · simp only [hqq, if_true] at c1 c2 ⊢; exact ⟨c1, c2, rfl⟩
          · simp only [if_neg hqq]; exact ⟨c1, c2, c3⟩
        · unfold frN
          by_cases hqq : q = qs.length
          · simp [hqq]
          · simp only [if_neg hqq, hqq, decide_false, Bool.false_or]
            exact g8 q (by omega) k hk hl
      · refine ⟨by rw [f4, hlen], by rw [hlen]; omega, fun q hq => ?_, fun q h1 h2 => ?_⟩
        · rw [hlen] at hq
          by_cases hqq : q = qs.length
          · have eg : (qs ++ [(t, [])] : List sQ).getD q ([], []) = (t, []) := by subst hqq; simp [List.getD_eq_getElem?_getD]
            rw [eg]
            have z := a4 q (by omega) (by omega)
            refine ⟨?_, t2, fun i hi => by rw [hqq]; exact f8 i hi, t4, hpt, ?_, Nat.zero_le _, ?_, Nat.zero_le _, fun i hi => absurd hi (Nat.not_lt_zero _), fun i hi => absurd hi (Nat.not_lt_zero _)⟩
            · rw [f5 16 (by decide), hqq, rf_u1]
            · rw [hfE 17 (by decide)]; exact z.1
            · rw [hfE 18 (by decide)]; exact z.2
          · have hql : q < qs.length := by omega
            have eg : (qs ++ [(t, [])] : List sQ).getD q ([], []) = qs.getD q ([], []) := by rw [List.getD_eq_getElem?_getD, List.getD_eq_getElem?_getD, List.getElem?_append_left hql]
            rw [eg]
            obtain ⟨b1, b2, b3, b4, b5, b6, b7, b8, b9, b10, b11⟩ := a3 q hql
            refine ⟨?_, b2, fun i hi => ?_, b4, b5, by rw [hfE 17 (by decide)]; exact b6, b7, by rw [hfE 18 (by decide)]; exact b8, b9, fun i hi => (b10 i hi).mono (hfE 20 (by decide)) (hfE 22 (by decide)), fun i hi => (b11 i hi).mono (hfE 20 (by decide)) (hfE 22 (by decide))⟩
            · rw [f5 16 (by decide), rf_u2 _ _ _ hqq, e2 16 (by decide)]; exact b1
            · rw [f7 _ (by omega), rf_u3 _ _ _ _ (by decide), e2 21 (by decide)]; exact b3 i hi
        · rw [hlen] at h1
          rw [hfE 17 (by decide), hfE 18 (by decide)]; exact a4 q (by omega) h2
    · rw [if_neg h0] at hsq
      rw [if_neg h0, hsq]
      simp only [if_neg h0, fX11_query_110, rf_p2 hs, pg_o1, vg_ret]
      have hsE : sE [0, 2, 3, 15] S (upd (upd S1 0 (nI k)) 2 0) := ((e1.trans sE.refl (by decide)).trans (sE.u (by decide)) (fun _ h => h)).trans (sE.u (by decide)) (fun _ h => h)
      have hfE : fE [4, 5, 16, 21, 23] F F1 := e2.trans fE.refl (by decide)
      exact ⟨_, F1, rfl, by rw [pk_un (by decide), pk_us], rt0 _ _ pk_us, hSn.e hsE e2 (by decide) (by decide), (hQ.e (sE.refl : sE [] S S) e2 (by decide) (by decide)).e (ss := [0, 2, 3]) (((e1.trans sE.refl (by decide)).trans (sE.u (by decide)) (fun _ h => h)).trans (sE.u (by decide)) (fun _ h => h)) (fE.refl (ks := [])) (by decide) (by decide), hsE, hfE⟩
  have h19 : ∀ (S1 : Nat → Int32) (F1 : Nat → Nat → Int32), sE [3] S S1 → fE [4, 5] F F1 → (t = [] ∨ (pt t).isSome = true) → ∃ S' F', fX11_query_19 m m (rf_M μ m S1 F1) = some (nI (sqry t qs).2.1, rf_M μ m S' F', 0, 0) ∧ S' 0 = nI (sqry t qs).1 ∧ RT [] S' F' ∧ RSn (if (sqry t qs).1 = 0 then frN fr qs.length else fr) (sqry t qs).2.2.length T B S' F' ∧ RQ (sqry t qs).2.2 S' F' ∧ sE [0, 2, 3, 15] S S' ∧ fE [4, 5, 16, 21, 23] F F' := by
    intro S1 F1 e1 e2 hpt
    have hno : ¬ (t ≠ [] ∧ (pt t).isSome = false) := by
      rintro ⟨h1, h2⟩
      rcases hpt with h | h
      · exact h1 h
      · rw [h] at h2; cases h2
    have s15 : S1 15 = nI qs.length := by rw [e1 15 (by decide)]; exact a1
    unfold fX11_query_19
    simp only [rf_i15, s15, pg_o1, li_c 6 (c := 6) rfl (show qs.length < 2 ^ 31 by omega) (by decide)]
    by_cases h6 : qs.length = 6
    · rw [if_pos h6]
      exact h33 2 S1 F1 e1 e2 (by decide) (fun h => by cases h) (by unfold sqry; rw [if_neg hno, if_pos h6, if_neg (by decide)])
    · rw [if_neg h6]
      exact h33 0 S1 F1 e1 e2 (by decide) (fun _ => ⟨by omega, hpt⟩) (by unfold sqry; rw [if_neg hno, if_neg h6, if_pos rfl])
  unfold fX11_query
  simp only [rf_i2, t1, pg_o1, li_le0 (show t.length < 2 ^ 31 by omega)]
  by_cases h0 : t.length = 0
  · rw [if_pos h0]
    exact h19 S F sE.refl fE.refl (Or.inl (List.eq_nil_of_length_eq_zero h0))
  · have hne : t ≠ [] := fun e => h0 (by rw [e]; rfl)
    rw [if_neg h0]
    obtain ⟨S1, F1, e1, e2, e3, e4⟩ := rm_isPath hs hT
    rw [rf_cv, e1, pg_b0]
    simp only [bI_0]
    cases hp : (pt t).isSome with
    | true => rw [if_neg (by decide)]; exact h19 S1 F1 e2 e3 (Or.inr hp)
    | false =>
      rw [if_pos rfl]
      exact h33 1 S1 F1 e2 e3 (by decide) (fun h => by cases h) (by unfold sqry; rw [if_pos ⟨hne, hp⟩, if_neg (by decide)])
theorem rm_looked {lk : Nat} (hs : μ.2.2.1 ≤ m) (h : S 26 = nI lk) : fX11_looked m (rf_M μ m S F) = some (nI lk, rf_M μ m (upd S 0 0) F, 0, 0) := by
  unfold fX11_looked
  simp only [rf_p0 hs, pg_o1, rf_i26, pk_un (show (26 : Nat) ≠ 0 by decide), h, vg_ret]
theorem rm_place (hs : μ.2.2.1 ≤ m) : fX11_place m (rf_M μ m S F) = some (S 25, rf_M μ m (upd S 0 0) F, 0, 0) := by
  unfold fX11_place
  simp only [rf_p0 hs, pg_o1, rf_i25, pk_un (show (25 : Nat) ≠ 0 by decide), vg_ret]
theorem rm_thrown : fX11_thrown m (rf_M μ m S F) = some (S 0, rf_M μ m S F, 0, 0) := by
  unfold fX11_thrown
  simp only [rf_i0, pg_o1, vg_ret]
/-- a sign of an answer -/
def sans (an : List (List Nat)) (k i : Int32) : Int32 := if k < 0 ∨ nI an.length ≤ k ∨ i < 0 ∨ nI (an.getD k.toNatClampNeg []).length ≤ i then 0 else nI ((an.getD k.toNatClampNeg []).getD i.toNatClampNeg 0)
theorem rm_answer {an : List (List Nat)} {k i : Int32} (hs : μ.2.2.1 ≤ m) (hA : RA an S F) : fX11_answer m k i (rf_M μ m S F) = some (sans an k i, rf_M μ m (upd S 0 0) F, 0, 0) := by
  obtain ⟨a1, a2, a3⟩ := hA
  unfold fX11_answer sans
  simp only [rf_p0 hs, pg_o1, fX11_answer_45, fX11_answer_46, rf_i27, pk_un (show (27 : Nat) ≠ 0 by decide), a1, vg_ret]
  by_cases h1 : k < 0
  · rw [if_pos h1, if_pos (Or.inl h1)]
  · rw [if_neg h1]
    by_cases h2 : nI an.length ≤ k
    · rw [if_pos h2, if_pos (Or.inr (Or.inl h2))]
    · rw [if_neg h2]
      by_cases h3 : i < 0
      · rw [if_pos h3, if_pos (Or.inr (Or.inr (Or.inl h3)))]
      · rw [if_neg h3]
        obtain ⟨kn, hkn, rfl⟩ := nI_of h1
        obtain ⟨inn, hin, rfl⟩ := nI_of h3
        have hkl : kn < an.length := by
          apply Classical.byContradiction
          intro h
          exact h2 (nI_le (by omega) hkn)
        obtain ⟨c1, c2, c3, c4⟩ := a3 kn hkl
        simp only [rf_r28, pg_o1, rf_a28 (show kn < 60 by omega), c1, nI_clamp hkn, nI_clamp hin]
        by_cases h4 : nI (an.getD kn []).length ≤ nI inn
        · rw [if_pos h4, if_pos (Or.inr (Or.inr (Or.inr h4)))]
        · have hil : inn < (an.getD kn []).length := by
            apply Classical.byContradiction
            intro h
            exact h4 (nI_le (by omega) hin)
          rw [if_neg h4, if_neg (by rintro (h | h | h | h); exact h1 h; exact h2 h; exact h3 h; exact h4 h)]
          simp only [rf_r29, pg_o1, show (54 : Int32) = nI 54 from rfl, pk_mul, nI_add, rf_a29 (show 54 * kn + inn < 3240 by omega), c4 inn hil]
end
