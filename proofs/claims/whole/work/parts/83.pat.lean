/-! Patterns and queries of the class. -/
def cq_P (g : pg_G) (τ τs x : Nat) (P : sP) (f : Nat → Int32) : Prop := ∃ l sa dv pcs, g.1.1 x = some (.inr (7, [.int (bI P.1), .int (bI P.2.2), .ref l, .ref sa, .int dv])) ∧ g.2 x = τ ∧ pl_L g τ l 9 pcs ∧ pcs.length = P.2.1.length ∧ P.2.1.length ≤ 6 ∧ (∀ i, i < P.2.1.length → cq_c g τ (pcs.getD i 0) (P.2.1.getD i [])) ∧ bs dv (dpf P.2.1) ∧ g.1.1 sa = some (.inl (2, 7, .inl f)) ∧ g.2 sa = τs
theorem cq_P.ext {W : Nat → Prop} {g g' : pg_G} {τ τs x : Nat} {P : sP} {f : Nat → Int32} (h : cq_P g τ τs x P f) (hg : pg_Wf g) (he : pg_Ext W g g') (hw : ¬ W τ) (h0 : ¬ W 0) (hs : ¬ W τs) : cq_P g' τ τs x P f := by
  obtain ⟨l, sa, dv, pcs, h1, h2, h3, h4, h5, h6, h7, h8, h9⟩ := h
  exact ⟨l, sa, dv, pcs, he.at hg h1 (by rw [h2]; exact hw), by rw [he.tag hg h1, h2], h3.ext hg he (by decide) hw, h4, h5, fun i hi => (h6 i hi).ext hg he hw h0, h7, he.at hg h8 (by rw [h9]; exact hs), by rw [he.tag hg h8, h9]⟩
section
variable {g : pg_G} {τs x : Nat} {P : sP} {f : Nat → Int32}
theorem cq_P.obj {τ : Nat} (h : cq_P g τ τs x P f) : ∃ fs, g.1.1 x = some (.inr (7, .int (bI P.1) :: .int (bI P.2.2) :: fs)) := by
  obtain ⟨l, sa, dv, pcs, h1, -⟩ := h; exact ⟨_, h1⟩
theorem cq_P.put {d : Nat} {y : Int32} {sa : Nat} (hg : pg_Wf g) (h : cq_P g 0 τs x P f) (ht : τs ≠ 0) (hsa : g.1.1 sa = some (.inl (2, 7, .inl f))) (hta : g.2 sa = τs) (hx : ∃ l dv, g.1.1 x = some (.inr (7, [.int (bI P.1), .int (bI P.2.2), .ref l, .ref sa, .int dv]))) : cq_P (pg_put g sa (.inl (2, 7, .inl (upd f d y)))) 0 τs x P (upd f d y) := by
  have xx := pg_put_ext (W := fun t => t = τs) (e := .inl (2, 7, .inl (upd f d y))) hg hsa hta (by simp [pg_kd])
  obtain ⟨l, sa', dv, pcs, h1, h2, h3, h4, h5, h6, h7, h8, h9⟩ := h
  obtain ⟨l', dv', hx⟩ := hx
  have e : sa' = sa := by
    rw [hx] at h1
    simp only [Option.some.injEq, Sum.inr.injEq, Prod.mk.injEq, List.cons.injEq, Value.ref.injEq, true_and, and_true] at h1
    exact h1.2.1.symm
  subst e
  refine ⟨l, sa', dv, pcs, xx.at hg h1 (by rw [h2]; exact fun e => ht e.symm), by rw [xx.tag hg h1, h2], h3.ext hg xx (by decide) (fun e => ht e.symm), h4, h5, fun i hi => (h6 i hi).ext hg xx (fun e => ht e.symm) (fun e => ht e.symm), h7, pg_put_self _ _ _, h9⟩
theorem cq_begin (hg : pg_Wf g) (h : cq_P g 0 τs x P f) (ht : τs ≠ 0) : pg_T (fX4_begin x g.1) 0 0 (fun t => t = τs) g (fun _ g' => ∃ y, cq_P g' 0 τs x P (upd f 0 y) ∧ bs y (pbits P.2.1 [])) := by
  obtain ⟨l, sa, dv, pcs, h1, h2, h3, h4, h5, h6, h7, h8, h9⟩ := id h
  obtain ⟨y, hy1, hy2⟩ := cl_skip (μ := g.1) bs_1 h7 (fun i hi => dpf_out (by omega))
  simp only [fX4_begin, pg_gR h1 (k := 3) rfl, pg_gI h1 (k := 4) rfl, pg_o1, hy1, pg_b0]
  rw [show (0 : Int32) = nI 0 from rfl]
  refine pg_T.sI hg h8 (by decide) (by decide) (by rw [h9]; exact ht) h9 (pg_T.ret (pg_put_wf hg h8) ⟨y, h.put hg ht h8 h9 ⟨_, _, h1⟩, ?_⟩)
  exact bs_eq hy2 (fun j _ => (clo_cl j).symm)
/-- states behind a name, of the first i pieces -/
def pst (ps : List (List (List Nat))) (s : Nat → Bool) (w : List Nat) (i : Nat) : Nat → Bool
  | 0 => dpf ps 0 && s 0
  | j + 1 => (dpf ps (j + 1) && s (j + 1)) || (decide (j < i) && !dpf ps j && s j && pfit (ps.getD j []) w)
theorem cq_passL {d b : Nat} {w : List Nat} {v : Int32} {s : Nat → Bool} (hg : pg_Wf g) (h : cq_P g 0 τs x P f) (ht : τs ≠ 0) (hs : ps_S g b w) (hv : bs v s) (hd : d < 7) : ∀ n i y, i ≤ P.2.1.length → P.2.1.length < i + n → bs y (pst P.2.1 s w i) → pg_T (fX4_pass_35 n x (some b) (nI d) v y (nI i) g.1) 0 0 (fun t => t = τs) g (fun _ g' => ∃ y, cq_P g' 0 τs x P (upd f d y) ∧ bs y (clo P.2.1 (stp P.2.1 s w))) := by
  obtain ⟨l, sa, dv, pcs, h1, h2, h3, h4, h5, h6, h7, h8, h9⟩ := id h
  obtain ⟨fl, hlo⟩ := pl_is h3
  intro n
  induction n with
  | zero => intro i y hi hn; omega
  | succ n ih =>
    intro i y hi hn hy
    rw [fX4_pass_35]
    simp only [pg_gR h1 (k := 2) rfl, pg_o1, pg_cv hlo, pl_size h3, pg_b0, h4]
    by_cases hie : i = P.2.1.length
    · rw [if_pos (nI_le (by omega) (by omega)), pg_gR h1 (k := 3) rfl, pg_o1, pg_gI h1 (k := 4) rfl, pg_o1]
      obtain ⟨z, hz1, hz2⟩ := cl_skip (μ := g.1) hy h7 (fun i hi => dpf_out (by omega))
      rw [hz1, pg_b0, pg_o1]
      refine pg_T.sI hg h8 hd (by decide) (by rw [h9]; exact ht) h9 (pg_T.ret (pg_put_wf hg h8) ⟨z, h.put hg ht h8 h9 ⟨_, _, h1⟩, ?_⟩)
      refine bs_eq hz2 (fun j _ => ?_)
      rw [clo_cl, hie]
      congr 1
    · have hlt : i < P.2.1.length := by omega
      have hc := h6 i hlt
      have hpo : ∃ r, g.1.1 (pcs.getD i 0) = some (.inr (9, .int (bI (dpf P.2.1 i)) :: r)) ∧ (dpf P.2.1 i = false → cq_q g 0 (pcs.getD i 0) (P.2.1.getD i [])) := by
        rw [dpf_get hlt]
        rcases hc with ⟨e, l', st', q1, q2⟩ | ⟨e, hq⟩
        · rw [decide_eq_true e]; exact ⟨_, q1, fun h => by cases h⟩
        · rw [decide_eq_false e]
          obtain ⟨l', st', ps', q1, -⟩ := id hq
          exact ⟨_, q1, fun _ => hq⟩
      obtain ⟨r, hpo1, hpo2⟩ := hpo
      rw [if_neg (nI_ge hlt (by omega)), pl_get h3 (by omega), pg_b0, pg_ckO hpo1]
      have skip : (dpf P.2.1 i = true ∨ s i = false ∨ pfit (P.2.1.getD i []) w = false) → bs y (pst P.2.1 s w (i + 1)) := by
        intro hh
        refine bs_eq hy (fun j hj => ?_)
        cases j with
        | zero => rfl
        | succ j =>
          show ((dpf P.2.1 (j + 1) && s (j + 1)) || (decide (j < i) && !dpf P.2.1 j && s j && pfit (P.2.1.getD j []) w)) = ((dpf P.2.1 (j + 1) && s (j + 1)) || (decide (j < i + 1) && !dpf P.2.1 j && s j && pfit (P.2.1.getD j []) w))
          by_cases hji : j = i
          · rw [hji, decide_eq_false (p := i < i) (by omega), decide_eq_true (p := i < i + 1) (by omega)]
            rcases hh with hh | hh | hh
            · rw [hh]; rfl
            · rw [hh, Bool.and_false]; simp
            · rw [hh]; simp
          · by_cases hlt2 : j < i
            · rw [decide_eq_true hlt2, decide_eq_true (by omega)]
            · rw [decide_eq_false hlt2, decide_eq_false (by omega)]
      cases hs1 : s i with
      | false =>
        rw [if_pos ((bs_t0 hv (by omega)).mpr hs1), fX4_pass_98, nI_1]
        exact ih (i + 1) y (by omega) (by omega) (skip (Or.inr (Or.inl hs1)))
      | true =>
        rw [if_neg (fun h => by rw [(bs_t0 hv (by omega)).mp h] at hs1; cases hs1), pg_o1, pg_gI hpo1 (k := 0) rfl, pg_o1]
        cases hdp : dpf P.2.1 i with
        | true =>
          rw [bI_t, if_neg (by decide), fX4_pass_98, nI_1]
          exact ih (i + 1) y (by omega) (by omega) (skip (Or.inl hdp))
        | false =>
          rw [bI_f, if_pos rfl, pg_cv hpo1, cq_fits (hpo2 hdp) hs, pg_b0]
          cases hf : pfit (P.2.1.getD i []) w with
          | false =>
            rw [bI_f, if_pos rfl, fX4_pass_98, nI_1]
            exact ih (i + 1) y (by omega) (by omega) (skip (Or.inr (Or.inr hf)))
          | true =>
            rw [bI_t, if_neg (by decide), fX4_pass_98, nI_1]
            refine ih (i + 1) _ (by omega) (by omega) (bs_eq (bs_or hy (bs_s1 (i := i + 1) (by omega))) (fun j hj => ?_))
            cases j with
            | zero => show (dpf P.2.1 0 && s 0 || decide (0 = i + 1)) = _; rw [decide_eq_false (by omega), Bool.or_false]; rfl
            | succ j =>
              show (((dpf P.2.1 (j + 1) && s (j + 1)) || (decide (j < i) && !dpf P.2.1 j && s j && pfit (P.2.1.getD j []) w)) || decide (j + 1 = i + 1)) = ((dpf P.2.1 (j + 1) && s (j + 1)) || (decide (j < i + 1) && !dpf P.2.1 j && s j && pfit (P.2.1.getD j []) w))
              by_cases hji : j = i
              · rw [hji, decide_eq_true (p := i < i + 1) (by omega), hs1, hdp, hf, decide_eq_true (p := i + 1 = i + 1) rfl]; simp
              · rw [decide_eq_false (p := j + 1 = i + 1) (by omega), Bool.or_false]
                by_cases hlt2 : j < i
                · rw [decide_eq_true hlt2, decide_eq_true (by omega)]
                · rw [decide_eq_false hlt2, decide_eq_false (by omega)]
theorem cq_pass {d b : Nat} {w : List Nat} {s : Nat → Bool} (hg : pg_Wf g) (h : cq_P g 0 τs x P f) (ht : τs ≠ 0) (hs : ps_S g b w) (hv : bs (f d) s) (hd : d < 6) : pg_T (fX4_pass x (some b) (nI (d + 1)) g.1) 0 0 (fun t => t = τs) g (fun _ g' => ∃ y, cq_P g' 0 τs x P (upd f (d + 1) y) ∧ bs y (clo P.2.1 (stp P.2.1 s w))) := by
  obtain ⟨l, sa, dv, pcs, h1, h2, h3, h4, h5, h6, h7, h8, h9⟩ := id h
  rw [fX4_pass, if_neg (show ¬ nI (d + 1) < 1 from nI_nlt (b := 1) (by omega) (by omega)), pg_gR h1 (k := 3) rfl, pg_o1, pg_o1, pg_al h8 (by decide), pg_o1, if_pos (show nI (d + 1) < nI 7 from nI_lt (by omega) (by decide)), pg_o1, pg_o1, li_sub1 (by omega), Nat.add_sub_cancel, pg_aI h8 (show d < 7 by omega) (by decide), pg_o1, pg_gI h1 (k := 4) rfl, pg_o1, ← nI_0]
  refine cq_passL hg h ht hs hv (by omega) vg_fuel 0 _ (Nat.zero_le _) (by rw [ps_fuel]; omega) (bs_eq (bs_and hv h7) (fun j hj => ?_))
  cases j with
  | zero => exact Bool.and_comm _ _
  | succ j => show (s (j + 1) && dpf P.2.1 (j + 1)) = ((dpf P.2.1 (j + 1) && s (j + 1)) || (decide (j < 0) && _ && _ && _)); rw [decide_eq_false (by omega), Bool.false_and, Bool.false_and, Bool.false_and, Bool.or_false, Bool.and_comm]
theorem cq_stAt {d : Nat} (h : cq_P g 0 τs x P f) (hd : d < 7) : fX4_statesAt x (nI d) g.1 = some (f d, g.1, 0, 0) := by
  obtain ⟨l, sa, dv, pcs, h1, h2, h3, h4, h5, h6, h7, h8, h9⟩ := id h
  simp only [fX4_statesAt, if_neg (nI_pos (n := d) (by omega)), pg_gR h1 (k := 3) rfl, pg_o1, pg_al h8 (show 2 < 6 by decide), if_neg (show ¬ nI 7 ≤ nI d from nI_ge (by omega) (by decide)), pg_aI h8 hd (by decide), fX4_statesAt_23, vu_ret]
theorem cq_fitsP {d : Nat} {s : Nat → Bool} {isF : Bool} (h : cq_P g 0 τs x P f) (hd : d < 7) (hv : bs (f d) s) : fX4_fits x (bI isF) (nI d) g.1 = some (bI (decide (P.2.2 = isF) && s P.2.1.length), g.1, 0, 0) := by
  obtain ⟨l, sa, dv, pcs, h1, h2, h3, h4, h5, h6, h7, h8, h9⟩ := id h
  obtain ⟨fl, hlo⟩ := pl_is h3
  have hbI : (bI isF = bI P.2.2) ↔ P.2.2 = isF := by cases isF <;> cases P.2.2 <;> decide
  simp only [fX4_fits, pg_gI h1 (k := 1) rfl, pg_o1, pg_cv h1, cq_stAt h hd, pg_b0, pg_gR h1 (k := 2) rfl, pg_cv hlo, pl_size h3, h4, fX4_fits_30, fX4_fits_31, pg_z0, pg_z1, vu_ret]
  by_cases he : P.2.2 = isF
  · rw [if_pos (hbI.mpr he), decide_eq_true he, Bool.true_and]
    cases hsl : s P.2.1.length with
    | false => rw [if_pos ((bs_t0 hv (by omega)).mpr hsl)]; rfl
    | true => rw [if_neg (fun h => by rw [(bs_t0 hv (by omega)).mp h] at hsl; cases hsl)]; rfl
  · rw [if_neg (fun h => he (hbI.mp h)), decide_eq_false he]; rfl
theorem cq_goes {d : Nat} {s : Nat → Bool} (h : cq_P g 0 τs x P f) (hd : d < 7) (hv : bs (f d) s) : fX4_goesOn x (nI d) g.1 = some (bI ((List.range P.2.1.length).any s), g.1, 0, 0) := by
  obtain ⟨l, sa, dv, pcs, h1, h2, h3, h4, h5, h6, h7, h8, h9⟩ := id h
  obtain ⟨fl, hlo⟩ := pl_is h3
  simp only [fX4_goesOn, pg_o1, pg_cv h1, cq_stAt h hd, pg_b0, pg_gR h1 (k := 2) rfl, pg_cv hlo, pl_size h3, h4, fX4_goesOn_25, pg_z0, pg_z1, vu_ret]
  cases ha : (List.range P.2.1.length).any s with
  | false =>
    rw [if_pos ((bs_m1 hv (by omega)).mpr (fun j hj => ?_))]; · rfl
    rw [List.any_eq_false] at ha
    have := ha j (List.mem_range.mpr hj)
    cases hsj : s j with
    | false => rfl
    | true => exact absurd hsj this
  | true =>
    rw [if_neg (fun h => ?_)]; · rfl
    obtain ⟨j, hj, hsj⟩ := List.any_eq_true.mp ha
    rw [(bs_m1 hv (by omega)).mp h j (List.mem_range.mp hj)] at hsj
    cases hsj
end
-- queries
def cQ_l (g : pg_G) (q : Nat) (xs : List Nat) (Q : sQ) (fs : Nat → Nat → Int32) : Prop := xs.length = Q.2.length ∧ ∀ i, i < Q.2.length → cq_P g 0 (30 + 8 * q + i) (xs.getD i 0) (Q.2.getD i (false, [], false)) (fs i)
def cQ (g : pg_G) (q a : Nat) (Q : sQ) (rd : Nat) (fs : Nat → Nat → Int32) : Prop := ∃ p l xs, g.1.1 a = some (.inr (10, [.ref p, .int (nI q), .ref l, .int (nI rd)])) ∧ g.2 a = 10 + q ∧ cp_P g 0 p Q.1 ((pt Q.1).getD []) ∧ pl_L g (20 + q) l 7 xs ∧ Q.2.length ≤ 8 ∧ cQ_l g q xs Q fs
def cQf (Q : sQ) (fs : Nat → Nat → Int32) (tr : List (List Nat)) : Prop := ∀ i, i < Q.2.length → ∀ j, j ≤ tr.length → bs (fs i j) (pbits (Q.2.getD i (false, [], false)).2.1 (tr.take j))
section
variable {g g' : pg_G} {q a rd : Nat} {Q : sQ} {fs : Nat → Nat → Int32} {W : Nat → Prop} {xs : List Nat}
theorem cQ_l.ext (h : cQ_l g q xs Q fs) (hg : pg_Wf g) (he : pg_Ext W g g') (h0 : ¬ W 0) (hw : ∀ i, i < Q.2.length → ¬ W (30 + 8 * q + i)) : cQ_l g' q xs Q fs := ⟨h.1, fun i hi => (h.2 i hi).ext hg he h0 h0 (hw i hi)⟩
theorem cQ.ext (h : cQ g q a Q rd fs) (hg : pg_Wf g) (he : pg_Ext W g g') (h0 : ¬ W 0) (h1 : ¬ W (10 + q)) (h2 : ¬ W (20 + q)) (hw : ∀ i, i < 8 → ¬ W (30 + 8 * q + i)) : cQ g' q a Q rd fs := by
  obtain ⟨p, l, xs, q1, q2, q3, q4, q5, q6⟩ := h
  exact ⟨p, l, xs, he.at hg q1 (by rw [q2]; exact h1), by rw [he.tag hg q1, q2], q3.ext hg he h0 h0, q4.ext hg he (by decide) h2, q5, q6.ext hg he h0 (fun i hi => hw i (by omega))⟩
theorem qg {i : Nat} (h : i < Q.2.length) : Q.2[i]? = some (Q.2.getD i (false, [], false)) := by rw [List.getD_eq_getElem?_getD, List.getElem?_eq_getElem h]; rfl
theorem cQ_roomL {l : Nat} {b : Bool} {v0 v1 v3 : Value} (ha : g.1.1 a = some (.inr (10, [v0, v1, .ref l, v3]))) (hl : pl_L g (20 + q) l 7 xs) (h8 : Q.2.length ≤ 8) (h : cQ_l g q xs Q fs) : ∀ n i m, i ≤ Q.2.length → Q.2.length < i + n → m ≤ 8 → fX7_hasRoomFor_4 n a (bI b) (nI m) (nI i) g.1 = some (bI (decide (m + ((Q.2.drop i).filter (fun P => decide (P.1 = b))).length < 4)), g.1, 0, 0) := by
  obtain ⟨fl, hlo⟩ := pl_is hl
  intro n
  induction n with
  | zero => intro i m hi hn; omega
  | succ n ih =>
    intro i m hi hn hm
    rw [fX7_hasRoomFor_4]
    simp only [pg_gR ha (k := 2) rfl, pg_o1, pg_cv hlo, pl_size hl, pg_b0, h.1, fX7_hasRoomFor_52, pg_z0, pg_z1, vu_ret]
    by_cases hie : i = Q.2.length
    · rw [if_pos (nI_le (by omega) (by omega)), hie, List.drop_length, List.filter_nil, List.length_nil, Nat.add_zero]
      by_cases h4 : m < 4
      · rw [if_neg (show ¬ (4 : Int32) ≤ nI m from nI_ge (b := 4) h4 (by decide)), decide_eq_true h4]; rfl
      · rw [if_pos (show (4 : Int32) ≤ nI m from nI_le (a := 4) (by omega) (by omega)), decide_eq_false h4]; rfl
    · have hlt : i < Q.2.length := by omega
      obtain ⟨r, hpo⟩ := (h.2 i hlt).obj
      rw [if_neg (nI_ge hlt (by omega)), pl_get hl (by rw [h.1]; exact hlt), pg_b0, pg_ckO hpo, pg_o1, pg_gI hpo (k := 0) rfl, pg_o1]
      have e1 : Q.2.drop i = Q.2.getD i (false, [], false) :: Q.2.drop (i + 1) := by
        have := qg hlt
        rw [List.getElem?_eq_getElem hlt] at this
        rw [List.drop_eq_getElem_cons hlt, Option.some.inj this]
      rw [e1, List.filter_cons]
      have hbI : (bI (Q.2.getD i (false, [], false)).1 = bI b) ↔ (Q.2.getD i (false, [], false)).1 = b := by cases (Q.2.getD i (false, [], false)).1 <;> cases b <;> decide
      by_cases he : (Q.2.getD i (false, [], false)).1 = b
      · by_cases hm8 : m = 8
        · -- more than four already
          rw [if_pos (hbI.mpr he), fX7_hasRoomFor_36, nI_1, nI_1, decide_eq_true he, if_pos rfl, List.length_cons, hm8]
          have : ∀ (n i m : Nat), i ≤ Q.2.length → Q.2.length < i + n → 8 ≤ m → m ≤ 100 - (Q.2.length - i) → fX7_hasRoomFor_4 n a (bI b) (nI m) (nI i) g.1 = some (0, g.1, 0, 0) := by
            intro n
            induction n with
            | zero => intro i m hi hn; omega
            | succ n ih2 =>
              intro i m hi hn hm hm2
              rw [fX7_hasRoomFor_4]
              simp only [pg_gR ha (k := 2) rfl, pg_o1, pg_cv hlo, pl_size hl, pg_b0, h.1, fX7_hasRoomFor_52, pg_z0, pg_z1, vu_ret]
              by_cases hie : i = Q.2.length
              · rw [if_pos (nI_le (by omega) (by omega)), if_pos (show (4 : Int32) ≤ nI m from nI_le (a := 4) (by omega) (by omega))]
              · have hlt : i < Q.2.length := by omega
                obtain ⟨r, hpo⟩ := (h.2 i hlt).obj
                rw [if_neg (nI_ge hlt (by omega)), pl_get hl (by rw [h.1]; exact hlt), pg_b0, pg_ckO hpo, pg_o1, pg_gI hpo (k := 0) rfl, pg_o1]
                by_cases hx : bI (Q.2.getD i (false, [], false)).1 = bI b
                · rw [if_pos hx, fX7_hasRoomFor_36, nI_1, nI_1]; exact ih2 (i + 1) (m + 1) (by omega) (by omega) (by omega) (by omega)
                · rw [if_neg hx, fX7_hasRoomFor_36, nI_1]; exact ih2 (i + 1) m (by omega) (by omega) (by omega) (by omega)
          rw [this n (i + 1) 9 (by omega) (by omega) (by omega) (by omega), decide_eq_false (by omega)]; rfl
        · rw [if_pos (hbI.mpr he), fX7_hasRoomFor_36, nI_1, nI_1, ih (i + 1) (m + 1) (by omega) (by omega) (by omega), decide_eq_true he, if_pos rfl, List.length_cons, show m + 1 + ((Q.2.drop (i + 1)).filter (fun P => decide (P.1 = b))).length = m + (((Q.2.drop (i + 1)).filter (fun P => decide (P.1 = b))).length + 1) by omega]
      · rw [if_neg (fun h => he (hbI.mp h)), fX7_hasRoomFor_36, nI_1, ih (i + 1) m (by omega) (by omega) hm, decide_eq_false he, if_neg (by decide)]
theorem cQ_room {b : Bool} (h : cQ g q a Q rd fs) : fX7_hasRoomFor a (bI b) g.1 = some (bI (decide ((Q.2.filter (fun P => decide (P.1 = b))).length < 4)), g.1, 0, 0) := by
  obtain ⟨p, l, xs, q1, q2, q3, q4, q5, q6⟩ := h
  have := cQ_roomL (b := b) q1 q4 q5 q6 vg_fuel 0 0 (Nat.zero_le _) (by rw [ps_fuel]; omega) (by decide)
  rw [nI_0, List.drop_zero, Nat.zero_add] at this
  exact this
theorem cQ_fitsL {l d : Nat} {b isF : Bool} {tr : List (List Nat)} {v0 v1 v3 : Value} (ha : g.1.1 a = some (.inr (10, [v0, v1, .ref l, v3]))) (hl : pl_L g (20 + q) l 7 xs) (h8 : Q.2.length ≤ 8) (h : cQ_l g q xs Q fs) (hf : cQf Q fs tr) (hd : d = tr.length) (hd7 : d < 7) : ∀ n i, i ≤ Q.2.length → Q.2.length < i + n → fX7_fitsOne_3 n a (bI b) (bI isF) (nI d) (nI i) g.1 = some (bI ((Q.2.drop i).any (fun P => decide (P.1 = b) && ffits P tr isF)), g.1, 0, 0) := by
  obtain ⟨fl, hlo⟩ := pl_is hl
  intro n
  induction n with
  | zero => intro i hi hn; omega
  | succ n ih =>
    intro i hi hn
    rw [fX7_fitsOne_3]
    simp only [pg_gR ha (k := 2) rfl, pg_o1, pg_cv hlo, pl_size hl, pg_b0, h.1, pg_z0, pg_z1, vu_ret]
    by_cases hie : i = Q.2.length
    · rw [if_pos (nI_le (by omega) (by omega)), hie, List.drop_length]; rfl
    · have hlt : i < Q.2.length := by omega
      obtain ⟨r, hpo⟩ := (h.2 i hlt).obj
      rw [if_neg (nI_ge hlt (by omega)), pl_get hl (by rw [h.1]; exact hlt), pg_b0, pg_ckO hpo, pg_o1, pg_gI hpo (k := 0) rfl, pg_o1]
      have e1 : Q.2.drop i = Q.2.getD i (false, [], false) :: Q.2.drop (i + 1) := by
        have := qg hlt
        rw [List.getElem?_eq_getElem hlt] at this
        rw [List.drop_eq_getElem_cons hlt, Option.some.inj this]
      rw [e1, List.any_cons]
      have hbI : (bI (Q.2.getD i (false, [], false)).1 = bI b) ↔ (Q.2.getD i (false, [], false)).1 = b := by cases (Q.2.getD i (false, [], false)).1 <;> cases b <;> decide
      by_cases he : (Q.2.getD i (false, [], false)).1 = b
      · have hv := hf i hlt d (by omega)
        rw [hd, List.take_length] at hv
        have hq := cq_fitsP (isF := isF) (h.2 i hlt) hd7 (by rw [hd]; exact hv)
        rw [if_pos (hbI.mpr he), pg_cv hpo, hq, pg_b0, decide_eq_true he, Bool.true_and]
        have e2 : (decide ((Q.2.getD i (false, [], false)).2.2 = isF) && pbits (Q.2.getD i (false, [], false)).2.1 tr (Q.2.getD i (false, [], false)).2.1.length) = ffits (Q.2.getD i (false, [], false)) tr isF := rfl
        rw [e2]
        cases hff : ffits (Q.2.getD i (false, [], false)) tr isF with
        | false => rw [bI_f, if_pos rfl, fX7_fitsOne_50, nI_1, ih (i + 1) (by omega) (by omega), Bool.false_or]
        | true => rw [bI_t, if_neg (by decide), Bool.true_or]; rfl
      · rw [if_neg (fun h => he (hbI.mp h)), fX7_fitsOne_50, nI_1, ih (i + 1) (by omega) (by omega), decide_eq_false he, Bool.false_and, Bool.false_or]
theorem any_filter {α : Type} {p r : α → Bool} : ∀ (L : List α), (L.filter p).any r = L.any (fun x => p x && r x) := by
  intro L
  induction L with
  | nil => rfl
  | cons x L ih =>
    rw [List.filter_cons, List.any_cons]
    cases hp : p x with
    | false => rw [if_neg (by decide), ih]; rfl
    | true => rw [if_pos rfl, List.any_cons, ih]; rfl
theorem cQ_takes {d : Nat} {isF : Bool} {tr : List (List Nat)} (h : cQ g q a Q rd fs) (hf : cQf Q fs tr) (hd : d = tr.length) (hd7 : d < 7) : fX7_takes a (bI isF) (nI d) g.1 = some (bI (qtakes Q tr isF), g.1, 0, 0) := by
  obtain ⟨p, l, xs, q1, q2, q3, q4, q5, q6⟩ := h
  have k0 := cQ_fitsL (b := false) (isF := isF) q1 q4 q5 q6 hf hd hd7 vg_fuel 0 (Nat.zero_le _) (by rw [ps_fuel]; omega)
  have k1 := cQ_fitsL (b := true) (isF := isF) q1 q4 q5 q6 hf hd hd7 vg_fuel 0 (Nat.zero_le _) (by rw [ps_fuel]; omega)
  rw [nI_0, List.drop_zero] at k0 k1
  rw [bI_f] at k0
  rw [bI_t] at k1
  have e0 : Q.2.any (fun P => decide (P.1 = false) && ffits P tr isF) = (ins Q).any (fun P => ffits P tr isF) := by
    unfold ins
    rw [any_filter]
    congr 1; funext P; cases P.1 <;> rfl
  have e1 : Q.2.any (fun P => decide (P.1 = true) && ffits P tr isF) = (outs Q).any (fun P => ffits P tr isF) := by
    unfold outs
    rw [any_filter]
    congr 1; funext P; cases P.1 <;> rfl
  rw [e0] at k0
  rw [e1] at k1
  unfold qtakes
  simp only [fX7_takes, pg_cv q1, fX7_fitsOne, k0, k1, pg_b0, fX7_takes_24, fX7_takes_25, pg_z0, pg_z1, pg_o1, vu_ret]
  cases (ins Q).any (fun P => ffits P tr isF) <;> cases (outs Q).any (fun P => ffits P tr isF) <;> rfl
theorem cQ_goesL {l d : Nat} {tr : List (List Nat)} {v0 v1 v3 : Value} (ha : g.1.1 a = some (.inr (10, [v0, v1, .ref l, v3]))) (hl : pl_L g (20 + q) l 7 xs) (h8 : Q.2.length ≤ 8) (h : cQ_l g q xs Q fs) (hf : cQf Q fs tr) (hd : d = tr.length) (hd7 : d < 7) : ∀ n i, i ≤ Q.2.length → Q.2.length < i + n → fX7_goesOn_2 n a (nI d) (nI i) g.1 = some (bI ((Q.2.drop i).any (fun P => !P.1 && pgoes P tr)), g.1, 0, 0) := by
  obtain ⟨fl, hlo⟩ := pl_is hl
  intro n
  induction n with
  | zero => intro i hi hn; omega
  | succ n ih =>
    intro i hi hn
    rw [fX7_goesOn_2]
    simp only [pg_gR ha (k := 2) rfl, pg_o1, pg_cv hlo, pl_size hl, pg_b0, h.1, pg_z0, pg_z1, vu_ret]
    by_cases hie : i = Q.2.length
    · rw [if_pos (nI_le (by omega) (by omega)), hie, List.drop_length]; rfl
    · have hlt : i < Q.2.length := by omega
      obtain ⟨r, hpo⟩ := (h.2 i hlt).obj
      rw [if_neg (nI_ge hlt (by omega)), pl_get hl (by rw [h.1]; exact hlt), pg_b0, pg_ckO hpo, pg_o1, pg_gI hpo (k := 0) rfl, pg_o1]
      have e1 : Q.2.drop i = Q.2.getD i (false, [], false) :: Q.2.drop (i + 1) := by
        have := qg hlt
        rw [List.getElem?_eq_getElem hlt] at this
        rw [List.drop_eq_getElem_cons hlt, Option.some.inj this]
      rw [e1, List.any_cons]
      cases he : (Q.2.getD i (false, [], false)).1 with
      | false =>
        have hv := hf i hlt d (by omega)
        rw [hd, List.take_length] at hv
        have hq := cq_goes (h.2 i hlt) hd7 (by rw [hd]; exact hv)
        rw [bI_f, if_pos rfl, pg_cv hpo, hq, pg_b0]
        have e2 : (List.range (Q.2.getD i (false, [], false)).2.1.length).any (pbits (Q.2.getD i (false, [], false)).2.1 tr) = pgoes (Q.2.getD i (false, [], false)) tr := rfl
        rw [e2]
        cases hff : pgoes (Q.2.getD i (false, [], false)) tr with
        | false => rw [bI_f, if_pos rfl, fX7_goesOn_42, nI_1, ih (i + 1) (by omega) (by omega)]; rfl
        | true => rw [bI_t, if_neg (by decide)]; rfl
      | true => rw [bI_t, if_neg (by decide), fX7_goesOn_42, nI_1, ih (i + 1) (by omega) (by omega)]; rfl
theorem cQ_goes {d : Nat} {tr : List (List Nat)} (h : cQ g q a Q rd fs) (hf : cQf Q fs tr) (hd : d = tr.length) (hd7 : d < 7) : fX7_goesOn a (nI d) g.1 = some (bI (qgoes Q tr), g.1, 0, 0) := by
  obtain ⟨p, l, xs, q1, q2, q3, q4, q5, q6⟩ := h
  have k0 := cQ_goesL q1 q4 q5 q6 hf hd hd7 vg_fuel 0 (Nat.zero_le _) (by rw [ps_fuel]; omega)
  rw [nI_0, List.drop_zero] at k0
  unfold qgoes ins
  rw [any_filter]
  exact k0
theorem cQ_passL {l d b : Nat} {w : List Nat} {tr : List (List Nat)} {v0 v1 v3 : Value} (h8 : Q.2.length ≤ 8) (hd : d = tr.length) (hd6 : d < 6) : ∀ n i (g : pg_G) (fs : Nat → Nat → Int32), pg_Wf g → g.1.1 a = some (.inr (10, [v0, v1, .ref l, v3])) → g.2 a = 10 + q → pl_L g (20 + q) l 7 xs → cQ_l g q xs Q fs → ps_S g b w → (∀ j, i ≤ j → j < Q.2.length → bs (fs j d) (pbits (Q.2.getD j (false, [], false)).2.1 tr)) → i ≤ Q.2.length → Q.2.length < i + n → pg_T (fX7_pass_2 n a (some b) (nI (d + 1)) (nI i) g.1) 0 0 (fun t => 30 + 8 * q ≤ t ∧ t < 38 + 8 * q) g (fun _ g' => ∃ fs', cQ_l g' q xs Q fs' ∧ (∀ j, i ≤ j → j < Q.2.length → bs (fs' j (d + 1)) (pbits (Q.2.getD j (false, [], false)).2.1 (tr ++ [w]))) ∧ (∀ j k, k ≠ d + 1 → fs' j k = fs j k) ∧ ∀ j k, j < i → fs' j k = fs j k) := by
  intro n
  induction n with
  | zero => intro i g fs _ _ _ _ _ _ _ hi hn; omega
  | succ n ih =>
    intro i g fs hg ha hta hl h hs hf hi hn
    obtain ⟨fl, hlo⟩ := pl_is hl
    rw [fX7_pass_2]
    simp only [pg_gR ha (k := 2) rfl, pg_o1, pg_cv hlo, pl_size hl, pg_b0, h.1]
    by_cases hie : i = Q.2.length
    · rw [if_pos (nI_le (by omega) (by omega))]
      exact pg_T.ret hg ⟨fs, h, fun j h1 h2 => by omega, fun _ _ _ => rfl, fun _ _ _ => rfl⟩
    · have hlt : i < Q.2.length := by omega
      obtain ⟨r, hpo⟩ := (h.2 i hlt).obj
      rw [if_neg (nI_ge hlt (by omega)), pl_get hl (by rw [h.1]; exact hlt), pg_b0, pg_ckO hpo, pg_o1, pg_cv hpo]
      refine pg_T.b (cq_pass hg (h.2 i hlt) (by omega) hs (hf i (Nat.le_refl _) hlt) hd6) (fun t e => by omega) (by decide) (by decide) (fun r g1 hx hp => ?_)
      obtain ⟨y, hp1, hp2⟩ := hp
      rw [nI_1]
      have h1 : cQ_l g1 q xs Q (va_up fs i (upd (fs i) (d + 1) y)) := ⟨h.1, fun j hj => by
        by_cases hji : j = i
        · subst hji; rw [va_up_self]; exact hp1
        · rw [va_up_ne _ _ hji]; exact (h.2 j hj).ext hg hx (by omega) (by omega) (by omega)⟩
      refine (ih (i + 1) g1 (va_up fs i (upd (fs i) (d + 1) y)) hx.wf (hx.at hg ha (by rw [hta]; omega)) (by rw [hx.tag hg ha]; exact hta) (hl.ext hg hx (by decide) (by omega)) h1 (hs.ext hg hx (by omega)) (fun j hj1 hj2 => by rw [va_up_ne _ _ (by omega)]; exact hf j (by omega) hj2) (by omega) (by omega)).mono (by omega) (by omega) (fun _ h => h) (fun r g2 _ hp => ?_)
      obtain ⟨fs', e1, e2, e3, e4⟩ := hp
      refine ⟨fs', e1, fun j hj1 hj2 => ?_, fun j k hk => ?_, fun j k hj => ?_⟩
      · by_cases hji : j = i
        · rw [hji, e4 i _ (by omega), va_up_self, pk_us, pbits_snoc]; exact hp2
        · exact e2 j (by omega) hj2
      · rw [e3 j k hk]
        by_cases hji : j = i
        · rw [hji, va_up_self, pk_un hk]
        · rw [va_up_ne _ _ hji]
      · rw [e4 j k (by omega), va_up_ne _ _ (by omega)]
theorem cQ_pass {d b : Nat} {w : List Nat} {tr : List (List Nat)} (hg : pg_Wf g) (h : cQ g q a Q rd fs) (hf : cQf Q fs tr) (hs : ps_S g b w) (hd : d = tr.length) (hd6 : d < 6) : pg_T (fX7_pass a (some b) (nI (d + 1)) g.1) 0 0 (fun t => 30 + 8 * q ≤ t ∧ t < 38 + 8 * q) g (fun _ g' => ∃ fs', cQ g' q a Q rd fs' ∧ cQf Q fs' (tr ++ [w]) ∧ ∀ j k, k ≤ d → fs' j k = fs j k) := by
  obtain ⟨p, l, xs, q1, q2, q3, q4, q5, q6⟩ := h
  have := cQ_passL (Q := Q) (w := w) (tr := tr) (xs := xs) (b := b) q5 hd hd6 vg_fuel 0 g fs hg q1 q2 q4 q6 hs (fun j _ hj => by have := hf j hj d (by omega); rw [hd, List.take_length] at this; rw [hd]; exact this) (Nat.zero_le _) (by rw [ps_fuel]; omega)
  rw [nI_0] at this
  refine this.mono (Nat.le_refl _) (Nat.le_refl _) (fun _ h => h) (fun r g1 hx hp => ?_)
  obtain ⟨fs', e1, e2, e3, e4⟩ := hp
  refine ⟨fs', ⟨p, l, xs, hx.at hg q1 (by rw [q2]; omega), by rw [hx.tag hg q1, q2], q3.ext hg hx (by omega) (by omega), q4.ext hg hx (by decide) (by omega), q5, e1⟩, fun i hi j hj => ?_, fun j k hk => e3 j k (by omega)⟩
  rw [List.length_append] at hj
  have hj : j ≤ tr.length + 1 := hj
  by_cases hjd : j = d + 1
  · rw [hjd, List.take_of_length_le (by rw [List.length_append]; show tr.length + 1 ≤ d + 1; omega)]
    exact e2 i (Nat.zero_le _) hi
  · rw [e3 i j hjd, List.take_append_of_le_length (by omega)]
    exact hf i hi j (by omega)
theorem cQ_beginL {l : Nat} {v0 v1 v3 : Value} (h8 : Q.2.length ≤ 8) : ∀ n i (g : pg_G) (fs : Nat → Nat → Int32), pg_Wf g → g.1.1 a = some (.inr (10, [v0, v1, .ref l, v3])) → g.2 a = 10 + q → pl_L g (20 + q) l 7 xs → cQ_l g q xs Q fs → i ≤ Q.2.length → Q.2.length < i + n → pg_T (fX7_beginRound_12 n a (nI i) g.1) 0 0 (fun t => 30 + 8 * q ≤ t ∧ t < 38 + 8 * q) g (fun _ g' => ∃ fs', cQ_l g' q xs Q fs' ∧ (∀ j, i ≤ j → j < Q.2.length → bs (fs' j 0) (pbits (Q.2.getD j (false, [], false)).2.1 [])) ∧ ∀ j, j < i → fs' j = fs j) := by
  intro n
  induction n with
  | zero => intro i g fs _ _ _ _ _ hi hn; omega
  | succ n ih =>
    intro i g fs hg ha hta hl h hi hn
    obtain ⟨fl, hlo⟩ := pl_is hl
    rw [fX7_beginRound_12]
    simp only [pg_gR ha (k := 2) rfl, pg_o1, pg_cv hlo, pl_size hl, pg_b0, h.1]
    by_cases hie : i = Q.2.length
    · rw [if_pos (nI_le (by omega) (by omega))]
      exact pg_T.ret hg ⟨fs, h, fun j h1 h2 => by omega, fun _ _ => rfl⟩
    · have hlt : i < Q.2.length := by omega
      obtain ⟨r, hpo⟩ := (h.2 i hlt).obj
      rw [if_neg (nI_ge hlt (by omega)), pl_get hl (by rw [h.1]; exact hlt), pg_b0, pg_ckO hpo, pg_o1, pg_cv hpo]
      refine pg_T.b (cq_begin hg (h.2 i hlt) (by omega)) (fun t e => by omega) (by decide) (by decide) (fun r g1 hx hp => ?_)
      obtain ⟨y, hp1, hp2⟩ := hp
      rw [nI_1]
      have h1 : cQ_l g1 q xs Q (va_up fs i (upd (fs i) 0 y)) := ⟨h.1, fun j hj => by
        by_cases hji : j = i
        · subst hji; rw [va_up_self]; exact hp1
        · rw [va_up_ne _ _ hji]; exact (h.2 j hj).ext hg hx (by omega) (by omega) (by omega)⟩
      refine (ih (i + 1) g1 (va_up fs i (upd (fs i) 0 y)) hx.wf (hx.at hg ha (by rw [hta]; omega)) (by rw [hx.tag hg ha]; exact hta) (hl.ext hg hx (by decide) (by omega)) h1 (by omega) (by omega)).mono (by omega) (by omega) (fun _ h => h) (fun r g2 _ hp => ?_)
      obtain ⟨fs', e1, e2, e4⟩ := hp
      refine ⟨fs', e1, fun j hj1 hj2 => ?_, fun j hj => ?_⟩
      · by_cases hji : j = i
        · rw [hji, e4 i (by omega), va_up_self, pk_us]; exact hp2
        · exact e2 j (by omega) hj2
      · rw [e4 j (by omega), va_up_ne _ _ (by omega)]
theorem cQ_begin (hg : pg_Wf g) (h : cQ g q a Q rd fs) (hq : q < 6) : pg_T (fX7_beginRound a g.1) 0 0 (fun t => t = 10 + q ∨ (30 + 8 * q ≤ t ∧ t < 38 + 8 * q)) g (fun _ g' => ∃ fs', cQ g' q a Q (rd + 1) fs' ∧ cQf Q fs' []) := by
  obtain ⟨p, l, xs, q1, q2, q3, q4, q5, q6⟩ := h
  rw [fX7_beginRound, pg_gI q1 (k := 3) rfl, pg_o1, nI_1]
  have xx := pg_put_ext (W := fun t => t = 10 + q) (e := .inr (10, [.ref p, .int (nI q), .ref l, .int (nI rd)].set 3 (.int (nI (rd + 1))))) hg q1 q2 (by simp [pg_kd])
  have a1 := pg_put_self g a (.inr (10, [.ref p, .int (nI q), .ref l, .int (nI rd)].set 3 (.int (nI (rd + 1)))))
  have t1 : (pg_put g a (.inr (10, [.ref p, .int (nI q), .ref l, .int (nI rd)].set 3 (.int (nI (rd + 1)))))).2 a = 10 + q := q2
  have p1 := q3.ext hg xx (by omega) (by omega)
  have l1 := q4.ext hg xx (by decide) (by omega)
  have m1 := q6.ext hg xx (by omega) (fun i hi => by omega)
  refine pg_T.p hg q1 (by simp) (by rw [q2]; omega) (Or.inl q2) ?_
  generalize pg_put g a (.inr (10, [.ref p, .int (nI q), .ref l, .int (nI rd)].set 3 (.int (nI (rd + 1))))) = g1 at *
  have := cQ_beginL (Q := Q) (xs := xs) q5 vg_fuel 0 g1 fs xx.wf a1 t1 l1 m1 (Nat.zero_le _) (by rw [ps_fuel]; omega)
  rw [nI_0] at this
  refine this.mono (Nat.le_refl _) (Nat.le_refl _) (fun _ h => Or.inr h) (fun r g2 hx hp => ?_)
  obtain ⟨fs', e1, e2, e3⟩ := hp
  refine ⟨fs', ⟨p, l, xs, hx.at xx.wf a1 (by rw [t1]; omega), by rw [hx.tag xx.wf a1, t1], p1.ext xx.wf hx (by omega) (by omega), l1.ext xx.wf hx (by decide) (by omega), q5, e1⟩, fun i hi j hj => ?_⟩
  rw [List.length_nil] at hj
  rw [show j = 0 by omega]
  exact e2 i (Nat.zero_le _) hi
end
