/-! The reader: pieces. -/
def cr_O (g : pg_G) (E x τs : Nat) (out fo : Bool) (l sa : Nat) (dv : Int32) (pcs : List Nat) : Prop := g.1.1 x = some (.inr (7, [.int (bI out), .int (bI fo), .ref l, .ref sa, .int dv])) ∧ g.2 x = E + 1 ∧ pl_L g (E + 2) l 9 pcs ∧ g.1.1 sa = some (.inl (2, 7, .inl (fun _ => 0))) ∧ g.2 sa = τs
def cr_c (g : pg_G) (E y : Nat) (c : List (List Nat)) : Prop := (c = dpP ∧ cq_d g (E + 10 + 3 * y) y) ∨ (c ≠ dpP ∧ cq_q2 g (E + 10 + 3 * y) (E + 11 + 3 * y) y c)
def cr_P (g : pg_G) (E x τs : Nat) (out fo : Bool) (ps : List (List (List Nat))) : Prop := ∃ l sa dv pcs, cr_O g E x τs out fo l sa dv pcs ∧ pcs.length = ps.length ∧ ps.length ≤ 6 ∧ (∀ i, i < ps.length → cr_c g E (pcs.getD i 0) (ps.getD i [])) ∧ bs dv (dpf ps)
section
variable {g g' : pg_G} {W : Nat → Prop} {E a x s p τs y : Nat} {out fo : Bool} {t : List Nat} {ps : List (List (List Nat))}
theorem cr_O.ext {l sa : Nat} {dv : Int32} {pcs : List Nat} (h : cr_O g E x τs out fo l sa dv pcs) (hg : pg_Wf g) (he : pg_Ext W g g') (h1 : ¬ W (E + 1)) (h2 : ¬ W (E + 2)) (hs : ¬ W τs) : cr_O g' E x τs out fo l sa dv pcs := by
  obtain ⟨q1, q2, q3, q4, q5⟩ := h
  exact ⟨he.at hg q1 (by rw [q2]; exact h1), by rw [he.tag hg q1, q2], q3.ext hg he (by decide) h2, he.at hg q4 (by rw [q5]; exact hs), by rw [he.tag hg q4, q5]⟩
theorem cr_c.ext {c : List (List Nat)} (h : cr_c g E y c) (hg : pg_Wf g) (he : pg_Ext W g g') (h1 : ¬ W (E + 10 + 3 * y)) (h2 : ¬ W (E + 11 + 3 * y)) (h0 : ¬ W 0) : cr_c g' E y c :=
  h.elim (fun h => Or.inl ⟨h.1, h.2.ext hg he h1⟩) (fun h => Or.inr ⟨h.1, h.2.ext hg he h1 h2 h0⟩)
theorem cr_c.obj {c : List (List Nat)} (h : cr_c g E y c) : ∃ r, g.1.1 y = some (.inr (9, .int (bI (decide (c = dpP))) :: r)) := by
  rcases h with ⟨e, l, st, h1, h2⟩ | ⟨e, l, st, ps, h1, h2⟩
  · rw [decide_eq_true e]; exact ⟨_, h1⟩
  · rw [decide_eq_false e]; exact ⟨_, h1⟩
theorem cr_P.ext (h : cr_P g E x τs out fo ps) (hg : pg_Wf g) (he : pg_Ext W g g') (h1 : ¬ W (E + 1)) (h2 : ¬ W (E + 2)) (hs : ¬ W τs) (h0 : ¬ W 0) (hy : ∀ y, y < g.1.2.1 → ¬ W (E + 10 + 3 * y) ∧ ¬ W (E + 11 + 3 * y)) : cr_P g' E x τs out fo ps := by
  obtain ⟨l, sa, dv, pcs, q1, q2, q3, q4, q5⟩ := h
  refine ⟨l, sa, dv, pcs, q1.ext hg he h1 h2 hs, q2, q3, fun i hi => ?_, q5⟩
  obtain ⟨r, ho⟩ := (q4 i hi).obj
  obtain ⟨a1, a2⟩ := hy _ (hg.lt ho)
  exact (q4 i hi).ext hg he a1 a2 h0
theorem cr_full (h : cr_P g E x τs out fo ps) : fX4_isFull x g.1 = some (bI (decide (ps.length = 6)), g.1, 0, 0) := by
  obtain ⟨l, sa, dv, pcs, ⟨q1, q2, q3, q4, q5⟩, q6, q7, q8, q9⟩ := h
  obtain ⟨fl, hlo⟩ := pl_is q3
  simp only [fX4_isFull, pg_gR q1 (k := 2) rfl, pg_o1, pg_cv hlo, pl_size q3, pg_b0, q6, fX4_isFull_17, pg_z0, pg_z1, vu_ret]
  by_cases h8 : ps.length = 6
  · rw [if_neg (show ¬ nI ps.length < 6 from nI_nlt (b := 6) (by omega) (by omega)), decide_eq_true h8]; rfl
  · rw [if_pos (show nI ps.length < 6 from nI_lt (b := 6) (by omega) (by decide)), decide_eq_false h8]; rfl
def lst (ps : List (List (List Nat))) : Bool := decide (ps.getLast? = some dpP)
theorem cr_ends (h : cr_P g E x τs out fo ps) : fX4_endsDeep x g.1 = some (bI (lst ps), g.1, 0, 0) := by
  obtain ⟨l, sa, dv, pcs, ⟨q1, q2, q3, q4, q5⟩, q6, q7, q8, q9⟩ := h
  obtain ⟨fl, hlo⟩ := pl_is q3
  simp only [fX4_endsDeep, pg_gR q1 (k := 2) rfl, pg_o1, pg_cv hlo, pl_isEmpty q3, pl_size q3, pg_b0, q6, fX4_endsDeep_39, fX4_endsDeep_40, pg_z0, pg_z1, vu_ret]
  unfold lst
  by_cases h0 : ps = []
  · have : pcs = [] := List.eq_nil_of_length_eq_zero (by rw [q6, h0]; rfl)
    rw [decide_eq_true this, bI_t, if_neg (by decide), h0]; rfl
  · have hl : 0 < ps.length := List.length_pos_iff.mpr h0
    have : pcs ≠ [] := fun e => by rw [e] at q6; simp at q6; omega
    have hlt : ps.length - 1 < ps.length := by omega
    obtain ⟨r, ho⟩ := (q8 (ps.length - 1) hlt).obj
    rw [decide_eq_false this, bI_f, if_pos rfl, li_sub1 hl, pl_get q3 (by omega), pg_b0, pg_ckO ho, pg_o1, pg_gI ho (k := 0) rfl, pg_o1]
    have e : ps.getLast? = some (ps.getD (ps.length - 1) []) := by
      rw [List.getLast?_eq_getElem?, List.getElem?_eq_getElem hlt, List.getD_eq_getElem?_getD, List.getElem?_eq_getElem hlt]; rfl
    rw [e]
    by_cases hd : ps.getD (ps.length - 1) [] = dpP
    · rw [decide_eq_true hd, bI_t, if_neg (by decide), decide_eq_true (by rw [hd])]; rfl
    · rw [decide_eq_false hd, bI_f, if_pos rfl, decide_eq_false (fun h => hd (Option.some.inj h))]; rfl
theorem dpf_snoc {c : List (List Nat)} (j : Nat) : dpf (ps ++ [c]) j = (dpf ps j || (decide (j = ps.length) && decide (c = dpP))) := by
  unfold dpf
  by_cases h1 : j < ps.length
  · rw [List.getElem?_append_left h1, decide_eq_false (p := j = ps.length) (by omega), Bool.false_and, Bool.or_false]
  · rw [List.getElem?_append_right (by omega), List.getElem?_eq_none (l := ps) (by omega)]
    by_cases h2 : j = ps.length
    · rw [h2, Nat.sub_self, decide_eq_true (p := ps.length = ps.length) rfl, Bool.true_and]
      show decide (some c = some dpP) = _
      by_cases hc : c = dpP
      · rw [decide_eq_true hc, decide_eq_true (by rw [hc])]; rfl
      · rw [decide_eq_false hc, decide_eq_false (fun h => hc (Option.some.inj h))]; rfl
    · rw [decide_eq_false h2, List.getElem?_eq_none (by simp only [List.length_cons, List.length_nil]; omega)]; rfl
theorem cr_addP {l sa : Nat} {dv : Int32} {pcs : List Nat} {b : Bool} {r : List Value} (hg : pg_Wf g) (hC : pg_C g) (hE : 100 ≤ E) (hτ : τs < 100) (h : cr_O g E x τs out fo l sa dv pcs) (hl : pcs.length < 8) (hy : g.1.1 y = some (.inr (9, .int (bI b) :: r))) : pg_T (fX4_add x (some y) g.1) 1 26 (fun t => t = E + 1 ∨ t = E + 2) g (fun _ g' => ∃ dv', cr_O g' E x τs out fo l sa dv' (pcs ++ [y]) ∧ dv' = if b = true then dv ||| (1 <<< (nI pcs.length &&& 31)) else dv) := by
  obtain ⟨q1, q2, q3, q4, q5⟩ := id h
  have add : ∀ (g1 : pg_G) (dv' : Int32), pg_Wf g1 → pg_C g1 → cr_O g1 E x τs out fo l sa dv' pcs → pg_is g1 y 9 → pg_T (fX4_add_25 x (some y) g1.1) 1 26 (fun t => t = E + 1 ∨ t = E + 2) g1 (fun _ g' => cr_O g' E x τs out fo l sa dv' (pcs ++ [y])) := by
    intro g1 dv' w1 hC1 h1 hy1
    obtain ⟨a1, a2, a3, a4, a5⟩ := h1
    obtain ⟨fl, hlo⟩ := pl_is a3
    rw [fX4_add_25, pg_gR a1 (k := 2) rfl, pg_o1, pg_o1, pg_cv hlo]
    refine pg_T.b (pl_add w1 hC1 (Or.inr (Or.inr (Or.inr (Or.inl rfl)))) a3 (by omega) hy1 (by omega)) (fun t h => Or.inr h) (by omega) (by omega) (fun r g2 x2 l2 => pg_T.ret x2.wf ⟨x2.at w1 a1 (by rw [a2]; omega), by rw [x2.tag w1 a1, a2], l2, x2.at w1 a4 (by rw [a5]; omega), by rw [x2.tag w1 a4, a5]⟩)
  rw [fX4_add, pg_o1, pg_gI hy (k := 0) rfl, pg_o1]
  cases b with
  | false =>
    rw [bI_f, if_pos rfl]
    exact (add g dv hg hC h ⟨_, hy⟩).mono (Nat.le_refl _) (Nat.le_refl _) (fun _ h => h) (fun r g' _ hp => ⟨dv, hp, rfl⟩)
  | true =>
    obtain ⟨fl, hlo⟩ := pl_is q3
    rw [bI_t, if_neg (by decide), pg_gI q1 (k := 4) rfl, pg_o1, pg_gR q1 (k := 2) rfl, pg_o1, pg_o1, pg_cv hlo, pl_size q3, pg_b0]
    have x1 := pg_put_ext (W := fun t => t = E + 1) (e := .inr (7, [.int (bI out), .int (bI fo), .ref l, .ref sa, .int dv].set 4 (.int (dv ||| (1 <<< (nI pcs.length &&& 31)))))) hg q1 q2 (by simp [pg_kd])
    refine pg_T.p hg q1 (by simp) (by rw [q2]; omega) (Or.inl q2) ?_
    refine (add _ (dv ||| (1 <<< (nI pcs.length &&& 31))) x1.wf (hC.ext hg x1 (by omega)) ⟨pg_put_self _ _ _, q2, q3.ext hg x1 (by decide) (by omega), x1.at hg q4 (by rw [q5]; omega), q5⟩ (pg_is.ext ⟨_, hy⟩ hg x1 (by decide))).mono (Nat.le_refl _) (Nat.le_refl _) (fun _ h => h) (fun r g' _ hp => ⟨_, hp, rfl⟩)
theorem cr_add {c : List (List Nat)} (hg : pg_Wf g) (hC : pg_C g) (hE : 100 ≤ E) (hτ : τs < 100) (h : cr_P g E x τs out fo ps) (hl : ps.length < 6) (hy : cr_c g E y c) : pg_T (fX4_add x (some y) g.1) 1 26 (fun t => t = E + 1 ∨ t = E + 2) g (fun _ g' => cr_P g' E x τs out fo (ps ++ [c])) := by
  obtain ⟨l, sa, dv, pcs, q1, q2, q3, q4, q5⟩ := h
  obtain ⟨r, ho⟩ := hy.obj
  refine (cr_addP hg hC hE hτ q1 (by omega) ho).mono (Nat.le_refl _) (Nat.le_refl _) (fun _ h => h) (fun _ g' hx hp => ?_)
  obtain ⟨dv', e1, e2⟩ := hp
  refine ⟨l, sa, dv', pcs ++ [y], e1, by rw [List.length_append, List.length_append, q2]; rfl, by rw [List.length_append]; show ps.length + 1 ≤ 6; omega, fun i hi => ?_, ?_⟩
  · rw [List.length_append] at hi
    have hi : i < ps.length + 1 := hi
    rw [getD_snoc, getD_app, q2]
    by_cases hie : i = ps.length
    · rw [if_neg (by omega), if_pos hie, if_neg (by omega), if_pos hie]
      exact hy.ext hg hx (by omega) (by omega) (by omega)
    · rw [if_pos (by omega), if_pos (by omega)]
      exact (q4 i (by omega)).ext hg hx (by omega) (by omega) (by omega)
  · by_cases hc : c = dpP
    · rw [decide_eq_true hc, if_pos rfl] at e2
      rw [e2]
      refine bs_eq (bs_or q5 (bs_s1 (i := pcs.length) (by omega))) (fun j _ => ?_)
      rw [dpf_snoc, q2, decide_eq_true hc, Bool.and_true]
    · rw [decide_eq_false hc, if_neg (by decide)] at e2
      rw [e2]
      refine bs_eq q5 (fun j _ => ?_)
      rw [dpf_snoc, decide_eq_false hc, Bool.and_false, Bool.or_false]
/-- the piece y stands not in the pattern yet -/
def cr_Py (g : pg_G) (E x τs : Nat) (out fo : Bool) (ps : List (List (List Nat))) (y : Nat) : Prop := ∃ l sa dv pcs, cr_O g E x τs out fo l sa dv pcs ∧ pcs.length = ps.length ∧ ps.length ≤ 6 ∧ (∀ i, i < ps.length → cr_c g E (pcs.getD i 0) (ps.getD i [])) ∧ bs dv (dpf ps) ∧ y ∉ pcs
theorem cr_Py.to (h : cr_Py g E x τs out fo ps y) : cr_P g E x τs out fo ps := by
  obtain ⟨l, sa, dv, pcs, q1, q2, q3, q4, q5, hyn⟩ := h
  exact ⟨l, sa, dv, pcs, q1, q2, q3, q4, q5⟩
theorem cr_P.py (hg : pg_Wf g) (h : cr_P g E x τs out fo ps) (hy : g.1.2.1 ≤ y) : cr_Py g E x τs out fo ps y := by
  obtain ⟨l, sa, dv, pcs, q1, q2, q3, q4, q5⟩ := h
  refine ⟨l, sa, dv, pcs, q1, q2, q3, q4, q5, fun hm => ?_⟩
  obtain ⟨_, _, _, _, b1, _⟩ := q1.2.2.1
  obtain ⟨fs, ho⟩ := b1 y hm
  have := hg.lt ho
  omega
/-- what a plain piece comes to -/
def rpl (t : List Nat) (k : Nat) (r : (List (List Nat) × Nat) ⊕ Nat) : (List (List Nat) × Nat) ⊕ Nat := match r with
  | .inr e => .inr e
  | .inl q => if pt_dots (sl t k q.2) = true then .inr k else .inl q
theorem cr_plain48 {k : Nat} {acc : List (List Nat)} (hg : pg_Wf g) (hC : pg_C g) (hE : 100 ≤ E) (hτ : τs < 100) (h : cr_R g E a x (-1) s p) (hs : ps_S g s t) (hP : cr_P g E x τs out fo ps) (hl : ps.length < 6) (hq : cq_q2 g (E + 10 + 3 * y) (E + 11 + 3 * y) y acc) (hl60 : t.length ≤ 60) (hk : k ≤ p) (hp : p ≤ t.length) (hnd : acc = dpP → False) : pg_T (fX5_readPlainPiece_48 a (some y) (nI k) g.1) 3 90 (fun t => t = E ∨ t = E + 1 ∨ t = E + 2) g (fun _ g' => if p = k ∨ pt_dots (sl t k p) = true then ∃ p', cr_R g' E a x (nI k) s p' else cr_R g' E a x (-1) s p ∧ cr_P g' E x τs out fo (ps ++ [acc])) := by
  obtain ⟨fs, hso⟩ := ps_o hs
  have hc : cr_c g E y acc := Or.inr ⟨hnd, hq⟩
  have bad : ∀ (g1 : pg_G), pg_Ext (fun _ => False) g g1 → (p = k ∨ pt_dots (sl t k p) = true) → pg_T (fX5_readPlainPiece_83 a (some y) (nI k) g1.1) 1 26 (fun t => t = E ∨ t = E + 1 ∨ t = E + 2) g1 (fun _ g' => if p = k ∨ pt_dots (sl t k p) = true then ∃ p', cr_R g' E a x (nI k) s p' else cr_R g' E a x (-1) s p ∧ cr_P g' E x τs out fo (ps ++ [acc])) := by
    intro g1 x1 hcond
    rw [fX5_readPlainPiece_83]
    refine cr_il x1.wf (h.ext hg x1 (fun h => h)) (by omega) (Or.inl rfl) (fun g2 x2 h2 => ?_)
    have hP2 := (hP.ext hg x1 (fun h => h) (fun h => h) (fun h => h) (fun h => h) (fun _ _ => ⟨fun h => h, fun h => h⟩)).ext x1.wf x2 (by omega) (by omega) (by omega) (by omega) (fun _ _ => ⟨by omega, by omega⟩)
    obtain ⟨_, _, _, _, ⟨o2, -⟩, -⟩ := id hP2
    have hc2 := (hc.ext hg x1 (fun h => h) (fun h => h) (fun h => h)).ext x1.wf x2 (by omega) (by omega) (by omega)
    rw [fX5_readPlainPiece_88, pg_gR h2.1 (k := 0) rfl, pg_o1, pg_o1, pg_cv o2]
    refine pg_T.b (cr_add x2.wf ((hC.ext hg x1 (fun h => h)).ext x1.wf x2 (by omega)) hE hτ hP2 hl hc2) (fun t h => Or.inr h) (Nat.le_refl _) (Nat.le_refl _) (fun r g3 x3 _ => pg_T.ret x3.wf ?_)
    rw [if_pos hcond]
    exact ⟨p, h2.ext x2.wf x3 (by omega)⟩
  rw [fX5_readPlainPiece_48, pg_gI h.1 (k := 1) rfl, pg_o1, if_pos rfl, pg_gI h.1 (k := 3) rfl, pg_o1]
  by_cases hpk : p = k
  · rw [if_pos (by rw [hpk])]
    exact (bad g (pg_Ext.refl hg) (Or.inl hpk)).mono (by decide) (by decide) (fun _ h => h) (fun _ _ _ h => h)
  · rw [if_neg (fun hh => hpk ((nI_eq (by omega) (by omega)).mp hh)), pg_gR h.1 (k := 2) rfl, pg_o1, pg_o1, pg_o1, pg_cv hso]
    refine pg_T.b (ps_sub hg hC hs hk hp) (fun _ h => h.elim) (by omega) (by omega) (fun r g1 x1 hp1 => ?_)
    obtain ⟨b, rfl, hb⟩ := hp1
    have hC1 := hC.ext hg x1 (fun h => h)
    rw [cl_dots hC1 hb, pg_b0]
    cases hd : pt_dots (sl t k p) with
    | true =>
      rw [bI_t, if_neg (by decide)]
      have := bad g1 x1 (Or.inr hd)
      rw [hd] at this
      exact this.mono (by omega) (by omega) (fun _ h => h) (fun _ _ _ h => h)
    | false =>
      rw [bI_f, if_pos rfl]
      have h1 := h.ext hg x1 (fun h => h)
      have hP1 := hP.ext hg x1 (fun h => h) (fun h => h) (fun h => h) (fun h => h) (fun _ _ => ⟨fun h => h, fun h => h⟩)
      obtain ⟨_, _, _, _, ⟨o1, -⟩, -⟩ := id hP1
      rw [fX5_readPlainPiece_88, pg_gR h1.1 (k := 0) rfl, pg_o1, pg_o1, pg_cv o1]
      refine pg_T.b (cr_add x1.wf hC1 hE hτ hP1 hl (hc.ext hg x1 (fun h => h) (fun h => h) (fun h => h))) (fun t h => Or.inr h) (by omega) (by omega) (fun r g3 x3 hP3 => pg_T.ret x3.wf ?_)
      rw [if_neg (fun hh => hh.elim hpk (fun hh => by cases hh))]
      exact ⟨h1.ext x1.wf x3 (by omega), hP3⟩
theorem cr_plainL {k : Nat} (hE : 100 ≤ E) (hτ : τs < 100) (hl : ps.length < 6) (hl60 : t.length ≤ 60) (hk : k ≤ t.length) (hdeep : pp_deep t k = false) : ∀ m n (acc : List (List Nat)) p (g : pg_G), m + acc.length = 9 → 9 < acc.length + n → pg_Wf g → pg_C g → cr_R g E a x (-1) s p → ps_S g s t → cr_Py g E x τs out fo ps y → cq_q2 g (E + 10 + 3 * y) (E + 11 + 3 * y) y acc → k ≤ p → p ≤ t.length → (acc = [] → p = k) → (acc ≠ [] → k < p) → acc.flatten = sl t k p → (∀ b ∈ acc, aOk b) →
    pg_T (fX5_readPlainPiece_16 n a (some y) (nI k) (nI acc.length) g.1) (4 * m + 3) (37 * m + 90) (fun t => t = E ∨ t = E + 1 ∨ t = E + 2 ∨ t = E + 10 + 3 * y ∨ t = E + 11 + 3 * y) g (fun _ g' => match rpl t k (pp_plain t m acc p) with
      | .inr e => ∃ p', cr_R g' E a x (nI e) s p'
      | .inl q => cr_R g' E a x (-1) s q.2 ∧ cr_P g' E x τs out fo (ps ++ [q.1])) := by
  intro m
  induction m with
  | zero =>
    intro n acc p g hm hn hg hC h hs hP hq hkp hpt h0 h1 hfl hok
    have := hq
    obtain ⟨_, _, _, _, _, _, _, q5, _⟩ := this
    omega
  | succ m ih =>
    intro n acc p g hm hn hg hC h hs hP hq hkp hpt h0 h1 hfl hok
    obtain ⟨n, rfl⟩ : ∃ n', n = n' + 1 := ⟨n - 1, by omega⟩
    have hlen : acc.length ≤ 8 := by omega
    rw [fX5_readPlainPiece_16, if_neg (show ¬ (8 : Int32) < nI acc.length from nI_nlt (a := 8) hlen (by decide)), pg_gI h.1 (k := 1) rfl, pg_o1, if_pos rfl, pg_cv h.1, cr_inP h hs (by omega), pg_b0, pp_plain]
    cases hin : inP t p with
    | false =>
      rw [bI_f, if_pos rfl]
      have hend := inP_no.mp hin
      by_cases hacc : acc = []
      · have hpk := h0 hacc
        rw [if_neg (fun hh => hh.1 (by rw [hacc]; rfl)), if_neg (by rw [hacc]; decide)]
        have hpart : pp_part t p = .inr k := by
          unfold pp_part
          rcases hend with e | e
          · rw [e, hpk]
          · rw [e]
            show (if sg 47 = true ∨ 47 = 42 then _ else _) = _
            rw [if_neg (by decide), if_neg (by decide), hpk]
        rw [hpart]
        refine (cr_plain48 hg hC hE hτ h hs hP.to hl hq hl60 hkp hpt (fun e => by rw [hacc] at e; cases e)).mono (by omega) (by omega) (fun t h => by omega) (fun r g' _ hp => ?_)
        rw [if_pos (Or.inl hpk)] at hp
        exact hp
      · have hne : acc.length ≠ 0 := fun e => hacc (List.eq_nil_of_length_eq_zero e)
        rw [if_pos ⟨hne, hend⟩]
        have hndp : acc = dpP → False := by
          intro e
          have hf := hfl
          rw [e] at hf
          have hf : [42, 42] = sl t k p := hf
          have hl2 := congrArg List.length hf
          rw [sl_len hpt] at hl2
          have hl2 : 2 = p - k := hl2
          have g0 := congrArg (fun L => L.getD 0 0) hf
          have g1 := congrArg (fun L => L.getD 1 0) hf
          have g0 : ([42, 42] : List Nat).getD 0 0 = (sl t k p).getD 0 0 := g0
          have g1 : ([42, 42] : List Nat).getD 1 0 = (sl t k p).getD 1 0 := g1
          rw [sl_get (by omega)] at g0
          rw [sl_get (by omega)] at g1
          have g0 : 42 = t.getD (k + 0) 0 := g0
          have g1 : 42 = t.getD (k + 1) 0 := g1
          unfold pp_deep at hdeep
          rw [List.getElem?_eq_getElem (show k < t.length by omega), List.getElem?_eq_getElem (show k + 1 < t.length by omega), ← ls_get, ← ls_get, ← g1, show t.getD k 0 = 42 from g0.symm] at hdeep
          exact absurd hdeep (by decide)
        refine (cr_plain48 hg hC hE hτ h hs hP.to hl hq hl60 hkp hpt hndp).mono (by omega) (by omega) (fun t h => by omega) (fun r g' _ hp => ?_)
        unfold rpl
        have hkp' := h1 hacc
        by_cases hd : pt_dots (sl t k p) = true
        · rw [if_pos (Or.inr hd)] at hp
          simp only [hd, if_true]
          exact hp
        · rw [if_neg (fun hh => hh.elim (by omega) hd)] at hp
          simp only [hd]
          exact hp
    | true =>
      rw [bI_t, if_neg (by decide)]
      have hlt : p < t.length := by unfold inP at hin; rw [Bool.and_eq_true, decide_eq_true_eq] at hin; exact hin.1
      have hnend : ¬ (acc.length ≠ 0 ∧ (t[p]? = none ∨ t[p]? = some 47)) := fun hh => by rw [inP_no.mpr hh.2] at hin; cases hin
      rw [if_neg hnend, pg_cv h.1]
      have hpart := cr_part hg hC h hs hq (by omega) (by omega) (by omega) (by omega) (by omega) (by omega) hl60 hlt
      unfold ppp at hpart
      refine pg_T.b hpart (fun t h => by omega) (by omega) (by omega) (fun r g1 x1 hp1 => ?_)
      by_cases h8 : acc.length = 8
      · rw [if_pos h8] at hp1 ⊢
        obtain ⟨p', hp1⟩ := hp1
        obtain ⟨n, rfl⟩ : ∃ n', n = n' + 1 := ⟨n - 1, by omega⟩
        rw [nI_1, fX5_readPlainPiece_16, if_pos (show (8 : Int32) < nI (acc.length + 1) from nI_lt (a := 8) (by omega) (by omega)), fX5_readPlainPiece_48, pg_gI hp1.1 (k := 1) rfl, pg_o1, if_neg (by rw [li_m1 (by omega)]; exact fun h => h)]
        exact pg_T.ret x1.wf ⟨p', hp1⟩
      · rw [if_neg h8] at hp1 ⊢
        cases hpp : pp_part t p with
        | inr e =>
          rw [hpp] at hp1
          obtain ⟨p', hp1⟩ := hp1
          obtain ⟨n, rfl⟩ : ∃ n', n = n' + 1 := ⟨n - 1, by omega⟩
          have he : e ≤ 1000 := by
            unfold pp_part at hpp
            rw [List.getElem?_eq_getElem hlt] at hpp
            simp only at hpp
            split at hpp
            · cases hpp
            · split at hpp
              · split at hpp
                · cases hpp
                · have : ∀ m i, i ≤ t.length → sgrun t m i ≤ t.length := by
                    intro m
                    induction m with
                    | zero => intro i hi; exact hi
                    | succ m ihm =>
                      intro i hi
                      rw [sgrun]
                      split
                      · next hh =>
                        refine ihm (i + 1) ?_
                        by_cases hil : i < t.length
                        · omega
                        · rw [List.getElem?_eq_none (by omega)] at hh; cases hh
                      · exact hi
                  have := this 6 (p + 1) (by omega)
                  cases hpp; omega
              · cases hpp; omega
          rw [nI_1, fX5_readPlainPiece_16, if_neg (show ¬ (8 : Int32) < nI (acc.length + 1) from nI_nlt (a := 8) (by omega) (by decide)), pg_gI hp1.1 (k := 1) rfl, pg_o1, if_neg (by rw [li_m1 (by omega)]; exact fun h => h), fX5_readPlainPiece_48, pg_gI hp1.1 (k := 1) rfl, pg_o1, if_neg (by rw [li_m1 (by omega)]; exact fun h => h)]
          exact pg_T.ret x1.wf ⟨p', hp1⟩
        | inl e =>
          rw [hpp] at hp1
          obtain ⟨hr1, hq1⟩ := hp1
          have hok2 := pp_part_ok (by omega) hpp
          have hle : p < e ∧ e ≤ t.length := by
            have hne := aOk_ne hok2
            have hlen2 : (sl t p e).length ≤ e - p := by unfold sl; rw [List.length_drop, List.length_take]; omega
            have hlen3 : 0 < (sl t p e).length := List.length_pos_iff.mpr hne
            refine ⟨by omega, ?_⟩
            unfold pp_part at hpp
            rw [List.getElem?_eq_getElem hlt] at hpp
            simp only at hpp
            split at hpp
            · cases hpp; omega
            · split at hpp
              · split at hpp
                · next hh =>
                  cases hpp
                  have : sgrun t 6 (p + 1) < t.length := by
                    by_cases hx : sgrun t 6 (p + 1) < t.length
                    · exact hx
                    · rw [List.getElem?_eq_none (by omega)] at hh; cases hh.2
                  omega
                · cases hpp
              · cases hpp
          rw [nI_1, show acc.length + 1 = (acc ++ [sl t p e]).length by rw [List.length_append]; rfl]
          have hP1 : cr_Py g1 E x τs out fo ps y := by
            obtain ⟨l, sa, dv, pcs, q1, q2, q3, q4, q5, hyn⟩ := id hP
            refine ⟨l, sa, dv, pcs, q1.ext hg x1 (by omega) (by omega) (by omega), q2, q3, fun i hi => ?_, q5, hyn⟩
            have hil : i < pcs.length := by omega
            have hne : pcs.getD i 0 ≠ y := fun e => hyn (by rw [← e, ls_get hil]; exact List.getElem_mem hil)
            exact (q4 i hi).ext hg x1 (by omega) (by omega) (by omega)
          refine (ih n (acc ++ [sl t p e]) e g1 (by rw [List.length_append, List.length_singleton]; omega) (by rw [List.length_append, List.length_singleton]; omega) x1.wf (hC.ext hg x1 (by omega)) hr1 (hs.ext hg x1 (by omega)) hP1 hq1 (by omega) hle.2 (fun e => by simp at e) (fun _ => by omega) ?_ ?_).mono (by omega) (by omega) (fun t h => by omega) (fun _ _ _ h => h)
          · rw [List.flatten_append, hfl, List.flatten_cons, List.flatten_nil, List.append_nil, sl_add hkp (by omega) hle.2]
          · intro b hb
            rcases List.mem_append.mp hb with hb | hb
            · exact hok b hb
            · rw [List.mem_singleton.mp hb]; exact hok2
end
