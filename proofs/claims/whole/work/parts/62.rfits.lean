/-! The reference: a name against a piece, a trail against a pattern. -/
section
variable {μ : vg_M} {m : Nat} {S : Nat → Int32} {F : Nat → Nat → Int32} {p : Nat} {ps : List (List (List Nat))} {fo : Bool}
theorem lets_1 {d : Nat} (h : sg d = true) : lets [d] = [d] := by
  unfold lets
  rw [if_neg (by have := (sg_no h).2.1; simpa using this)]; rfl
theorem lets_s {l : List Nat} (h : 1 ≤ l.length) : lets (91 :: (l ++ [93])) = l := by
  unfold lets
  rw [if_neg (by simp), if_neg (by simp)]
  simp
theorem lets_star : lets [42] = [] := rfl
theorem rm_isOneL {k c : Nat} {l v : List Nat} (h : RP p ps fo F) (hk : k ≤ 100) (hc : c < 128) (hu : (raw ps fo).drop k = l ++ v) (hl : l.length ≤ 6) : ∀ n j, j ≤ l.length → l.length < j + n → fX11_isOne_32 n m (nI p) (nI (k + l.length + 1)) (nI c) (bI ((l.take j).contains c)) (nI (k + j)) (rf_M μ m S F) = some (bI (l.contains c), rf_M μ m S F, 0, 0) := by
  have hch := h.2.1.2.2.2.2
  intro n
  induction n with
  | zero => intro j h1 h2; omega
  | succ n ih =>
    intro j h1 h2
    unfold fX11_isOne_32
    simp only [li_sub1 (show 1 ≤ k + l.length + 1 by omega), Nat.add_sub_cancel, nI_leI (show k + l.length < 2 ^ 31 by omega) (show k + j < 2 ^ 31 by omega), rf_cv, rm_byteOf h (show k + j < 2 ^ 30 by omega), pg_b0, oI_c hch (k + j) (nI c) c rfl (by omega) (by intro e; exact (li_m1 (show c < 2 ^ 31 by omega)).mp e), fX11_isOne_57, fX11_isOne_62, nI_1, bI_0]
    by_cases he : j = l.length
    · subst he
      rw [if_pos (Nat.le_refl _), List.take_length, bI_z]; rfl
    · have hjl : j < l.length := by omega
      rw [if_neg (by omega), at_drop hu hjl]
      have ih' := ih (j + 1) (by omega) (by omega)
      have et : l.take (j + 1) = l.take j ++ [l.getD j 0] := by rw [List.take_succ, List.getElem?_eq_getElem hjl, ls_get hjl]; rfl
      rw [et] at ih'
      have hcon : (l.take j ++ [l.getD j 0]).contains c = ((l.take j).contains c || decide (l.getD j 0 = c)) := by
        rw [Bool.eq_iff_iff]
        simp only [List.contains_eq_mem, List.mem_append, List.mem_singleton, Bool.or_eq_true, decide_eq_true_eq]
        constructor
        · rintro (h | h)
          · exact Or.inl h
          · exact Or.inr h.symm
        · rintro (h | h)
          · exact Or.inl h
          · exact Or.inr h.symm
      rw [hcon] at ih'
      cases hb : (l.take j).contains c with
      | true => rw [if_neg (by decide)]; rw [hb, Bool.true_or, bI_t] at ih'; exact ih'
      | false =>
        rw [if_pos rfl]
        rw [hb, Bool.false_or] at ih'
        by_cases hx : l.getD j 0 = c
        · rw [if_pos (by rw [hx])]; rw [decide_eq_true hx, bI_t] at ih'; exact ih'
        · rw [if_neg (by simpa using hx)]; rw [decide_eq_false hx, bI_f] at ih'; exact ih'
theorem rm_isOne {k c : Nat} {a v : List Nat} (h : RP p ps fo F) (hk : k ≤ 60) (hc : c < 128) (hu : (raw ps fo).drop k = a ++ v) (ha : aOk a) (hns : a ≠ [42]) : fX11_isOne m (nI p) (nI k) (nI (k + a.length)) (nI c) (rf_M μ m S F) = some (bI ((lets a).contains c), rf_M μ m S F, 0, 0) := by
  have hch := h.2.1.2.2.2.2
  unfold fX11_isOne
  rw [nI_1]
  rcases ha with ha | ⟨d, hd, ha⟩ | ⟨l, ha, l1, l2, l3⟩
  · exact absurd ha hns
  · subst ha
    rw [if_pos (show nI (k + [d].length) = nI (k + 1) from rfl)]
    have e := at_drop (j := 0) hu (by simp)
    rw [Nat.add_zero] at e
    simp only [rf_cv, rm_byteOf h (show k < 2 ^ 30 by omega), pg_b0, oI_c hch k (nI c) c rfl (by omega) (by intro e; exact (li_m1 (show c < 2 ^ 31 by omega)).mp e), fX11_isOne_23, pg_z1, pg_z0, pg_o1, vg_ret, lets_1 hd]
    rw [e]
    by_cases hx : d = c
    · rw [if_pos (by rw [← hx]; rfl)]
      have : ([d] : List Nat).contains c = true := by simp [hx]
      rw [this]; rfl
    · rw [if_neg (by simpa using hx)]
      have : ([d] : List Nat).contains c = false := by simp; exact fun e => hx e.symm
      rw [this]; rfl
  · subst ha
    rw [lets_s l1, if_neg (by rw [nI_eq (by simp; omega) (by omega)]; simp)]
    have hu' : (raw ps fo).drop (k + 1) = l ++ ([93] ++ v) := by
      rw [← List.drop_drop, hu]; simp
    have := rm_isOneL (μ := μ) (m := m) (S := S) h (show k + 1 ≤ 100 by omega) hc hu' l2 vg_fuel 0 (Nat.zero_le _) (by rw [ps_fuel]; omega)
    rw [Nat.add_zero] at this
    have e : k + (91 :: (l ++ [93])).length = k + 1 + l.length + 1 := by simp; omega
    rw [e]
    exact this
/-- the loop over the letters, for one part -/
theorem rm_fitsJ {q15 : Nat → Int32 → Int32 → Int32 → Int32 → Int32 → Int32 → vg_M → vg_R Int32} {T : sT} {node k i : Nat} {c : List (List Nat)} {a v : List Nat} {en x : Int32} (h : RP p ps fo F) (hR : RTr T F) (hnode : node < 61) (hk : k ≤ 60) (hu : (raw ps fo).drop k = a ++ v) (ha : aOk a) (hca : c.getD i [] = a) (hx : bs x (fun j => decide (j ≤ (nm T node).length) && mt c (nm T node) i j)) :
    ∀ n j y, j ≤ (nm T node).length + 1 → (nm T node).length + 1 < j + n → bs y (fun j' => decide (j' < j) && mt c (nm T node) (i + 1) j') → ∃ z, fX11_fitsName_69 q15 n m (nI p) en (nI node) (nI (nm T node).length) x (nI k) (nI (a.headD 0)) (nI (k + a.length)) y (nI j) (rf_M μ m S F) = q15 m (nI p) en (nI node) (nI (nm T node).length) z (nI (k + a.length)) (rf_M μ m S F) ∧ bs z (fun j => decide (j ≤ (nm T node).length) && mt c (nm T node) (i + 1) j) := by
  obtain ⟨r6, r7, r8, r11, b1, b2, b3, r12, b4⟩ := hR node hnode
  have hhead : a.headD 0 < 2 ^ 31 := by
    rcases ha with h | ⟨d, hd, h⟩ | ⟨l, h, -⟩
    · rw [h]; decide
    · rw [h]; have := sg_lt hd; show d < 2 ^ 31; omega
    · rw [h]; show 91 < 2 ^ 31; decide
  have hstar : a.headD 0 = 42 ↔ a = [42] := by
    rw [← aOk_star ha]
    cases a with
    | nil => exact absurd rfl (aOk_ne ha)
    | cons x r => simp
  intro n
  induction n with
  | zero => intro j y q1 q2; omega
  | succ n ih =>
    intro j y q1 q2 hy
    unfold fX11_fitsName_69
    simp only [nI_ltI (show (nm T node).length < 2 ^ 31 by omega) (show j < 2 ^ 31 by omega), li_c 42 (c := 42) rfl hhead (by decide)]
    by_cases hj : (nm T node).length < j
    · rw [if_pos hj]
      exact ⟨y, rfl, bs_eq hy fun j' _ => by congr 1; rw [decide_eq_decide]; omega⟩
    · rw [if_neg hj]
      have hj8 : j ≤ 8 := by omega
      -- the end of one letter's round
      have h159 : ∀ st one : Bool, ((st || one) = mt c (nm T node) (i + 1) j) → ∃ z, fX11_fitsName_159 q15 (fX11_fitsName_69 q15 n) m (nI p) en (nI node) (nI (nm T node).length) x (nI k) (nI (a.headD 0)) (nI (k + a.length)) y (nI j) (bI st) (bI one) (rf_M μ m S F) = q15 m (nI p) en (nI node) (nI (nm T node).length) z (nI (k + a.length)) (rf_M μ m S F) ∧ bs z (fun j => decide (j ≤ (nm T node).length) && mt c (nm T node) (i + 1) j) := by
        intro st one hso
        have hset : (st || one) = true → ∃ z, fX11_fitsName_173 q15 (fX11_fitsName_69 q15 n) m (nI p) en (nI node) (nI (nm T node).length) x (nI k) (nI (a.headD 0)) (nI (k + a.length)) (nI j) y (rf_M μ m S F) = q15 m (nI p) en (nI node) (nI (nm T node).length) z (nI (k + a.length)) (rf_M μ m S F) ∧ bs z (fun j => decide (j ≤ (nm T node).length) && mt c (nm T node) (i + 1) j) := by
          intro hs
          unfold fX11_fitsName_173 fX11_fitsName_181
          rw [nI_1]
          refine ih (j + 1) _ (by omega) (by omega) (bs_eq (bs_or hy (bs_s1 (show j < 32 by omega))) fun j' _ => ?_)
          by_cases hjj : j' = j
          · subst hjj; rw [← hso, hs, decide_eq_true rfl, decide_eq_true (show j' < j' + 1 by omega)]; simp
          · rw [decide_eq_false hjj, Bool.or_false]; congr 1; rw [decide_eq_decide]; omega
        unfold fX11_fitsName_159
        simp only [bI_0]
        cases st with
        | true => rw [if_neg (by decide)]; exact hset rfl
        | false =>
          rw [if_pos rfl]
          cases one with
          | true => rw [if_neg (by decide)]; exact hset rfl
          | false =>
            rw [if_pos rfl]
            unfold fX11_fitsName_181
            rw [nI_1]
            refine ih (j + 1) _ (by omega) (by omega) (bs_eq (bs_or hy bs_z) fun j' _ => ?_)
            rw [Bool.or_false]
            by_cases hjj : j' = j
            · subst hjj; rw [← hso, decide_eq_false (show ¬ j' < j' by omega)]; simp
            · congr 1; rw [decide_eq_decide]; omega
      by_cases hst : a = [42]
      · have h42 := hstar.mpr hst
        have any := mt_any (c := c) (w := nm T node) (i := i) (j := j) (by rw [hca, hst])
        have h100 : ∀ st : Bool, st = mt c (nm T node) (i + 1) j → ∃ z, fX11_fitsName_100 q15 (fX11_fitsName_69 q15 n) m (nI p) en (nI node) (nI (nm T node).length) x (nI k) (nI (a.headD 0)) (nI (k + a.length)) y (nI j) (bI st) (rf_M μ m S F) = q15 m (nI p) en (nI node) (nI (nm T node).length) z (nI (k + a.length)) (rf_M μ m S F) ∧ bs z (fun j => decide (j ≤ (nm T node).length) && mt c (nm T node) (i + 1) j) := by
          intro st hs
          unfold fX11_fitsName_100
          rw [if_pos (by rw [h42]; rfl)]
          unfold fX11_fitsName_158
          rw [← bI_f]
          exact h159 st false (by rw [Bool.or_false]; exact hs)
        rw [if_pos h42]
        simp only [bs_m2 hx (show j < 16 by omega)]
        by_cases hno : ∀ j', j' ≤ j → (decide (j' ≤ (nm T node).length) && mt c (nm T node) i j') = false
        · rw [if_pos hno]
          unfold fX11_fitsName_99
          rw [← bI_f]
          refine h100 false (Eq.symm (Bool.eq_false_iff.mpr fun e => ?_))
          obtain ⟨j', l1, l2⟩ := any.mp e
          have := hno j' l1
          rw [l2, decide_eq_true (show j' ≤ (nm T node).length by omega)] at this
          cases this
        · rw [if_neg hno, ← bI_t]
          refine h100 true (Eq.symm ?_)
          rw [any]
          apply Classical.byContradiction
          intro hc
          apply hno
          intro j' hj'
          by_cases hm : mt c (nm T node) i j' = true
          · exact absurd ⟨j', hj', hm⟩ hc
          · rw [Bool.eq_false_iff.mpr hm, Bool.and_false]
      · have h42 : ¬ a.headD 0 = 42 := fun e => hst (hstar.mp e)
        have em : mt c (nm T node) (i + 1) j = (decide (0 < j) && mt c (nm T node) i (j - 1) && (lets a).contains ((nm T node).getD (j - 1) 0)) := by
          show (if c.getD i [] = [42] then _ else _) = _
          rw [hca, if_neg hst]
        rw [if_neg h42]
        unfold fX11_fitsName_99 fX11_fitsName_100
        rw [if_neg (by rw [li_c 42 (c := 42) rfl hhead (by decide)]; exact h42)]
        have hF := h159 false false
        have hT := h159 false true
        rw [bI_f] at hF hT
        rw [bI_t] at hT
        simp only [fX11_fitsName_158, li_le0 (show j < 2 ^ 31 by omega)]
        by_cases h0 : j = 0
        · rw [if_pos h0]
          exact hF (by rw [em, h0]; rfl)
        · rw [if_neg h0, li_sub1 (show 1 ≤ j by omega)]
          simp only [bs_t1 hx (show j - 1 < 32 by omega)]
          rw [decide_eq_true (show j - 1 ≤ (nm T node).length by omega), Bool.true_and]
          cases hmt : mt c (nm T node) i (j - 1) with
          | false =>
            rw [if_neg (by decide)]
            exact hF (by rw [em, hmt]; simp)
          | true =>
            rw [if_pos rfl]
            have hcl : (nm T node).getD (j - 1) 0 < 128 := ps_get b4 (j - 1) (by omega)
            simp only [rf_r12, pg_o1, show (8 : Int32) = nI 8 from rfl, pk_mul, nI_add, li_sub1 (show 1 ≤ 8 * node + j by omega), show 8 * node + j - 1 = 8 * node + (j - 1) by omega, rf_a12 (show 8 * node + (j - 1) < 488 by omega), r12 (j - 1) (by omega), rf_cv, rm_isOne h hk hcl hu ha hst, pg_b0, bI_0]
            cases hco : (lets a).contains ((nm T node).getD (j - 1) 0) with
            | false => rw [if_pos rfl]; exact hF (by rw [em, hmt, hco]; simp)
            | true => rw [if_neg (by decide)]; exact hT (by rw [em, hmt, hco, decide_eq_true (show 0 < j by omega)]; rfl)
theorem rm_fits36 {q15 : Nat → Int32 → Int32 → Int32 → Int32 → Int32 → Int32 → vg_M → vg_R Int32} {k : Nat} {a v : List Nat} {en nd ln x : Int32} (h : RP p ps fo F) (hk : k ≤ 60) (hu : (raw ps fo).drop k = a ++ v) (ha : aOk a) :
    fX11_fitsName_36 q15 vg_fuel m (nI p) en nd ln x (nI k) (nI (a.headD 0)) (nI (k + 1)) (rf_M μ m S F) = fX11_fitsName_69 q15 vg_fuel m (nI p) en nd ln x (nI k) (nI (a.headD 0)) (nI (k + a.length)) 0 0 (rf_M μ m S F) := by
  have hch := h.2.1.2.2.2.2
  have one : ∀ d, d ≠ 91 → d < 128 → a = [d] → fX11_fitsName_36 q15 vg_fuel m (nI p) en nd ln x (nI k) (nI (a.headD 0)) (nI (k + 1)) (rf_M μ m S F) = fX11_fitsName_69 q15 vg_fuel m (nI p) en nd ln x (nI k) (nI (a.headD 0)) (nI (k + a.length)) 0 0 (rf_M μ m S F) := by
    intro d hd hd2 e
    subst e
    rw [show vg_fuel = 999999 + 1 from rfl]
    unfold fX11_fitsName_36
    rw [if_neg (by show ¬ nI d = 91; rw [li_c 91 (c := 91) rfl (by omega) (by decide)]; exact hd)]
    rfl
  rcases ha with ha | ⟨d, hd, ha⟩ | ⟨l, ha, l1, l2, l3⟩
  · exact one 42 (by decide) (by decide) ha
  · exact one d (sg_no hd).2.2.1 (sg_lt hd) ha
  · subst ha
    have key : ∀ n j, j ≤ l.length + 1 → l.length + 1 < j + n → fX11_fitsName_36 q15 n m (nI p) en nd ln x (nI k) (nI 91) (nI (k + 1 + j)) (rf_M μ m S F) = fX11_fitsName_69 q15 vg_fuel m (nI p) en nd ln x (nI k) (nI 91) (nI (k + (91 :: (l ++ [93])).length)) 0 0 (rf_M μ m S F) := by
      intro n
      induction n with
      | zero => intro j q1 q2; omega
      | succ n ih =>
        intro j q1 q2
        unfold fX11_fitsName_36
        rw [if_pos (by rfl)]
        simp only [li_sub1 (show 1 ≤ k + 1 + j by omega), show k + 1 + j - 1 = k + j by omega, rf_cv, rm_byteOf h (show k + j < 2 ^ 30 by omega), pg_b0, oI_c hch (k + j) 93 93 rfl (by decide) (by decide), nI_1]
        have ej := at_drop (j := j) hu (by simp; omega)
        rw [ej]
        by_cases hj : j = l.length + 1
        · subst hj
          have : (91 :: (l ++ [93])).getD (l.length + 1) 0 = 93 := by simp [List.getD_eq_getElem?_getD]
          rw [this, if_pos rfl]
          unfold fX11_fitsName_63
          rw [show k + 1 + (l.length + 1) = k + (91 :: (l ++ [93])).length by simp; omega]
        · have hne : (91 :: (l ++ [93])).getD j 0 ≠ 93 := by
            cases j with
            | zero => simp
            | succ j =>
              have hjl : j < l.length := by omega
              rw [List.getD_cons_succ, List.getD_eq_getElem?_getD, List.getElem?_append_left hjl, List.getElem?_eq_getElem hjl]
              exact (sg_no (List.all_eq_true.mp l3 _ (List.getElem_mem hjl))).2.2.2
          rw [if_neg (by simpa using hne), show k + 1 + j + 1 = k + 1 + (j + 1) by omega]
          exact ih (j + 1) (by omega) (by omega)
    have := key vg_fuel 0 (by omega) (by rw [ps_fuel]; omega)
    rw [Nat.add_zero] at this
    exact this
theorem flat_drop {c : List (List Nat)} {i : Nat} (hi : i < c.length) : (c.drop i).flatten = c.getD i [] ++ (c.drop (i + 1)).flatten := by
  rw [List.drop_eq_getElem_cons hi, List.flatten_cons, List.getD_eq_getElem?_getD, List.getElem?_eq_getElem hi]; rfl
theorem rm_fitsL {T : sT} {node k0 : Nat} {c : List (List Nat)} {v : List Nat} (h : RP p ps fo F) (hR : RTr T F) (hnode : node < 61) (hall : ∀ a ∈ c, aOk a) (hk0 : k0 + c.flatten.length ≤ 60) (hu0 : (raw ps fo).drop k0 = c.flatten ++ v) :
    ∀ n i k x, i ≤ c.length → c.length < i + n → k + (c.drop i).flatten.length = k0 + c.flatten.length → (raw ps fo).drop k = (c.drop i).flatten ++ v → bs x (fun j => decide (j ≤ (nm T node).length) && mt c (nm T node) i j) → fX11_fitsName_15 n m (nI p) (nI (k0 + c.flatten.length)) (nI node) (nI (nm T node).length) x (nI k) (rf_M μ m S F) = some (bI (pfit c (nm T node)), rf_M μ m S F, 0, 0) := by
  obtain ⟨r6, r7, r8, r11, b1, b2, b3, r12, b4⟩ := hR node hnode
  have hch := h.2.1.2.2.2.2
  intro n
  induction n with
  | zero => intro i k x q1 q2; omega
  | succ n ih =>
    intro i k x q1 q2 hk hu hx
    unfold fX11_fitsName_15
    by_cases hi : i = c.length
    · subst hi
      rw [List.drop_length] at hk
      simp only [List.flatten_nil, List.length_nil, Nat.add_zero] at hk
      rw [hk, if_pos (nI_le (Nat.le_refl _) (by omega))]
      simp only [bs_t1 hx (show (nm T node).length < 32 by omega), fX11_fitsName_217, pg_z1, pg_z0, pg_o1, vg_ret]
      rw [decide_eq_true (Nat.le_refl _), Bool.true_and]
      unfold pfit
      cases mt c (nm T node) c.length (nm T node).length <;> rfl
    · have hil : i < c.length := by omega
      have hfd := flat_drop hil
      have ha : aOk (c.getD i []) := by rw [List.getD_eq_getElem?_getD, List.getElem?_eq_getElem hil]; exact hall _ (List.getElem_mem hil)
      have hane := aOk_ne ha
      have hal : 1 ≤ (c.getD i []).length := by cases hh : c.getD i [] with
        | nil => exact absurd hh hane
        | cons a b => simp
      rw [hfd, List.length_append] at hk
      rw [hfd, List.append_assoc] at hu
      rw [if_neg (nI_ge (by omega) (by omega))]
      have e0 := at_drop (j := 0) hu (by omega)
      rw [Nat.add_zero] at e0
      have hh : (c.getD i []).getD 0 0 = (c.getD i []).headD 0 := by cases c.getD i [] <;> rfl
      rw [hh] at e0
      simp only [rf_cv, rm_byteOf h (show k < 2 ^ 30 by omega), pg_b0, e0, oI, nI_1]
      rw [rm_fits36 h (by omega) hu ha]
      obtain ⟨z, z1, z2⟩ := rm_fitsJ (q15 := fX11_fitsName_15 n) (en := nI (k0 + c.flatten.length)) (c := c) (i := i) h hR hnode (show k ≤ 60 by omega) hu ha rfl hx vg_fuel 0 0 (Nat.zero_le _) (by rw [ps_fuel]; omega) (bs_eq bs_z fun j _ => by simp)
      rw [nI_0] at z1
      rw [z1]
      refine ih (i + 1) _ z (by omega) (by omega) (by omega) ?_ z2
      rw [← List.drop_drop, hu, List.drop_left]
theorem rm_fitsName {T : sT} {node k : Nat} {c : List (List Nat)} {v : List Nat} (h : RP p ps fo F) (hR : RTr T F) (hnode : node < 61) (hall : ∀ a ∈ c, aOk a) (hk : k + c.flatten.length ≤ 60) (hu : (raw ps fo).drop k = c.flatten ++ v) (hcl : c.length ≤ 8) :
    fX11_fitsName m (nI p) (nI k) (nI (k + c.flatten.length)) (nI node) (rf_M μ m S F) = some (bI (pfit c (nm T node)), rf_M μ m S F, 0, 0) := by
  obtain ⟨r6, r7, r8, r11, b1, b2, b3, r12, b4⟩ := hR node hnode
  unfold fX11_fitsName
  simp only [rf_r8, pg_o1, rf_a8 hnode, r8]
  refine rm_fitsL h hR hnode hall hk hu vg_fuel 0 k 1 (Nat.zero_le _) (by rw [ps_fuel]; omega) (by rw [List.drop_zero]) (by rw [List.drop_zero]; exact hu) (bs_eq bs_1 fun j _ => ?_)
  show decide (j = 0) = (decide (j ≤ (nm T node).length) && decide (j = 0))
  by_cases hj : j = 0
  · subst hj; simp
  · rw [decide_eq_false hj, Bool.and_false]
end
