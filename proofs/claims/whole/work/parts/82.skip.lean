/-! Sets of states of the class. -/
def cl (k s : Nat → Bool) : Nat → Bool
  | 0 => s 0
  | i + 1 => s (i + 1) || (k i && cl k s i)
def itn (k s : Nat → Bool) : Nat → Nat → Bool
  | 0, j => s j
  | n + 1, 0 => itn k s n 0
  | n + 1, j + 1 => itn k s n (j + 1) || (itn k s n j && k j)
section
variable {k s : Nat → Bool}
theorem itn_ok : ∀ n j, (s j = true → itn k s n j = true) ∧ (itn k s n j = true → cl k s j = true) ∧ (j ≤ n → itn k s n j = cl k s j) := by
  intro n
  induction n with
  | zero =>
    intro j
    refine ⟨fun h => h, fun h => ?_, fun h => ?_⟩
    · cases j with
      | zero => exact h
      | succ j => show (s (j + 1) || _) = true; rw [show s (j + 1) = true from h, Bool.true_or]
    · rw [show j = 0 by omega]; rfl
  | succ n ih =>
    intro j
    cases j with
    | zero =>
      obtain ⟨a, b, c⟩ := ih 0
      exact ⟨a, b, fun _ => c (Nat.zero_le _)⟩
    | succ j =>
      obtain ⟨a, b, c⟩ := ih (j + 1)
      obtain ⟨a', b', c'⟩ := ih j
      have up : itn k s (n + 1) (j + 1) = true → cl k s (j + 1) = true := by
        intro h
        have h : (itn k s n (j + 1) || (itn k s n j && k j)) = true := h
        rw [Bool.or_eq_true, Bool.and_eq_true] at h
        rcases h with h | h
        · exact b h
        · show (s (j + 1) || (k j && cl k s j)) = true
          rw [h.2, b' h.1, Bool.true_and, Bool.or_true]
      have lo : s (j + 1) = true → itn k s (n + 1) (j + 1) = true := fun h => by
        show (itn k s n (j + 1) || (itn k s n j && k j)) = true
        rw [a h, Bool.true_or]
      refine ⟨lo, up, fun h => ?_⟩
      rw [Bool.eq_iff_iff]
      refine ⟨up, fun hc => ?_⟩
      have hc : (s (j + 1) || (k j && cl k s j)) = true := hc
      rw [Bool.or_eq_true, Bool.and_eq_true] at hc
      rcases hc with hc | hc
      · exact lo hc
      · show (itn k s n (j + 1) || (itn k s n j && k j)) = true
        rw [c' (by omega), hc.2, hc.1, Bool.true_and, Bool.or_true]
theorem itn_big (hk : ∀ j, 8 ≤ j → k j = false) : ∀ n j, 8 < j → itn k s n j = s j := by
  intro n
  induction n with
  | zero => intro j _; rfl
  | succ n ih =>
    intro j hj
    obtain ⟨j, rfl⟩ : ∃ j', j = j' + 1 := ⟨j - 1, by omega⟩
    show (itn k s n (j + 1) || (itn k s n j && k j)) = _
    rw [hk j (by omega), Bool.and_false, Bool.or_false, ih (j + 1) hj]
theorem itn_cl (hk : ∀ j, 8 ≤ j → k j = false) (j : Nat) : itn k s 8 j = cl k s j := by
  by_cases hj : j ≤ 8
  · exact (itn_ok 8 j).2.2 hj
  · rw [itn_big hk 8 j (by omega)]
    obtain ⟨j, rfl⟩ : ∃ j', j = j' + 1 := ⟨j - 1, by omega⟩
    show _ = (s (j + 1) || (k j && cl k s j))
    rw [hk j (by omega), Bool.false_and, Bool.or_false]
theorem cl_skipL {v : Int32} {μ : vg_M} (hv : bs v k) : ∀ n i x, bs x (itn k s i) → i ≤ 8 → 8 < i + n → ∃ y, fX10_withSkipped_4 n v x (nI i) μ = some (y, μ, 0, 0) ∧ bs y (itn k s 8) := by
  intro n
  induction n with
  | zero => intro i x _ hi hn; omega
  | succ n ih =>
    intro i x hx hi hn
    rw [fX10_withSkipped_4]
    by_cases h8 : i = 8
    · rw [if_pos (show (8 : Int32) ≤ nI i by rw [h8]; decide)]
      exact ⟨x, rfl, by rw [h8] at hx; exact hx⟩
    · rw [if_neg (show ¬ (8 : Int32) ≤ nI i from nI_ge (b := 8) (by omega) (by decide)), nI_1]
      refine ih (i + 1) _ ?_ (by omega) (by omega)
      intro j hj
      rw [b_or, hx j hj, show (1 : Int32) = nI 1 from rfl, b_shl 1 (by decide) _ hj]
      cases j with
      | zero => rw [decide_eq_false (by decide), Bool.false_and, Bool.or_false]; rfl
      | succ j => rw [decide_eq_true (by omega), Bool.true_and, Nat.add_sub_cancel, b_and, hx j (by omega), hv j (by omega)]; rfl
theorem cl_skip {x v : Int32} {μ : vg_M} (hx : bs x s) (hv : bs v k) (hk : ∀ j, 8 ≤ j → k j = false) : ∃ y, fX10_withSkipped x v μ = some (y, μ, 0, 0) ∧ bs y (cl k s) := by
  obtain ⟨y, h1, h2⟩ := cl_skipL (μ := μ) (s := s) hv vg_fuel 0 x (fun j hj => hx j hj) (by decide) (by rw [ps_fuel]; omega)
  rw [nI_0] at h1
  exact ⟨y, h1, bs_eq h2 (fun j _ => itn_cl hk j)⟩
theorem clo_cl {ps : List (List (List Nat))} : ∀ j, clo ps s j = cl (dpf ps) s j := by
  intro j
  induction j with
  | zero => rfl
  | succ j ih => show (s (j + 1) || (dpf ps j && clo ps s j)) = (s (j + 1) || (dpf ps j && cl (dpf ps) s j)); rw [ih]
end
-- parts and pieces
def cq_t (g : pg_G) (τ y : Nat) (ls : List Nat) : Prop := ∃ s, g.1.1 y = some (.inr (5, [.ref s])) ∧ g.2 y = τ ∧ ps_S g s ls
def stb (c : List (List Nat)) (j : Nat) : Bool := decide (c.getD j [] = [42])
def cq_q (g : pg_G) (τ x : Nat) (c : List (List Nat)) : Prop := ∃ l st ps, g.1.1 x = some (.inr (9, [.int 0, .ref l, .int st])) ∧ g.2 x = τ ∧ pl_L g τ l 5 ps ∧ ps.length = c.length ∧ c.length ≤ 8 ∧ (∀ i, i < c.length → cq_t g τ (ps.getD i 0) (lets (c.getD i []))) ∧ bs st (stb c)
def cq_d (g : pg_G) (τ x : Nat) : Prop := ∃ l st, g.1.1 x = some (.inr (9, [.int 1, .ref l, .int st])) ∧ g.2 x = τ
def cq_c (g : pg_G) (τ x : Nat) (c : List (List Nat)) : Prop := (c = dpP ∧ cq_d g τ x) ∨ (c ≠ dpP ∧ cq_q g τ x c)
section
variable {g g' : pg_G} {τ x : Nat} {c : List (List Nat)} {W : Nat → Prop}
theorem cq_t.ext {ls : List Nat} (h : cq_t g τ x ls) (hg : pg_Wf g) (he : pg_Ext W g g') (hw : ¬ W τ) (h0 : ¬ W 0) : cq_t g' τ x ls := by
  obtain ⟨s, h1, h2, h3⟩ := h
  exact ⟨s, he.at hg h1 (by rw [h2]; exact hw), by rw [he.tag hg h1, h2], h3.ext hg he h0⟩
theorem cq_q.ext (h : cq_q g τ x c) (hg : pg_Wf g) (he : pg_Ext W g g') (hw : ¬ W τ) (h0 : ¬ W 0) : cq_q g' τ x c := by
  obtain ⟨l, st, ps, h1, h2, h3, h4, h5, h6, h7⟩ := h
  exact ⟨l, st, ps, he.at hg h1 (by rw [h2]; exact hw), by rw [he.tag hg h1, h2], h3.ext hg he (by decide) hw, h4, h5, fun i hi => (h6 i hi).ext hg he hw h0, h7⟩
theorem cq_d.ext (h : cq_d g τ x) (hg : pg_Wf g) (he : pg_Ext W g g') (hw : ¬ W τ) : cq_d g' τ x := by
  obtain ⟨l, st, h1, h2⟩ := h
  exact ⟨l, st, he.at hg h1 (by rw [h2]; exact hw), by rw [he.tag hg h1, h2]⟩
theorem cq_c.ext (h : cq_c g τ x c) (hg : pg_Wf g) (he : pg_Ext W g g') (hw : ¬ W τ) (h0 : ¬ W 0) : cq_c g' τ x c :=
  h.elim (fun h => Or.inl ⟨h.1, h.2.ext hg he hw⟩) (fun h => Or.inr ⟨h.1, h.2.ext hg he hw h0⟩)
theorem stb_out {j : Nat} (h : c.length ≤ j) : stb c j = false := by
  unfold stb
  rw [List.getD_eq_getElem?_getD, List.getElem?_eq_none h]; rfl
/-- states behind a letter -/
def bhd (c : List (List Nat)) (s : Nat → Bool) (d i : Nat) : Nat → Bool
  | 0 => stb c 0 && s 0
  | j + 1 => (stb c (j + 1) && s (j + 1)) || (decide (j < i) && s j && (lets (c.getD j [])).contains d)
theorem cq_bhdL {v : Int32} {s : Nat → Bool} {d : Nat} (h : cq_q g τ x c) (hv : bs v s) (hd : d < 128) : ∀ n i y, i ≤ c.length → c.length < i + n → bs y (bhd c s d i) → ∃ r, fX6_behind_10 n x v (nI d) y (nI i) g.1 = some (r, g.1, 0, 0) ∧ bs r (bhd c s d c.length) := by
  obtain ⟨l, st, ps, h1, h2, h3, h4, h5, h6, h7⟩ := h
  obtain ⟨fl, hlo⟩ := pl_is h3
  intro n
  induction n with
  | zero => intro i y hi hn; omega
  | succ n ih =>
    intro i y hi hn hy
    rw [fX6_behind_10]
    simp only [pg_gR h1 (k := 1) rfl, pg_o1, pg_cv hlo, pl_size h3, pg_b0, h4]
    by_cases hie : i = c.length
    · rw [if_pos (nI_le (by omega) (by omega))]
      exact ⟨y, rfl, by rw [hie] at hy; exact hy⟩
    · have hlt : i < c.length := by omega
      rw [if_neg (nI_ge hlt (by omega))]
      have skip : s i = false ∨ (lets (c.getD i [])).contains d = false → bs y (bhd c s d (i + 1)) := by
        intro hh
        refine bs_eq hy (fun j hj => ?_)
        cases j with
        | zero => rfl
        | succ j =>
          show ((stb c (j + 1) && s (j + 1)) || (decide (j < i) && s j && (lets (c.getD j [])).contains d)) = ((stb c (j + 1) && s (j + 1)) || (decide (j < i + 1) && s j && (lets (c.getD j [])).contains d))
          by_cases hji : j = i
          · rw [hji, decide_eq_false (by omega), decide_eq_true (by omega)]
            rcases hh with hh | hh
            · rw [hh]; rfl
            · rw [hh, Bool.and_false, Bool.and_false]
          · by_cases hlt2 : j < i
            · rw [decide_eq_true hlt2, decide_eq_true (by omega)]
            · rw [decide_eq_false hlt2, decide_eq_false (by omega)]
      cases hs : s i with
      | false =>
        rw [if_pos ((bs_t0 hv (by omega)).mpr hs), fX6_behind_62, nI_1]
        exact ih (i + 1) y (by omega) (by omega) (skip (Or.inl hs))
      | true =>
        rw [if_neg (fun h => by rw [(bs_t0 hv (by omega)).mp h] at hs; cases hs)]
        obtain ⟨sx, hx1, hx2, hx3⟩ := h6 i hlt
        obtain ⟨fs, hso⟩ := ps_o hx3
        obtain ⟨r, hr1, hr2⟩ := ps_indexOf hx3 hd
        rw [pl_get h3 (by omega), pg_b0, pg_ckO hx1, pg_o1, pg_gR hx1 (k := 0) rfl, pg_o1, pg_o1, pg_cv hso, hr1, pg_b0]
        by_cases hm : d ∈ lets (c.getD i [])
        · rw [if_neg (fun h => hr2.mp h hm), fX6_behind_62, nI_1]
          refine ih (i + 1) _ (by omega) (by omega) (bs_eq (bs_or hy (bs_s1 (i := i + 1) (by omega))) (fun j hj => ?_))
          cases j with
          | zero => show (stb c 0 && s 0 || decide (0 = i + 1)) = _; rw [decide_eq_false (by omega), Bool.or_false]; rfl
          | succ j =>
            show (((stb c (j + 1) && s (j + 1)) || (decide (j < i) && s j && (lets (c.getD j [])).contains d)) || decide (j + 1 = i + 1)) = ((stb c (j + 1) && s (j + 1)) || (decide (j < i + 1) && s j && (lets (c.getD j [])).contains d))
            by_cases hji : j = i
            · rw [hji, decide_eq_true (p := i < i + 1) (by omega), hs, List.contains_iff_mem.mpr hm, decide_eq_true (p := i + 1 = i + 1) rfl, Bool.or_true, Bool.true_and, Bool.true_and, Bool.or_true]
            · rw [decide_eq_false (p := j + 1 = i + 1) (by omega), Bool.or_false]
              by_cases hlt2 : j < i
              · rw [decide_eq_true hlt2, decide_eq_true (by omega)]
              · rw [decide_eq_false hlt2, decide_eq_false (by omega)]
        · rw [if_pos (hr2.mpr hm), fX6_behind_62, nI_1]
          refine ih (i + 1) y (by omega) (by omega) (skip (Or.inr ?_))
          cases hc : (lets (c.getD i [])).contains d with
          | false => rfl
          | true => exact absurd (List.contains_iff_mem.mp hc) hm
/-- how far a piece may be used up -/
def D (c : List (List Nat)) (w : List Nat) (j i : Nat) : Bool := decide (i ≤ c.length) && (if c.getD i [] = [42] then mt c w (i + 1) j else mt c w i j)
theorem mt_star {w : List Nat} {i j : Nat} (h : c.getD i [] = [42]) : mt c w (i + 1) (j + 1) = (mt c w (i + 1) j || mt c w i (j + 1)) := by
  rw [Bool.eq_iff_iff, mt_any h, Bool.or_eq_true, mt_any h]
  constructor
  · rintro ⟨j', h1, h2⟩
    by_cases hj : j' ≤ j
    · exact Or.inl ⟨j', hj, h2⟩
    · exact Or.inr (by rw [show j + 1 = j' by omega]; exact h2)
  · rintro (⟨j', h1, h2⟩ | h)
    · exact ⟨j', by omega, h2⟩
    · exact ⟨j + 1, Nat.le_refl _, h⟩
theorem mt_nst {w : List Nat} {i j : Nat} (h : c.getD i [] ≠ [42]) : mt c w (i + 1) (j + 1) = (mt c w i j && (lets (c.getD i [])).contains (w.getD j 0)) := by
  rw [mt, if_neg h, decide_eq_true (by omega), Bool.true_and, Nat.add_sub_cancel]
theorem getD_out {i : Nat} (h : c.length ≤ i) : c.getD i [] = [] := by rw [List.getD_eq_getElem?_getD, List.getElem?_eq_none h]; rfl
theorem D_0 {w : List Nat} : ∀ i, cl (stb c) (fun j => decide (j = 0)) i = D c w 0 i := by
  have key : ∀ i, cl (stb c) (fun j => decide (j = 0)) i = (decide (i ≤ c.length) && mt c w i 0) := by
    intro i
    induction i with
    | zero => rw [decide_eq_true (Nat.zero_le _)]; rfl
    | succ i ih =>
      show (decide (i + 1 = 0) || (stb c i && cl (stb c) (fun j => decide (j = 0)) i)) = _
      rw [decide_eq_false (by omega), Bool.false_or, ih]
      unfold stb
      by_cases hs : c.getD i [] = [42]
      · have hlt : i < c.length := Classical.byContradiction (fun h => by rw [getD_out (by omega)] at hs; cases hs)
        rw [decide_eq_true hs, decide_eq_true (by omega), decide_eq_true (by omega), Bool.true_and, Bool.true_and, Bool.true_and, Bool.eq_iff_iff, mt_any hs]
        exact ⟨fun h => ⟨0, Nat.le_refl _, h⟩, fun ⟨j', h1, h2⟩ => by rw [show j' = 0 by omega] at h2; exact h2⟩
      · rw [decide_eq_false hs, Bool.false_and, mt, if_neg hs, decide_eq_false (p := 0 < 0) (by omega), Bool.false_and, Bool.false_and, Bool.and_false]
  intro i
  rw [key i]
  unfold D
  by_cases hs : c.getD i [] = [42]
  · rw [if_pos hs]
    congr 1
    rw [Bool.eq_iff_iff, mt_any hs]
    exact ⟨fun h => ⟨0, Nat.le_refl _, h⟩, fun ⟨j', h1, h2⟩ => by rw [show j' = 0 by omega] at h2; exact h2⟩
  · rw [if_neg hs]
theorem D_step {w : List Nat} {j : Nat} : ∀ i, cl (stb c) (bhd c (D c w j) (w.getD j 0) c.length) i = D c w (j + 1) i := by
  intro i
  induction i with
  | zero =>
    show (stb c 0 && D c w j 0) = D c w (j + 1) 0
    unfold stb D
    rw [decide_eq_true (Nat.zero_le _), Bool.true_and, Bool.true_and]
    by_cases hs : c.getD 0 [] = [42]
    · rw [if_pos hs, if_pos hs, decide_eq_true hs, Bool.true_and, mt_star hs]
      show _ = (mt c w 1 j || decide (j + 1 = 0))
      rw [decide_eq_false (by omega), Bool.or_false]
    · rw [if_neg hs, if_neg hs, decide_eq_false hs, Bool.false_and]
      show false = decide (j + 1 = 0)
      rw [decide_eq_false (by omega)]
  | succ i ih =>
    show (((stb c (i + 1) && D c w j (i + 1)) || (decide (i < c.length) && D c w j i && (lets (c.getD i [])).contains (w.getD j 0))) || (stb c i && cl (stb c) (bhd c (D c w j) (w.getD j 0) c.length) i)) = D c w (j + 1) (i + 1)
    rw [ih]
    by_cases hlt : i < c.length
    · have e1 : ((decide (i < c.length) && D c w j i && (lets (c.getD i [])).contains (w.getD j 0)) || (stb c i && D c w (j + 1) i)) = mt c w (i + 1) (j + 1) := by
        unfold D stb
        rw [decide_eq_true hlt, decide_eq_true (p := i ≤ c.length) (by omega), Bool.true_and, Bool.true_and, Bool.true_and]
        by_cases hs : c.getD i [] = [42]
        · rw [if_pos hs, if_pos hs, decide_eq_true hs, Bool.true_and, hs, lets_star]
          simp only [List.contains_nil, Bool.and_false, Bool.false_or]
        · rw [if_neg hs, decide_eq_false hs, Bool.false_and, Bool.or_false, mt_nst hs]
      rw [Bool.or_assoc, e1]
      unfold D stb
      rw [decide_eq_true (p := i + 1 ≤ c.length) (by omega), Bool.true_and, Bool.true_and]
      by_cases hs : c.getD (i + 1) [] = [42]
      · rw [if_pos hs, if_pos hs, decide_eq_true hs, Bool.true_and, mt_star hs]
      · rw [if_neg hs, if_neg hs, decide_eq_false hs, Bool.false_and, Bool.false_or]
    · unfold D
      rw [stb_out (c := c) (j := i + 1) (by omega), stb_out (c := c) (j := i) (by omega), decide_eq_false hlt, decide_eq_false (p := i + 1 ≤ c.length) (by omega)]
      rfl
theorem cl_zero {k s : Nat → Bool} (h : ∀ j, s j = false) : ∀ j, cl k s j = false := by
  intro j
  induction j with
  | zero => exact h 0
  | succ j ih => show (s (j + 1) || (k j && cl k s j)) = false; rw [h, ih, Bool.and_false]; rfl
theorem bhd_zero {s : Nat → Bool} {d i : Nat} (h : ∀ j, s j = false) : ∀ j, bhd c s d i j = false := by
  intro j
  cases j with
  | zero => show (stb c 0 && s 0) = false; rw [h, Bool.and_false]
  | succ j => show ((stb c (j + 1) && s (j + 1)) || (decide (j < i) && s j && (lets (c.getD j [])).contains d)) = false; rw [h, h, Bool.and_false, Bool.and_false, Bool.false_and]; rfl
theorem D_dead {w : List Nat} {j : Nat} (h : ∀ i, D c w j i = false) : ∀ n i, D c w (j + n) i = false := by
  intro n
  induction n with
  | zero => exact h
  | succ n ih =>
    intro i
    rw [show j + (n + 1) = (j + n) + 1 by omega, ← D_step]
    exact cl_zero (bhd_zero ih) i
theorem D_end {w : List Nat} : D c w w.length c.length = pfit c w := by
  unfold D pfit
  rw [decide_eq_true (Nat.le_refl _), Bool.true_and, getD_out (Nat.le_refl _), if_neg (by decide)]
theorem D_32 {w : List Nat} {j i : Nat} (hc : c.length ≤ 8) (hi : 32 ≤ i) : D c w j i = false := by
  unfold D
  rw [decide_eq_false (by omega), Bool.false_and]
theorem cq_fitsL {b : Nat} {w : List Nat} (h : cq_q g τ x c) (hs : ps_S g b w) : ∀ n j v, j ≤ w.length → w.length < j + n → bs v (D c w j) → fX6_fits_11 n x (some b) v (nI j) g.1 = some (bI (pfit c w), g.1, 0, 0) := by
  obtain ⟨l, st, ps, h1, h2, h3, h4, h5, h6, h7⟩ := id h
  obtain ⟨fl, hlo⟩ := pl_is h3
  obtain ⟨fs, hso⟩ := ps_o hs
  have hlw := ps_len hs
  have fin : ∀ v j, bs v (D c w j) → (j = w.length ∨ v = 0) → j ≤ w.length → fX6_fits_47 x v g.1 = some (bI (pfit c w), g.1, 0, 0) := by
    intro v j hv hj hjw
    simp only [fX6_fits_47, pg_gR h1 (k := 1) rfl, pg_o1, pg_cv hlo, pl_size h3, pg_b0, h4, fX6_fits_66, pg_z0, pg_z1, vu_ret]
    have key : D c w j c.length = pfit c w := by
      rcases hj with hj | hj
      · rw [hj, D_end]
      · have hz : ∀ i, D c w j i = false := fun i => by
          by_cases hi : i < 32
          · exact (bs_0 hv).mp hj i hi
          · exact D_32 h5 (by omega)
        have := D_dead hz (w.length - j) c.length
        rw [show j + (w.length - j) = w.length by omega, D_end] at this
        rw [hz, this]
    rw [← key]
    cases hd : D c w j c.length with
    | false => rw [if_pos ((bs_t0 hv (by omega)).mpr hd)]; rfl
    | true => rw [if_neg (fun h => by rw [(bs_t0 hv (by omega)).mp h] at hd; cases hd)]; rfl
  intro n
  induction n with
  | zero => intro j v hj hn; omega
  | succ n ih =>
    intro j v hj hn hv
    rw [fX6_fits_11]
    simp only [pg_o1, pg_cv hso, ps_length hs, pg_b0]
    by_cases hje : j = w.length
    · rw [if_pos (nI_le (by omega) (by omega))]
      exact fin v j hv (Or.inl hje) hj
    · have hlt : j < w.length := by omega
      rw [if_neg (nI_ge hlt (by omega))]
      by_cases hv0 : v = 0
      · rw [if_pos hv0]
        exact fin v j hv (Or.inr hv0) hj
      · rw [if_neg hv0, ps_charAt hs hlt, pg_b0, pg_cv h1, fX6_behind, pg_gI h1 (k := 2) rfl, pg_o1]
        have b0 : bs (v &&& st) (bhd c (D c w j) (w.getD j 0) 0) := bs_eq (bs_and hv h7) (fun i hi => by
          cases i with
          | zero => exact Bool.and_comm _ _
          | succ i => show (D c w j (i + 1) && stb c (i + 1)) = ((stb c (i + 1) && D c w j (i + 1)) || (decide (i < 0) && _ && _)); rw [decide_eq_false (by omega), Bool.false_and, Bool.false_and, Bool.or_false, Bool.and_comm])
        obtain ⟨r, hr1, hr2⟩ := cq_bhdL h hv (ps_get (ps_lt hs) j hlt) vg_fuel 0 _ (Nat.zero_le _) (by rw [ps_fuel]; omega) b0
        rw [nI_0] at hr1
        rw [hr1, pg_b0, pg_gI h1 (k := 2) rfl, pg_o1]
        obtain ⟨y, hy1, hy2⟩ := cl_skip (μ := g.1) hr2 h7 (fun i hi => stb_out (by omega))
        rw [hy1, pg_b0, nI_1]
        exact ih (j + 1) y (by omega) (by omega) (bs_eq hy2 (fun i _ => D_step i))
theorem cq_fits {b : Nat} {w : List Nat} (h : cq_q g τ x c) (hs : ps_S g b w) : fX6_fits x (some b) g.1 = some (bI (pfit c w), g.1, 0, 0) := by
  obtain ⟨l, st, ps, h1, h2, h3, h4, h5, h6, h7⟩ := id h
  have hlw := ps_len hs
  obtain ⟨y, hy1, hy2⟩ := cl_skip (μ := g.1) bs_1 h7 (fun i hi => stb_out (c := c) (by omega))
  rw [fX6_fits, pg_gI h1 (k := 2) rfl, pg_o1, hy1, pg_b0, ← nI_0]
  exact cq_fitsL h hs vg_fuel 0 y (Nat.zero_le _) (by rw [ps_fuel]; omega) (bs_eq hy2 (fun i _ => D_0 i))
end
