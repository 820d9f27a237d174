/-! Matching: the pure table, and the reference's way. -/
def lets (a : List Nat) : List Nat := if a = [42] then [] else if a.length = 1 then a else (a.drop 1).dropLast
/-- the first i parts take the first j letters -/
def mt (c : List (List Nat)) (w : List Nat) : Nat → Nat → Bool
  | 0, j => decide (j = 0)
  | i + 1, j => if c.getD i [] = [42] then (List.range (j + 1)).any (fun j' => mt c w i j') else decide (0 < j) && mt c w i (j - 1) && (lets (c.getD i [])).contains (w.getD (j - 1) 0)
def pfit (c : List (List Nat)) (w : List Nat) : Bool := mt c w c.length w.length
def dpf (ps : List (List (List Nat))) (i : Nat) : Bool := decide (ps[i]? = some dpP)
def clo (ps : List (List (List Nat))) (s : Nat → Bool) : Nat → Bool
  | 0 => s 0
  | i + 1 => s (i + 1) || (dpf ps i && clo ps s i)
def stp (ps : List (List (List Nat))) (s : Nat → Bool) (w : List Nat) : Nat → Bool
  | 0 => dpf ps 0 && s 0
  | j + 1 => (dpf ps (j + 1) && s (j + 1)) || (decide (j < ps.length) && !dpf ps j && s j && pfit (ps.getD j []) w)
def pbits (ps : List (List (List Nat))) : List (List Nat) → Nat → Bool
  | tr => tr.foldl (fun s w => clo ps (stp ps s w)) (clo ps (fun j => decide (j = 0)))
theorem mt_any {c : List (List Nat)} {w : List Nat} {i j : Nat} (h : c.getD i [] = [42]) : mt c w (i + 1) j = true ↔ ∃ j', j' ≤ j ∧ mt c w i j' = true := by
  have e : mt c w (i + 1) j = if c.getD i [] = [42] then (List.range (j + 1)).any (fun j' => mt c w i j') else decide (0 < j) && mt c w i (j - 1) && (lets (c.getD i [])).contains (w.getD (j - 1) 0) := rfl
  rw [e, if_pos h, List.any_eq_true]
  constructor
  · rintro ⟨x, hx, h⟩; exact ⟨x, by rw [List.mem_range] at hx; omega, h⟩
  · rintro ⟨x, hx, h⟩; exact ⟨x, by rw [List.mem_range]; omega, h⟩
/-- a pattern's text in the reference -/
def RP (p : Nat) (ps : List (List (List Nat))) (fo : Bool) (F : Nat → Nat → Int32) : Prop := p < 48 ∧ Pok ps fo ∧ F 20 p = nI (raw ps fo).length ∧ ∀ k, k < (raw ps fo).length → F 22 (60 * p + k) = nI ((raw ps fo).getD k 0)
section
variable {μ : vg_M} {m : Nat} {S : Nat → Int32} {F : Nat → Nat → Int32} {p : Nat} {ps : List (List (List Nat))} {fo : Bool}
theorem rm_byteOf {k : Nat} (h : RP p ps fo F) (hk : k < 2 ^ 30) : fX11_byteOf m (nI p) (nI k) (rf_M μ m S F) = some (oI ((raw ps fo)[k]?), rf_M μ m S F, 0, 0) := by
  obtain ⟨h1, h2, h3, h4⟩ := h
  have h60 := h2.2.2.2.1
  unfold fX11_byteOf
  simp only [rf_r20, pg_o1, rf_a20 h1, h3, nI_leI (show (raw ps fo).length < 2 ^ 31 by omega) (show k < 2 ^ 31 by omega), fX11_byteOf_25, vg_ret]
  by_cases hl : (raw ps fo).length ≤ k
  · rw [if_pos hl, List.getElem?_eq_none hl]; rfl
  · rw [if_neg hl]
    have hk2 : k < (raw ps fo).length := by omega
    simp only [rf_r22, pg_o1, show (60 : Int32) = nI 60 from rfl, pk_mul, nI_add, rf_a22 (show 60 * p + k < 2880 by omega), h4 k hk2, List.getElem?_eq_getElem hk2, oI, ls_get hk2]
/-- signs of parts: none is a slash -/
theorem aOk_47 {a : List Nat} (h : aOk a) : (47 : Nat) ∉ a := by
  rcases h with h | ⟨c, hc, h⟩ | ⟨l, h, h1, h2, h3⟩
  · rw [h]; decide
  · rw [h]; intro q; rw [List.mem_singleton] at q; exact (sg_no hc).1 q.symm
  · rw [h]; intro q
    rcases List.mem_cons.mp q with q | q
    · cases q
    · rcases List.mem_append.mp q with q | q
      · exact (sg_no (List.all_eq_true.mp h3 _ q)).1 rfl
      · rw [List.mem_singleton] at q; cases q
theorem cOk_47 {c : List (List Nat)} (h : cOk c) : (47 : Nat) ∉ c.flatten := by
  rcases h with h | ⟨-, -, h, -⟩
  · rw [h]; decide
  · intro q
    rw [List.mem_flatten] at q
    obtain ⟨a, ha, hq⟩ := q
    exact aOk_47 (h a ha) hq
theorem cOk_ne {c : List (List Nat)} (h : cOk c) : 1 ≤ c.flatten.length := by
  rcases h with h | ⟨h1, -, h, -⟩
  · rw [h]; decide
  · cases c with
    | nil => simp at h1
    | cons a r =>
      have := aOk_ne (h a (by simp))
      cases a with
      | nil => exact absurd rfl this
      | cons x y => simp
/-- what stands behind the pieces before i -/
theorem raw_cons {c : List (List Nat)} {r : List (List (List Nat))} {fo : Bool} : raw (c :: r) fo = c.flatten ++ (if r = [] then (if fo then [47] else []) else 47 :: raw r fo) := by
  cases r with
  | nil => rfl
  | cons a b => rw [if_neg (by simp)]; rfl
theorem at_drop {t u v : List Nat} {k j : Nat} (h : t.drop k = u ++ v) (hj : j < u.length) : t[k + j]? = some (u.getD j 0) := by
  have e : (t.drop k)[j]? = t[k + j]? := List.getElem?_drop
  rw [← e, h, List.getElem?_append_left hj, List.getElem?_eq_getElem hj, ls_get hj]
theorem at_drop2 {t u v : List Nat} {k : Nat} (h : t.drop k = u ++ v) : t[k + u.length]? = v.head? := by
  have e : (t.drop k)[u.length]? = t[k + u.length]? := List.getElem?_drop
  rw [← e, h, List.getElem?_append_right (Nat.le_refl _), Nat.sub_self, List.head?_eq_getElem?]
theorem rm_pieceEndL {k : Nat} {u v : List Nat} (h : RP p ps fo F) (hu : (raw ps fo).drop k = u ++ v) (h47 : (47 : Nat) ∉ u) (hv : v = [] ∨ v.head? = some 47) (hk : k ≤ 100) (hul : u.length ≤ 100) : ∀ n j, j ≤ u.length → u.length < j + n → fX11_pieceEnd_2 n m (nI p) (nI (k + j)) (rf_M μ m S F) = some (nI (k + u.length), rf_M μ m S F, 0, 0) := by
  have hc := h.2.1.2.2.2.2
  intro n
  induction n with
  | zero => intro j h1 h2; omega
  | succ n ih =>
    intro j h1 h2
    unfold fX11_pieceEnd_2
    simp only [rf_cv, rm_byteOf h (show k + j < 2 ^ 30 by omega), pg_b0, oI_m hc, oI_c hc (k + j) 47 47 rfl (by decide) (by decide), fX11_pieceEnd_29, vg_ret]
    by_cases hj : j = u.length
    · subst hj
      rw [at_drop2 hu]
      rcases hv with hv | hv
      · rw [hv]; rfl
      · rw [hv]; rfl
    · have hjl : j < u.length := by omega
      rw [at_drop hu hjl]
      have hne : u.getD j 0 ≠ 47 := fun e => h47 (by rw [← e, ls_get hjl]; exact List.getElem_mem hjl)
      rw [if_neg (by simp), if_neg (by simpa using hne), nI_1]
      exact ih (j + 1) (by omega) (by omega)
theorem rm_pieceEnd {k : Nat} {u v : List Nat} (h : RP p ps fo F) (hu : (raw ps fo).drop k = u ++ v) (h47 : (47 : Nat) ∉ u) (hv : v = [] ∨ v.head? = some 47) (hk : k ≤ 100) : fX11_pieceEnd m (nI p) (nI k) (rf_M μ m S F) = some (nI (k + u.length), rf_M μ m S F, 0, 0) := by
  have hul : u.length ≤ 60 := by
    have e := congrArg List.length hu
    rw [List.length_drop, List.length_append] at e
    have := h.2.1.2.2.2.1
    omega
  exact rm_pieceEndL h hu h47 hv hk (by omega) vg_fuel 0 (Nat.zero_le _) (by rw [ps_fuel]; omega)
theorem aOk_star {a : List Nat} (h : aOk a) : a.head? = some 42 ↔ a = [42] := by
  rcases h with h | ⟨c, hc, h⟩ | ⟨l, h, h1, h2, h3⟩
  · rw [h]; simp
  · rw [h]
    have := (sg_no hc).2.1
    simp
  · rw [h]; simp
/-- only ** has two signs that are stars -/
theorem cOk_deep {c : List (List Nat)} (h : cOk c) : c = dpP ↔ c.flatten.length = 2 ∧ c.flatten.getD 0 0 = 42 ∧ c.flatten.getD 1 0 = 42 := by
  constructor
  · intro e; rw [e]; decide
  · rintro ⟨h1, h2, h3⟩
    rcases h with h | ⟨q1, q2, q3, q4⟩
    · exact h
    · exfalso
      cases c with
      | nil => simp at q1
      | cons a r =>
        have ha := q3 a (by simp)
        have hane := aOk_ne ha
        have h0 : a.head? = some 42 := by
          cases a with
          | nil => exact absurd rfl hane
          | cons x y => simpa using h2
        have ea := (aOk_star ha).mp h0
        subst ea
        cases r with
        | nil => simp at h1
        | cons b r =>
          have hb := q3 b (by simp)
          have hbne := aOk_ne hb
          have h0 : b.head? = some 42 := by
            cases b with
            | nil => exact absurd rfl hbne
            | cons x y => simpa using h3
          have eb := (aOk_star hb).mp h0
          subst eb
          exact q4 rfl
theorem rm_isStars {k : Nat} {c : List (List Nat)} {v : List Nat} (h : RP p ps fo F) (hc : cOk c) (hu : (raw ps fo).drop k = c.flatten ++ v) (hk : k ≤ 100) : fX11_isStars m (nI p) (nI k) (nI (k + c.flatten.length)) (rf_M μ m S F) = some (bI (decide (c = dpP)), rf_M μ m S F, 0, 0) := by
  have hch := h.2.1.2.2.2.2
  have hul : c.flatten.length ≤ 60 := by
    have e := congrArg List.length hu
    rw [List.length_drop, List.length_append] at e
    have := h.2.1.2.2.2.1
    omega
  have hd := cOk_deep hc
  unfold fX11_isStars
  simp only [show (2 : Int32) = nI 2 from rfl, nI_add, nI_1, nI_eq (show k + c.flatten.length < 2 ^ 31 by omega) (show k + 2 < 2 ^ 31 by omega), rf_cv, rm_byteOf h (show k < 2 ^ 30 by omega), rm_byteOf h (show k + 1 < 2 ^ 30 by omega), pg_b0, oI_c hch k 42 42 rfl (by decide) (by decide), oI_c hch (k + 1) 42 42 rfl (by decide) (by decide), fX11_isStars_35, fX11_isStars_36, pg_z1, pg_z0, pg_o1, vg_ret]
  by_cases h2 : c.flatten.length = 2
  · rw [if_pos (by omega)]
    have e0 := at_drop (j := 0) hu (by omega)
    have e1 := at_drop (j := 1) hu (by omega)
    rw [Nat.add_zero] at e0
    rw [e0, e1]
    by_cases c0 : c.flatten.getD 0 0 = 42
    · rw [if_pos (by rw [c0])]
      by_cases c1 : c.flatten.getD 1 0 = 42
      · rw [if_pos (by rw [c1]), decide_eq_true (hd.mpr ⟨h2, c0, c1⟩)]; rfl
      · rw [if_neg (by simpa using c1), decide_eq_false (fun e => c1 (hd.mp e).2.2)]; rfl
    · rw [if_neg (by simpa using c0), decide_eq_false (fun e => c0 (hd.mp e).2.1)]; rfl
  · rw [if_neg (by omega), decide_eq_false (fun e => h2 (hd.mp e).1)]; rfl
/-- slashes but for the last sign -/
def nsl : List Nat → Nat
  | [] => 0
  | [_] => 0
  | x :: y :: l => (if x = 47 then 1 else 0) + nsl (y :: l)
theorem nsl_app {u v : List Nat} (h : (47 : Nat) ∉ u) : nsl (u ++ v) = nsl v := by
  induction u with
  | nil => rfl
  | cons x u ih =>
    have hx : x ≠ 47 := fun e => h (by rw [e]; simp)
    have ih := ih (fun q => h (by simp [q]))
    cases u with
    | nil =>
      cases v with
      | nil => rfl
      | cons y v => show (if x = 47 then 1 else 0) + nsl (y :: v) = _; rw [if_neg hx, Nat.zero_add]
    | cons y u => show (if x = 47 then 1 else 0) + nsl (y :: (u ++ v)) = _; rw [if_neg hx, Nat.zero_add]; exact ih
theorem raw_nsl : ∀ (ps : List (List (List Nat))) (fo : Bool), ps ≠ [] → (∀ c ∈ ps, cOk c) → nsl (raw ps fo) + 1 = ps.length := by
  intro ps
  induction ps with
  | nil => intro fo h; exact absurd rfl h
  | cons c r ih =>
    intro fo _ hc
    rw [raw_cons, nsl_app (cOk_47 (hc c (by simp)))]
    by_cases hr : r = []
    · subst hr; rw [if_pos rfl]; cases fo <;> rfl
    · rw [if_neg hr]
      have := ih fo hr (fun c h => hc c (by simp [h]))
      cases hx : raw r fo with
      | nil =>
        exfalso
        cases r with
        | nil => exact hr rfl
        | cons d r =>
          rw [raw_cons] at hx
          have h1 := cOk_ne (hc d (by simp))
          have h2 := congrArg List.length hx
          rw [List.length_append, List.length_nil] at h2
          omega
      | cons y l =>
        rw [hx] at this
        show (if (47 : Nat) = 47 then 1 else 0) + nsl (y :: l) + 1 = _
        rw [if_pos rfl, List.length_cons]; omega
theorem rm_piecesL (h : RP p ps fo F) : ∀ n k c, k ≤ (raw ps fo).length → (raw ps fo).length < k + n → fX11_pieces_4 n m (nI p) (nI c) (nI k) (rf_M μ m S F) = some (nI (c + nsl ((raw ps fo).drop k)), rf_M μ m S F, 0, 0) := by
  obtain ⟨h1, h2, h3, h4⟩ := id h
  have h60 := h2.2.2.2.1
  have hch := h2.2.2.2.2
  intro n
  induction n with
  | zero => intro k c q1 q2; omega
  | succ n ih =>
    intro k c q1 q2
    unfold fX11_pieces_4
    simp only [rf_r20, pg_o1, rf_a20 h1, h3, nI_1, nI_leI (show (raw ps fo).length < 2 ^ 31 by omega) (show k + 1 < 2 ^ 31 by omega), rf_cv, rm_byteOf h (show k < 2 ^ 30 by omega), pg_b0, oI_c hch k 47 47 rfl (by decide) (by decide), fX11_pieces_33]
    by_cases hl : (raw ps fo).length ≤ k + 1
    · rw [if_pos hl]
      have : nsl ((raw ps fo).drop k) = 0 := by
        have e : ((raw ps fo).drop k).length ≤ 1 := by rw [List.length_drop]; omega
        cases hx : (raw ps fo).drop k with
        | nil => rfl
        | cons x l => rw [hx] at e; cases l with
          | nil => rfl
          | cons y l => simp at e
      rw [this]; rfl
    · have hk1 : k < (raw ps fo).length := by omega
      have hk2 : k + 1 < (raw ps fo).length := by omega
      rw [if_neg hl, List.getElem?_eq_getElem hk1, List.drop_eq_getElem_cons hk1, List.drop_eq_getElem_cons hk2]
      have e : nsl ((raw ps fo)[k] :: (raw ps fo)[k + 1] :: (raw ps fo).drop (k + 1 + 1)) = (if (raw ps fo)[k] = 47 then 1 else 0) + nsl ((raw ps fo).drop (k + 1)) := by
        rw [List.drop_eq_getElem_cons hk2]; rfl
      rw [e]
      by_cases hs : (raw ps fo)[k] = 47
      · rw [if_pos (by rw [hs]), if_pos hs, ih (k + 1) (c + 1) (by omega) (by omega), Nat.add_assoc]
      · rw [if_neg (by simpa using hs), if_neg hs, ← nI_0, nI_add, ih (k + 1) (c + 0) (by omega) (by omega)]; simp
theorem rm_pieces (h : RP p ps fo F) : fX11_pieces m (nI p) (rf_M μ m S F) = some (nI ps.length, rf_M μ m S F, 0, 0) := by
  have h60 := h.2.1.2.2.2.1
  have := rm_piecesL (μ := μ) (m := m) (S := S) h vg_fuel 0 1 (Nat.zero_le _) (by rw [ps_fuel]; omega)
  rw [List.drop_zero] at this
  have e := raw_nsl ps fo (fun e => by have := h.2.1.1; rw [e] at this; simp at this) h.2.1.2.2.1
  rw [show 1 + nsl (raw ps fo) = ps.length by omega] at this
  exact this
theorem raw_last : ∀ (ps : List (List (List Nat))) (fo : Bool), ps ≠ [] → (∀ c ∈ ps, cOk c) → ∃ x, (raw ps fo)[(raw ps fo).length - 1]? = some x ∧ (x = 47 ↔ fo = true) ∧ 1 ≤ (raw ps fo).length := by
  intro ps
  induction ps with
  | nil => intro fo h; exact absurd rfl h
  | cons c r ih =>
    intro fo _ hc
    have h1 := cOk_ne (hc c (by simp))
    rw [raw_cons]
    by_cases hr : r = []
    · subst hr; rw [if_pos rfl]
      cases fo with
      | true =>
        refine ⟨47, ?_, by simp, by rw [List.length_append]; simp⟩
        rw [List.length_append]
        simp only [if_true, List.length_cons, List.length_nil, Nat.add_sub_cancel]
        rw [List.getElem?_append_right (by omega)]; simp
      | false =>
        simp only [Bool.false_eq_true, if_false, List.append_nil]
        refine ⟨c.flatten[c.flatten.length - 1], List.getElem?_eq_getElem (by omega), ?_, h1⟩
        constructor
        · intro e; exact absurd (e ▸ List.getElem_mem (by omega)) (cOk_47 (hc c (by simp)))
        · intro e; cases e
    · rw [if_neg hr]
      obtain ⟨x, e1, e2, e3⟩ := ih fo hr (fun c h => hc c (by simp [h]))
      refine ⟨x, ?_, e2, by rw [List.length_append]; omega⟩
      rw [List.length_append, List.length_cons, List.getElem?_append_right (by omega)]
      rw [show c.flatten.length + ((raw r fo).length + 1) - 1 - c.flatten.length = ((raw r fo).length - 1) + 1 by omega, List.getElem?_cons_succ]
      exact e1
theorem rm_isForFolders (h : RP p ps fo F) : fX11_isForFolders m (nI p) (rf_M μ m S F) = some (bI fo, rf_M μ m S F, 0, 0) := by
  obtain ⟨h1, h2, h3, h4⟩ := id h
  have h60 := h2.2.2.2.1
  have hch := h2.2.2.2.2
  obtain ⟨x, e1, e2, e3⟩ := raw_last ps fo (fun e => by have := h2.1; rw [e] at this; simp at this) h2.2.2.1
  unfold fX11_isForFolders
  simp only [rf_r20, pg_o1, rf_a20 h1, h3, li_sub1 e3, rf_cv, rm_byteOf h (show (raw ps fo).length - 1 < 2 ^ 30 by omega), pg_b0, oI_c hch ((raw ps fo).length - 1) 47 47 rfl (by decide) (by decide), fX11_isForFolders_23, pg_z1, pg_z0, vg_ret]
  rw [e1]
  cases fo with
  | true => rw [if_pos (by rw [e2.mpr rfl])]; rfl
  | false => rw [if_neg (by intro e; have := e2.mp (by simpa using e); cases this)]; rfl
theorem raw_dropS {i k : Nat} (hi : i < ps.length) (h : (raw ps fo).drop k = raw (ps.drop i) fo) : (raw ps fo).drop (k + (ps.getD i []).flatten.length + 1) = raw (ps.drop (i + 1)) fo ∧ ∃ v, (raw ps fo).drop k = (ps.getD i []).flatten ++ v ∧ (v = [] ∨ v.head? = some 47) := by
  have e : ps.drop i = ps.getD i [] :: ps.drop (i + 1) := by
    rw [List.drop_eq_getElem_cons hi, List.getD_eq_getElem?_getD, List.getElem?_eq_getElem hi]; rfl
  rw [e, raw_cons] at h
  constructor
  · rw [show k + (ps.getD i []).flatten.length + 1 = k + ((ps.getD i []).flatten.length + 1) by omega, ← List.drop_drop, h]
    rw [← List.drop_drop, List.drop_left]
    by_cases hr : ps.drop (i + 1) = []
    · rw [if_pos hr, hr]; cases fo <;> rfl
    · rw [if_neg hr]; rfl
  · refine ⟨_, h, ?_⟩
    by_cases hr : ps.drop (i + 1) = []
    · rw [if_pos hr]; cases fo
      · exact Or.inl rfl
      · exact Or.inr rfl
    · rw [if_neg hr]; exact Or.inr rfl
theorem dpf_get {i : Nat} (hi : i < ps.length) : dpf ps i = decide (ps.getD i [] = dpP) := by
  unfold dpf; rw [List.getD_eq_getElem?_getD, List.getElem?_eq_getElem hi]; simp
theorem dpf_out {i : Nat} (hi : ps.length ≤ i) : dpf ps i = false := by
  unfold dpf; rw [List.getElem?_eq_none hi]; simp
theorem clo_out {s : Nat → Bool} {j : Nat} (h : ps.length < j) : clo ps s j = s j := by
  cases j with
  | zero => omega
  | succ j => unfold clo; rw [dpf_out (by omega)]; simp
theorem rm_closedL {s : Nat → Bool} (h : RP p ps fo F) : ∀ n i k x, i ≤ ps.length → ps.length < i + n → k ≤ 100 → (raw ps fo).drop k = raw (ps.drop i) fo → bs x (fun j => if j ≤ i then clo ps s j else s j) → ∃ y, fX11_closed_8 n m (nI p) x (nI k) (nI i) (rf_M μ m S F) = some (y, rf_M μ m S F, 0, 0) ∧ bs y (clo ps s) := by
  obtain ⟨h1, h2, h3, h4⟩ := id h
  intro n
  induction n with
  | zero => intro i k x q1 q2; omega
  | succ n ih =>
    intro i k x q1 q2 hk hdr hx
    have hp6 := h2.2.1
    unfold fX11_closed_8
    simp only [rf_cv, rm_pieces h, pg_b0, nI_leI (show ps.length < 2 ^ 31 by omega) (show i < 2 ^ 31 by omega)]
    by_cases he : ps.length ≤ i
    · rw [if_pos he]
      refine ⟨x, rfl, bs_eq hx (fun j hj => ?_)⟩
      by_cases hji : j ≤ i
      · rw [if_pos hji]
      · rw [if_neg hji, clo_out (by omega)]
    · have hi : i < ps.length := by omega
      rw [if_neg he]
      obtain ⟨d1, v, d2, d3⟩ := raw_dropS hi hdr
      have hcok : cOk (ps.getD i []) := by
        rw [List.getD_eq_getElem?_getD, List.getElem?_eq_getElem hi]; exact h2.2.2.1 _ (List.getElem_mem hi)
      have hlen : k + (ps.getD i []).flatten.length ≤ 60 := by
        have e := congrArg List.length d2
        rw [List.length_drop, List.length_append] at e
        have := h2.2.2.2.1
        have := cOk_ne hcok
        omega
      simp only [rm_pieceEnd h d2 (cOk_47 hcok) d3 hk, rm_isStars h hcok d2 hk, pg_b0, rf_cv, fX11_closed_56, nI_1]
      rw [← dpf_get hi]
      have step : ∀ y, bs y (fun j => if j ≤ i + 1 then clo ps s j else s j) → ∃ z, fX11_closed_8 n m (nI p) y (nI (k + (ps.getD i []).flatten.length + 1)) (nI (i + 1)) (rf_M μ m S F) = some (z, rf_M μ m S F, 0, 0) ∧ bs z (clo ps s) := fun y hy => ih (i + 1) _ y (by omega) (by omega) (by omega) d1 hy
      have hci : (fun j => if j ≤ i then clo ps s j else s j) i = clo ps s i := by simp
      simp only [bI_0, bs_t1 hx (show i < 32 by omega)]
      rw [if_pos (Nat.le_refl i)]
      cases hd : dpf ps i with
      | false =>
        rw [if_pos rfl]
        refine step x (bs_eq hx fun j hj => ?_)
        by_cases hji : j = i + 1
        · subst hji
          rw [if_neg (by omega), if_pos (Nat.le_refl _)]
          show s (i + 1) = (s (i + 1) || (dpf ps i && clo ps s i))
          rw [hd]; simp
        · by_cases hji2 : j ≤ i
          · rw [if_pos hji2, if_pos (by omega)]
          · rw [if_neg hji2, if_neg (by omega)]
      | true =>
        rw [if_neg (by decide)]
        cases hcl : clo ps s i with
        | true =>
          rw [if_pos rfl]
          refine step _ (bs_eq (bs_or hx (bs_s2 (show i < 31 by omega))) fun j hj => ?_)
          by_cases hji : j = i + 1
          · subst hji
            rw [if_neg (by omega), if_pos (Nat.le_refl _), decide_eq_true rfl]
            show (s (i + 1) || true) = (s (i + 1) || (dpf ps i && clo ps s i))
            rw [hd, hcl]; simp
          · rw [decide_eq_false hji, Bool.or_false]
            by_cases hji2 : j ≤ i
            · rw [if_pos hji2, if_pos (by omega)]
            · rw [if_neg hji2, if_neg (by omega)]
        | false =>
          rw [if_neg (by decide)]
          refine step x (bs_eq hx fun j hj => ?_)
          by_cases hji : j = i + 1
          · subst hji
            rw [if_neg (by omega), if_pos (Nat.le_refl _)]
            show s (i + 1) = (s (i + 1) || (dpf ps i && clo ps s i))
            rw [hcl]; simp
          · by_cases hji2 : j ≤ i
            · rw [if_pos hji2, if_pos (by omega)]
            · rw [if_neg hji2, if_neg (by omega)]
theorem rm_closed {s : Nat → Bool} {x : Int32} (h : RP p ps fo F) (hx : bs x s) : ∃ y, fX11_closed m (nI p) x (rf_M μ m S F) = some (y, rf_M μ m S F, 0, 0) ∧ bs y (clo ps s) := by
  refine rm_closedL h vg_fuel 0 0 x (Nat.zero_le _) (by rw [ps_fuel]; have := h.2.1.2.1; omega) (by decide) rfl (bs_eq hx fun j hj => ?_)
  by_cases hj0 : j ≤ 0
  · obtain rfl : j = 0 := by omega
    rfl
  · rw [if_neg hj0]
end
