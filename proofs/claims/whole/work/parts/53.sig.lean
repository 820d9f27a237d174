/-! Small rows on ints, and the words of the pure picture. -/
theorem li_le0 {a : Nat} (h : a < 2 ^ 31) : (nI a ≤ 0) ↔ a = 0 := by rw [show (0 : Int32) = nI 0 from rfl, nI_leI h (by decide)]; omega
theorem li_lt0 {a : Nat} (h : a < 2 ^ 31) : (nI a < 0) ↔ False := by rw [show (0 : Int32) = nI 0 from rfl, nI_ltI h (by decide)]; simp
theorem li_0lt {a : Nat} (h : a < 2 ^ 31) : (0 < nI a) ↔ 0 < a := by rw [show (0 : Int32) = nI 0 from rfl, nI_ltI (by decide) h]
theorem li_0le {a : Nat} (h : a < 2 ^ 31) : (0 ≤ nI a) ↔ True := by rw [show (0 : Int32) = nI 0 from rfl, nI_leI (by decide) h]; simp
theorem li_eq0 {a : Nat} (h : a < 2 ^ 31) : (nI a = 0) ↔ a = 0 := by rw [show (0 : Int32) = nI 0 from rfl, nI_eq h (by decide)]
theorem li_eq1 {a : Nat} (h : a < 2 ^ 31) : (nI a = 1) ↔ a = 1 := by rw [show (1 : Int32) = nI 1 from rfl, nI_eq h (by decide)]
theorem li_m1 {a : Nat} (h : a < 2 ^ 31) : (nI a = -1) ↔ False := by
  constructor
  · intro e
    have := nI_pos (n := a) h
    rw [e] at this
    exact this (by decide)
  · exact False.elim
theorem li_sub1 {a : Nat} (h : 1 ≤ a) : nI a - 1 = nI (a - 1) := by rw [show (1 : Int32) = nI 1 from rfl, pk_sub h]
def bI (b : Bool) : Int32 := if b then 1 else 0
theorem bI_0 (b : Bool) : (bI b = 0) ↔ b = false := by cases b <;> decide
theorem bI_1 (b : Bool) : (bI b = 1) ↔ b = true := by cases b <;> decide
theorem bI_z (b : Bool) : vg_z .boolean (bI b) = some (bI b) := by cases b <;> decide
theorem bI_n (b : Bool) : vp_nar .boolean (bI b) = bI b := by cases b <;> decide
theorem bI_t : bI true = 1 := rfl
theorem bI_f : bI false = 0 := rfl
theorem li_nb : ∀ c, c < 128 → vp_nar .byte (nI c) = nI c := fun c h => (ps_c128 c h).2.2.1
/-- a sign that may stand in a name -/
def sg (c : Nat) : Bool := (decide (97 ≤ c) && decide (c ≤ 122)) || (decide (65 ≤ c) && decide (c ≤ 90)) || (decide (48 ≤ c) && decide (c ≤ 57)) || decide (c = 46) || decide (c = 95)
def sl (t : List Nat) (a b : Nat) : List Nat := (t.take b).drop a
def pt_dots (w : List Nat) : Bool := decide (w = [46]) || decide (w = [46, 46])
def pt_name (w : List Nat) : Bool := decide (1 ≤ w.length) && decide (w.length ≤ 8) && !pt_dots w && w.all sg
/-- the spans of a path's names; none if the text is no path -/
def pt_go (t : List Nat) : Nat → Nat → Nat → List (Nat × Nat) → Option (List (Nat × Nat))
  | 0, _, _, _ => none
  | n + 1, k, f, acc => if t.length < k then some acc else if k = t.length ∨ t.getD k 0 = 47 then (if acc.length < 6 ∧ pt_name (sl t f k) = true then pt_go t n (k + 1) (k + 1) (acc ++ [(f, k)]) else none) else pt_go t n (k + 1) f acc
def pt (t : List Nat) : Option (List (Nat × Nat)) := pt_go t (t.length + 2) 0 0 []
theorem sl_len {t : List Nat} {a b : Nat} (h : b ≤ t.length) : (sl t a b).length = b - a := by simp only [sl, List.length_drop, List.length_take]; omega
theorem sl_get {t : List Nat} {a b i : Nat} (h : a + i < b) : (sl t a b).getD i 0 = t.getD (a + i) 0 := by
  simp only [sl, List.getD_eq_getElem?_getD, List.getElem?_drop, List.getElem?_take, if_pos h]
theorem sg_sl {t : List Nat} {a b : Nat} (hb : b ≤ t.length) : (sl t a b).all sg = true ↔ ∀ j, a ≤ j → j < b → sg (t.getD j 0) = true := by
  rw [List.all_eq_true]
  constructor
  · intro h j h1 h2
    have e := sl_get (t := t) (a := a) (b := b) (i := j - a) (by omega)
    rw [show a + (j - a) = j by omega] at e
    rw [← e]
    apply h
    have hl : j - a < (sl t a b).length := by rw [sl_len hb]; omega
    rw [List.getD_eq_getElem?_getD, List.getElem?_eq_getElem hl]
    exact List.getElem_mem hl
  · intro h c hc
    obtain ⟨i, hi, rfl⟩ := List.mem_iff_getElem.mp hc
    have hi2 := hi
    rw [sl_len hb] at hi2
    have e := sl_get (t := t) (a := a) (b := b) (i := i) (by omega)
    rw [List.getD_eq_getElem?_getD, List.getElem?_eq_getElem hi] at e
    have e' : (sl t a b)[i] = t.getD (a + i) 0 := e
    rw [e']
    exact h _ (by omega) (by omega)
theorem ls_ext {a b : List Nat} (h : a.length = b.length) (hi : ∀ i, i < a.length → a.getD i 0 = b.getD i 0) : a = b := by
  apply List.ext_getElem h
  intro j h1 h2
  have := hi j h1
  rw [List.getD_eq_getElem?_getD, List.getD_eq_getElem?_getD, List.getElem?_eq_getElem h1, List.getElem?_eq_getElem h2] at this
  exact this
theorem ls_get {a : List Nat} {i : Nat} (h : i < a.length) : a.getD i 0 = a[i] := by rw [List.getD_eq_getElem?_getD, List.getElem?_eq_getElem h]; rfl
theorem pt_dots_iff {w : List Nat} : pt_dots w = true ↔ (w.length = 1 ∧ w.getD 0 0 = 46) ∨ (w.length = 2 ∧ w.getD 0 0 = 46 ∧ w.getD 1 0 = 46) := by
  simp only [pt_dots, Bool.or_eq_true, decide_eq_true_eq]
  match w with
  | [] => simp
  | [a] => simp
  | [a, b] => simp
  | a :: b :: c :: d => simp
theorem sg_lt {c : Nat} (h : sg c = true) : c < 128 := by
  simp only [sg, Bool.or_eq_true, Bool.and_eq_true, decide_eq_true_eq] at h; omega
theorem sg_no {c : Nat} (h : sg c = true) : c ≠ 47 ∧ c ≠ 42 ∧ c ≠ 91 ∧ c ≠ 93 := by
  simp only [sg, Bool.or_eq_true, Bool.and_eq_true, decide_eq_true_eq] at h; omega
/-- once a sign within the name is bad, the text is no path -/
theorem pt_bad {t : List Nat} : ∀ n k f acc, (∃ j, f ≤ j ∧ j < k ∧ sg (t.getD j 0) = false) → k ≤ t.length → pt_go t n k f acc = none := by
  intro n
  induction n with
  | zero => intro k f acc _ _; rfl
  | succ n ih =>
    intro k f acc hb hk
    unfold pt_go
    rw [if_neg (by omega)]
    by_cases he : k = t.length ∨ t.getD k 0 = 47
    · rw [if_pos he, if_neg]
      intro hc
      have h1 := hc.2
      simp only [pt_name, Bool.and_eq_true] at h1
      have h2 := (sg_sl hk).mp h1.2
      obtain ⟨j, h3, h4, h5⟩ := hb
      rw [h2 j h3 h4] at h5
      cases h5
    · rw [if_neg he]
      obtain ⟨j, h3, h4, h5⟩ := hb
      exact ih (k + 1) f acc ⟨j, h3, by omega, h5⟩ (by omega)
theorem li_c {a c : Nat} (L : Int32) (hL : L = nI c) (ha : a < 2 ^ 31) (hc : c < 2 ^ 31) : (nI a = L) ↔ a = c := by rw [hL, nI_eq ha hc]
