/-! Reading a pattern: the pure reading, and the reference's. -/
def sgrun (t : List Nat) : Nat → Nat → Nat
  | 0, i => i
  | n + 1, i => if (t[i]?).any sg = true then sgrun t n (i + 1) else i
def pp_part (t : List Nat) (k : Nat) : Nat ⊕ Nat := match t[k]? with
  | none => .inr k
  | some c => if sg c = true ∨ c = 42 then .inl (k + 1) else if c = 91 then (if k + 1 < sgrun t 6 (k + 1) ∧ t[sgrun t 6 (k + 1)]? = some 93 then .inl (sgrun t 6 (k + 1) + 1) else .inr (sgrun t 6 (k + 1))) else .inr k
def pp_plain (t : List Nat) : Nat → List (List Nat) → Nat → (List (List Nat) × Nat) ⊕ Nat
  | 0, _, i => .inr i
  | f + 1, acc, i => if acc.length ≠ 0 ∧ (t[i]? = none ∨ t[i]? = some 47) then .inl (acc, i) else if acc.length = 8 then .inr i else match pp_part t i with
    | .inr e => .inr e
    | .inl e => pp_plain t f (acc ++ [sl t i e]) e
def pp_deep (t : List Nat) (k : Nat) : Bool := decide (t[k]? = some 42) && decide (t[k + 1]? = some 42)
def pp_piece (t : List Nat) (k : Nat) (st : Bool) : (List (List Nat) × Nat) ⊕ Nat := if pp_deep t k = true then (if st = true then .inr k else if t[k + 2]? = none ∨ t[k + 2]? = some 47 then .inl ([[42], [42]], k + 2) else .inr (k + 2)) else match pp_plain t 9 [] k with
  | .inr e => .inr e
  | .inl q => if pt_dots (sl t k q.2) = true then .inr k else .inl q
def pp_go (t : List Nat) : Nat → List (List (List Nat)) → Nat → Bool → (List (List (List Nat)) × Bool) ⊕ Nat
  | 0, _, k, _ => .inr k
  | f + 1, acc, k, st => if acc.length = 6 then .inr k else match pp_piece t k st with
    | .inr e => .inr e
    | .inl q => if t[q.2]? = some 47 ∧ q.2 + 1 < t.length then pp_go t f (acc ++ [q.1]) (q.2 + 1) (pp_deep t k) else .inl (acc ++ [q.1], decide (t[q.2]? = some 47))
def pp (t : List Nat) : (List (List (List Nat)) × Bool) ⊕ Nat := pp_go t 7 [] 0 false
def eP {α : Type} (x : (α × Nat) ⊕ Nat) : Int32 := match x with
  | .inl q => nI q.2
  | .inr e => -1 - nI e
def eS (x : Nat ⊕ Nat) : Int32 := match x with
  | .inl e => nI e
  | .inr e => -1 - nI e
theorem e_toInt {e : Nat} (h : e < 2 ^ 30) : (-1 - nI e).toInt = -1 - (e : Int) := by
  have h1 : (nI e).toInt = e := nI_toInt (by omega)
  rw [Int32.toInt_sub, h1]
  rw [show ((-1 : Int32).toInt) = -1 from by decide]
  apply Int.bmod_eq_of_le <;> omega
theorem e_neg {e : Nat} (h : e < 2 ^ 30) : -1 - nI e < 0 := by rw [Int32.lt_iff_toInt_lt, e_toInt h]; show -1 - (e : Int) < 0; omega
theorem e_nle {e : Nat} (h : e < 2 ^ 30) : ¬ 0 ≤ -1 - nI e := by rw [Int32.le_iff_toInt_le, e_toInt h]; show ¬ (0 : Int) ≤ -1 - (e : Int); omega
theorem e_ne {e k : Nat} (h : e < 2 ^ 30) (hk : k < 2 ^ 31) : ¬ -1 - nI e = nI k := fun q => by
  have := e_neg h
  rw [q] at this
  exact nI_pos hk this
theorem e_back (e : Nat) : (-1 : Int32) - (-1 - nI e) = nI e := by
  apply Int32.toBitVec_inj.mp
  simp only [Int32.toBitVec_sub]
  generalize (nI e).toBitVec = x
  show (-1 : Int32).toBitVec - ((-1 : Int32).toBitVec - x) = x
  generalize (-1 : Int32).toBitVec = y
  bv_omega
theorem e_3 (k : Nat) : (-3 : Int32) - nI k = -1 - nI (k + 2) := by
  rw [← nI_add]
  apply Int32.toBitVec_inj.mp
  simp only [Int32.toBitVec_sub, Int32.toBitVec_add]
  generalize (nI k).toBitVec = x
  show (-3#32 : BitVec 32) - x = (-1#32) - (x + 2#32)
  bv_omega
theorem oI_c {t : List Nat} (h : ∀ c ∈ t, 32 ≤ c ∧ c < 127) (k : Nat) (L : Int32) (c : Nat) (hL : L = nI c) (hc : c < 2 ^ 31) (hm : nI c ≠ -1) : (oI (t[k]?) = L) ↔ t[k]? = some c := by
  cases hx : t[k]? with
  | none => simp only [oI]; rw [hL]; constructor
            · intro h; exact absurd h.symm hm
            · intro h; cases h
  | some d =>
    have hd := h d (List.mem_of_getElem? hx)
    simp only [oI]; rw [hL, nI_eq (by omega) hc]; constructor
    · intro h; rw [h]
    · intro h; cases h; rfl
theorem oI_m {t : List Nat} (h : ∀ c ∈ t, 32 ≤ c ∧ c < 127) (k : Nat) : (oI (t[k]?) = -1) ↔ t[k]? = none := by
  cases hx : t[k]? with
  | none => simp [oI]
  | some d =>
    have hd := h d (List.mem_of_getElem? hx)
    simp only [oI]; rw [li_m1 (by omega)]; constructor
    · exact False.elim
    · intro h; cases h
theorem rm_at {t : List Nat} {μ : vg_M} {m : Nat} {S : Nat → Int32} {F : Nat → Nat → Int32} {k : Nat} (hT : RT t S F) (hk : k < 2 ^ 30) : fX11_at m (nI k) (rf_M μ m S F) = some (oI (t[k]?), rf_M μ m S F, 0, 0) := by
  obtain ⟨t1, t2, t3, t4⟩ := hT
  unfold fX11_at
  simp only [rf_i2, t1, pg_o1, nI_leI (show t.length < 2 ^ 31 by omega) (show k < 2 ^ 31 by omega), fX11_at_18, vg_ret]
  by_cases h : t.length ≤ k
  · rw [if_pos h, List.getElem?_eq_none h]; rfl
  · rw [if_neg h]
    have hk2 : k < t.length := by omega
    simp only [rf_r1, pg_o1, rf_a1 (show k < 60 by omega), t3 k hk2, List.getElem?_eq_getElem hk2, oI, ls_get hk2]
theorem rm_sgo {t : List Nat} (h : ∀ c ∈ t, 32 ≤ c ∧ c < 127) (k : Nat) (μ : vg_M) : fX11_isSign (oI (t[k]?)) μ = some (bI ((t[k]?).any sg), μ, 0, 0) := by
  cases hx : t[k]? with
  | none => rfl
  | some d =>
    have hd := h d (List.mem_of_getElem? hx)
    exact rm_sg d (by omega) μ
theorem sgrun_le {t : List Nat} : ∀ n i, i ≤ sgrun t n i ∧ sgrun t n i ≤ i + n ∧ (i ≤ t.length → sgrun t n i ≤ t.length) := by
  intro n
  induction n with
  | zero => intro i; exact ⟨Nat.le_refl _, Nat.le_refl _, fun h => h⟩
  | succ n ih =>
    intro i
    unfold sgrun
    by_cases h : (t[i]?).any sg = true
    · rw [if_pos h]
      obtain ⟨a, b, c⟩ := ih (i + 1)
      refine ⟨by omega, by omega, fun _ => c ?_⟩
      by_cases hi : i < t.length
      · omega
      · rw [List.getElem?_eq_none (by omega)] at h; cases h
    · rw [if_neg h]; exact ⟨Nat.le_refl _, by omega, fun h => h⟩
theorem rm_part37 {t : List Nat} {μ : vg_M} {m : Nat} {S : Nat → Int32} {F : Nat → Nat → Int32} {k : Nat} (hT : RT t S F) (hk : k ≤ 60) : ∀ n d i, i + d = k + 7 → d < n → fX11_part_37 n m (nI k) (nI i) (rf_M μ m S F) = fX11_part_62 m (nI k) (nI (sgrun t d i)) (rf_M μ m S F) := by
  intro n
  induction n with
  | zero => intro d i h1 h2; omega
  | succ n ih =>
    intro d i h1 h2
    unfold fX11_part_37
    rw [show (7 : Int32) = nI 7 from rfl, nI_add]
    cases d with
    | zero => rw [if_pos (nI_le (by omega) (by omega))]; rfl
    | succ d =>
      rw [if_neg (nI_ge (by omega) (by omega))]
      simp only [rf_cv, rm_at hT (show i < 2 ^ 30 by omega), pg_b0, rm_sgo hT.2.2.2, bI_0]
      unfold sgrun
      by_cases h : (t[i]?).any sg = true
      · rw [if_pos h, if_neg (by rw [h]; decide), nI_1]
        exact ih d (i + 1) (by omega) (by omega)
      · rw [if_neg h, if_pos (Bool.eq_false_iff.mpr h)]
theorem rm_part {t : List Nat} {μ : vg_M} {m : Nat} {S : Nat → Int32} {F : Nat → Nat → Int32} {k : Nat} (hT : RT t S F) (hk : k ≤ 60) : fX11_part m (nI k) (rf_M μ m S F) = some (eS (pp_part t k), rf_M μ m S F, 0, 0) := by
  have hc := hT.2.2.2
  unfold fX11_part pp_part
  simp only [rf_cv, rm_at hT (show k < 2 ^ 30 by omega), pg_b0, rm_sgo hc, bI_0, oI_c hc k 42 42 rfl (by decide) (by decide), oI_c hc k 91 91 rfl (by decide) (by decide), fX11_part_19, nI_1, vg_ret]
  cases hx : t[k]? with
  | none => simp only [Option.any_none, if_true, reduceCtorEq, if_false]; rfl
  | some c =>
    simp only [Option.any_some, Option.some.injEq]
    by_cases h1 : sg c = true
    · rw [if_neg (by rw [h1]; decide), if_pos (Or.inl h1)]; rfl
    · rw [if_pos (Bool.eq_false_iff.mpr h1)]
      by_cases h2 : c = 42
      · rw [if_pos h2, if_pos (Or.inr h2)]; rfl
      · rw [if_neg h2, if_neg (show ¬ (sg c = true ∨ c = 42) from fun h => h.elim h1 h2)]
        by_cases h3 : c = 91
        · rw [if_pos h3, if_pos h3]
          have hl := sgrun_le (t := t) 6 (k + 1)
          rw [rm_part37 hT hk vg_fuel 6 (k + 1) (by omega) (by rw [ps_fuel]; decide)]
          unfold fX11_part_62
          simp only [fX11_part_85, fX11_part_88, nI_1, rf_cv, rm_at hT (show sgrun t 6 (k + 1) < 2 ^ 30 by omega), pg_b0, oI_c hc (sgrun t 6 (k + 1)) 93 93 rfl (by decide) (by decide), nI_leI (show sgrun t 6 (k + 1) < 2 ^ 31 by omega) (show k + 1 < 2 ^ 31 by omega), vg_ret]
          by_cases h4 : k + 1 < sgrun t 6 (k + 1)
          · rw [if_neg (by omega)]
            by_cases h5 : t[sgrun t 6 (k + 1)]? = some 93
            · rw [if_pos h5, if_pos ⟨h4, h5⟩]; rfl
            · rw [if_neg h5, if_neg (fun h => h5 h.2)]; rfl
          · rw [if_pos (by omega), if_neg (fun h => h4 h.1)]; rfl
        · rw [if_neg h3, if_neg h3]; rfl
theorem pp_part_le {t : List Nat} {k : Nat} (hk : k ≤ t.length) : (∀ e, pp_part t k = .inl e → k < e ∧ e ≤ t.length) ∧ ∀ e, pp_part t k = .inr e → k ≤ e ∧ e ≤ t.length := by
  unfold pp_part
  have hl := sgrun_le (t := t) 6 (k + 1)
  cases hx : t[k]? with
  | none => exact ⟨fun e h => (by cases h), fun e h => by cases h; exact ⟨Nat.le_refl _, hk⟩⟩
  | some c =>
    have hkl : k < t.length := by
      by_cases h : k < t.length
      · exact h
      · rw [List.getElem?_eq_none (by omega)] at hx; cases hx
    simp only
    split
    · exact ⟨fun e h => (by cases h; omega), fun e h => by cases h⟩
    · split
      · split
        · next h =>
          have : sgrun t 6 (k + 1) < t.length := by
            by_cases h' : sgrun t 6 (k + 1) < t.length
            · exact h'
            · have := h.2; rw [List.getElem?_eq_none (by omega)] at this; cases this
          exact ⟨fun e h => (by cases h; omega), fun e h => by cases h⟩
        · exact ⟨fun e h => (by cases h), fun e h => by cases h; exact ⟨by omega, hl.2.2 (by omega)⟩⟩
      · exact ⟨fun e h => (by cases h), fun e h => by cases h; omega⟩
theorem rm_piece81 {t : List Nat} {μ : vg_M} {m : Nat} {S : Nat → Int32} {F : Nat → Nat → Int32} {k : Nat} (hT : RT t S F) (hk : k ≤ 60) : ∀ f n acc i, i ≤ t.length → acc.length + f = 9 → acc.length ≤ 8 → f + 1 < n → fX11_piece_81 n m (nI k) (nI i) (nI acc.length) (rf_M μ m S F) = fX11_piece_134 m (nI k) (eP (pp_plain t f acc i)) (rf_M μ m S F) := by
  have hc := hT.2.2.2
  have h60 := hT.2.1
  intro f
  induction f with
  | zero => intro n acc i hi hf ha hn; omega
  | succ f ih =>
    intro n acc i hi hf ha hn
    obtain ⟨n, rfl⟩ : ∃ q, n = q + 1 := ⟨n - 1, by omega⟩
    unfold fX11_piece_81 pp_plain
    rw [if_neg (nI_pos (by omega))]
    simp only [rf_cv, rm_at hT (show i < 2 ^ 30 by omega), pg_b0, oI_c hc i 47 47 rfl (by decide) (by decide), oI_m hc, li_eq0 (show acc.length < 2 ^ 31 by omega)]
    have h109 : ¬ (acc.length ≠ 0 ∧ (t[i]? = none ∨ t[i]? = some 47)) → fX11_piece_109 (fX11_piece_81 n) m (nI k) (nI i) (nI acc.length) (rf_M μ m S F) = fX11_piece_134 m (nI k) (eP (if acc.length ≠ 0 ∧ (t[i]? = none ∨ t[i]? = some 47) then .inl (acc, i) else if acc.length = 8 then .inr i else match pp_part t i with
        | .inr e => .inr e
        | .inl e => pp_plain t f (acc ++ [sl t i e]) e)) (rf_M μ m S F) := by
      intro hno
      rw [if_neg hno]
      unfold fX11_piece_109
      simp only [li_c 8 (c := 8) rfl (show acc.length < 2 ^ 31 by omega) (by decide), fX11_piece_127, nI_1]
      have hill : ∀ e, e ≤ 60 → fX11_piece_81 n m (nI k) (-1 - nI e) (nI (acc.length + 1)) (rf_M μ m S F) = fX11_piece_134 m (nI k) (-1 - nI e) (rf_M μ m S F) := by
        intro e he
        obtain ⟨n, rfl⟩ : ∃ q, n = q + 1 := ⟨n - 1, by omega⟩
        unfold fX11_piece_81
        rw [if_pos (e_neg (by omega))]
      by_cases h8 : acc.length = 8
      · rw [if_pos h8, if_pos h8, hill i (by omega)]; rfl
      · rw [if_neg h8, if_neg h8, rf_cv, rm_part hT (by omega), pg_b0]
        obtain ⟨p1, p2⟩ := pp_part_le hi
        cases hp : pp_part t i with
        | inr e => exact hill e (by have := p2 e hp; omega)
        | inl e =>
          have := p1 e hp
          have := ih n (acc ++ [sl t i e]) e (by omega) (by rw [List.length_append]; simp; omega) (by rw [List.length_append]; simp; omega) (by omega)
          rw [List.length_append] at this
          exact this
    by_cases h0 : acc.length = 0
    · rw [if_pos h0]
      exact h109 (fun h => h.1 h0)
    · rw [if_neg h0]
      by_cases h1 : t[i]? = none
      · rw [if_pos h1, if_pos ⟨h0, Or.inl h1⟩]; rfl
      · rw [if_neg h1]
        by_cases h2 : t[i]? = some 47
        · rw [if_pos h2, if_pos ⟨h0, Or.inr h2⟩]; rfl
        · rw [if_neg h2]
          exact h109 (fun h => h.2.elim h1 h2)
theorem pp_plain_le {t : List Nat} : ∀ f acc i, i ≤ t.length → (∀ q, pp_plain t f acc i = .inl q → i ≤ q.2 ∧ q.2 ≤ t.length ∧ (acc.length = 0 → i < q.2)) ∧ ∀ e, pp_plain t f acc i = .inr e → i ≤ e ∧ e ≤ t.length := by
  intro f
  induction f with
  | zero => intro acc i hi; exact ⟨fun q h => (by cases h), fun e h => by cases h; exact ⟨Nat.le_refl _, hi⟩⟩
  | succ f ih =>
    intro acc i hi
    unfold pp_plain
    obtain ⟨p1, p2⟩ := pp_part_le hi
    by_cases h1 : acc.length ≠ 0 ∧ (t[i]? = none ∨ t[i]? = some 47)
    · rw [if_pos h1]
      exact ⟨fun q h => by cases h; exact ⟨Nat.le_refl _, hi, fun h => absurd h h1.1⟩, fun e h => by cases h⟩
    · rw [if_neg h1]
      by_cases h2 : acc.length = 8
      · rw [if_pos h2]; exact ⟨fun q h => (by cases h), fun e h => by cases h; exact ⟨Nat.le_refl _, hi⟩⟩
      · rw [if_neg h2]
        cases hp : pp_part t i with
        | inr e => exact ⟨fun q h => (by cases h), fun e' h => by cases h; exact p2 e hp⟩
        | inl e =>
          have := p1 e hp
          obtain ⟨q1, q2⟩ := ih (acc ++ [sl t i e]) e this.2
          exact ⟨fun q h => by have := q1 q h; exact ⟨by omega, this.2.1, fun _ => by omega⟩, fun e' h => by have := q2 e' h; omega⟩
theorem rm_piece134 {t : List Nat} {μ : vg_M} {m : Nat} {S : Nat → Int32} {F : Nat → Nat → Int32} {k e : Nat} (hT : RT t S F) (hk : k < e) (he : e ≤ t.length) : fX11_piece_134 m (nI k) (nI e) (rf_M μ m S F) = some (if pt_dots (sl t k e) = true then -1 - nI k else nI e, rf_M μ m S F, 0, 0) := by
  have hc := hT.2.2.2
  have h60 := hT.2.1
  have hlen := sl_len (t := t) (a := k) he
  have g0 : (sl t k e).getD 0 0 = t.getD k 0 := by have := sl_get (t := t) (a := k) (b := e) (i := 0) (by omega); simpa using this
  have a0 : ∀ i, i < t.length → ∀ c, (t[i]? = some c ↔ t.getD i 0 = c) := fun i hi c => by rw [ls_get hi, List.getElem?_eq_getElem hi]; simp
  unfold fX11_piece_134 fX11_piece_151
  simp only [rf_cv, rm_at hT (show k < 2 ^ 30 by omega), nI_1, rm_at hT (show k + 1 < 2 ^ 30 by omega), pg_b0, show (2 : Int32) = nI 2 from rfl, nI_add, nI_eq (show e < 2 ^ 31 by omega) (show k + 1 < 2 ^ 31 by omega), nI_eq (show e < 2 ^ 31 by omega) (show k + 2 < 2 ^ 31 by omega), oI_c hc k 46 46 rfl (by decide) (by decide), oI_c hc (k + 1) 46 46 rfl (by decide) (by decide), fX11_piece_180, fX11_piece_184, fX11_piece_185, fX11_piece_199, if_true, if_neg (show ¬ (1 : Int32) = 0 by decide), vg_ret]
  by_cases h1 : e = k + 1
  · rw [if_pos h1]
    by_cases h2 : t[k]? = some 46
    · rw [if_pos h2, if_pos (pt_dots_iff.mpr (Or.inl ⟨by omega, by rw [g0]; exact (a0 k (by omega) 46).mp h2⟩))]
    · rw [if_neg h2, if_neg (by omega), if_neg]
      intro h
      rcases pt_dots_iff.mp h with h | h
      · exact h2 ((a0 k (by omega) 46).mpr (by rw [← g0]; exact h.2))
      · omega
  · rw [if_neg h1]
    by_cases h3 : e = k + 2
    · have g1 : (sl t k e).getD 1 0 = t.getD (k + 1) 0 := sl_get (t := t) (a := k) (b := e) (i := 1) (by omega)
      rw [if_pos h3]
      by_cases h2 : t[k]? = some 46
      · rw [if_pos h2]
        by_cases h4 : t[k + 1]? = some 46
        · rw [if_pos h4, if_pos (pt_dots_iff.mpr (Or.inr ⟨by omega, by rw [g0]; exact (a0 k (by omega) 46).mp h2, by rw [g1]; exact (a0 (k + 1) (by omega) 46).mp h4⟩))]
        · rw [if_neg h4, if_neg]
          intro h
          rcases pt_dots_iff.mp h with h | h
          · omega
          · exact h4 ((a0 (k + 1) (by omega) 46).mpr (by rw [← g1]; exact h.2.2))
      · rw [if_neg h2, if_neg]
        intro h
        rcases pt_dots_iff.mp h with h | h
        · omega
        · exact h2 ((a0 k (by omega) 46).mpr (by rw [← g0]; exact h.2.1))
    · rw [if_neg h3, if_neg]
      intro h
      rcases pt_dots_iff.mp h with h | h <;> omega
theorem rm_piece134n {t : List Nat} {μ : vg_M} {m : Nat} {S : Nat → Int32} {F : Nat → Nat → Int32} {k e : Nat} (hk : k ≤ 60) (he : e ≤ 60) : fX11_piece_134 m (nI k) (-1 - nI e) (rf_M μ m S F) = some (-1 - nI e, rf_M μ m S F, 0, 0) := by
  unfold fX11_piece_134 fX11_piece_151
  simp only [nI_1, show (2 : Int32) = nI 2 from rfl, nI_add]
  rw [if_neg (e_ne (by omega) (by omega)), if_neg (e_ne (by omega) (by omega))]
  simp only [fX11_piece_184, fX11_piece_185, fX11_piece_199, if_true, vg_ret]
theorem rm_piece {t : List Nat} {μ : vg_M} {m : Nat} {S : Nat → Int32} {F : Nat → Nat → Int32} {k : Nat} {st : Bool} (hT : RT t S F) (hk : k ≤ t.length) : fX11_piece m (nI k) (bI st) (rf_M μ m S F) = some (eP (pp_piece t k st), rf_M μ m S F, 0, 0) := by
  have hc := hT.2.2.2
  have h60 := hT.2.1
  unfold fX11_piece pp_piece pp_deep
  simp only [rf_cv, rm_at hT (show k < 2 ^ 30 by omega), nI_1, show (2 : Int32) = nI 2 from rfl, nI_add, rm_at hT (show k + 1 < 2 ^ 30 by omega), rm_at hT (show k + 2 < 2 ^ 30 by omega), pg_b0, oI_c hc k 42 42 rfl (by decide) (by decide), oI_c hc (k + 1) 42 42 rfl (by decide) (by decide), oI_c hc (k + 2) 47 47 rfl (by decide) (by decide), oI_m hc, fX11_piece_45, fX11_piece_50, fX11_piece_75, e_3, bI_0, if_true, if_neg (show ¬ (1 : Int32) = 0 by decide), vg_ret, Bool.and_eq_true, decide_eq_true_eq]
  have h76 : fX11_piece_76 m (nI k) (rf_M μ m S F) = some (eP (match pp_plain t 9 [] k with
      | .inr e => .inr e
      | .inl q => if pt_dots (sl t k q.2) = true then .inr k else .inl q), rf_M μ m S F, 0, 0) := by
    unfold fX11_piece_76
    rw [← nI_0]
    have e1 := rm_piece81 (μ := μ) (m := m) (k := k) hT (by omega) 9 vg_fuel [] k hk rfl (by decide) (by rw [ps_fuel]; decide)
    rw [show (nI 0) = nI ([] : List (List Nat)).length from rfl, e1]
    obtain ⟨q1, q2⟩ := pp_plain_le (t := t) 9 [] k hk
    cases hp : pp_plain t 9 [] k with
    | inr e => have := q2 e hp; exact rm_piece134n (t := t) (by omega) (by omega)
    | inl q =>
      obtain ⟨a1, a2, a3⟩ := q1 q hp
      simp only [eP]
      rw [rm_piece134 hT (a3 rfl) a2]
      by_cases hd : pt_dots (sl t k q.2) = true
      · rw [if_pos hd, if_pos hd]
      · rw [if_neg hd, if_neg hd]
  by_cases h1 : t[k]? = some 42
  · rw [if_pos h1]
    by_cases h2 : t[k + 1]? = some 42
    · rw [if_pos h2, if_pos (show t[k]? = some 42 ∧ t[k + 1]? = some 42 from ⟨h1, h2⟩)]
      cases st with
      | true => simp only [if_true, reduceCtorEq, if_false, eP, ite_self]
      | false =>
        simp only [if_true, Bool.false_eq_true, if_false]
        by_cases h3 : t[k + 2]? = none
        · rw [if_pos h3, if_pos (Or.inl h3)]; rfl
        · rw [if_neg h3]
          by_cases h4 : t[k + 2]? = some 47
          · rw [if_pos h4, if_pos (Or.inr h4)]; rfl
          · rw [if_neg h4, if_neg (fun h => h.elim h3 h4)]; rfl
    · rw [if_neg h2, if_neg (show ¬ (t[k]? = some 42 ∧ t[k + 1]? = some 42) from fun h => h2 h.2)]; exact h76
  · rw [if_neg h1, if_neg (show ¬ (t[k]? = some 42 ∧ t[k + 1]? = some 42) from fun h => h1 h.1)]; exact h76
theorem pp_piece_le {t : List Nat} {k : Nat} {st : Bool} (hk : k ≤ t.length) : (∀ q, pp_piece t k st = .inl q → k < q.2 ∧ q.2 ≤ t.length) ∧ ∀ e, pp_piece t k st = .inr e → k ≤ e ∧ e ≤ t.length := by
  unfold pp_piece
  obtain ⟨q1, q2⟩ := pp_plain_le (t := t) 9 [] k hk
  by_cases hd : pp_deep t k = true
  · rw [if_pos hd]
    have hk2 : k + 2 ≤ t.length := by
      simp only [pp_deep, Bool.and_eq_true, decide_eq_true_eq] at hd
      by_cases h : k + 1 < t.length
      · omega
      · have := hd.2; rw [List.getElem?_eq_none (by omega)] at this; cases this
    split
    · exact ⟨fun q h => (by cases h), fun e h => by cases h; omega⟩
    · split
      · exact ⟨fun q h => by cases h; exact ⟨by show k < k + 2; omega, hk2⟩, fun e h => by cases h⟩
      · exact ⟨fun q h => (by cases h), fun e h => by cases h; omega⟩
  · rw [if_neg hd]
    cases hp : pp_plain t 9 [] k with
    | inr e => exact ⟨fun q h => (by cases h), fun e' h => by cases h; exact q2 e hp⟩
    | inl q =>
      have := q1 q hp
      simp only
      split
      · exact ⟨fun q h => (by cases h), fun e h => by cases h; omega⟩
      · exact ⟨fun q' h => by cases h; exact ⟨this.2.2 rfl, this.2.1⟩, fun e h => by cases h⟩
def iP {α : Type} (x : α ⊕ Nat) : Int32 := match x with
  | .inl _ => -1
  | .inr e => nI e
theorem rm_illL {t : List Nat} {μ : vg_M} {m : Nat} {S : Nat → Int32} {F : Nat → Nat → Int32} (hT : RT t S F) : ∀ f n acc k st, k ≤ t.length → acc.length + f = 7 → acc.length ≤ 6 → f + 1 < n → fX11_ill_9 n m (nI k) (nI acc.length) (bI st) 1 (rf_M μ m S F) = some (iP (pp_go t f acc k st), rf_M μ m S F, 0, 0) := by
  have hc := hT.2.2.2
  have h60 := hT.2.1
  intro f
  induction f with
  | zero => intro n acc k st hk hf ha hn; omega
  | succ f ih =>
    intro n acc k st hk hf ha hn
    obtain ⟨n, rfl⟩ : ∃ q, n = q + 1 := ⟨n - 1, by omega⟩
    unfold fX11_ill_9 pp_go
    simp only [if_neg (show ¬ (1 : Int32) = 0 by decide), li_c 6 (c := 6) rfl (show acc.length < 2 ^ 31 by omega) (by decide)]
    have hneg : ∀ e, e ≤ 60 → fX11_ill_32 (fX11_ill_9 n) m (nI k) (nI acc.length) (-1 - nI e) (rf_M μ m S F) = some (nI e, rf_M μ m S F, 0, 0) := by
      intro e he
      unfold fX11_ill_32
      rw [if_neg (e_nle (by omega)), e_back]; rfl
    by_cases h6 : acc.length = 6
    · rw [if_pos h6, if_pos h6]; exact hneg k (by omega)
    · rw [if_neg h6, if_neg h6, rf_cv, rm_piece hT hk, pg_b0]
      obtain ⟨p1, p2⟩ := pp_piece_le (st := st) hk
      cases hp : pp_piece t k st with
      | inr e => exact hneg e (by have := p2 e hp; omega)
      | inl q =>
        obtain ⟨a1, a2⟩ := p1 q hp
        simp only [eP]
        have h71 : ∀ b : Bool, b = pp_deep t k → fX11_ill_71 (fX11_ill_9 n) m (nI acc.length) (nI q.2) (bI b) (rf_M μ m S F) = some (iP (if t[q.2]? = some 47 ∧ q.2 + 1 < t.length then pp_go t f (acc ++ [q.1]) (q.2 + 1) (pp_deep t k) else .inl (acc ++ [q.1], decide (t[q.2]? = some 47))), rf_M μ m S F, 0, 0) := by
          intro b hb
          have hst : fX11_ill_103 (fX11_ill_9 n) m (nI (q.2 + 1)) (nI (acc.length + 1)) (bI b) (rf_M μ m S F) = some (-1, rf_M μ m S F, 0, 0) := by
            unfold fX11_ill_103 fX11_ill_104
            obtain ⟨n, rfl⟩ : ∃ q, n = q + 1 := ⟨n - 1, by omega⟩
            unfold fX11_ill_9
            rw [if_pos rfl]; rfl
          unfold fX11_ill_71
          simp only [rf_cv, rm_at hT (show q.2 < 2 ^ 30 by omega), pg_b0, oI_c hc q.2 47 47 rfl (by decide) (by decide), rf_i2, hT.1, pg_o1, nI_1, nI_leI (show t.length < 2 ^ 31 by omega) (show q.2 + 1 < 2 ^ 31 by omega)]
          by_cases h1 : t[q.2]? = some 47
          · rw [if_pos h1]
            by_cases h2 : t.length ≤ q.2 + 1
            · rw [if_pos h2, if_neg (fun h => by have := h.2; omega), hst]; rfl
            · rw [if_neg h2, if_pos ⟨h1, by omega⟩, ← hb]
              unfold fX11_ill_104
              have := ih n (acc ++ [q.1]) (q.2 + 1) b (by omega) (by rw [List.length_append]; simp; omega) (by rw [List.length_append]; simp; omega) (by omega)
              rw [List.length_append] at this
              exact this
          · rw [if_neg h1, if_neg (fun h => h1 h.1), hst]; rfl
        have h711 := h71 true
        have h710 := h71 false
        rw [bI_t] at h711
        rw [bI_f] at h710
        unfold fX11_ill_32
        rw [if_pos (nI_pos' (by omega))]
        simp only [rf_cv, rm_at hT (show k < 2 ^ 30 by omega), nI_1, rm_at hT (show k + 1 < 2 ^ 30 by omega), pg_b0, oI_c hc k 42 42 rfl (by decide) (by decide), oI_c hc (k + 1) 42 42 rfl (by decide) (by decide), fX11_ill_70]
        by_cases h1 : t[k]? = some 42
        · rw [if_pos h1]
          by_cases h2 : t[k + 1]? = some 42
          · rw [if_pos h2]; exact h711 (by simp [pp_deep, h1, h2])
          · rw [if_neg h2]; exact h710 (by simp [pp_deep, h2])
        · rw [if_neg h1]; exact h710 (by simp [pp_deep, h1])
theorem rm_ill {t : List Nat} {μ : vg_M} {m : Nat} {S : Nat → Int32} {F : Nat → Nat → Int32} (hT : RT t S F) : fX11_ill m (rf_M μ m S F) = some (iP (pp t), rf_M μ m S F, 0, 0) := by
  have := rm_illL (μ := μ) (m := m) hT 7 vg_fuel [] 0 false (Nat.zero_le _) rfl (by decide) (by rw [ps_fuel]; decide)
  exact this
