/-! Sets of small numbers in an int, by bits (the first rows are the kit's family 'Int32 by its bits', pasted). -/
def bt (x : Int32) (i : Nat) : Bool := x.toBitVec.getLsbD i
theorem b_ext {x y : Int32} (h : ∀ i, i < 32 → bt x i = bt y i) : x = y := Int32.toBitVec_inj.mp (BitVec.eq_of_getLsbD_eq (fun i hi => h i hi))
theorem b_or (x y : Int32) (i : Nat) : bt (x ||| y) i = (bt x i || bt y i) := by unfold bt; rw [Int32.toBitVec_or, BitVec.getLsbD_or]
theorem b_and (x y : Int32) (i : Nat) : bt (x &&& y) i = (bt x i && bt y i) := by unfold bt; rw [Int32.toBitVec_and, BitVec.getLsbD_and]
theorem b_big {x : Int32} {i : Nat} (h : 32 ≤ i) : bt x i = false := BitVec.getLsbD_of_ge _ _ h
theorem b_0 (i : Nat) : bt 0 i = false := BitVec.getLsbD_zero
theorem s_l : ∀ n, n < 32 → ((nI n &&& 31).toBitVec.smod 32).toNat = n := by decide +kernel
theorem b_shl (n : Nat) (hn : n < 32) (x : Int32) {i : Nat} (hi : i < 32) : bt (x <<< (nI n &&& 31)) i = (decide (n ≤ i) && bt x (i - n)) := by
  unfold bt
  rw [Int32.toBitVec_shiftLeft]
  show (x.toBitVec <<< ((nI n &&& 31).toBitVec.smod 32).toNat).getLsbD i = _
  rw [s_l n hn, BitVec.getLsbD_shiftLeft]
  rcases Nat.lt_or_ge i n with h | h
  · simp [h, Nat.not_le.mpr h]
  · simp [hi, h, Nat.not_lt.mpr h]
theorem b_sshr (n : Nat) (hn : n < 32) (x : Int32) {i : Nat} (hi : i < 32) : bt (x >>> (nI n &&& 31)) i = if n + i < 32 then bt x (n + i) else bt x 31 := by
  unfold bt
  rw [Int32.toBitVec_shiftRight]
  show (x.toBitVec.sshiftRight ((nI n &&& 31).toBitVec.smod 32).toNat).getLsbD i = _
  rw [s_l n hn, BitVec.getLsbD_sshiftRight, BitVec.msb_eq_getLsbD_last]
  simp [hi]
/-- the set that an int is -/
def bs (x : Int32) (s : Nat → Bool) : Prop := ∀ j, j < 32 → bt x j = s j
theorem b_one (i : Nat) : bt 1 i = decide (i = 0) := by
  rcases Nat.lt_or_ge i 32 with h | h
  · exact (by decide +kernel : ∀ i, i < 32 → bt 1 i = decide (i = 0)) i h
  · rw [b_big h, decide_eq_false (by omega)]
theorem b_two (i : Nat) : bt 2 i = decide (i = 1) := by
  rcases Nat.lt_or_ge i 32 with h | h
  · exact (by decide +kernel : ∀ i, i < 32 → bt 2 i = decide (i = 1)) i h
  · rw [b_big h, decide_eq_false (by omega)]
theorem bs_z : bs 0 (fun _ => false) := fun j _ => b_0 j
theorem bs_1 : bs 1 (fun j => decide (j = 0)) := fun j _ => b_one j
theorem bs_s1 {i : Nat} (hi : i < 32) : bs (1 <<< (nI i &&& 31)) (fun j => decide (j = i)) := by
  intro j hj
  rw [b_shl i hi 1 hj, b_one]
  show _ = decide (j = i)
  by_cases h : j = i
  · subst h; simp
  · rw [decide_eq_false h]
    by_cases h2 : i ≤ j
    · rw [decide_eq_false (show ¬ j - i = 0 by omega), Bool.and_false]
    · rw [decide_eq_false h2, Bool.false_and]
theorem bs_s2 {i : Nat} (hi : i < 31) : bs (2 <<< (nI i &&& 31)) (fun j => decide (j = i + 1)) := by
  intro j hj
  rw [b_shl i (by omega) 2 hj, b_two]
  show _ = decide (j = i + 1)
  by_cases h : j = i + 1
  · subst h; rw [decide_eq_true (show i ≤ i + 1 by omega), decide_eq_true (show i + 1 - i = 1 by omega)]; simp
  · rw [decide_eq_false h]
    by_cases h2 : i ≤ j
    · rw [decide_eq_false (show ¬ j - i = 1 by omega), Bool.and_false]
    · rw [decide_eq_false h2, Bool.false_and]
theorem bs_or {x y : Int32} {s r : Nat → Bool} (h : bs x s) (h' : bs y r) : bs (x ||| y) (fun j => s j || r j) := fun j hj => by rw [b_or, h j hj, h' j hj]
theorem bs_and {x y : Int32} {s r : Nat → Bool} (h : bs x s) (h' : bs y r) : bs (x &&& y) (fun j => s j && r j) := fun j hj => by rw [b_and, h j hj, h' j hj]
theorem bs_eq {x : Int32} {s r : Nat → Bool} (h : bs x s) (e : ∀ j, j < 32 → s j = r j) : bs x r := fun j hj => (h j hj).trans (e j hj)
theorem bs_0 {x : Int32} {s : Nat → Bool} (h : bs x s) : (x = 0) ↔ ∀ j, j < 32 → s j = false := by
  constructor
  · intro e j hj; rw [← h j hj, e, b_0]
  · intro e; exact b_ext (fun i hi => by rw [h i hi, e i hi, b_0])
theorem bs_t1 {x : Int32} {s : Nat → Bool} {i : Nat} (h : bs x s) (hi : i < 32) : (((x >>> (nI i &&& 31)) &&& 1) = 1) ↔ s i = true := by
  have key : ∀ j, j < 32 → bt ((x >>> (nI i &&& 31)) &&& 1) j = (decide (j = 0) && s i) := by
    intro j hj
    rw [b_and, b_one]
    by_cases h0 : j = 0
    · subst h0
      rw [b_sshr i hi x (by omega), if_pos (by omega), Nat.add_zero, h i hi]; simp
    · rw [decide_eq_false h0, Bool.and_false, Bool.false_and]
  constructor
  · intro e
    have := key 0 (by omega)
    rw [e, b_one] at this
    simpa using this.symm
  · intro e
    exact b_ext (fun j hj => by rw [key j hj, e, b_one, Bool.and_true])
theorem bs_t0 {x : Int32} {s : Nat → Bool} {i : Nat} (h : bs x s) (hi : i < 32) : ((x &&& (1 <<< (nI i &&& 31))) = 0) ↔ s i = false := by
  rw [bs_0 (bs_and h (bs_s1 hi))]
  constructor
  · intro e; simpa using e i hi
  · intro e j hj
    by_cases hji : j = i
    · subst hji; rw [e, Bool.false_and]
    · rw [decide_eq_false hji, Bool.and_false]
theorem b_msk2 : ∀ n, n < 16 → ∀ j, j < 32 → bt ((2 <<< (nI n &&& 31)) - 1) j = decide (j ≤ n) := by decide +kernel
theorem b_msk1 : ∀ n, n < 16 → ∀ j, j < 32 → bt ((1 <<< (nI n &&& 31)) - 1) j = decide (j < n) := by decide +kernel
theorem bs_m2 {x : Int32} {s : Nat → Bool} {n : Nat} (h : bs x s) (hn : n < 16) : ((x &&& ((2 <<< (nI n &&& 31)) - 1)) = 0) ↔ ∀ j, j ≤ n → s j = false := by
  rw [bs_0 (bs_and h (b_msk2 n hn))]
  constructor
  · intro e j hj; have := e j (by omega); rwa [decide_eq_true hj, Bool.and_true] at this
  · intro e j hj
    by_cases hjn : j ≤ n
    · rw [e j hjn, Bool.false_and]
    · rw [decide_eq_false hjn, Bool.and_false]
theorem bs_m1 {x : Int32} {s : Nat → Bool} {n : Nat} (h : bs x s) (hn : n < 16) : ((x &&& ((1 <<< (nI n &&& 31)) - 1)) = 0) ↔ ∀ j, j < n → s j = false := by
  rw [bs_0 (bs_and h (b_msk1 n hn))]
  constructor
  · intro e j hj; have := e j (by omega); rwa [decide_eq_true hj, Bool.and_true] at this
  · intro e j hj
    by_cases hjn : j < n
    · rw [e j hjn, Bool.false_and]
    · rw [decide_eq_false hjn, Bool.and_false]
/-! Patterns, pure. A part: [42] a star, one sign, or a set in brackets; a piece: its parts; ** is [[42], [42]]. -/
def dpP : List (List Nat) := [[42], [42]]
def raw : List (List (List Nat)) → Bool → List Nat
  | [], _ => []
  | [p], fo => p.flatten ++ (if fo then [47] else [])
  | p :: q :: r, fo => p.flatten ++ 47 :: raw (q :: r) fo
def aOk (a : List Nat) : Prop := a = [42] ∨ (∃ c, sg c = true ∧ a = [c]) ∨ ∃ ls : List Nat, a = 91 :: (ls ++ [93]) ∧ 1 ≤ ls.length ∧ ls.length ≤ 6 ∧ ls.all sg = true
def cOk (p : List (List Nat)) : Prop := p = dpP ∨ (1 ≤ p.length ∧ p.length ≤ 8 ∧ (∀ a ∈ p, aOk a) ∧ p.take 2 ≠ dpP)
def Pok (ps : List (List (List Nat))) (fo : Bool) : Prop := 1 ≤ ps.length ∧ ps.length ≤ 6 ∧ (∀ p ∈ ps, cOk p) ∧ (raw ps fo).length ≤ 60 ∧ ∀ c ∈ raw ps fo, 32 ≤ c ∧ c < 127
theorem sl_add {t : List Nat} {a b c : Nat} (h1 : a ≤ b) (h2 : b ≤ c) (h3 : c ≤ t.length) : sl t a b ++ sl t b c = sl t a c := by
  apply ls_ext
  · rw [List.length_append, sl_len (by omega), sl_len h3, sl_len h3]; omega
  · intro i hi
    rw [List.length_append, sl_len (by omega), sl_len h3] at hi
    by_cases hib : i < b - a
    · rw [List.getD_eq_getElem?_getD, List.getElem?_append_left (by rw [sl_len (by omega)]; exact hib), ← List.getD_eq_getElem?_getD, sl_get (by omega), sl_get (by omega)]
    · rw [List.getD_eq_getElem?_getD, List.getElem?_append_right (by rw [sl_len (by omega)]; omega), ← List.getD_eq_getElem?_getD, sl_len (by omega), sl_get (by omega), sl_get (by omega)]
      congr 1; omega
theorem sl_drop {t : List Nat} {a b : Nat} (h1 : a ≤ b) (h3 : b ≤ t.length) : t.drop a = sl t a b ++ t.drop b := by
  have e : t.drop b = sl t b t.length := by unfold sl; rw [List.take_length]
  have e2 : t.drop a = sl t a t.length := by unfold sl; rw [List.take_length]
  rw [e, e2, sl_add h1 h3 (Nat.le_refl _)]
theorem sl_self (t : List Nat) (a : Nat) : sl t a a = [] := by
  apply List.eq_nil_of_length_eq_zero
  simp only [sl, List.length_drop, List.length_take]; omega
theorem sl_one {t : List Nat} {a : Nat} (h : a < t.length) : sl t a (a + 1) = [t[a]] := by
  apply ls_ext
  · rw [sl_len (by omega)]; simp
  · intro i hi
    rw [sl_len (by omega)] at hi
    obtain rfl : i = 0 := by omega
    rw [sl_get (by omega), Nat.add_zero, ls_get h]; rfl
theorem sgrun_sg {t : List Nat} : ∀ n i j, i ≤ j → j < sgrun t n i → sg (t.getD j 0) = true := by
  intro n
  induction n with
  | zero => intro i j h1 h2; unfold sgrun at h2; omega
  | succ n ih =>
    intro i j h1 h2
    unfold sgrun at h2
    by_cases h : (t[i]?).any sg = true
    · rw [if_pos h] at h2
      by_cases hji : j = i
      · subst hji
        cases hx : t[j]? with
        | none => rw [hx] at h; cases h
        | some c => rw [hx] at h; rw [List.getD_eq_getElem?_getD, hx]; simpa using h
      · exact ih (i + 1) j (by omega) h2
    · rw [if_neg h] at h2; omega
theorem pp_part_ok {t : List Nat} {k e : Nat} (hk : k ≤ t.length) (h : pp_part t k = .inl e) : aOk (sl t k e) := by
  have hle := (pp_part_le hk).1 e h
  have hkl : k < t.length := by omega
  unfold pp_part at h
  rw [List.getElem?_eq_getElem hkl] at h
  simp only at h
  split at h
  · next hc =>
    cases h
    rw [sl_one hkl]
    rcases hc with hc | hc
    · exact Or.inr (Or.inl ⟨_, hc, rfl⟩)
    · rw [hc]; exact Or.inl rfl
  · split at h
    · next h91 =>
      split at h
      · next h2 =>
        cases h
        have hl := sgrun_le (t := t) 6 (k + 1)
        generalize he : sgrun t 6 (k + 1) = e at *
        have hel : e < t.length := by omega
        right; right
        refine ⟨sl t (k + 1) e, ?_, by rw [sl_len (by omega)]; omega, by rw [sl_len (by omega)]; omega, (sg_sl (by omega)).mpr (fun j h1 h2 => sgrun_sg 6 (k + 1) j h1 (by omega))⟩
        rw [← sl_add (show k ≤ k + 1 by omega) (show k + 1 ≤ e + 1 by omega) (by omega), sl_one hkl, h91, ← sl_add (show k + 1 ≤ e by omega) (show e ≤ e + 1 by omega) (by omega), sl_one hel]
        have : t[e] = 93 := by have := h2.2; rw [List.getElem?_eq_getElem hel] at this; simpa using this
        rw [this]; rfl
      · cases h
    · cases h
theorem pp_plain_ok {t : List Nat} {k : Nat} : ∀ f acc i q, i ≤ t.length → k ≤ i → acc.flatten = sl t k i → (∀ a ∈ acc, aOk a) → acc.length ≤ 8 → pp_plain t f acc i = .inl q → q.1.flatten = sl t k q.2 ∧ (∀ a ∈ q.1, aOk a) ∧ 1 ≤ q.1.length ∧ q.1.length ≤ 8 ∧ (t[q.2]? = none ∨ t[q.2]? = some 47) := by
  intro f
  induction f with
  | zero => intro acc i q _ _ _ _ _ h; cases h
  | succ f ih =>
    intro acc i q hi hki hfl hok h8 h
    unfold pp_plain at h
    by_cases h1 : acc.length ≠ 0 ∧ (t[i]? = none ∨ t[i]? = some 47)
    · rw [if_pos h1] at h; cases h; exact ⟨hfl, hok, by show 1 ≤ acc.length; omega, h8, h1.2⟩
    · rw [if_neg h1] at h
      by_cases h2 : acc.length = 8
      · rw [if_pos h2] at h; cases h
      · rw [if_neg h2] at h
        cases hp : pp_part t i with
        | inr e => rw [hp] at h; cases h
        | inl e =>
          rw [hp] at h
          have hle := (pp_part_le hi).1 e hp
          refine ih (acc ++ [sl t i e]) e q hle.2 (by omega) ?_ ?_ ?_ h
          · rw [List.flatten_append, hfl]; simp only [List.flatten_cons, List.flatten_nil, List.append_nil]; exact sl_add hki (by omega) hle.2
          · intro a ha
            rcases List.mem_append.mp ha with ha | ha
            · exact hok a ha
            · rw [List.mem_singleton] at ha; rw [ha]; exact pp_part_ok hi hp
          · rw [List.length_append]; simp; omega
theorem aOk_ne {a : List Nat} (h : aOk a) : a ≠ [] := by
  rcases h with h | ⟨c, -, h⟩ | ⟨l, h, -⟩ <;> rw [h] <;> simp
theorem pp_piece_ok {t : List Nat} {k : Nat} {st : Bool} {q : List (List Nat) × Nat} (hk : k ≤ t.length) (h : pp_piece t k st = .inl q) : q.1.flatten = sl t k q.2 ∧ cOk q.1 ∧ (t[q.2]? = none ∨ t[q.2]? = some 47) ∧ (q.1 = dpP ↔ pp_deep t k = true) := by
  have hle := (pp_piece_le hk).1 q h
  unfold pp_piece at h
  by_cases hd : pp_deep t k = true
  · rw [if_pos hd] at h
    have hd' := hd
    simp only [pp_deep, Bool.and_eq_true, decide_eq_true_eq] at hd'
    split at h
    · cases h
    · split at h
      · next h2 =>
        cases h
        have hl1 : k + 1 < t.length := by show k + 1 < t.length; have := hle.2; simp at this; omega
        refine ⟨?_, Or.inl rfl, h2, ⟨fun _ => hd, fun _ => rfl⟩⟩
        show [42, 42] = sl t k (k + 2)
        rw [← sl_add (show k ≤ k + 1 by omega) (show k + 1 ≤ k + 2 by omega) (by omega), sl_one (by omega), sl_one hl1]
        have e1 := hd'.1
        have e2 := hd'.2
        rw [List.getElem?_eq_getElem (by omega)] at e1 e2
        simp only [Option.some.injEq] at e1 e2
        rw [e1, e2]; rfl
      · cases h
  · rw [if_neg hd] at h
    cases hp : pp_plain t 9 [] k with
    | inr e => rw [hp] at h; cases h
    | inl q' =>
      rw [hp] at h
      simp only at h
      split at h
      · cases h
      · cases h
        obtain ⟨a1, a2, a3, a4, a5⟩ := pp_plain_ok 9 [] k q hk (Nat.le_refl _) (by rw [sl_self]; rfl) (fun a ha => by cases ha) (by decide) hp
        -- what begins with two stars is ** alone
        have key : ∀ r, q.1 = [42] :: [42] :: r → False := by
          intro r hr
          apply hd
          rw [hr] at a1
          have g0 := sl_get (t := t) (a := k) (b := q.2) (i := 0)
          have g1 := sl_get (t := t) (a := k) (b := q.2) (i := 1)
          have hlen := sl_len (t := t) (a := k) hle.2
          rw [← a1] at g0 g1 hlen
          simp only [List.flatten_cons, List.cons_append, List.nil_append, List.length_cons] at hlen g0 g1
          have e0 := g0 (by omega)
          have e1 := g1 (by omega)
          simp only [List.getD_cons_zero, List.getD_cons_succ, Nat.add_zero] at e0 e1
          have l0 : k < t.length := by omega
          have l1 : k + 1 < t.length := by omega
          rw [ls_get l0] at e0
          rw [ls_get l1] at e1
          simp [pp_deep, List.getElem?_eq_getElem l0, List.getElem?_eq_getElem l1, ← e0, ← e1]
        refine ⟨a1, Or.inr ⟨a3, a4, a2, fun hr => ?_⟩, a5, ⟨fun hr => (key [] hr).elim, fun h => absurd h hd⟩⟩
        cases hq : q.1 with
        | nil => rw [hq] at a3; simp at a3
        | cons x r =>
          cases r with
          | nil => rw [hq] at hr; simp [dpP] at hr
          | cons y r =>
            rw [hq] at hr
            simp only [List.take_succ_cons, List.take_zero, dpP, List.cons.injEq, and_true] at hr
            exact key r (by rw [hq, hr.1, hr.2])
theorem pp_go_ok {t : List Nat} : ∀ f acc k st ps fo, k ≤ t.length → acc.length ≤ 6 → pp_go t f acc k st = .inl (ps, fo) → ∃ rest, ps = acc ++ rest ∧ rest ≠ [] ∧ t.drop k = raw rest fo ∧ (∀ p ∈ rest, cOk p) ∧ ps.length ≤ 6 := by
  intro f
  induction f with
  | zero => intro acc k st ps fo _ _ h; cases h
  | succ f ih =>
    intro acc k st ps fo hk ha h
    unfold pp_go at h
    by_cases h6 : acc.length = 6
    · rw [if_pos h6] at h; cases h
    · rw [if_neg h6] at h
      cases hp : pp_piece t k st with
      | inr e => rw [hp] at h; cases h
      | inl q =>
        rw [hp] at h
        simp only at h
        obtain ⟨a1, a2⟩ := (pp_piece_le hk).1 q hp
        obtain ⟨b1, b2, b3, b4⟩ := pp_piece_ok hk hp
        have hdr := sl_drop (t := t) (show k ≤ q.2 by omega) a2
        split at h
        · next h47 =>
          obtain ⟨rest, r1, r2, r3, r4, r5⟩ := ih _ _ _ _ _ (by omega) (by rw [List.length_append]; simp; omega) h
          refine ⟨q.1 :: rest, by rw [r1]; simp, by simp, ?_, fun p hp => ?_, r5⟩
          · have hql : q.2 < t.length := by omega
            have : t.drop q.2 = 47 :: t.drop (q.2 + 1) := by
              rw [List.drop_eq_getElem_cons hql]
              have := h47.1
              rw [List.getElem?_eq_getElem hql] at this
              simp only [Option.some.injEq] at this
              rw [this]
            rw [hdr, this, r3, ← b1]
            cases rest with
            | nil => exact absurd rfl r2
            | cons y r => rfl
          · rcases List.mem_cons.mp hp with hp | hp
            · rw [hp]; exact b2
            · exact r4 p hp
        · next h47 =>
          simp only [Sum.inl.injEq, Prod.mk.injEq] at h
          obtain ⟨h1, h2⟩ := h
          refine ⟨[q.1], h1.symm, by simp, ?_, fun p hp => ?_, by rw [← h1, List.length_append]; simp; omega⟩
          · rw [hdr, ← b1]
            show q.1.flatten ++ t.drop q.2 = q.1.flatten ++ (if fo = true then [47] else [])
            congr 1
            rcases b3 with b3 | b3
            · rw [b3] at h2
              rw [← h2]
              simp only [List.getElem?_eq_none_iff] at b3
              rw [List.drop_of_length_le b3]; rfl
            · rw [b3] at h2
              rw [← h2]
              have hql : q.2 < t.length := by
                by_cases hh : q.2 < t.length
                · exact hh
                · rw [List.getElem?_eq_none (by omega)] at b3; cases b3
              have hlast : ¬ q.2 + 1 < t.length := fun hh => h47 ⟨b3, hh⟩
              rw [List.drop_eq_getElem_cons hql, List.drop_of_length_le (by omega)]
              rw [List.getElem?_eq_getElem hql] at b3
              simp only [Option.some.injEq] at b3
              rw [b3]; rfl
          · rw [List.mem_singleton] at hp; rw [hp]; exact b2
theorem pp_ok {t : List Nat} {ps : List (List (List Nat))} {fo : Bool} (h : pp t = .inl (ps, fo)) (hl : t.length ≤ 60) (hc : ∀ c ∈ t, 32 ≤ c ∧ c < 127) : t = raw ps fo ∧ Pok ps fo := by
  obtain ⟨rest, r1, r2, r3, r4, r5⟩ := pp_go_ok _ _ _ _ _ _ (Nat.zero_le _) (by decide) h
  rw [List.nil_append] at r1
  subst r1
  rw [List.drop_zero] at r3
  refine ⟨r3, ?_, r5, r4, by rw [← r3]; exact hl, by rw [← r3]; exact hc⟩
  cases ps with
  | nil => exact absurd rfl r2
  | cons x r => simp
