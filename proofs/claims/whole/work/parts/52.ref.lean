/-! The reference's cells: one picture of its scalars S and its arrays F; the object lies at m, its arrays right behind it, in their order. -/
def rf_tab (j : Nat) : Option (Nat × Nat × Nat) := ([(0, 9, 0), (1, 0, 60), (4, 2, 6), (5, 2, 6), (6, 2, 61), (7, 2, 61), (8, 2, 61), (9, 2, 61), (10, 2, 61), (11, 3, 61), (12, 0, 488), (16, 2, 6), (17, 2, 6), (18, 2, 6), (19, 2, 6), (20, 2, 48), (21, 0, 360), (22, 0, 2880), (23, 3, 6), (24, 2, 366), (28, 2, 60), (29, 0, 3240), (31, 2, 8), (32, 2, 8), (33, 2, 8), (34, 2, 8), (35, 0, 64), (37, 0, 60), (38, 2, 61)] : List (Nat × Nat × Nat))[j]?
def rf_fs (m : Nat) (S : Nat → Int32) : List Value := [.int (S 0), .ref (m + 1), .int (S 2), .int (S 3), .ref (m + 2), .ref (m + 3), .ref (m + 4), .ref (m + 5), .ref (m + 6), .ref (m + 7), .ref (m + 8), .ref (m + 9), .ref (m + 10), .int (S 13), .int (S 14), .int (S 15), .ref (m + 11), .ref (m + 12), .ref (m + 13), .ref (m + 14), .ref (m + 15), .ref (m + 16), .ref (m + 17), .ref (m + 18), .ref (m + 19), .int (S 25), .int (S 26), .int (S 27), .ref (m + 20), .ref (m + 21), .int (S 30), .ref (m + 22), .ref (m + 23), .ref (m + 24), .ref (m + 25), .ref (m + 26), .int (S 36), .ref (m + 27), .ref (m + 28)]
def rf_ar (F : Nat → Nat → Int32) (j : Nat) : Option vg_E := match rf_tab j with
  | some q => some (.inl (q.2.1, q.2.2, .inl (F q.1)))
  | none => none
def rf_M (μ : vg_M) (m : Nat) (S : Nat → Int32) (F : Nat → Nat → Int32) : vg_M := (fun a => if a = m then some (.inr (14, rf_fs m S)) else if m < a ∧ a < m + 29 then rf_ar F (a - m) else μ.1 a, μ.2)
def rf_u (F : Nat → Nat → Int32) (k i : Nat) (x : Int32) : Nat → Nat → Int32 := fun k' => if k' = k then upd (F k) i x else F k'
theorem rf_at0 (μ : vg_M) (m : Nat) (S : Nat → Int32) (F : Nat → Nat → Int32) : (rf_M μ m S F).1 m = some (.inr (14, rf_fs m S)) := by simp only [rf_M, if_true]
theorem rf_atj (μ : vg_M) (m : Nat) (S : Nat → Int32) (F : Nat → Nat → Int32) {j : Nat} (h1 : 1 ≤ j) (h2 : j < 29) : (rf_M μ m S F).1 (m + j) = rf_ar F j := by
  have e : m + j - m = j := by omega
  simp only [rf_M, if_neg (show ¬ m + j = m by omega), if_pos (show m < m + j ∧ m + j < m + 29 from ⟨by omega, by omega⟩), e]
theorem rf_out (μ : vg_M) (m : Nat) (S : Nat → Int32) (F : Nat → Nat → Int32) {a : Nat} (h : a < m ∨ m + 29 ≤ a) : (rf_M μ m S F).1 a = μ.1 a := by
  simp only [rf_M, if_neg (show ¬ a = m by omega), if_neg (show ¬ (m < a ∧ a < m + 29) by omega)]
theorem rf_injq : ∀ j, j < 29 → ∀ j', j' < 29 → j ≠ j' → (rf_tab j).map (fun q => q.1) ≠ (rf_tab j').map (fun q => q.1) := by decide +kernel
theorem rf_inj {j j' : Nat} {q q' : Nat × Nat × Nat} (h : j < 29) (h' : j' < 29) (hj : rf_tab j = some q) (hj' : rf_tab j' = some q') (hne : j ≠ j') : q'.1 ≠ q.1 := by
  intro he
  apply rf_injq j h j' h' hne
  rw [hj, hj']
  simp only [Option.map_some, he]
theorem rf_sG {μ : vg_M} {m : Nat} {S : Nat → Int32} {F : Nat → Nat → Int32} {j k t n i : Nat} {x : Int32} (hs : μ.2.2.1 ≤ m) (hj : rf_tab j = some (k, t, n)) (h1 : 1 ≤ j) (h2 : j < 29) (hi : i < n) (hn : n < 2 ^ 31) :
    vg_sI (rf_M μ m S F) (m + j) t (nI i) x = some (rf_M μ m S (rf_u F k i (vp_nar (vg_tyI t) x))) := by
  have e1 : (rf_M μ m S F).1 (m + j) = some (.inl (t, n, .inl (F k))) := by rw [rf_atj _ _ _ _ h1 h2]; simp only [rf_ar, hj]
  have e2 : (rf_M μ m S F).2.2.1 ≤ m + j := by show μ.2.2.1 ≤ m + j; omega
  simp only [vg_sI, e1, e2, and_self, if_true, pg_ixN hi hn, Option.some.injEq]
  refine Prod.ext (funext fun a => ?_) rfl
  show va_up _ _ _ a = _
  by_cases ha : a = m + j
  · subst ha
    rw [va_up_self, rf_atj _ _ _ _ h1 h2]
    simp only [rf_ar, hj, rf_u, if_true]
  · rw [va_up_ne _ _ ha]
    by_cases hm : a = m
    · subst hm; rw [rf_at0, rf_at0]
    · by_cases hr : m < a ∧ a < m + 29
      · obtain ⟨j', rfl⟩ : ∃ j', a = m + j' := ⟨a - m, by omega⟩
        rw [rf_atj _ _ _ _ (by omega) (by omega), rf_atj _ _ _ _ (by omega) (by omega)]
        unfold rf_ar
        cases hq : rf_tab j' with
        | none => rfl
        | some q' =>
          have hne : q'.1 ≠ k := rf_inj (q := (k, t, n)) h2 (show j' < 29 by omega) hj hq (by omega)
          simp only [rf_u, if_neg hne]
      · rw [rf_out _ _ _ _ (by omega), rf_out _ _ _ _ (by omega)]
theorem rf_aG {μ : vg_M} {m : Nat} {S : Nat → Int32} {F : Nat → Nat → Int32} {j k t n i : Nat} (hj : rf_tab j = some (k, t, n)) (h1 : 1 ≤ j) (h2 : j < 29) (hi : i < n) (hn : n < 2 ^ 31) :
    vg_aI (rf_M μ m S F) (m + j) t (nI i) = some (F k i) := by
  have e1 : (rf_M μ m S F).1 (m + j) = some (.inl (t, n, .inl (F k))) := by rw [rf_atj _ _ _ _ h1 h2]; simp only [rf_ar, hj]
  exact pg_aI e1 hi hn
theorem rf_cv {α β : Type} {μ : vg_M} {m : Nat} {S : Nat → Int32} {F : Nat → Nat → Int32} {x : vg_R α} {f : α → vg_M → vg_R β} : vg_cv 14 m (rf_M μ m S F) x f = vg_b x f := pg_cv (rf_at0 μ m S F)
theorem rf_pG {μ : vg_M} {m k : Nat} {S : Nat → Int32} {F : Nat → Nat → Int32} {x : Int32} (hs : μ.2.2.1 ≤ m) (hk : k < 39) (he : (rf_fs m S).set k (.int x) = rf_fs m (upd S k x)) : vg_p (rf_M μ m S F) m 14 k (.int x) = some (rf_M μ m (upd S k x) F) := by
  have e2 : (rf_M μ m S F).2.2.1 ≤ m := hs
  have e3 : k < (rf_fs m S).length := hk
  simp only [vg_p, rf_at0, e2, e3, and_self, if_true, Option.some.injEq]
  refine Prod.ext (funext fun a => ?_) rfl
  show va_up _ _ _ a = _
  by_cases hm : a = m
  · subst hm; rw [va_up_self, rf_at0, he]
  · rw [va_up_ne _ _ hm]
    by_cases hr : m < a ∧ a < m + 29
    · obtain ⟨j', rfl⟩ : ∃ j', a = m + j' := ⟨a - m, by omega⟩
      rw [rf_atj _ _ _ _ (by omega) (by omega), rf_atj _ _ _ _ (by omega) (by omega)]
    · rw [rf_out _ _ _ _ (by omega), rf_out _ _ _ _ (by omega)]
theorem rf_i0 {μ : vg_M} {m : Nat} {S : Nat → Int32} {F : Nat → Nat → Int32} : vg_gI (rf_M μ m S F) m 14 0 = some (S 0) := pg_gI (rf_at0 μ m S F) rfl
theorem rf_p0 {μ : vg_M} {m : Nat} {S : Nat → Int32} {F : Nat → Nat → Int32} {x : Int32} (hs : μ.2.2.1 ≤ m) : vg_p (rf_M μ m S F) m 14 0 (.int x) = some (rf_M μ m (upd S 0 x) F) := rf_pG hs (by decide) rfl
theorem rf_i2 {μ : vg_M} {m : Nat} {S : Nat → Int32} {F : Nat → Nat → Int32} : vg_gI (rf_M μ m S F) m 14 2 = some (S 2) := pg_gI (rf_at0 μ m S F) rfl
theorem rf_p2 {μ : vg_M} {m : Nat} {S : Nat → Int32} {F : Nat → Nat → Int32} {x : Int32} (hs : μ.2.2.1 ≤ m) : vg_p (rf_M μ m S F) m 14 2 (.int x) = some (rf_M μ m (upd S 2 x) F) := rf_pG hs (by decide) rfl
theorem rf_i3 {μ : vg_M} {m : Nat} {S : Nat → Int32} {F : Nat → Nat → Int32} : vg_gI (rf_M μ m S F) m 14 3 = some (S 3) := pg_gI (rf_at0 μ m S F) rfl
theorem rf_p3 {μ : vg_M} {m : Nat} {S : Nat → Int32} {F : Nat → Nat → Int32} {x : Int32} (hs : μ.2.2.1 ≤ m) : vg_p (rf_M μ m S F) m 14 3 (.int x) = some (rf_M μ m (upd S 3 x) F) := rf_pG hs (by decide) rfl
theorem rf_i13 {μ : vg_M} {m : Nat} {S : Nat → Int32} {F : Nat → Nat → Int32} : vg_gI (rf_M μ m S F) m 14 13 = some (S 13) := pg_gI (rf_at0 μ m S F) rfl
theorem rf_p13 {μ : vg_M} {m : Nat} {S : Nat → Int32} {F : Nat → Nat → Int32} {x : Int32} (hs : μ.2.2.1 ≤ m) : vg_p (rf_M μ m S F) m 14 13 (.int x) = some (rf_M μ m (upd S 13 x) F) := rf_pG hs (by decide) rfl
theorem rf_i14 {μ : vg_M} {m : Nat} {S : Nat → Int32} {F : Nat → Nat → Int32} : vg_gI (rf_M μ m S F) m 14 14 = some (S 14) := pg_gI (rf_at0 μ m S F) rfl
theorem rf_p14 {μ : vg_M} {m : Nat} {S : Nat → Int32} {F : Nat → Nat → Int32} {x : Int32} (hs : μ.2.2.1 ≤ m) : vg_p (rf_M μ m S F) m 14 14 (.int x) = some (rf_M μ m (upd S 14 x) F) := rf_pG hs (by decide) rfl
theorem rf_i15 {μ : vg_M} {m : Nat} {S : Nat → Int32} {F : Nat → Nat → Int32} : vg_gI (rf_M μ m S F) m 14 15 = some (S 15) := pg_gI (rf_at0 μ m S F) rfl
theorem rf_p15 {μ : vg_M} {m : Nat} {S : Nat → Int32} {F : Nat → Nat → Int32} {x : Int32} (hs : μ.2.2.1 ≤ m) : vg_p (rf_M μ m S F) m 14 15 (.int x) = some (rf_M μ m (upd S 15 x) F) := rf_pG hs (by decide) rfl
theorem rf_i25 {μ : vg_M} {m : Nat} {S : Nat → Int32} {F : Nat → Nat → Int32} : vg_gI (rf_M μ m S F) m 14 25 = some (S 25) := pg_gI (rf_at0 μ m S F) rfl
theorem rf_p25 {μ : vg_M} {m : Nat} {S : Nat → Int32} {F : Nat → Nat → Int32} {x : Int32} (hs : μ.2.2.1 ≤ m) : vg_p (rf_M μ m S F) m 14 25 (.int x) = some (rf_M μ m (upd S 25 x) F) := rf_pG hs (by decide) rfl
theorem rf_i26 {μ : vg_M} {m : Nat} {S : Nat → Int32} {F : Nat → Nat → Int32} : vg_gI (rf_M μ m S F) m 14 26 = some (S 26) := pg_gI (rf_at0 μ m S F) rfl
theorem rf_p26 {μ : vg_M} {m : Nat} {S : Nat → Int32} {F : Nat → Nat → Int32} {x : Int32} (hs : μ.2.2.1 ≤ m) : vg_p (rf_M μ m S F) m 14 26 (.int x) = some (rf_M μ m (upd S 26 x) F) := rf_pG hs (by decide) rfl
theorem rf_i27 {μ : vg_M} {m : Nat} {S : Nat → Int32} {F : Nat → Nat → Int32} : vg_gI (rf_M μ m S F) m 14 27 = some (S 27) := pg_gI (rf_at0 μ m S F) rfl
theorem rf_p27 {μ : vg_M} {m : Nat} {S : Nat → Int32} {F : Nat → Nat → Int32} {x : Int32} (hs : μ.2.2.1 ≤ m) : vg_p (rf_M μ m S F) m 14 27 (.int x) = some (rf_M μ m (upd S 27 x) F) := rf_pG hs (by decide) rfl
theorem rf_i30 {μ : vg_M} {m : Nat} {S : Nat → Int32} {F : Nat → Nat → Int32} : vg_gI (rf_M μ m S F) m 14 30 = some (S 30) := pg_gI (rf_at0 μ m S F) rfl
theorem rf_p30 {μ : vg_M} {m : Nat} {S : Nat → Int32} {F : Nat → Nat → Int32} {x : Int32} (hs : μ.2.2.1 ≤ m) : vg_p (rf_M μ m S F) m 14 30 (.int x) = some (rf_M μ m (upd S 30 x) F) := rf_pG hs (by decide) rfl
theorem rf_i36 {μ : vg_M} {m : Nat} {S : Nat → Int32} {F : Nat → Nat → Int32} : vg_gI (rf_M μ m S F) m 14 36 = some (S 36) := pg_gI (rf_at0 μ m S F) rfl
theorem rf_p36 {μ : vg_M} {m : Nat} {S : Nat → Int32} {F : Nat → Nat → Int32} {x : Int32} (hs : μ.2.2.1 ≤ m) : vg_p (rf_M μ m S F) m 14 36 (.int x) = some (rf_M μ m (upd S 36 x) F) := rf_pG hs (by decide) rfl
theorem rf_r1 {μ : vg_M} {m : Nat} {S : Nat → Int32} {F : Nat → Nat → Int32} : vg_gR (rf_M μ m S F) m 14 1 = some (some (m + 1)) := pg_gR (rf_at0 μ m S F) rfl
theorem rf_a1 {μ : vg_M} {m : Nat} {S : Nat → Int32} {F : Nat → Nat → Int32} {i : Nat} (h : i < 60) : vg_aI (rf_M μ m S F) (m + 1) 0 (nI i) = some (F 1 i) := rf_aG (k := 1) (n := 60) rfl (by decide) (by decide) h (by decide)
theorem rf_s1 {μ : vg_M} {m : Nat} {S : Nat → Int32} {F : Nat → Nat → Int32} {i : Nat} {x : Int32} (hs : μ.2.2.1 ≤ m) (h : i < 60) (hx : vp_nar .byte x = x) : vg_sI (rf_M μ m S F) (m + 1) 0 (nI i) x = some (rf_M μ m S (rf_u F 1 i x)) := by
  have e := rf_sG (F := F) (S := S) (k := 1) (n := 60) (t := 0) (x := x) hs (j := 1) rfl (by decide) (by decide) h (by decide)
  rw [show vg_tyI 0 = .byte from rfl, hx] at e
  exact e
theorem rf_r4 {μ : vg_M} {m : Nat} {S : Nat → Int32} {F : Nat → Nat → Int32} : vg_gR (rf_M μ m S F) m 14 4 = some (some (m + 2)) := pg_gR (rf_at0 μ m S F) rfl
theorem rf_a4 {μ : vg_M} {m : Nat} {S : Nat → Int32} {F : Nat → Nat → Int32} {i : Nat} (h : i < 6) : vg_aI (rf_M μ m S F) (m + 2) 2 (nI i) = some (F 4 i) := rf_aG (k := 4) (n := 6) rfl (by decide) (by decide) h (by decide)
theorem rf_s4 {μ : vg_M} {m : Nat} {S : Nat → Int32} {F : Nat → Nat → Int32} {i : Nat} {x : Int32} (hs : μ.2.2.1 ≤ m) (h : i < 6) : vg_sI (rf_M μ m S F) (m + 2) 2 (nI i) x = some (rf_M μ m S (rf_u F 4 i x)) := rf_sG (k := 4) (n := 6) hs rfl (by decide) (by decide) h (by decide)
theorem rf_r5 {μ : vg_M} {m : Nat} {S : Nat → Int32} {F : Nat → Nat → Int32} : vg_gR (rf_M μ m S F) m 14 5 = some (some (m + 3)) := pg_gR (rf_at0 μ m S F) rfl
theorem rf_a5 {μ : vg_M} {m : Nat} {S : Nat → Int32} {F : Nat → Nat → Int32} {i : Nat} (h : i < 6) : vg_aI (rf_M μ m S F) (m + 3) 2 (nI i) = some (F 5 i) := rf_aG (k := 5) (n := 6) rfl (by decide) (by decide) h (by decide)
theorem rf_s5 {μ : vg_M} {m : Nat} {S : Nat → Int32} {F : Nat → Nat → Int32} {i : Nat} {x : Int32} (hs : μ.2.2.1 ≤ m) (h : i < 6) : vg_sI (rf_M μ m S F) (m + 3) 2 (nI i) x = some (rf_M μ m S (rf_u F 5 i x)) := rf_sG (k := 5) (n := 6) hs rfl (by decide) (by decide) h (by decide)
theorem rf_r6 {μ : vg_M} {m : Nat} {S : Nat → Int32} {F : Nat → Nat → Int32} : vg_gR (rf_M μ m S F) m 14 6 = some (some (m + 4)) := pg_gR (rf_at0 μ m S F) rfl
theorem rf_a6 {μ : vg_M} {m : Nat} {S : Nat → Int32} {F : Nat → Nat → Int32} {i : Nat} (h : i < 61) : vg_aI (rf_M μ m S F) (m + 4) 2 (nI i) = some (F 6 i) := rf_aG (k := 6) (n := 61) rfl (by decide) (by decide) h (by decide)
theorem rf_s6 {μ : vg_M} {m : Nat} {S : Nat → Int32} {F : Nat → Nat → Int32} {i : Nat} {x : Int32} (hs : μ.2.2.1 ≤ m) (h : i < 61) : vg_sI (rf_M μ m S F) (m + 4) 2 (nI i) x = some (rf_M μ m S (rf_u F 6 i x)) := rf_sG (k := 6) (n := 61) hs rfl (by decide) (by decide) h (by decide)
theorem rf_r7 {μ : vg_M} {m : Nat} {S : Nat → Int32} {F : Nat → Nat → Int32} : vg_gR (rf_M μ m S F) m 14 7 = some (some (m + 5)) := pg_gR (rf_at0 μ m S F) rfl
theorem rf_a7 {μ : vg_M} {m : Nat} {S : Nat → Int32} {F : Nat → Nat → Int32} {i : Nat} (h : i < 61) : vg_aI (rf_M μ m S F) (m + 5) 2 (nI i) = some (F 7 i) := rf_aG (k := 7) (n := 61) rfl (by decide) (by decide) h (by decide)
theorem rf_s7 {μ : vg_M} {m : Nat} {S : Nat → Int32} {F : Nat → Nat → Int32} {i : Nat} {x : Int32} (hs : μ.2.2.1 ≤ m) (h : i < 61) : vg_sI (rf_M μ m S F) (m + 5) 2 (nI i) x = some (rf_M μ m S (rf_u F 7 i x)) := rf_sG (k := 7) (n := 61) hs rfl (by decide) (by decide) h (by decide)
theorem rf_r8 {μ : vg_M} {m : Nat} {S : Nat → Int32} {F : Nat → Nat → Int32} : vg_gR (rf_M μ m S F) m 14 8 = some (some (m + 6)) := pg_gR (rf_at0 μ m S F) rfl
theorem rf_a8 {μ : vg_M} {m : Nat} {S : Nat → Int32} {F : Nat → Nat → Int32} {i : Nat} (h : i < 61) : vg_aI (rf_M μ m S F) (m + 6) 2 (nI i) = some (F 8 i) := rf_aG (k := 8) (n := 61) rfl (by decide) (by decide) h (by decide)
theorem rf_s8 {μ : vg_M} {m : Nat} {S : Nat → Int32} {F : Nat → Nat → Int32} {i : Nat} {x : Int32} (hs : μ.2.2.1 ≤ m) (h : i < 61) : vg_sI (rf_M μ m S F) (m + 6) 2 (nI i) x = some (rf_M μ m S (rf_u F 8 i x)) := rf_sG (k := 8) (n := 61) hs rfl (by decide) (by decide) h (by decide)
theorem rf_r9 {μ : vg_M} {m : Nat} {S : Nat → Int32} {F : Nat → Nat → Int32} : vg_gR (rf_M μ m S F) m 14 9 = some (some (m + 7)) := pg_gR (rf_at0 μ m S F) rfl
theorem rf_a9 {μ : vg_M} {m : Nat} {S : Nat → Int32} {F : Nat → Nat → Int32} {i : Nat} (h : i < 61) : vg_aI (rf_M μ m S F) (m + 7) 2 (nI i) = some (F 9 i) := rf_aG (k := 9) (n := 61) rfl (by decide) (by decide) h (by decide)
theorem rf_s9 {μ : vg_M} {m : Nat} {S : Nat → Int32} {F : Nat → Nat → Int32} {i : Nat} {x : Int32} (hs : μ.2.2.1 ≤ m) (h : i < 61) : vg_sI (rf_M μ m S F) (m + 7) 2 (nI i) x = some (rf_M μ m S (rf_u F 9 i x)) := rf_sG (k := 9) (n := 61) hs rfl (by decide) (by decide) h (by decide)
theorem rf_r10 {μ : vg_M} {m : Nat} {S : Nat → Int32} {F : Nat → Nat → Int32} : vg_gR (rf_M μ m S F) m 14 10 = some (some (m + 8)) := pg_gR (rf_at0 μ m S F) rfl
theorem rf_a10 {μ : vg_M} {m : Nat} {S : Nat → Int32} {F : Nat → Nat → Int32} {i : Nat} (h : i < 61) : vg_aI (rf_M μ m S F) (m + 8) 2 (nI i) = some (F 10 i) := rf_aG (k := 10) (n := 61) rfl (by decide) (by decide) h (by decide)
theorem rf_s10 {μ : vg_M} {m : Nat} {S : Nat → Int32} {F : Nat → Nat → Int32} {i : Nat} {x : Int32} (hs : μ.2.2.1 ≤ m) (h : i < 61) : vg_sI (rf_M μ m S F) (m + 8) 2 (nI i) x = some (rf_M μ m S (rf_u F 10 i x)) := rf_sG (k := 10) (n := 61) hs rfl (by decide) (by decide) h (by decide)
theorem rf_r11 {μ : vg_M} {m : Nat} {S : Nat → Int32} {F : Nat → Nat → Int32} : vg_gR (rf_M μ m S F) m 14 11 = some (some (m + 9)) := pg_gR (rf_at0 μ m S F) rfl
theorem rf_a11 {μ : vg_M} {m : Nat} {S : Nat → Int32} {F : Nat → Nat → Int32} {i : Nat} (h : i < 61) : vg_aI (rf_M μ m S F) (m + 9) 3 (nI i) = some (F 11 i) := rf_aG (k := 11) (n := 61) rfl (by decide) (by decide) h (by decide)
theorem rf_s11 {μ : vg_M} {m : Nat} {S : Nat → Int32} {F : Nat → Nat → Int32} {i : Nat} {x : Int32} (hs : μ.2.2.1 ≤ m) (h : i < 61) (hx : vp_nar .boolean x = x) : vg_sI (rf_M μ m S F) (m + 9) 3 (nI i) x = some (rf_M μ m S (rf_u F 11 i x)) := by
  have e := rf_sG (F := F) (S := S) (k := 11) (n := 61) (t := 3) (x := x) hs (j := 9) rfl (by decide) (by decide) h (by decide)
  rw [show vg_tyI 3 = .boolean from rfl, hx] at e
  exact e
theorem rf_r12 {μ : vg_M} {m : Nat} {S : Nat → Int32} {F : Nat → Nat → Int32} : vg_gR (rf_M μ m S F) m 14 12 = some (some (m + 10)) := pg_gR (rf_at0 μ m S F) rfl
theorem rf_a12 {μ : vg_M} {m : Nat} {S : Nat → Int32} {F : Nat → Nat → Int32} {i : Nat} (h : i < 488) : vg_aI (rf_M μ m S F) (m + 10) 0 (nI i) = some (F 12 i) := rf_aG (k := 12) (n := 488) rfl (by decide) (by decide) h (by decide)
theorem rf_s12 {μ : vg_M} {m : Nat} {S : Nat → Int32} {F : Nat → Nat → Int32} {i : Nat} {x : Int32} (hs : μ.2.2.1 ≤ m) (h : i < 488) (hx : vp_nar .byte x = x) : vg_sI (rf_M μ m S F) (m + 10) 0 (nI i) x = some (rf_M μ m S (rf_u F 12 i x)) := by
  have e := rf_sG (F := F) (S := S) (k := 12) (n := 488) (t := 0) (x := x) hs (j := 10) rfl (by decide) (by decide) h (by decide)
  rw [show vg_tyI 0 = .byte from rfl, hx] at e
  exact e
theorem rf_r16 {μ : vg_M} {m : Nat} {S : Nat → Int32} {F : Nat → Nat → Int32} : vg_gR (rf_M μ m S F) m 14 16 = some (some (m + 11)) := pg_gR (rf_at0 μ m S F) rfl
theorem rf_a16 {μ : vg_M} {m : Nat} {S : Nat → Int32} {F : Nat → Nat → Int32} {i : Nat} (h : i < 6) : vg_aI (rf_M μ m S F) (m + 11) 2 (nI i) = some (F 16 i) := rf_aG (k := 16) (n := 6) rfl (by decide) (by decide) h (by decide)
theorem rf_s16 {μ : vg_M} {m : Nat} {S : Nat → Int32} {F : Nat → Nat → Int32} {i : Nat} {x : Int32} (hs : μ.2.2.1 ≤ m) (h : i < 6) : vg_sI (rf_M μ m S F) (m + 11) 2 (nI i) x = some (rf_M μ m S (rf_u F 16 i x)) := rf_sG (k := 16) (n := 6) hs rfl (by decide) (by decide) h (by decide)
theorem rf_r17 {μ : vg_M} {m : Nat} {S : Nat → Int32} {F : Nat → Nat → Int32} : vg_gR (rf_M μ m S F) m 14 17 = some (some (m + 12)) := pg_gR (rf_at0 μ m S F) rfl
theorem rf_a17 {μ : vg_M} {m : Nat} {S : Nat → Int32} {F : Nat → Nat → Int32} {i : Nat} (h : i < 6) : vg_aI (rf_M μ m S F) (m + 12) 2 (nI i) = some (F 17 i) := rf_aG (k := 17) (n := 6) rfl (by decide) (by decide) h (by decide)
theorem rf_s17 {μ : vg_M} {m : Nat} {S : Nat → Int32} {F : Nat → Nat → Int32} {i : Nat} {x : Int32} (hs : μ.2.2.1 ≤ m) (h : i < 6) : vg_sI (rf_M μ m S F) (m + 12) 2 (nI i) x = some (rf_M μ m S (rf_u F 17 i x)) := rf_sG (k := 17) (n := 6) hs rfl (by decide) (by decide) h (by decide)
theorem rf_r18 {μ : vg_M} {m : Nat} {S : Nat → Int32} {F : Nat → Nat → Int32} : vg_gR (rf_M μ m S F) m 14 18 = some (some (m + 13)) := pg_gR (rf_at0 μ m S F) rfl
theorem rf_a18 {μ : vg_M} {m : Nat} {S : Nat → Int32} {F : Nat → Nat → Int32} {i : Nat} (h : i < 6) : vg_aI (rf_M μ m S F) (m + 13) 2 (nI i) = some (F 18 i) := rf_aG (k := 18) (n := 6) rfl (by decide) (by decide) h (by decide)
theorem rf_s18 {μ : vg_M} {m : Nat} {S : Nat → Int32} {F : Nat → Nat → Int32} {i : Nat} {x : Int32} (hs : μ.2.2.1 ≤ m) (h : i < 6) : vg_sI (rf_M μ m S F) (m + 13) 2 (nI i) x = some (rf_M μ m S (rf_u F 18 i x)) := rf_sG (k := 18) (n := 6) hs rfl (by decide) (by decide) h (by decide)
theorem rf_r19 {μ : vg_M} {m : Nat} {S : Nat → Int32} {F : Nat → Nat → Int32} : vg_gR (rf_M μ m S F) m 14 19 = some (some (m + 14)) := pg_gR (rf_at0 μ m S F) rfl
theorem rf_a19 {μ : vg_M} {m : Nat} {S : Nat → Int32} {F : Nat → Nat → Int32} {i : Nat} (h : i < 6) : vg_aI (rf_M μ m S F) (m + 14) 2 (nI i) = some (F 19 i) := rf_aG (k := 19) (n := 6) rfl (by decide) (by decide) h (by decide)
theorem rf_s19 {μ : vg_M} {m : Nat} {S : Nat → Int32} {F : Nat → Nat → Int32} {i : Nat} {x : Int32} (hs : μ.2.2.1 ≤ m) (h : i < 6) : vg_sI (rf_M μ m S F) (m + 14) 2 (nI i) x = some (rf_M μ m S (rf_u F 19 i x)) := rf_sG (k := 19) (n := 6) hs rfl (by decide) (by decide) h (by decide)
theorem rf_r20 {μ : vg_M} {m : Nat} {S : Nat → Int32} {F : Nat → Nat → Int32} : vg_gR (rf_M μ m S F) m 14 20 = some (some (m + 15)) := pg_gR (rf_at0 μ m S F) rfl
theorem rf_a20 {μ : vg_M} {m : Nat} {S : Nat → Int32} {F : Nat → Nat → Int32} {i : Nat} (h : i < 48) : vg_aI (rf_M μ m S F) (m + 15) 2 (nI i) = some (F 20 i) := rf_aG (k := 20) (n := 48) rfl (by decide) (by decide) h (by decide)
theorem rf_s20 {μ : vg_M} {m : Nat} {S : Nat → Int32} {F : Nat → Nat → Int32} {i : Nat} {x : Int32} (hs : μ.2.2.1 ≤ m) (h : i < 48) : vg_sI (rf_M μ m S F) (m + 15) 2 (nI i) x = some (rf_M μ m S (rf_u F 20 i x)) := rf_sG (k := 20) (n := 48) hs rfl (by decide) (by decide) h (by decide)
theorem rf_r21 {μ : vg_M} {m : Nat} {S : Nat → Int32} {F : Nat → Nat → Int32} : vg_gR (rf_M μ m S F) m 14 21 = some (some (m + 16)) := pg_gR (rf_at0 μ m S F) rfl
theorem rf_a21 {μ : vg_M} {m : Nat} {S : Nat → Int32} {F : Nat → Nat → Int32} {i : Nat} (h : i < 360) : vg_aI (rf_M μ m S F) (m + 16) 0 (nI i) = some (F 21 i) := rf_aG (k := 21) (n := 360) rfl (by decide) (by decide) h (by decide)
theorem rf_s21 {μ : vg_M} {m : Nat} {S : Nat → Int32} {F : Nat → Nat → Int32} {i : Nat} {x : Int32} (hs : μ.2.2.1 ≤ m) (h : i < 360) (hx : vp_nar .byte x = x) : vg_sI (rf_M μ m S F) (m + 16) 0 (nI i) x = some (rf_M μ m S (rf_u F 21 i x)) := by
  have e := rf_sG (F := F) (S := S) (k := 21) (n := 360) (t := 0) (x := x) hs (j := 16) rfl (by decide) (by decide) h (by decide)
  rw [show vg_tyI 0 = .byte from rfl, hx] at e
  exact e
theorem rf_r22 {μ : vg_M} {m : Nat} {S : Nat → Int32} {F : Nat → Nat → Int32} : vg_gR (rf_M μ m S F) m 14 22 = some (some (m + 17)) := pg_gR (rf_at0 μ m S F) rfl
theorem rf_a22 {μ : vg_M} {m : Nat} {S : Nat → Int32} {F : Nat → Nat → Int32} {i : Nat} (h : i < 2880) : vg_aI (rf_M μ m S F) (m + 17) 0 (nI i) = some (F 22 i) := rf_aG (k := 22) (n := 2880) rfl (by decide) (by decide) h (by decide)
theorem rf_s22 {μ : vg_M} {m : Nat} {S : Nat → Int32} {F : Nat → Nat → Int32} {i : Nat} {x : Int32} (hs : μ.2.2.1 ≤ m) (h : i < 2880) (hx : vp_nar .byte x = x) : vg_sI (rf_M μ m S F) (m + 17) 0 (nI i) x = some (rf_M μ m S (rf_u F 22 i x)) := by
  have e := rf_sG (F := F) (S := S) (k := 22) (n := 2880) (t := 0) (x := x) hs (j := 17) rfl (by decide) (by decide) h (by decide)
  rw [show vg_tyI 0 = .byte from rfl, hx] at e
  exact e
theorem rf_r23 {μ : vg_M} {m : Nat} {S : Nat → Int32} {F : Nat → Nat → Int32} : vg_gR (rf_M μ m S F) m 14 23 = some (some (m + 18)) := pg_gR (rf_at0 μ m S F) rfl
theorem rf_a23 {μ : vg_M} {m : Nat} {S : Nat → Int32} {F : Nat → Nat → Int32} {i : Nat} (h : i < 6) : vg_aI (rf_M μ m S F) (m + 18) 3 (nI i) = some (F 23 i) := rf_aG (k := 23) (n := 6) rfl (by decide) (by decide) h (by decide)
theorem rf_s23 {μ : vg_M} {m : Nat} {S : Nat → Int32} {F : Nat → Nat → Int32} {i : Nat} {x : Int32} (hs : μ.2.2.1 ≤ m) (h : i < 6) (hx : vp_nar .boolean x = x) : vg_sI (rf_M μ m S F) (m + 18) 3 (nI i) x = some (rf_M μ m S (rf_u F 23 i x)) := by
  have e := rf_sG (F := F) (S := S) (k := 23) (n := 6) (t := 3) (x := x) hs (j := 18) rfl (by decide) (by decide) h (by decide)
  rw [show vg_tyI 3 = .boolean from rfl, hx] at e
  exact e
theorem rf_r24 {μ : vg_M} {m : Nat} {S : Nat → Int32} {F : Nat → Nat → Int32} : vg_gR (rf_M μ m S F) m 14 24 = some (some (m + 19)) := pg_gR (rf_at0 μ m S F) rfl
theorem rf_a24 {μ : vg_M} {m : Nat} {S : Nat → Int32} {F : Nat → Nat → Int32} {i : Nat} (h : i < 366) : vg_aI (rf_M μ m S F) (m + 19) 2 (nI i) = some (F 24 i) := rf_aG (k := 24) (n := 366) rfl (by decide) (by decide) h (by decide)
theorem rf_s24 {μ : vg_M} {m : Nat} {S : Nat → Int32} {F : Nat → Nat → Int32} {i : Nat} {x : Int32} (hs : μ.2.2.1 ≤ m) (h : i < 366) : vg_sI (rf_M μ m S F) (m + 19) 2 (nI i) x = some (rf_M μ m S (rf_u F 24 i x)) := rf_sG (k := 24) (n := 366) hs rfl (by decide) (by decide) h (by decide)
theorem rf_r28 {μ : vg_M} {m : Nat} {S : Nat → Int32} {F : Nat → Nat → Int32} : vg_gR (rf_M μ m S F) m 14 28 = some (some (m + 20)) := pg_gR (rf_at0 μ m S F) rfl
theorem rf_a28 {μ : vg_M} {m : Nat} {S : Nat → Int32} {F : Nat → Nat → Int32} {i : Nat} (h : i < 60) : vg_aI (rf_M μ m S F) (m + 20) 2 (nI i) = some (F 28 i) := rf_aG (k := 28) (n := 60) rfl (by decide) (by decide) h (by decide)
theorem rf_s28 {μ : vg_M} {m : Nat} {S : Nat → Int32} {F : Nat → Nat → Int32} {i : Nat} {x : Int32} (hs : μ.2.2.1 ≤ m) (h : i < 60) : vg_sI (rf_M μ m S F) (m + 20) 2 (nI i) x = some (rf_M μ m S (rf_u F 28 i x)) := rf_sG (k := 28) (n := 60) hs rfl (by decide) (by decide) h (by decide)
theorem rf_r29 {μ : vg_M} {m : Nat} {S : Nat → Int32} {F : Nat → Nat → Int32} : vg_gR (rf_M μ m S F) m 14 29 = some (some (m + 21)) := pg_gR (rf_at0 μ m S F) rfl
theorem rf_a29 {μ : vg_M} {m : Nat} {S : Nat → Int32} {F : Nat → Nat → Int32} {i : Nat} (h : i < 3240) : vg_aI (rf_M μ m S F) (m + 21) 0 (nI i) = some (F 29 i) := rf_aG (k := 29) (n := 3240) rfl (by decide) (by decide) h (by decide)
theorem rf_s29 {μ : vg_M} {m : Nat} {S : Nat → Int32} {F : Nat → Nat → Int32} {i : Nat} {x : Int32} (hs : μ.2.2.1 ≤ m) (h : i < 3240) (hx : vp_nar .byte x = x) : vg_sI (rf_M μ m S F) (m + 21) 0 (nI i) x = some (rf_M μ m S (rf_u F 29 i x)) := by
  have e := rf_sG (F := F) (S := S) (k := 29) (n := 3240) (t := 0) (x := x) hs (j := 21) rfl (by decide) (by decide) h (by decide)
  rw [show vg_tyI 0 = .byte from rfl, hx] at e
  exact e
theorem rf_r31 {μ : vg_M} {m : Nat} {S : Nat → Int32} {F : Nat → Nat → Int32} : vg_gR (rf_M μ m S F) m 14 31 = some (some (m + 22)) := pg_gR (rf_at0 μ m S F) rfl
theorem rf_a31 {μ : vg_M} {m : Nat} {S : Nat → Int32} {F : Nat → Nat → Int32} {i : Nat} (h : i < 8) : vg_aI (rf_M μ m S F) (m + 22) 2 (nI i) = some (F 31 i) := rf_aG (k := 31) (n := 8) rfl (by decide) (by decide) h (by decide)
theorem rf_s31 {μ : vg_M} {m : Nat} {S : Nat → Int32} {F : Nat → Nat → Int32} {i : Nat} {x : Int32} (hs : μ.2.2.1 ≤ m) (h : i < 8) : vg_sI (rf_M μ m S F) (m + 22) 2 (nI i) x = some (rf_M μ m S (rf_u F 31 i x)) := rf_sG (k := 31) (n := 8) hs rfl (by decide) (by decide) h (by decide)
theorem rf_r32 {μ : vg_M} {m : Nat} {S : Nat → Int32} {F : Nat → Nat → Int32} : vg_gR (rf_M μ m S F) m 14 32 = some (some (m + 23)) := pg_gR (rf_at0 μ m S F) rfl
theorem rf_a32 {μ : vg_M} {m : Nat} {S : Nat → Int32} {F : Nat → Nat → Int32} {i : Nat} (h : i < 8) : vg_aI (rf_M μ m S F) (m + 23) 2 (nI i) = some (F 32 i) := rf_aG (k := 32) (n := 8) rfl (by decide) (by decide) h (by decide)
theorem rf_s32 {μ : vg_M} {m : Nat} {S : Nat → Int32} {F : Nat → Nat → Int32} {i : Nat} {x : Int32} (hs : μ.2.2.1 ≤ m) (h : i < 8) : vg_sI (rf_M μ m S F) (m + 23) 2 (nI i) x = some (rf_M μ m S (rf_u F 32 i x)) := rf_sG (k := 32) (n := 8) hs rfl (by decide) (by decide) h (by decide)
theorem rf_r33 {μ : vg_M} {m : Nat} {S : Nat → Int32} {F : Nat → Nat → Int32} : vg_gR (rf_M μ m S F) m 14 33 = some (some (m + 24)) := pg_gR (rf_at0 μ m S F) rfl
theorem rf_a33 {μ : vg_M} {m : Nat} {S : Nat → Int32} {F : Nat → Nat → Int32} {i : Nat} (h : i < 8) : vg_aI (rf_M μ m S F) (m + 24) 2 (nI i) = some (F 33 i) := rf_aG (k := 33) (n := 8) rfl (by decide) (by decide) h (by decide)
theorem rf_s33 {μ : vg_M} {m : Nat} {S : Nat → Int32} {F : Nat → Nat → Int32} {i : Nat} {x : Int32} (hs : μ.2.2.1 ≤ m) (h : i < 8) : vg_sI (rf_M μ m S F) (m + 24) 2 (nI i) x = some (rf_M μ m S (rf_u F 33 i x)) := rf_sG (k := 33) (n := 8) hs rfl (by decide) (by decide) h (by decide)
theorem rf_r34 {μ : vg_M} {m : Nat} {S : Nat → Int32} {F : Nat → Nat → Int32} : vg_gR (rf_M μ m S F) m 14 34 = some (some (m + 25)) := pg_gR (rf_at0 μ m S F) rfl
theorem rf_a34 {μ : vg_M} {m : Nat} {S : Nat → Int32} {F : Nat → Nat → Int32} {i : Nat} (h : i < 8) : vg_aI (rf_M μ m S F) (m + 25) 2 (nI i) = some (F 34 i) := rf_aG (k := 34) (n := 8) rfl (by decide) (by decide) h (by decide)
theorem rf_s34 {μ : vg_M} {m : Nat} {S : Nat → Int32} {F : Nat → Nat → Int32} {i : Nat} {x : Int32} (hs : μ.2.2.1 ≤ m) (h : i < 8) : vg_sI (rf_M μ m S F) (m + 25) 2 (nI i) x = some (rf_M μ m S (rf_u F 34 i x)) := rf_sG (k := 34) (n := 8) hs rfl (by decide) (by decide) h (by decide)
theorem rf_r35 {μ : vg_M} {m : Nat} {S : Nat → Int32} {F : Nat → Nat → Int32} : vg_gR (rf_M μ m S F) m 14 35 = some (some (m + 26)) := pg_gR (rf_at0 μ m S F) rfl
theorem rf_a35 {μ : vg_M} {m : Nat} {S : Nat → Int32} {F : Nat → Nat → Int32} {i : Nat} (h : i < 64) : vg_aI (rf_M μ m S F) (m + 26) 0 (nI i) = some (F 35 i) := rf_aG (k := 35) (n := 64) rfl (by decide) (by decide) h (by decide)
theorem rf_s35 {μ : vg_M} {m : Nat} {S : Nat → Int32} {F : Nat → Nat → Int32} {i : Nat} {x : Int32} (hs : μ.2.2.1 ≤ m) (h : i < 64) (hx : vp_nar .byte x = x) : vg_sI (rf_M μ m S F) (m + 26) 0 (nI i) x = some (rf_M μ m S (rf_u F 35 i x)) := by
  have e := rf_sG (F := F) (S := S) (k := 35) (n := 64) (t := 0) (x := x) hs (j := 26) rfl (by decide) (by decide) h (by decide)
  rw [show vg_tyI 0 = .byte from rfl, hx] at e
  exact e
theorem rf_r37 {μ : vg_M} {m : Nat} {S : Nat → Int32} {F : Nat → Nat → Int32} : vg_gR (rf_M μ m S F) m 14 37 = some (some (m + 27)) := pg_gR (rf_at0 μ m S F) rfl
theorem rf_a37 {μ : vg_M} {m : Nat} {S : Nat → Int32} {F : Nat → Nat → Int32} {i : Nat} (h : i < 60) : vg_aI (rf_M μ m S F) (m + 27) 0 (nI i) = some (F 37 i) := rf_aG (k := 37) (n := 60) rfl (by decide) (by decide) h (by decide)
theorem rf_s37 {μ : vg_M} {m : Nat} {S : Nat → Int32} {F : Nat → Nat → Int32} {i : Nat} {x : Int32} (hs : μ.2.2.1 ≤ m) (h : i < 60) (hx : vp_nar .byte x = x) : vg_sI (rf_M μ m S F) (m + 27) 0 (nI i) x = some (rf_M μ m S (rf_u F 37 i x)) := by
  have e := rf_sG (F := F) (S := S) (k := 37) (n := 60) (t := 0) (x := x) hs (j := 27) rfl (by decide) (by decide) h (by decide)
  rw [show vg_tyI 0 = .byte from rfl, hx] at e
  exact e
theorem rf_r38 {μ : vg_M} {m : Nat} {S : Nat → Int32} {F : Nat → Nat → Int32} : vg_gR (rf_M μ m S F) m 14 38 = some (some (m + 28)) := pg_gR (rf_at0 μ m S F) rfl
theorem rf_a38 {μ : vg_M} {m : Nat} {S : Nat → Int32} {F : Nat → Nat → Int32} {i : Nat} (h : i < 61) : vg_aI (rf_M μ m S F) (m + 28) 2 (nI i) = some (F 38 i) := rf_aG (k := 38) (n := 61) rfl (by decide) (by decide) h (by decide)
theorem rf_s38 {μ : vg_M} {m : Nat} {S : Nat → Int32} {F : Nat → Nat → Int32} {i : Nat} {x : Int32} (hs : μ.2.2.1 ≤ m) (h : i < 61) : vg_sI (rf_M μ m S F) (m + 28) 2 (nI i) x = some (rf_M μ m S (rf_u F 38 i x)) := rf_sG (k := 38) (n := 61) hs rfl (by decide) (by decide) h (by decide)
theorem rf_u1 (F : Nat → Nat → Int32) (k i : Nat) (x : Int32) : rf_u F k i x k i = x := by simp only [rf_u, upd, if_true]
theorem rf_u2 (F : Nat → Nat → Int32) (k : Nat) {i i' : Nat} (x : Int32) (h : i' ≠ i) : rf_u F k i x k i' = F k i' := by simp only [rf_u, upd, if_true, if_neg h]
theorem rf_u3 (F : Nat → Nat → Int32) {k k' : Nat} (i i' : Nat) (x : Int32) (h : k' ≠ k) : rf_u F k i x k' i' = F k' i' := by simp only [rf_u, if_neg h]
theorem rf_u4 (F : Nat → Nat → Int32) {k k' : Nat} (i : Nat) (x : Int32) (h : k' ≠ k) : rf_u F k i x k' = F k' := by simp only [rf_u, if_neg h]
theorem rf_u5 (F : Nat → Nat → Int32) (k i i' : Nat) (x : Int32) : rf_u F k i x k i' = if i' = i then x else F k i' := by simp only [rf_u, upd, if_true]
