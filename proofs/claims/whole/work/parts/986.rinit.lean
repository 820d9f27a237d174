/-! The reference's new object. -/
def ri_M (μ : vg_M) (m n : Nat) (fs : List Value) : vg_M := (fun a => if a = m then some (.inr (14, fs)) else if m < a ∧ a ≤ m + n then rf_ar (fun _ _ => 0) (a - m) else μ.1 a, m + 1 + n, μ.2.2)
theorem ri_p {μ : vg_M} {m n i : Nat} {fs : List Value} {v : Value} (hs : μ.2.2.1 ≤ m) (hi : i < fs.length) : vg_p (ri_M μ m n fs) m 14 i v = some (ri_M μ m n (fs.set i v)) := by
  have h : (ri_M μ m n fs).1 m = some (.inr (14, fs)) := by simp only [ri_M, if_true]
  simp only [vg_p, h]
  rw [if_pos ⟨trivial, hi, hs⟩]
  refine congrArg some (Prod.ext (funext fun a => ?_) rfl)
  show va_up (ri_M μ m n fs).1 m (some (.inr (14, fs.set i v))) a = (ri_M μ m n (fs.set i v)).1 a
  by_cases ha : a = m
  · subst ha; rw [va_up_self]; simp only [ri_M, if_true]
  · rw [va_up_ne _ _ ha]; simp only [ri_M, if_neg ha]
theorem ri_n {μ : vg_M} {m j k n q : Nat} {fs : List Value} (hj : rf_tab (j + 1) = some (q, k, n)) : vg_nA (ri_M μ m j fs) k n = ri_M μ m (j + 1) fs := by
  refine Prod.ext (funext fun a => ?_) (Prod.ext ?_ rfl)
  · show va_up (ri_M μ m j fs).1 (m + 1 + j) (some (.inl (k, n, .inl (fun _ => 0)))) a = (ri_M μ m (j + 1) fs).1 a
    by_cases ha : a = m + 1 + j
    · subst ha
      have e : m + 1 + j - m = j + 1 := by omega
      rw [va_up_self]
      simp only [ri_M, if_neg (show ¬ m + 1 + j = m by omega), if_pos (show m < m + 1 + j ∧ m + 1 + j ≤ m + (j + 1) from ⟨by omega, by omega⟩), e, rf_ar, hj]
    · rw [va_up_ne _ _ ha]
      by_cases hm : a = m
      · simp only [ri_M, if_pos hm]
      · by_cases hr : m < a ∧ a ≤ m + j
        · simp only [ri_M, if_neg hm, if_pos hr, if_pos (show m < a ∧ a ≤ m + (j + 1) from ⟨hr.1, by omega⟩)]
        · simp only [ri_M, if_neg hm, if_neg hr, if_neg (show ¬ (m < a ∧ a ≤ m + (j + 1)) by omega)]
  · show m + 1 + j + 1 = m + 1 + (j + 1)
    omega
theorem ri_step {β : Type} {K : vg_M → vg_R β} {L : Int32} {n j i k q c nn : Nat} {fs : List Value} {μ μ' : vg_M} {m : Nat} {r : β} (hL : vg_len L = some n) (hj : rf_tab (j + 1) = some (q, k, n)) (hi : i < fs.length) (hs : μ.2.2.1 ≤ m) (h : K (ri_M μ m (j + 1) (fs.set i (.ref (m + (j + 1))))) = some (r, μ', c, nn)) : (vg_o (vg_len L) fun n => vg_nw n (ri_M μ m j fs).2.1 (vg_nA (ri_M μ m j fs) k n) fun a μ2 => vg_o (vg_p μ2 m 14 i (.ref a)) K) = some (r, μ', 1 + c, n + nn) := by
  have e : (ri_M μ m j fs).2.1 = m + (j + 1) := by show m + 1 + j = _; omega
  rw [hL, pg_o1, e, ri_n hj]
  unfold vg_nw
  show vg_n n (vg_o (vg_p (ri_M μ m (j + 1) fs) m 14 i (.ref (m + (j + 1)))) K) = _
  rw [ri_p hs hi, pg_o1, h]
  rfl
theorem ri_stepL {β : Type} {K : vg_M → vg_R β} {L : Int32} {n j i k q c nn : Nat} {fs : List Value} (j' : Nat) (fs' : List Value) {μ μ' : vg_M} {m : Nat} {r : β} (hL : vg_len L = some n) (hjj : j' = j + 1) (hj : rf_tab j' = some (q, k, n)) (hi : i < fs.length) (hfs : fs' = fs.set i (.ref (m + j'))) (hs : μ.2.2.1 ≤ m) (h : K (ri_M μ m j' fs') = some (r, μ', c, nn)) : (vg_o (vg_len L) fun n => vg_nw n (ri_M μ m j fs).2.1 (vg_nA (ri_M μ m j fs) k n) fun a μ2 => vg_o (vg_p μ2 m 14 i (.ref a)) K) = some (r, μ', 1 + c, n + nn) := by
  subst hjj
  subst hfs
  exact ri_step hL hj hi hs h
theorem ri_pL {β : Type} {K : vg_M → vg_R β} {μ : vg_M} {m n i : Nat} {fs : List Value} (fs' : List Value) {v : Value} {r : Option (β × vg_M × Nat × Nat)} (hs : μ.2.2.1 ≤ m) (hi : i < fs.length) (hfs : fs' = fs.set i v) (h : K (ri_M μ m n fs') = r) : vg_o (vg_p (ri_M μ m n fs) m 14 i v) K = r := by
  subst hfs
  rw [ri_p hs hi, pg_o1]
  exact h
theorem ri_end {μ : vg_M} {m : Nat} {S : Nat → Int32} : ri_M μ m 28 (rf_fs m S) = rf_M (μ.1, m + 29, μ.2.2) m S (fun _ _ => 0) := by
  refine Prod.ext (funext fun a => ?_) rfl
  show (if a = m then _ else _) = (if a = m then _ else _)
  by_cases ha : a = m
  · rw [if_pos ha, if_pos ha]
  · rw [if_neg ha, if_neg ha]
    by_cases hr : m < a ∧ a ≤ m + 28
    · rw [if_pos hr, if_pos ⟨hr.1, by omega⟩]
    · rw [if_neg hr, if_neg (show ¬ (m < a ∧ a < m + 29) by omega)]
def rS0 : Nat → Int32 := upd (upd (fun _ => 0) 25 (-1)) 13 1
def rF0 : Nat → Nat → Int32 := rf_u (rf_u (rf_u (fun _ _ => 0) 6 60 2) 11 60 1) 10 60 1
theorem ri_tail {μ X : vg_M} {m : Nat} (hs : μ.2.2.1 ≤ m) (h : X = rf_M (μ.1, m + 29, μ.2.2) m (upd (fun _ => 0) 25 (-1)) (fun _ _ => 0)) : (vg_o (vg_gR X m 14 6) fun x86 =>
  vg_o x86 fun a87 =>
  vg_o (vg_sI X a87 2 60 2) fun μ88 =>
  vg_o (vg_gR μ88 m 14 11) fun x89 =>
  vg_o x89 fun a90 =>
  vg_o (vg_sI μ88 a90 3 60 1) fun μ91 =>
  vg_o (vg_gR μ91 m 14 10) fun x92 =>
  vg_o x92 fun a93 =>
  vg_o (vg_sI μ91 a93 2 60 1) fun μ94 =>
  vg_o (vg_p μ94 m 14 13 (.int 1)) fun μ95 =>
  vg_ret () μ95) = some ((), rf_M (μ.1, m + 29, μ.2.2) m rS0 rF0, 0, 0) := by
  have hs' : ((μ.1, m + 29, μ.2.2) : vg_M).2.2.1 ≤ m := hs
  rw [h]
  generalize ((μ.1, m + 29, μ.2.2) : vg_M) = ν at *
  rw [rf_r6, pg_o1, pg_o1, show (60 : Int32) = nI 60 from rfl, rf_s6 hs' (by decide), pg_o1, rf_r11, pg_o1, pg_o1, rf_s11 hs' (by decide) (by decide), pg_o1, rf_r10, pg_o1, pg_o1, rf_s10 hs' (by decide), pg_o1, rf_p13 hs', pg_o1]
  rfl
def rD : List Value := [.int 0, .null, .int 0, .int 0, .null, .null, .null, .null, .null, .null, .null, .null, .null, .int 0, .int 0, .int 0, .null, .null, .null, .null, .null, .null, .null, .null, .null, .int 0, .int 0, .int 0, .null, .null, .int 0, .null, .null, .null, .null, .null, .int 0, .null, .null]
set_option maxRecDepth 100000 in
theorem ri_init {μ : vg_M} {m : Nat} (hs : μ.2.2.1 ≤ m) : fX11_init m (ri_M μ m 0 rD) = some ((), rf_M (μ.1, m + 29, μ.2.2) m rS0 rF0, 28, 8127) := by
  unfold fX11_init rD
  refine ri_stepL (n := 60) (q := 1) (c := 27) (nn := 8067) 1 [.int 0, .ref (m + 1), .int 0, .int 0, .null, .null, .null, .null, .null, .null, .null, .null, .null, .int 0, .int 0, .int 0, .null, .null, .null, .null, .null, .null, .null, .null, .null, .int 0, .int 0, .int 0, .null, .null, .int 0, .null, .null, .null, .null, .null, .int 0, .null, .null] (by decide) rfl rfl (by simp) rfl hs ?_
  refine ri_stepL (n := 6) (q := 4) (c := 26) (nn := 8061) 2 [.int 0, .ref (m + 1), .int 0, .int 0, .ref (m + 2), .null, .null, .null, .null, .null, .null, .null, .null, .int 0, .int 0, .int 0, .null, .null, .null, .null, .null, .null, .null, .null, .null, .int 0, .int 0, .int 0, .null, .null, .int 0, .null, .null, .null, .null, .null, .int 0, .null, .null] (by decide) rfl rfl (by simp) rfl hs ?_
  refine ri_stepL (n := 6) (q := 5) (c := 25) (nn := 8055) 3 [.int 0, .ref (m + 1), .int 0, .int 0, .ref (m + 2), .ref (m + 3), .null, .null, .null, .null, .null, .null, .null, .int 0, .int 0, .int 0, .null, .null, .null, .null, .null, .null, .null, .null, .null, .int 0, .int 0, .int 0, .null, .null, .int 0, .null, .null, .null, .null, .null, .int 0, .null, .null] (by decide) rfl rfl (by simp) rfl hs ?_
  refine ri_stepL (n := 61) (q := 6) (c := 24) (nn := 7994) 4 [.int 0, .ref (m + 1), .int 0, .int 0, .ref (m + 2), .ref (m + 3), .ref (m + 4), .null, .null, .null, .null, .null, .null, .int 0, .int 0, .int 0, .null, .null, .null, .null, .null, .null, .null, .null, .null, .int 0, .int 0, .int 0, .null, .null, .int 0, .null, .null, .null, .null, .null, .int 0, .null, .null] (by decide) rfl rfl (by simp) rfl hs ?_
  refine ri_stepL (n := 61) (q := 7) (c := 23) (nn := 7933) 5 [.int 0, .ref (m + 1), .int 0, .int 0, .ref (m + 2), .ref (m + 3), .ref (m + 4), .ref (m + 5), .null, .null, .null, .null, .null, .int 0, .int 0, .int 0, .null, .null, .null, .null, .null, .null, .null, .null, .null, .int 0, .int 0, .int 0, .null, .null, .int 0, .null, .null, .null, .null, .null, .int 0, .null, .null] (by decide) rfl rfl (by simp) rfl hs ?_
  refine ri_stepL (n := 61) (q := 8) (c := 22) (nn := 7872) 6 [.int 0, .ref (m + 1), .int 0, .int 0, .ref (m + 2), .ref (m + 3), .ref (m + 4), .ref (m + 5), .ref (m + 6), .null, .null, .null, .null, .int 0, .int 0, .int 0, .null, .null, .null, .null, .null, .null, .null, .null, .null, .int 0, .int 0, .int 0, .null, .null, .int 0, .null, .null, .null, .null, .null, .int 0, .null, .null] (by decide) rfl rfl (by simp) rfl hs ?_
  refine ri_stepL (n := 61) (q := 9) (c := 21) (nn := 7811) 7 [.int 0, .ref (m + 1), .int 0, .int 0, .ref (m + 2), .ref (m + 3), .ref (m + 4), .ref (m + 5), .ref (m + 6), .ref (m + 7), .null, .null, .null, .int 0, .int 0, .int 0, .null, .null, .null, .null, .null, .null, .null, .null, .null, .int 0, .int 0, .int 0, .null, .null, .int 0, .null, .null, .null, .null, .null, .int 0, .null, .null] (by decide) rfl rfl (by simp) rfl hs ?_
  refine ri_stepL (n := 61) (q := 10) (c := 20) (nn := 7750) 8 [.int 0, .ref (m + 1), .int 0, .int 0, .ref (m + 2), .ref (m + 3), .ref (m + 4), .ref (m + 5), .ref (m + 6), .ref (m + 7), .ref (m + 8), .null, .null, .int 0, .int 0, .int 0, .null, .null, .null, .null, .null, .null, .null, .null, .null, .int 0, .int 0, .int 0, .null, .null, .int 0, .null, .null, .null, .null, .null, .int 0, .null, .null] (by decide) rfl rfl (by simp) rfl hs ?_
  refine ri_stepL (n := 61) (q := 11) (c := 19) (nn := 7689) 9 [.int 0, .ref (m + 1), .int 0, .int 0, .ref (m + 2), .ref (m + 3), .ref (m + 4), .ref (m + 5), .ref (m + 6), .ref (m + 7), .ref (m + 8), .ref (m + 9), .null, .int 0, .int 0, .int 0, .null, .null, .null, .null, .null, .null, .null, .null, .null, .int 0, .int 0, .int 0, .null, .null, .int 0, .null, .null, .null, .null, .null, .int 0, .null, .null] (by decide) rfl rfl (by simp) rfl hs ?_
  refine ri_stepL (n := 488) (q := 12) (c := 18) (nn := 7201) 10 [.int 0, .ref (m + 1), .int 0, .int 0, .ref (m + 2), .ref (m + 3), .ref (m + 4), .ref (m + 5), .ref (m + 6), .ref (m + 7), .ref (m + 8), .ref (m + 9), .ref (m + 10), .int 0, .int 0, .int 0, .null, .null, .null, .null, .null, .null, .null, .null, .null, .int 0, .int 0, .int 0, .null, .null, .int 0, .null, .null, .null, .null, .null, .int 0, .null, .null] (by decide) rfl rfl (by simp) rfl hs ?_
  refine ri_stepL (n := 6) (q := 16) (c := 17) (nn := 7195) 11 [.int 0, .ref (m + 1), .int 0, .int 0, .ref (m + 2), .ref (m + 3), .ref (m + 4), .ref (m + 5), .ref (m + 6), .ref (m + 7), .ref (m + 8), .ref (m + 9), .ref (m + 10), .int 0, .int 0, .int 0, .ref (m + 11), .null, .null, .null, .null, .null, .null, .null, .null, .int 0, .int 0, .int 0, .null, .null, .int 0, .null, .null, .null, .null, .null, .int 0, .null, .null] (by decide) rfl rfl (by simp) rfl hs ?_
  refine ri_stepL (n := 6) (q := 17) (c := 16) (nn := 7189) 12 [.int 0, .ref (m + 1), .int 0, .int 0, .ref (m + 2), .ref (m + 3), .ref (m + 4), .ref (m + 5), .ref (m + 6), .ref (m + 7), .ref (m + 8), .ref (m + 9), .ref (m + 10), .int 0, .int 0, .int 0, .ref (m + 11), .ref (m + 12), .null, .null, .null, .null, .null, .null, .null, .int 0, .int 0, .int 0, .null, .null, .int 0, .null, .null, .null, .null, .null, .int 0, .null, .null] (by decide) rfl rfl (by simp) rfl hs ?_
  refine ri_stepL (n := 6) (q := 18) (c := 15) (nn := 7183) 13 [.int 0, .ref (m + 1), .int 0, .int 0, .ref (m + 2), .ref (m + 3), .ref (m + 4), .ref (m + 5), .ref (m + 6), .ref (m + 7), .ref (m + 8), .ref (m + 9), .ref (m + 10), .int 0, .int 0, .int 0, .ref (m + 11), .ref (m + 12), .ref (m + 13), .null, .null, .null, .null, .null, .null, .int 0, .int 0, .int 0, .null, .null, .int 0, .null, .null, .null, .null, .null, .int 0, .null, .null] (by decide) rfl rfl (by simp) rfl hs ?_
  refine ri_stepL (n := 6) (q := 19) (c := 14) (nn := 7177) 14 [.int 0, .ref (m + 1), .int 0, .int 0, .ref (m + 2), .ref (m + 3), .ref (m + 4), .ref (m + 5), .ref (m + 6), .ref (m + 7), .ref (m + 8), .ref (m + 9), .ref (m + 10), .int 0, .int 0, .int 0, .ref (m + 11), .ref (m + 12), .ref (m + 13), .ref (m + 14), .null, .null, .null, .null, .null, .int 0, .int 0, .int 0, .null, .null, .int 0, .null, .null, .null, .null, .null, .int 0, .null, .null] (by decide) rfl rfl (by simp) rfl hs ?_
  refine ri_stepL (n := 48) (q := 20) (c := 13) (nn := 7129) 15 [.int 0, .ref (m + 1), .int 0, .int 0, .ref (m + 2), .ref (m + 3), .ref (m + 4), .ref (m + 5), .ref (m + 6), .ref (m + 7), .ref (m + 8), .ref (m + 9), .ref (m + 10), .int 0, .int 0, .int 0, .ref (m + 11), .ref (m + 12), .ref (m + 13), .ref (m + 14), .ref (m + 15), .null, .null, .null, .null, .int 0, .int 0, .int 0, .null, .null, .int 0, .null, .null, .null, .null, .null, .int 0, .null, .null] (by decide) rfl rfl (by simp) rfl hs ?_
  refine ri_stepL (n := 360) (q := 21) (c := 12) (nn := 6769) 16 [.int 0, .ref (m + 1), .int 0, .int 0, .ref (m + 2), .ref (m + 3), .ref (m + 4), .ref (m + 5), .ref (m + 6), .ref (m + 7), .ref (m + 8), .ref (m + 9), .ref (m + 10), .int 0, .int 0, .int 0, .ref (m + 11), .ref (m + 12), .ref (m + 13), .ref (m + 14), .ref (m + 15), .ref (m + 16), .null, .null, .null, .int 0, .int 0, .int 0, .null, .null, .int 0, .null, .null, .null, .null, .null, .int 0, .null, .null] (by decide) rfl rfl (by simp) rfl hs ?_
  refine ri_stepL (n := 2880) (q := 22) (c := 11) (nn := 3889) 17 [.int 0, .ref (m + 1), .int 0, .int 0, .ref (m + 2), .ref (m + 3), .ref (m + 4), .ref (m + 5), .ref (m + 6), .ref (m + 7), .ref (m + 8), .ref (m + 9), .ref (m + 10), .int 0, .int 0, .int 0, .ref (m + 11), .ref (m + 12), .ref (m + 13), .ref (m + 14), .ref (m + 15), .ref (m + 16), .ref (m + 17), .null, .null, .int 0, .int 0, .int 0, .null, .null, .int 0, .null, .null, .null, .null, .null, .int 0, .null, .null] (by decide) rfl rfl (by simp) rfl hs ?_
  refine ri_stepL (n := 6) (q := 23) (c := 10) (nn := 3883) 18 [.int 0, .ref (m + 1), .int 0, .int 0, .ref (m + 2), .ref (m + 3), .ref (m + 4), .ref (m + 5), .ref (m + 6), .ref (m + 7), .ref (m + 8), .ref (m + 9), .ref (m + 10), .int 0, .int 0, .int 0, .ref (m + 11), .ref (m + 12), .ref (m + 13), .ref (m + 14), .ref (m + 15), .ref (m + 16), .ref (m + 17), .ref (m + 18), .null, .int 0, .int 0, .int 0, .null, .null, .int 0, .null, .null, .null, .null, .null, .int 0, .null, .null] (by decide) rfl rfl (by simp) rfl hs ?_
  refine ri_stepL (n := 366) (q := 24) (c := 9) (nn := 3517) 19 [.int 0, .ref (m + 1), .int 0, .int 0, .ref (m + 2), .ref (m + 3), .ref (m + 4), .ref (m + 5), .ref (m + 6), .ref (m + 7), .ref (m + 8), .ref (m + 9), .ref (m + 10), .int 0, .int 0, .int 0, .ref (m + 11), .ref (m + 12), .ref (m + 13), .ref (m + 14), .ref (m + 15), .ref (m + 16), .ref (m + 17), .ref (m + 18), .ref (m + 19), .int 0, .int 0, .int 0, .null, .null, .int 0, .null, .null, .null, .null, .null, .int 0, .null, .null] (by decide) rfl rfl (by simp) rfl hs ?_
  refine ri_pL [.int 0, .ref (m + 1), .int 0, .int 0, .ref (m + 2), .ref (m + 3), .ref (m + 4), .ref (m + 5), .ref (m + 6), .ref (m + 7), .ref (m + 8), .ref (m + 9), .ref (m + 10), .int 0, .int 0, .int 0, .ref (m + 11), .ref (m + 12), .ref (m + 13), .ref (m + 14), .ref (m + 15), .ref (m + 16), .ref (m + 17), .ref (m + 18), .ref (m + 19), .int (-1), .int 0, .int 0, .null, .null, .int 0, .null, .null, .null, .null, .null, .int 0, .null, .null] hs (by simp) rfl ?_
  refine ri_stepL (n := 60) (q := 28) (c := 8) (nn := 3457) 20 [.int 0, .ref (m + 1), .int 0, .int 0, .ref (m + 2), .ref (m + 3), .ref (m + 4), .ref (m + 5), .ref (m + 6), .ref (m + 7), .ref (m + 8), .ref (m + 9), .ref (m + 10), .int 0, .int 0, .int 0, .ref (m + 11), .ref (m + 12), .ref (m + 13), .ref (m + 14), .ref (m + 15), .ref (m + 16), .ref (m + 17), .ref (m + 18), .ref (m + 19), .int (-1), .int 0, .int 0, .ref (m + 20), .null, .int 0, .null, .null, .null, .null, .null, .int 0, .null, .null] (by decide) rfl rfl (by simp) rfl hs ?_
  refine ri_stepL (n := 3240) (q := 29) (c := 7) (nn := 217) 21 [.int 0, .ref (m + 1), .int 0, .int 0, .ref (m + 2), .ref (m + 3), .ref (m + 4), .ref (m + 5), .ref (m + 6), .ref (m + 7), .ref (m + 8), .ref (m + 9), .ref (m + 10), .int 0, .int 0, .int 0, .ref (m + 11), .ref (m + 12), .ref (m + 13), .ref (m + 14), .ref (m + 15), .ref (m + 16), .ref (m + 17), .ref (m + 18), .ref (m + 19), .int (-1), .int 0, .int 0, .ref (m + 20), .ref (m + 21), .int 0, .null, .null, .null, .null, .null, .int 0, .null, .null] (by decide) rfl rfl (by simp) rfl hs ?_
  refine ri_stepL (n := 8) (q := 31) (c := 6) (nn := 209) 22 [.int 0, .ref (m + 1), .int 0, .int 0, .ref (m + 2), .ref (m + 3), .ref (m + 4), .ref (m + 5), .ref (m + 6), .ref (m + 7), .ref (m + 8), .ref (m + 9), .ref (m + 10), .int 0, .int 0, .int 0, .ref (m + 11), .ref (m + 12), .ref (m + 13), .ref (m + 14), .ref (m + 15), .ref (m + 16), .ref (m + 17), .ref (m + 18), .ref (m + 19), .int (-1), .int 0, .int 0, .ref (m + 20), .ref (m + 21), .int 0, .ref (m + 22), .null, .null, .null, .null, .int 0, .null, .null] (by decide) rfl rfl (by simp) rfl hs ?_
  refine ri_stepL (n := 8) (q := 32) (c := 5) (nn := 201) 23 [.int 0, .ref (m + 1), .int 0, .int 0, .ref (m + 2), .ref (m + 3), .ref (m + 4), .ref (m + 5), .ref (m + 6), .ref (m + 7), .ref (m + 8), .ref (m + 9), .ref (m + 10), .int 0, .int 0, .int 0, .ref (m + 11), .ref (m + 12), .ref (m + 13), .ref (m + 14), .ref (m + 15), .ref (m + 16), .ref (m + 17), .ref (m + 18), .ref (m + 19), .int (-1), .int 0, .int 0, .ref (m + 20), .ref (m + 21), .int 0, .ref (m + 22), .ref (m + 23), .null, .null, .null, .int 0, .null, .null] (by decide) rfl rfl (by simp) rfl hs ?_
  refine ri_stepL (n := 8) (q := 33) (c := 4) (nn := 193) 24 [.int 0, .ref (m + 1), .int 0, .int 0, .ref (m + 2), .ref (m + 3), .ref (m + 4), .ref (m + 5), .ref (m + 6), .ref (m + 7), .ref (m + 8), .ref (m + 9), .ref (m + 10), .int 0, .int 0, .int 0, .ref (m + 11), .ref (m + 12), .ref (m + 13), .ref (m + 14), .ref (m + 15), .ref (m + 16), .ref (m + 17), .ref (m + 18), .ref (m + 19), .int (-1), .int 0, .int 0, .ref (m + 20), .ref (m + 21), .int 0, .ref (m + 22), .ref (m + 23), .ref (m + 24), .null, .null, .int 0, .null, .null] (by decide) rfl rfl (by simp) rfl hs ?_
  refine ri_stepL (n := 8) (q := 34) (c := 3) (nn := 185) 25 [.int 0, .ref (m + 1), .int 0, .int 0, .ref (m + 2), .ref (m + 3), .ref (m + 4), .ref (m + 5), .ref (m + 6), .ref (m + 7), .ref (m + 8), .ref (m + 9), .ref (m + 10), .int 0, .int 0, .int 0, .ref (m + 11), .ref (m + 12), .ref (m + 13), .ref (m + 14), .ref (m + 15), .ref (m + 16), .ref (m + 17), .ref (m + 18), .ref (m + 19), .int (-1), .int 0, .int 0, .ref (m + 20), .ref (m + 21), .int 0, .ref (m + 22), .ref (m + 23), .ref (m + 24), .ref (m + 25), .null, .int 0, .null, .null] (by decide) rfl rfl (by simp) rfl hs ?_
  refine ri_stepL (n := 64) (q := 35) (c := 2) (nn := 121) 26 [.int 0, .ref (m + 1), .int 0, .int 0, .ref (m + 2), .ref (m + 3), .ref (m + 4), .ref (m + 5), .ref (m + 6), .ref (m + 7), .ref (m + 8), .ref (m + 9), .ref (m + 10), .int 0, .int 0, .int 0, .ref (m + 11), .ref (m + 12), .ref (m + 13), .ref (m + 14), .ref (m + 15), .ref (m + 16), .ref (m + 17), .ref (m + 18), .ref (m + 19), .int (-1), .int 0, .int 0, .ref (m + 20), .ref (m + 21), .int 0, .ref (m + 22), .ref (m + 23), .ref (m + 24), .ref (m + 25), .ref (m + 26), .int 0, .null, .null] (by decide) rfl rfl (by simp) rfl hs ?_
  refine ri_stepL (n := 60) (q := 37) (c := 1) (nn := 61) 27 [.int 0, .ref (m + 1), .int 0, .int 0, .ref (m + 2), .ref (m + 3), .ref (m + 4), .ref (m + 5), .ref (m + 6), .ref (m + 7), .ref (m + 8), .ref (m + 9), .ref (m + 10), .int 0, .int 0, .int 0, .ref (m + 11), .ref (m + 12), .ref (m + 13), .ref (m + 14), .ref (m + 15), .ref (m + 16), .ref (m + 17), .ref (m + 18), .ref (m + 19), .int (-1), .int 0, .int 0, .ref (m + 20), .ref (m + 21), .int 0, .ref (m + 22), .ref (m + 23), .ref (m + 24), .ref (m + 25), .ref (m + 26), .int 0, .ref (m + 27), .null] (by decide) rfl rfl (by simp) rfl hs ?_
  refine ri_stepL (n := 61) (q := 38) (c := 0) (nn := 0) 28 [.int 0, .ref (m + 1), .int 0, .int 0, .ref (m + 2), .ref (m + 3), .ref (m + 4), .ref (m + 5), .ref (m + 6), .ref (m + 7), .ref (m + 8), .ref (m + 9), .ref (m + 10), .int 0, .int 0, .int 0, .ref (m + 11), .ref (m + 12), .ref (m + 13), .ref (m + 14), .ref (m + 15), .ref (m + 16), .ref (m + 17), .ref (m + 18), .ref (m + 19), .int (-1), .int 0, .int 0, .ref (m + 20), .ref (m + 21), .int 0, .ref (m + 22), .ref (m + 23), .ref (m + 24), .ref (m + 25), .ref (m + 26), .int 0, .ref (m + 27), .ref (m + 28)] (by decide) rfl rfl (by simp) rfl hs ?_
  exact ri_tail hs (ri_end (μ := μ) (m := m) (S := upd (fun _ => 0) 25 (-1)))
theorem R0 : RF [] T0 (fun _ _ => true) [] (-1) [] 0 1 rS0 rF0 := by
  refine ⟨⟨rfl, by decide, fun i hi => absurd hi (Nat.not_lt_zero _), fun c hc => absurd hc List.not_mem_nil⟩, fun k hk => ?_, ⟨1, 0, fun k => if k = 60 then 1 else 0, fun _ => 0, fun _ => 0, fun _ => 0, fun _ => false, rfl, rfl, by decide, by decide, fun k hk => ?_, fun q _ => ⟨rfl, Nat.le_refl _, rfl⟩, fun j _ => ⟨rfl, Nat.zero_le _⟩, fun q hq => absurd hq (Nat.not_lt_zero _)⟩, ⟨rfl, by decide, fun q hq => absurd hq (Nat.not_lt_zero _), fun q _ _ => ⟨rfl, rfl⟩⟩, ⟨rfl, by decide, fun i hi => absurd hi (Nat.not_lt_zero _)⟩, rfl, rfl⟩
  · have h6 : rF0 6 k = if k = 60 then 2 else 0 := rfl
    have h11 : rF0 11 k = if k = 60 then 1 else 0 := rfl
    by_cases h : k = 60
    · subst h; decide
    · rw [h6, h11, if_neg h, if_neg h]
      have hT : T0 k = (0, 0, [], false, [], 0) := by unfold T0; rw [if_neg h]
      simp only [kd, pa, nm, pk, hT]
      exact ⟨rfl, rfl, rfl, rfl, by decide, by decide, by decide, fun i hi => absurd hi (Nat.not_lt_zero _), fun c hc => absurd hc List.not_mem_nil⟩
  · have h10 : rF0 10 k = if k = 60 then 1 else 0 := rfl
    rw [h10]
    by_cases h : k = 60
    · subst h; exact ⟨rfl, rfl, by decide, by decide, fun _ => by decide⟩
    · simp only [if_neg h, T0_kd]
      exact ⟨rfl, rfl, Nat.zero_le _, Nat.le_refl _, fun h => absurd h (Nat.lt_irrefl _)⟩
