/-! The reference: text and path. -/
theorem rm_sg : ∀ c, c < 128 → ∀ μ : vg_M, fX11_isSign (nI c) μ = some (bI (sg c), μ, 0, 0) := by
  intro c hc μ
  have hl : c < 2 ^ 31 := by omega
  simp only [fX11_isSign, fX11_isSign_12, fX11_isSign_24, fX11_isSign_36, fX11_isSign_48, fX11_isSign_53, pg_z1, pg_z0, pg_o1, vg_ret, show (97 : Int32) = nI 97 from rfl, show (122 : Int32) = nI 122 from rfl, show (65 : Int32) = nI 65 from rfl, show (90 : Int32) = nI 90 from rfl, show (48 : Int32) = nI 48 from rfl, show (57 : Int32) = nI 57 from rfl, show (46 : Int32) = nI 46 from rfl, show (95 : Int32) = nI 95 from rfl, nI_leI hl (show (122 : Nat) < 2 ^ 31 by decide), nI_leI hl (show (90 : Nat) < 2 ^ 31 by decide), nI_leI hl (show (57 : Nat) < 2 ^ 31 by decide), nI_ltI hl (show (97 : Nat) < 2 ^ 31 by decide), nI_ltI hl (show (65 : Nat) < 2 ^ 31 by decide), nI_ltI hl (show (48 : Nat) < 2 ^ 31 by decide), nI_eq hl (show (46 : Nat) < 2 ^ 31 by decide), nI_eq hl (show (95 : Nat) < 2 ^ 31 by decide)]
  unfold bI sg
  by_cases h1 : c < 97 <;> by_cases h2 : c ≤ 122 <;> by_cases h3 : c < 65 <;> by_cases h4 : c ≤ 90 <;> by_cases h5 : c < 48 <;> by_cases h6 : c ≤ 57 <;> by_cases h7 : c = 46 <;> by_cases h8 : c = 95 <;> first | (exfalso; omega) | (simp only [h1, h2, h3, h4, h5, h6, h7, h8, Nat.not_lt.mp, if_true, if_false, decide_true, decide_false, Bool.or_true, Bool.true_or, Bool.or_false, Bool.and_true, Bool.and_false, Bool.false_and, Bool.true_and, show (97 ≤ c) ↔ ¬ c < 97 from by omega, show (65 ≤ c) ↔ ¬ c < 65 from by omega, show (48 ≤ c) ↔ ¬ c < 48 from by omega, not_true, not_false_iff]; try rfl)
theorem rm_sgm (μ : vg_M) : fX11_isSign (-1) μ = some (0, μ, 0, 0) := rfl
/-- the text -/
def RT (t : List Nat) (S : Nat → Int32) (F : Nat → Nat → Int32) : Prop := S 2 = nI t.length ∧ t.length ≤ 60 ∧ (∀ i, i < t.length → F 1 i = nI (t.getD i 0)) ∧ ∀ c ∈ t, 32 ≤ c ∧ c < 127
theorem RT.lt {t : List Nat} {S : Nat → Int32} {F : Nat → Nat → Int32} (h : RT t S F) {i : Nat} (hi : i < t.length) : 32 ≤ t.getD i 0 ∧ t.getD i 0 < 127 := by
  rw [ls_get hi]; exact h.2.2.2 _ (List.getElem_mem hi)
/-- the names of the path that was read last -/
def RW (sp : List (Nat × Nat)) (S : Nat → Int32) (F : Nat → Nat → Int32) : Prop := S 3 = nI sp.length ∧ sp.length ≤ 6 ∧ ∀ w, w < sp.length → F 4 w = nI (sp.getD w (0, 0)).1 ∧ F 5 w = nI ((sp.getD w (0, 0)).2 - (sp.getD w (0, 0)).1)
def fE (ks : List Nat) (F F' : Nat → Nat → Int32) : Prop := ∀ k, k ∉ ks → F' k = F k
def sE (ks : List Nat) (S S' : Nat → Int32) : Prop := ∀ k, k ∉ ks → S' k = S k
theorem fE.refl {ks : List Nat} {F : Nat → Nat → Int32} : fE ks F F := fun _ _ => rfl
theorem sE.refl {ks : List Nat} {S : Nat → Int32} : sE ks S S := fun _ _ => rfl
theorem fE.trans {ks ks' : List Nat} {F F' F'' : Nat → Nat → Int32} (h : fE ks F F') (h' : fE ks' F' F'') (hs : ∀ k, k ∈ ks → k ∈ ks') : fE ks' F F'' := fun k hk => (h' k hk).trans (h k (fun q => hk (hs k q)))
theorem sE.trans {ks ks' : List Nat} {F F' F'' : Nat → Int32} (h : sE ks F F') (h' : sE ks' F' F'') (hs : ∀ k, k ∈ ks → k ∈ ks') : sE ks' F F'' := fun k hk => (h' k hk).trans (h k (fun q => hk (hs k q)))
theorem fE.u {ks : List Nat} {F : Nat → Nat → Int32} {k i : Nat} {x : Int32} (hk : k ∈ ks) : fE ks F (rf_u F k i x) := fun k' h => rf_u4 F i x (fun e => h (e ▸ hk))
theorem sE.u {ks : List Nat} {S : Nat → Int32} {k : Nat} {x : Int32} (hk : k ∈ ks) : sE ks S (upd S k x) := fun k' h => pk_un (fun e => h (e ▸ hk))
theorem RT.mono {t : List Nat} {S S' : Nat → Int32} {F F' : Nat → Nat → Int32} (h : RT t S F) (hS : S' 2 = S 2) (hF : F' 1 = F 1) : RT t S' F' := ⟨hS.trans h.1, h.2.1, fun i hi => by rw [hF]; exact h.2.2.1 i hi, h.2.2.2⟩
theorem rm_isPathL {t : List Nat} {μ : vg_M} {m : Nat} (hs : μ.2.2.1 ≤ m) : ∀ n k f acc S F, RT t S F → RW acc S F → f ≤ k → k ≤ t.length + 1 → t.length + 1 < k + n → (k ≤ t.length → (sl t f k).all sg = true) → (t.length < k → f = k) →
    ∃ S' F', fX11_isPath_11 n m (nI f) 1 (nI k) (rf_M μ m S F) = some (bI (pt_go t n k f acc).isSome, rf_M μ m S' F', 0, 0) ∧ sE [3] S S' ∧ fE [4, 5] F F' ∧ ∀ sp, pt_go t n k f acc = some sp → RW sp S' F' := by
  intro n
  induction n with
  | zero => intro k f acc S F _ _ _ h1 h2; omega
  | succ n ih =>
    intro k f acc S F hT hW hfk hk hn hsg hlast
    obtain ⟨t1, t2, t3, t4⟩ := id hT
    obtain ⟨w1, w2, w3⟩ := id hW
    unfold fX11_isPath_11 pt_go
    simp only [rf_i2, t1, pg_o1]
    by_cases hlk : t.length < k
    · rw [if_pos (nI_lt hlk (by omega)), if_pos hlk]
      exact ⟨S, F, by simp only [fX11_isPath_203, pg_z1, pg_o1, vg_ret]; rfl, sE.refl, fE.refl, fun sp h => by cases h; exact hW⟩
    · rw [if_neg (nI_nlt (by omega) (by omega)), if_neg (show ¬ (1 : Int32) = 0 by decide), if_neg hlk]
      have hkl : k ≤ t.length := by omega
      have hal := hsg hkl
      -- the end of a name
      have hend : ∃ S' F', fX11_isPath_47 (fX11_isPath_11 n) m (nI f) (nI k) 1 (rf_M μ m S F) = some (bI (if acc.length < 6 ∧ pt_name (sl t f k) = true then pt_go t n (k + 1) (k + 1) (acc ++ [(f, k)]) else none).isSome, rf_M μ m S' F', 0, 0) ∧ sE [3] S S' ∧ fE [4, 5] F F' ∧ ∀ sp, (if acc.length < 6 ∧ pt_name (sl t f k) = true then pt_go t n (k + 1) (k + 1) (acc ++ [(f, k)]) else none) = some sp → RW sp S' F' := by
        -- behind the question of dots
        have hbad : ∀ b : Bool, (acc.length < 6 ∧ pt_name (sl t f k) = true ↔ b = true) → ∃ S' F', fX11_isPath_144 (fX11_isPath_11 n) m (nI f) (nI k) (nI k - nI f) (bI b) (rf_M μ m S F) = some (bI (if acc.length < 6 ∧ pt_name (sl t f k) = true then pt_go t n (k + 1) (k + 1) (acc ++ [(f, k)]) else none).isSome, rf_M μ m S' F', 0, 0) ∧ sE [3] S S' ∧ fE [4, 5] F F' ∧ ∀ sp, (if acc.length < 6 ∧ pt_name (sl t f k) = true then pt_go t n (k + 1) (k + 1) (acc ++ [(f, k)]) else none) = some sp → RW sp S' F' := by
          intro b hb
          cases b with
          | false =>
            have hno : ¬ (acc.length < 6 ∧ pt_name (sl t f k) = true) := fun h => by have := hb.mp h; cases this
            rw [if_neg hno]
            refine ⟨S, F, ?_, sE.refl, fE.refl, fun sp h => by cases h⟩
            unfold fX11_isPath_144
            rw [bI_f, if_pos rfl]
            simp only [fX11_isPath_180, fX11_isPath_197, nI_1]
            obtain ⟨n, rfl⟩ : ∃ n', n = n' + 1 := ⟨n - 1, by omega⟩
            unfold fX11_isPath_11
            simp only [rf_i2, t1, pg_o1, if_true, fX11_isPath_203, pg_z0, vg_ret]
            split <;> rfl
          | true =>
            have hyes := hb.mpr rfl
            rw [if_pos hyes]
            unfold fX11_isPath_144
            rw [bI_t, if_neg (show ¬ (1 : Int32) = 0 by decide), pk_sub hfk]
            have hlt6 : acc.length < 6 := hyes.1
            simp only [rf_r4, rf_i3, w1, pg_o1, rf_s4 hs hlt6, rf_r5, rf_s5 hs hlt6, rf_p3 hs, nI_1, fX11_isPath_180, fX11_isPath_197]
            obtain ⟨S', F', e, q1, q2, q3⟩ := ih (k + 1) (k + 1) (acc ++ [(f, k)]) (upd S 3 (nI (acc.length + 1))) (rf_u (rf_u F 4 acc.length (nI f)) 5 acc.length (nI (k - f))) (hT.mono (pk_un (by decide)) (by rw [rf_u4 _ _ _ (by decide), rf_u4 _ _ _ (by decide)])) ⟨by rw [pk_us, List.length_append]; rfl, by rw [List.length_append]; simp; omega, fun w hw => by
                rw [List.length_append] at hw
                simp only [List.length_cons, List.length_nil] at hw
                by_cases hwl : w = acc.length
                · subst hwl
                  rw [rf_u3 _ _ _ _ (by decide), rf_u1, rf_u1]
                  simp [List.getD_eq_getElem?_getD]
                · rw [rf_u3 _ _ _ _ (by decide), rf_u2 _ _ _ hwl, rf_u2 _ _ _ hwl, rf_u3 _ _ _ _ (by decide)]
                  have := w3 w (by omega)
                  rw [List.getD_eq_getElem?_getD] at this ⊢
                  rw [List.getElem?_append_left (by omega)]
                  exact this⟩ (Nat.le_refl _) (by omega) (by omega) (fun h => by rw [List.all_eq_true]; intro c hc; have := List.length_pos_of_mem hc; rw [sl_len h] at this; omega) (fun _ => rfl)
            exact ⟨S', F', e, (sE.u (by decide)).trans q1 (fun _ h => h), ((fE.u (by decide)).trans (fE.u (by decide)) (fun _ h => h)).trans q2 (fun _ h => h), q3⟩
        have hlen := sl_len (t := t) (a := f) hkl
        -- dots or none
        have h111 : ∀ d : Bool, (d = pt_dots (sl t f k)) → ∃ S' F', fX11_isPath_111 (fX11_isPath_11 n) m (nI f) (nI k) (nI k - nI f) (bI d) (rf_M μ m S F) = some (bI (if acc.length < 6 ∧ pt_name (sl t f k) = true then pt_go t n (k + 1) (k + 1) (acc ++ [(f, k)]) else none).isSome, rf_M μ m S' F', 0, 0) ∧ sE [3] S S' ∧ fE [4, 5] F F' ∧ ∀ sp, (if acc.length < 6 ∧ pt_name (sl t f k) = true then pt_go t n (k + 1) (k + 1) (acc ++ [(f, k)]) else none) = some sp → RW sp S' F' := by
          intro d hd
          have hF := hbad false
          rw [bI_f] at hF
          have hTr := hbad true
          rw [bI_t] at hTr
          unfold fX11_isPath_111
          simp only [fX11_isPath_143]
          have hnm : pt_name (sl t f k) = true ↔ 1 ≤ k - f ∧ k - f ≤ 8 ∧ d = false := by
            simp only [pt_name, hlen, hal, ← hd, Bool.and_eq_true, decide_eq_true_eq, Bool.not_eq_true', and_true, and_assoc]
          have e8 : (8 : Int32) = nI 8 := rfl
          by_cases h0 : k - f = 0
          · rw [pk_sub hfk, if_pos (by rw [li_le0 (by omega)]; exact h0), ← pk_sub hfk]
            exact hF ⟨fun h => by have := (hnm.mp h.2).1; omega, fun h => by cases h⟩
          · rw [pk_sub hfk, if_neg (by rw [li_le0 (by omega)]; exact h0)]
            by_cases h8 : 8 < k - f
            · rw [e8, if_pos (nI_lt h8 (by omega)), ← pk_sub hfk]
              exact hF ⟨fun h => by have := (hnm.mp h.2).2.1; omega, fun h => by cases h⟩
            · rw [e8, if_neg (nI_nlt (by omega) (by omega)), ← pk_sub hfk]
              cases d with
              | true =>
                rw [bI_t, if_neg (show ¬ (1 : Int32) = 0 by decide)]
                exact hF ⟨fun h => absurd (hnm.mp h.2).2.2 (by decide), fun h => by cases h⟩
              | false =>
                rw [bI_f, if_pos rfl]
                simp only [rf_i3, w1, pg_o1]
                have e6 : (6 : Int32) = nI 6 := rfl
                by_cases h6 : 6 ≤ acc.length
                · rw [e6, if_pos (nI_le h6 (by omega))]
                  exact hF ⟨fun h => by have := h.1; omega, fun h => by cases h⟩
                · rw [e6, if_neg (nI_ge (by omega) (by omega))]
                  exact hTr ⟨fun _ => rfl, fun _ => ⟨by omega, hnm.mpr ⟨by omega, by omega, rfl⟩⟩⟩
        have h106 := h111 true
        have h110 := h111 false
        rw [bI_t] at h106
        rw [bI_f] at h110
        have e46 : (46 : Int32) = nI 46 := rfl
        unfold fX11_isPath_47
        rw [if_neg (show ¬ (1 : Int32) = 0 by decide)]
        have g0 : f < k → (sl t f k).getD 0 0 = t.getD f 0 := fun h => by have := sl_get (t := t) (a := f) (b := k) (i := 0) (by omega); simpa using this
        have g1 : f + 1 < k → (sl t f k).getD 1 0 = t.getD (f + 1) 0 := fun h => sl_get (t := t) (a := f) (b := k) (i := 1) (by omega)
        have h76 : ¬ (k - f = 1 ∧ t.getD f 0 = 46) → ∃ S' F', fX11_isPath_76 (fX11_isPath_11 n) m (nI f) (nI k) (nI k - nI f) (rf_M μ m S F) = some (bI (if acc.length < 6 ∧ pt_name (sl t f k) = true then pt_go t n (k + 1) (k + 1) (acc ++ [(f, k)]) else none).isSome, rf_M μ m S' F', 0, 0) ∧ sE [3] S S' ∧ fE [4, 5] F F' ∧ ∀ sp, (if acc.length < 6 ∧ pt_name (sl t f k) = true then pt_go t n (k + 1) (k + 1) (acc ++ [(f, k)]) else none) = some sp → RW sp S' F' := by
          intro h1
          unfold fX11_isPath_76
          simp only [fX11_isPath_106, fX11_isPath_110]
          by_cases h2 : k - f = 2
          · have hfl : f < t.length := by omega
            have hfl1 : f + 1 < t.length := by omega
            have c0 := hT.lt hfl
            have c1 := hT.lt hfl1
            rw [if_pos (by rw [pk_sub hfk, h2]; rfl)]
            simp only [rf_r1, pg_o1, rf_a1 (show f < 60 by omega), t3 f hfl, nI_1, rf_a1 (show f + 1 < 60 by omega), t3 (f + 1) hfl1]
            by_cases h3 : t.getD f 0 = 46
            · rw [if_pos (by rw [h3]; rfl)]
              by_cases h4 : t.getD (f + 1) 0 = 46
              · rw [if_pos (by rw [h4]; rfl)]
                exact h106 (Eq.symm (pt_dots_iff.mpr (Or.inr ⟨by omega, by rw [g0 (by omega)]; exact h3, by rw [g1 (by omega)]; exact h4⟩)))
              · rw [if_neg (fun h => h4 ((li_c 46 (c := 46) rfl (by omega) (by decide)).mp h))]
                refine h110 (Eq.symm (Bool.eq_false_iff.mpr fun h => ?_))
                rcases pt_dots_iff.mp h with h | h
                · omega
                · exact h4 (by rw [← g1 (by omega)]; exact h.2.2)
            · rw [if_neg (fun h => h3 ((li_c 46 (c := 46) rfl (by omega) (by decide)).mp h))]
              refine h110 (Eq.symm (Bool.eq_false_iff.mpr fun h => ?_))
              rcases pt_dots_iff.mp h with h | h
              · omega
              · exact h3 (by rw [← g0 (by omega)]; exact h.2.1)
          · rw [if_neg (by rw [pk_sub hfk]; exact fun h => h2 ((li_c 2 (c := 2) rfl (by omega) (by decide)).mp h))]
            refine h110 (Eq.symm (Bool.eq_false_iff.mpr fun h => ?_))
            rcases pt_dots_iff.mp h with h | h
            · exact h1 ⟨by omega, by rw [← g0 (by omega)]; exact h.2⟩
            · omega
        by_cases h1 : k - f = 1
        · have hfl : f < t.length := by omega
          have c0 := hT.lt hfl
          rw [if_pos (by rw [pk_sub hfk, h1]; rfl)]
          simp only [rf_r1, pg_o1, rf_a1 (show f < 60 by omega), t3 f hfl]
          by_cases h3 : t.getD f 0 = 46
          · rw [if_pos (by rw [h3]; rfl)]
            simp only [fX11_isPath_106]
            exact h106 (Eq.symm (pt_dots_iff.mpr (Or.inl ⟨by omega, by rw [g0 (by omega)]; exact h3⟩)))
          · rw [if_neg (fun h => h3 ((li_c 46 (c := 46) rfl (by omega) (by decide)).mp h))]
            exact h76 (fun h => h3 h.2)
        · rw [if_neg (by rw [pk_sub hfk]; exact fun h => h1 ((li_c 1 (c := 1) rfl (by omega) (by decide)).mp h))]
          exact h76 (fun h => h1 h.1)
      by_cases hke : k = t.length
      · rw [if_pos (by rw [hke]), if_pos (Or.inl hke)]
        simp only [fX11_isPath_42]
        exact hend
      · have hkl2 : k < t.length := by omega
        have c0 := hT.lt hkl2
        rw [if_neg (fun h => hke ((nI_eq (by omega) (by omega)).mp h))]
        simp only [rf_r1, pg_o1, rf_a1 (show k < 60 by omega), t3 k hkl2]
        by_cases h47 : t.getD k 0 = 47
        · rw [if_pos (by rw [h47]; rfl), if_pos (Or.inr h47)]
          simp only [fX11_isPath_42]
          exact hend
        · rw [if_neg (fun h => h47 ((li_c 47 (c := 47) rfl (by omega) (by decide)).mp h)), if_neg (by rintro (h | h); exact hke h; exact h47 h)]
          unfold fX11_isPath_47
          rw [if_pos rfl]
          simp only [rf_r1, pg_o1, rf_a1 (show k < 60 by omega), t3 k hkl2, rm_sg _ (show t.getD k 0 < 128 by omega), pg_b0, fX11_isPath_197, nI_1]
          cases hsk : sg (t.getD k 0) with
          | true =>
            rw [bI_t]
            exact ih (k + 1) f acc S F hT hW (by omega) (by omega) (by omega) (fun h => (sg_sl h).mpr fun j h1 h2 => by
              by_cases hjk : j = k
              · rw [hjk]; exact hsk
              · exact (sg_sl hkl).mp hal j h1 (by omega)) (fun h => by omega)
          | false =>
            rw [bI_f, pt_bad n (k + 1) f acc ⟨k, hfk, by omega, hsk⟩ (by omega)]
            obtain ⟨n, rfl⟩ : ∃ n', n = n' + 1 := ⟨n - 1, by omega⟩
            unfold fX11_isPath_11
            refine ⟨S, F, ?_, sE.refl, fE.refl, fun sp h => by cases h⟩
            simp only [rf_i2, t1, pg_o1, if_true, fX11_isPath_203, pg_z0, vg_ret]
            split <;> rfl
theorem pt_fuel {t : List Nat} : ∀ n n' k f acc, t.length + 1 < k + n → t.length + 1 < k + n' → k ≤ t.length + 1 → pt_go t n k f acc = pt_go t n' k f acc := by
  intro n
  induction n with
  | zero => intro n' k f acc h1 h2 h3; omega
  | succ n ih =>
    intro n' k f acc h1 h2 h3
    obtain ⟨n', rfl⟩ : ∃ q, n' = q + 1 := ⟨n' - 1, by omega⟩
    unfold pt_go
    by_cases hl : t.length < k
    · rw [if_pos hl, if_pos hl]
    · rw [if_neg hl, if_neg hl, ih n' (k + 1) (k + 1) _ (by omega) (by omega) (by omega), ih n' (k + 1) f _ (by omega) (by omega) (by omega)]
theorem rm_isPath {t : List Nat} {μ : vg_M} {m : Nat} {S : Nat → Int32} {F : Nat → Nat → Int32} (hs : μ.2.2.1 ≤ m) (hT : RT t S F) :
    ∃ S' F', fX11_isPath m (rf_M μ m S F) = some (bI (pt t).isSome, rf_M μ m S' F', 0, 0) ∧ sE [3] S S' ∧ fE [4, 5] F F' ∧ ∀ sp, pt t = some sp → RW sp S' F' := by
  have h60 := hT.2.1
  obtain ⟨S', F', e, q1, q2, q3⟩ := rm_isPathL hs vg_fuel 0 0 [] (upd S 3 0) F (hT.mono (pk_un (by decide)) rfl) ⟨by rw [pk_us]; rfl, by decide, fun w h => absurd h (Nat.not_lt_zero _)⟩ (Nat.le_refl _) (by omega) (by rw [ps_fuel]; omega) (fun _ => rfl) (fun h => by omega)
  rw [pt_fuel vg_fuel (t.length + 2) 0 0 [] (by rw [ps_fuel]; omega) (by omega) (by omega)] at e q3
  refine ⟨S', F', ?_, (sE.u (by decide)).trans q1 (fun _ h => h), q2, q3⟩
  unfold fX11_isPath
  rw [rf_p3 hs, pg_o1]
  exact e
