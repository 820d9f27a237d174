/-! The reference: the pieces of a walk. -/
theorem nlt_step {a b : List Nat} {i : Nat} (ha : i < a.length) (hb : i < b.length) : nlt (a.drop i) (b.drop i) = (decide (a.getD i 0 < b.getD i 0) || (decide (a.getD i 0 = b.getD i 0) && nlt (a.drop (i + 1)) (b.drop (i + 1)))) := by
  rw [List.drop_eq_getElem_cons ha, List.drop_eq_getElem_cons hb, ls_get ha, ls_get hb]; rfl
theorem sub_neg {a b : Nat} (ha : a < 2 ^ 30) (hb : b < 2 ^ 30) : (nI a - nI b < 0 ↔ a < b) ∧ (0 < nI a - nI b ↔ b < a) ∧ (nI a - nI b = 0 ↔ a = b) := by
  have h := pk_sub_toInt ha hb
  refine ⟨?_, ?_, ?_⟩
  · rw [Int32.lt_iff_toInt_lt, h]; show (a : Int) - b < 0 ↔ _; omega
  · rw [Int32.lt_iff_toInt_lt, h]; show 0 < (a : Int) - b ↔ _; omega
  · rw [← Int32.toInt_inj, h]; show (a : Int) - b = 0 ↔ _; omega
section
variable {μ : vg_M} {m : Nat} {S : Nat → Int32} {F : Nat → Nat → Int32} {T : sT}
theorem rm_compareL {a b : Nat} (hR : RTr T F) (ha : a < 61) (hb : b < 61) : ∀ n i, i ≤ min (nm T a).length (nm T b).length → min (nm T a).length (nm T b).length < i + n → ∃ d, fX11_compare_34 n m (nI a) (nI b) (nI (min (nm T a).length (nm T b).length)) (nI i) (rf_M μ m S F) = some (d, rf_M μ m S F, 0, 0) ∧ (d < 0 ↔ nlt ((nm T a).drop i) ((nm T b).drop i) = true) ∧ (0 < d ↔ nlt ((nm T b).drop i) ((nm T a).drop i) = true) := by
  obtain ⟨r6, r7, r8, r11, b1, b2, b3, r12, b4⟩ := hR a ha
  obtain ⟨s6, s7, s8, s11, c1, c2, c3, s12, c4⟩ := hR b hb
  intro n
  induction n with
  | zero => intro i h1 h2; omega
  | succ n ih =>
    intro i h1 h2
    unfold fX11_compare_34
    simp only [nI_leI (show min (nm T a).length (nm T b).length < 2 ^ 31 by omega) (show i < 2 ^ 31 by omega)]
    by_cases he : min (nm T a).length (nm T b).length ≤ i
    · rw [if_pos he]
      simp only [rf_r8, pg_o1, rf_a8 ha, rf_a8 hb, r8, s8, vg_ret]
      obtain ⟨e1, e2, e3⟩ := sub_neg (a := (nm T a).length) (b := (nm T b).length) (by omega) (by omega)
      refine ⟨_, rfl, ?_, ?_⟩
      · rw [e1]
        by_cases hl : (nm T a).length < (nm T b).length
        · rw [List.drop_of_length_le (show (nm T a).length ≤ i by omega), List.drop_eq_getElem_cons (show i < (nm T b).length by omega)]
          simp [nlt, hl]
        · rw [List.drop_of_length_le (show (nm T b).length ≤ i by omega)]
          cases (nm T a).drop i <;> simp [nlt] <;> omega
      · rw [e2]
        by_cases hl : (nm T b).length < (nm T a).length
        · rw [List.drop_of_length_le (show (nm T b).length ≤ i by omega), List.drop_eq_getElem_cons (show i < (nm T a).length by omega)]
          simp [nlt, hl]
        · rw [List.drop_of_length_le (show (nm T a).length ≤ i by omega)]
          cases (nm T b).drop i <;> simp [nlt] <;> omega
    · have hai : i < (nm T a).length := by omega
      have hbi : i < (nm T b).length := by omega
      have x1 : (nm T a).getD i 0 < 128 := ps_get b4 i hai
      have x2 : (nm T b).getD i 0 < 128 := ps_get c4 i hbi
      rw [if_neg he, nlt_step hai hbi, nlt_step hbi hai]
      obtain ⟨e1, e2, e3⟩ := sub_neg (a := (nm T a).getD i 0) (b := (nm T b).getD i 0) (by omega) (by omega)
      simp only [rf_r12, pg_o1, show (8 : Int32) = nI 8 from rfl, pk_mul, nI_add, rf_a12 (show 8 * a + i < 488 by omega), rf_a12 (show 8 * b + i < 488 by omega), r12 i hai, s12 i hbi, e3, nI_1, vg_ret]
      by_cases hq : (nm T a).getD i 0 = (nm T b).getD i 0
      · rw [if_pos hq, hq]
        obtain ⟨d, f1, f2, f3⟩ := ih (i + 1) (by omega) (by omega)
        exact ⟨d, f1, by rw [f2]; simp, by rw [f3]; simp⟩
      · rw [if_neg hq]
        refine ⟨_, rfl, ?_, ?_⟩
        · rw [e1, decide_eq_false hq, Bool.false_and, Bool.or_false, decide_eq_true_eq]
        · rw [e2, decide_eq_false (Ne.symm hq), Bool.false_and, Bool.or_false, decide_eq_true_eq]
theorem rm_compare {a b : Nat} (hR : RTr T F) (ha : a < 61) (hb : b < 61) : ∃ d, fX11_compare m (nI a) (nI b) (rf_M μ m S F) = some (d, rf_M μ m S F, 0, 0) ∧ (d < 0 ↔ nlt (nm T a) (nm T b) = true) ∧ (0 < d ↔ nlt (nm T b) (nm T a) = true) := by
  obtain ⟨r6, r7, r8, r11, b1, b2, b3, r12, b4⟩ := hR a ha
  obtain ⟨s6, s7, s8, s11, c1, c2, c3, s12, c4⟩ := hR b hb
  obtain ⟨d, f1, f2, f3⟩ := rm_compareL (μ := μ) (m := m) (S := S) hR ha hb vg_fuel 0 (Nat.zero_le _) (by rw [ps_fuel]; omega)
  rw [nI_0] at f1
  refine ⟨d, ?_, f2, f3⟩
  unfold fX11_compare
  simp only [rf_r8, pg_o1, rf_a8 ha, rf_a8 hb, r8, s8, fX11_compare_30, nI_leI (show (nm T b).length < 2 ^ 31 by omega) (show (nm T a).length < 2 ^ 31 by omega)]
  by_cases h : (nm T b).length ≤ (nm T a).length
  · rw [if_pos h]; rw [Nat.min_eq_right h] at f1; exact f1
  · rw [if_neg h]; rw [Nat.min_eq_left (by omega)] at f1; exact f1
/-- the children of f that come behind lo, in order -/
def Flw (T : sT) (f : Nat) (lo : Option Nat) (rest : List Nat) : Prop := (∀ c, c ∈ rest ↔ c < 60 ∧ 0 < kd T c ∧ pa T c = f ∧ ∀ l, lo = some l → nlt (nm T l) (nm T c) = true) ∧ rest.Pairwise (fun a b => nlt (nm T a) (nm T b) = true) ∧ ∀ l, lo = some l → l < 60
theorem rm_followingL {lv f : Nat} {lo : Option Nat} {rest : List Nat} (hR : RTr T F) (hW : WT T) (h30 : S 30 = nI lv) (hlv : lv < 8) (h31 : F 31 lv = nI f) (hf : f < 61) (h32 : F 32 lv = oI lo) (hF : Flw T f lo rest) : ∀ n k best, k ≤ 60 → 60 < k + n → (match best with | none => ∀ c ∈ rest, ¬ c < k | some b => b ∈ rest ∧ b < k ∧ ∀ c ∈ rest, c < k → c = b ∨ nlt (nm T b) (nm T c) = true) → fX11_following_4 n m (oI best) (nI k) (rf_M μ m S F) = some (oI rest.head?, rf_M μ m S F, 0, 0) := by
  obtain ⟨g1, g2, g3⟩ := hF
  intro n
  induction n with
  | zero => intro k best h1 h2; omega
  | succ n ih =>
    intro k best h1 h2 hb
    unfold fX11_following_4
    by_cases hk : k = 60
    · subst hk
      rw [if_pos (by decide)]
      have : best = rest.head? := by
        cases best with
        | none =>
          cases hr : rest with
          | nil => rfl
          | cons c r => rw [hr] at hb g1; exact absurd ((g1 c).mp (by simp)).1 (hb c (by simp))
        | some b =>
          obtain ⟨q1, q2, q3⟩ := hb
          cases hr : rest with
          | nil => rw [hr] at q1; cases q1
          | cons c r =>
            rw [hr] at q1 q3 g1 g2
            rcases q3 c (by simp) ((g1 c).mp (by simp)).1 with h | h
            · rw [h]; rfl
            · rw [List.pairwise_cons] at g2
              rcases List.mem_cons.mp q1 with e | e
              · rw [e]; rfl
              · have := g2.1 b e
                rw [nlt_as this] at h; cases h
      rw [this]; rfl
    · have hk2 : k < 60 := by omega
      obtain ⟨r6, r7, r8, r11, b1, b2, b3, r12, b4⟩ := hR k (by omega)
      rw [show (60 : Int32) = nI 60 from rfl, if_neg (nI_ge hk2 (by decide))]
      -- not a candidate
      have hno : k ∉ rest → fX11_following_93 (fX11_following_4 n) m (oI best) (nI k) (rf_M μ m S F) = some (oI rest.head?, rf_M μ m S F, 0, 0) := by
        intro hn
        unfold fX11_following_93
        rw [nI_1]
        refine ih (k + 1) best (by omega) (by omega) ?_
        cases best with
        | none => intro c hc hck; exact hb c hc (by have : c ≠ k := fun e => hn (e ▸ hc); omega)
        | some b => exact ⟨hb.1, by have := hb.2.1; omega, fun c hc hck => hb.2.2 c hc (by have : c ≠ k := fun e => hn (e ▸ hc); omega)⟩
      have hno71 : k ∉ rest → fX11_following_71 (fX11_following_4 n) m (oI best) (nI k) (rf_M μ m S F) = some (oI rest.head?, rf_M μ m S F, 0, 0) := by
        intro hn
        unfold fX11_following_71 fX11_following_72
        rw [if_pos rfl]; exact hno hn
      have hnew : k ∈ rest → (∀ b, best = some b → nlt (nm T k) (nm T b) = true) → fX11_following_91 (fX11_following_4 n) m (nI k) (rf_M μ m S F) = some (oI rest.head?, rf_M μ m S F, 0, 0) := by
        intro hin hlt
        unfold fX11_following_91 fX11_following_93
        rw [nI_1]
        refine ih (k + 1) (some k) (by omega) (by omega) ⟨hin, by omega, fun c hc hck => ?_⟩
        by_cases hckk : c = k
        · exact Or.inl hckk
        · right
          cases best with
          | none => exact absurd (by omega) (hb c hc)
          | some b =>
            rcases hb.2.2 c hc (by omega) with e | e
            · rw [e]; exact hlt b rfl
            · exact nlt_tr _ _ _ (hlt b rfl) e
      have hyes67 : k ∈ rest → fX11_following_67 (fX11_following_4 n) m (oI best) (nI k) (rf_M μ m S F) = some (oI rest.head?, rf_M μ m S F, 0, 0) := by
        intro hin
        unfold fX11_following_67 fX11_following_72
        rw [if_neg (show ¬ (1 : Int32) = 0 by decide)]
        cases hbest : best with
        | none => rw [if_pos (show oI none = -1 from rfl)]; exact hnew hin (fun b e => by rw [hbest] at e; cases e)
        | some b =>
          rw [hbest] at hb
          obtain ⟨q1, q2, q3⟩ := hb
          have hbl := ((g1 b).mp q1).1
          show (if nI b = -1 then _ else _) = _
          rw [if_neg (by rw [li_m1 (by omega)]; exact fun h => h)]
          obtain ⟨d, f1, f2, f3⟩ := rm_compare (μ := μ) (m := m) (S := S) hR (show k < 61 by omega) (show b < 61 by omega)
          show vg_cv 14 m (rf_M μ m S F) (fX11_compare m (nI k) (nI b) (rf_M μ m S F)) _ = _
          rw [rf_cv, f1, pg_b0]
          by_cases hd : 0 ≤ d
          · rw [if_pos hd]
            have hnl : nlt (nm T k) (nm T b) = false := by
              apply Bool.eq_false_iff.mpr
              intro h
              have := f2.mpr h
              rw [Int32.lt_iff_toInt_lt] at this
              rw [Int32.le_iff_toInt_le] at hd
              omega
            unfold fX11_following_93
            rw [nI_1]
            refine ih (k + 1) (some b) (by omega) (by omega) ⟨q1, by omega, fun c hc hck => ?_⟩
            by_cases hckk : c = k
            · right
              rw [hckk]
              have hne : nm T k ≠ nm T b := fun e => by
                have h1 := (g1 k).mp hin
                have h2 := (g1 b).mp q1
                have := hW.2.2.2.2.2.1 k b h1.1 h2.1 h1.2.1 h2.2.1 (by rw [h1.2.2.1, h2.2.2.1]) e
                omega
              rcases nlt_tot _ _ hne with h | h
              · rw [h] at hnl; cases hnl
              · exact h
            · exact q3 c hc (by omega)
          · rw [if_neg hd]
            refine hnew hin (fun b' e => ?_)
            rw [hbest] at e
            cases e
            apply f2.mp
            rw [Int32.lt_iff_toInt_lt]
            rw [Int32.le_iff_toInt_le] at hd
            omega
      simp only [rf_r6, pg_o1, rf_a6 (show k < 61 by omega), r6, li_le0 (show kd T k < 2 ^ 31 by omega), rf_r7, rf_a7 (show k < 61 by omega), r7, rf_r31, rf_i30, h30, rf_a31 hlv, h31, nI_eq (show pa T k < 2 ^ 31 by omega) (show f < 2 ^ 31 by omega), rf_r32, rf_a32 hlv, h32]
      by_cases c1 : kd T k = 0
      · rw [if_pos c1]; exact hno71 (fun h => by have := ((g1 k).mp h).2.1; omega)
      · rw [if_neg c1]
        by_cases c2 : pa T k = f
        · rw [if_pos c2]
          cases hlo : lo with
          | none =>
            rw [show oI none = -1 from rfl, if_pos rfl]
            exact hyes67 ((g1 k).mpr ⟨hk2, by omega, c2, fun l e => by rw [hlo] at e; cases e⟩)
          | some l =>
            have hl60 := g3 l hlo
            rw [show oI (some l) = nI l from rfl, if_neg (by rw [li_m1 (by omega)]; exact fun h => h)]
            obtain ⟨d, f1, f2, f3⟩ := rm_compare (μ := μ) (m := m) (S := S) hR (show k < 61 by omega) (show l < 61 by omega)
            rw [rf_cv, f1, pg_b0]
            by_cases hd : d ≤ 0
            · rw [if_pos hd]
              refine hno71 (fun h => ?_)
              have := f3.mpr (((g1 k).mp h).2.2.2 l hlo)
              rw [Int32.lt_iff_toInt_lt] at this
              rw [Int32.le_iff_toInt_le] at hd
              omega
            · rw [if_neg hd]
              refine hyes67 ((g1 k).mpr ⟨hk2, by omega, c2, fun l' e => ?_⟩)
              rw [hlo] at e
              cases e
              apply f3.mp
              rw [Int32.lt_iff_toInt_lt]
              rw [Int32.le_iff_toInt_le] at hd
              omega
        · rw [if_neg c2]; exact hno71 (fun h => c2 ((g1 k).mp h).2.2.1)
theorem rm_following {lv f : Nat} {lo : Option Nat} {rest : List Nat} (hR : RTr T F) (hW : WT T) (h30 : S 30 = nI lv) (hlv : lv < 8) (h31 : F 31 lv = nI f) (hf : f < 61) (h32 : F 32 lv = oI lo) (hF : Flw T f lo rest) : fX11_following m (rf_M μ m S F) = some (oI rest.head?, rf_M μ m S F, 0, 0) :=
  rm_followingL hR hW h30 hlv h31 hf h32 hF vg_fuel 0 none (by decide) (by rw [ps_fuel]; decide) (fun c _ h => absurd h (Nat.not_lt_zero _))
/-- a path with one more name -/
def pj (P w : List Nat) : List Nat := if P.length = 0 then w else P ++ 47 :: w
def pstr (names : List (List Nat)) : List Nat := names.foldl pj []
theorem pstr_snoc (names : List (List Nat)) (w : List Nat) : pstr (names ++ [w]) = pj (pstr names) w := by unfold pstr; rw [List.foldl_append]; rfl
def RPa (P : List Nat) (F : Nat → Nat → Int32) : Prop := P.length ≤ 53 ∧ (∀ i, i < P.length → F 35 i = nI (P.getD i 0)) ∧ ∀ c ∈ P, c < 128
theorem rm_spellL {node : Nat} {P : List Nat} {e : Nat} (hs : μ.2.2.1 ≤ m) (hR0 : RTr T F) (hn : node < 61) (he : e + (nm T node).length ≤ 64) : ∀ n i F', i ≤ (nm T node).length → (nm T node).length < i + n → fE [35] F F' → (∀ j, j < e → F' 35 j = nI (P.getD j 0)) → (∀ j, j < i → F' 35 (e + j) = nI ((nm T node).getD j 0)) → ∃ F'', fX11_spell_27 n m (nI node) (nI e) (nI i) (rf_M μ m S F') = some (nI (e + (nm T node).length), rf_M μ m S F'', 0, 0) ∧ fE [35] F F'' ∧ (∀ j, j < e → F'' 35 j = nI (P.getD j 0)) ∧ ∀ j, j < (nm T node).length → F'' 35 (e + j) = nI ((nm T node).getD j 0) := by
  intro n
  induction n with
  | zero => intro i F' h1 h2; omega
  | succ n ih =>
    intro i F' h1 h2 hE hP hw
    obtain ⟨r6, r7, r8, r11, b1, b2, b3, r12, b4⟩ := (hR0.e hE (by decide)) node hn
    unfold fX11_spell_27
    simp only [rf_r8, pg_o1, rf_a8 hn, r8, nI_leI (show (nm T node).length < 2 ^ 31 by omega) (show i < 2 ^ 31 by omega), nI_add, vg_ret]
    by_cases hi : i = (nm T node).length
    · subst hi
      rw [if_pos (Nat.le_refl _)]
      exact ⟨F', rfl, hE, hP, hw⟩
    · have hil : i < (nm T node).length := by omega
      rw [if_neg (by omega)]
      have hc : (nm T node).getD i 0 < 128 := ps_get b4 i hil
      simp only [rf_r35, rf_r12, pg_o1, show (8 : Int32) = nI 8 from rfl, pk_mul, nI_add, rf_a12 (show 8 * node + i < 488 by omega), r12 i hil, rf_s35 hs (show e + i < 64 by omega) (li_nb _ hc), nI_1]
      refine ih (i + 1) (rf_u F' 35 (e + i) (nI ((nm T node).getD i 0))) (by omega) (by omega) (hE.trans (fE.u (by decide)) (fun _ h => h)) (fun j hj => by rw [rf_u2 _ _ _ (by omega)]; exact hP j hj) (fun j hj => ?_)
      by_cases hji : j = i
      · subst hji; rw [rf_u1]
      · rw [rf_u2 _ _ _ (by omega)]; exact hw j (by omega)
theorem rm_spell {node lv : Nat} {P : List Nat} (hs : μ.2.2.1 ≤ m) (hR : RTr T F) (hn : node < 61) (h30 : S 30 = nI lv) (hlv : lv < 8) (h33 : F 33 lv = nI P.length) (hP : RPa P F) : ∃ F', fX11_spell m (nI node) (rf_M μ m S F) = some (nI (pj P (nm T node)).length, rf_M μ m S F', 0, 0) ∧ fE [35] F F' ∧ (∀ i, i < (pj P (nm T node)).length → F' 35 i = nI ((pj P (nm T node)).getD i 0)) ∧ ∀ i, i < P.length → F' 35 i = F 35 i := by
  obtain ⟨r6, r7, r8, r11, b1, b2, b3, r12, b4⟩ := hR node hn
  obtain ⟨p1, p2, p3⟩ := hP
  unfold fX11_spell
  simp only [rf_r33, rf_i30, h30, pg_o1, rf_a33 hlv, h33, li_le0 (show P.length < 2 ^ 31 by omega), fX11_spell_25]
  by_cases h0 : P.length = 0
  · rw [if_pos h0]
    obtain ⟨F', e1, e2, e3, e4⟩ := rm_spellL (S := S) (P := P) (e := P.length) hs hR hn (by omega) vg_fuel 0 F (Nat.zero_le _) (by rw [ps_fuel]; omega) fE.refl p2 (fun j hj => absurd hj (Nat.not_lt_zero _))
    rw [nI_0] at e1
    have epj : pj P (nm T node) = nm T node := by unfold pj; rw [if_pos h0]
    rw [epj]
    refine ⟨F', ?_, e2, fun i hi => ?_, fun i hi => by omega⟩
    · rw [e1, h0, Nat.zero_add]
    · have := e4 i hi; rw [h0, Nat.zero_add] at this; exact this
  · rw [if_neg h0]
    simp only [rf_r35, pg_o1, rf_s35 hs (show P.length < 64 by omega) (show vp_nar .byte 47 = 47 by decide), nI_1]
    have hR' : RTr T (rf_u F 35 P.length 47) := hR.e (fE.u (ks := [35]) (by decide)) (by decide)
    obtain ⟨F', e1, e2, e3, e4⟩ := rm_spellL (S := S) (P := P ++ [47]) (e := P.length + 1) hs hR' hn (by omega) vg_fuel 0 (rf_u F 35 P.length 47) (Nat.zero_le _) (by rw [ps_fuel]; omega) fE.refl (fun j hj => by
      by_cases hj2 : j = P.length
      · subst hj2; rw [rf_u1]; simp [List.getD_eq_getElem?_getD]; rfl
      · rw [rf_u2 _ _ _ hj2, p2 j (by omega), List.getD_eq_getElem?_getD, List.getD_eq_getElem?_getD, List.getElem?_append_left (by omega)]) (fun j hj => absurd hj (Nat.not_lt_zero _))
    rw [nI_0] at e1
    have epj : pj P (nm T node) = (P ++ [47]) ++ nm T node := by unfold pj; rw [if_neg h0]; simp
    have hl1 : (P ++ [47]).length = P.length + 1 := by simp
    rw [epj]
    refine ⟨F', ?_, (fE.u (by decide)).trans e2 (fun _ h => h), fun i hi => ?_, fun i hi => ?_⟩
    · rw [e1, List.length_append, hl1]
    · by_cases hi1 : i < P.length + 1
      · rw [e3 i hi1, List.getD_eq_getElem?_getD, List.getD_eq_getElem?_getD, List.getElem?_append_left (l₁ := P ++ [47]) (l₂ := nm T node) (by rw [hl1]; exact hi1)]
      · rw [List.length_append, hl1] at hi
        have := e4 (i - (P.length + 1)) (by omega)
        rw [show P.length + 1 + (i - (P.length + 1)) = i by omega] at this
        rw [this, List.getD_eq_getElem?_getD, List.getD_eq_getElem?_getD, List.getElem?_append_right (l₁ := P ++ [47]) (l₂ := nm T node) (by rw [hl1]; omega), hl1]
    · rw [e3 i (by omega), p2 i hi, List.getD_eq_getElem?_getD, List.getD_eq_getElem?_getD, List.getElem?_append_left hi]
def RA (an : List (List Nat)) (S : Nat → Int32) (F : Nat → Nat → Int32) : Prop := S 27 = nI an.length ∧ an.length ≤ 60 ∧ ∀ i, i < an.length → F 28 i = nI (an.getD i []).length ∧ (an.getD i []).length ≤ 53 ∧ (∀ c ∈ an.getD i [], c < 128) ∧ ∀ k, k < (an.getD i []).length → F 29 (54 * i + k) = nI ((an.getD i []).getD k 0)
theorem rm_tellL {an : List (List Nat)} {P : List Nat} (hs : μ.2.2.1 ≤ m) (hA : RA an S F) (h60 : an.length < 60) (hP53 : P.length ≤ 53) (hPc : ∀ c ∈ P, c < 128) (hP : ∀ i, i < P.length → F 35 i = nI (P.getD i 0)) : ∀ n i F', i ≤ P.length → P.length < i + n → fE [29] F F' → (∀ j, j < 54 * an.length → F' 29 j = F 29 j) → (∀ j, j < i → F' 29 (54 * an.length + j) = nI (P.getD j 0)) → ∃ S'' F'', fX11_tell_8 n m (nI P.length) (nI i) (rf_M μ m S F') = some ((), rf_M μ m S'' F'', 0, 0) ∧ RA (an ++ [P]) S'' F'' ∧ sE [27] S S'' ∧ fE [28, 29] F F'' := by
  obtain ⟨a1, a2, a3⟩ := hA
  intro n
  induction n with
  | zero => intro i F' h1 h2; omega
  | succ n ih =>
    intro i F' h1 h2 hE hlo hw
    unfold fX11_tell_8
    simp only [nI_leI (show P.length < 2 ^ 31 by omega) (show i < 2 ^ 31 by omega)]
    by_cases hi : i = P.length
    · subst hi
      rw [if_pos (Nat.le_refl _)]
      simp only [rf_r28, rf_i27, a1, pg_o1, rf_s28 hs h60, nI_1, rf_p27 hs, vg_ret]
      refine ⟨_, _, rfl, ⟨by rw [pk_us, List.length_append]; rfl, by rw [List.length_append]; simp; omega, fun j hj => ?_⟩, sE.u (by decide), (hE.trans fE.refl (by decide)).trans (fE.u (by decide)) (fun _ h => h)⟩
      rw [List.length_append] at hj
      simp only [List.length_cons, List.length_nil] at hj
      simp (disch := decide) only [rf_u3, rf_u4, rf_u5, pk_us, pk_un]
      by_cases hja : j = an.length
      · have e : (an ++ [P]).getD j [] = P := by subst hja; simp [List.getD_eq_getElem?_getD]
        rw [e, if_pos hja]
        refine ⟨rfl, hP53, hPc, fun k hk => ?_⟩
        rw [hja]; exact hw k hk
      · have hjl : j < an.length := by omega
        have e : (an ++ [P]).getD j [] = an.getD j [] := by rw [List.getD_eq_getElem?_getD, List.getD_eq_getElem?_getD, List.getElem?_append_left hjl]
        obtain ⟨c1, c2, c3, c4⟩ := a3 j hjl
        rw [e, if_neg hja, hE 28 (by decide)]
        refine ⟨c1, c2, c3, fun k hk => ?_⟩
        rw [hlo _ (by omega)]; exact c4 k hk
    · have hil : i < P.length := by omega
      have hc : P.getD i 0 < 128 := ps_get hPc i hil
      rw [if_neg (by omega)]
      have e35 : F' 35 i = nI (P.getD i 0) := by rw [hE 35 (by decide)]; exact hP i hil
      simp only [rf_r29, rf_i27, a1, rf_r35, pg_o1, rf_a35 (show i < 64 by omega), e35, show (54 : Int32) = nI 54 from rfl, pk_mul, nI_add, rf_s29 hs (show 54 * an.length + i < 3240 by omega) (li_nb _ hc), nI_1]
      refine ih (i + 1) (rf_u F' 29 (54 * an.length + i) (nI (P.getD i 0))) (by omega) (by omega) (hE.trans (fE.u (by decide)) (fun _ h => h)) (fun j hj => by rw [rf_u2 _ _ _ (by omega)]; exact hlo j hj) (fun j hj => ?_)
      by_cases hji : j = i
      · subst hji; rw [rf_u1]
      · rw [rf_u2 _ _ _ (by omega)]; exact hw j (by omega)
theorem RA.e {an : List (List Nat)} {S S' : Nat → Int32} {F F' : Nat → Nat → Int32} {ss ks : List Nat} (h : RA an S F) (hs : sE ss S S') (hf : fE ks F F') (h1 : 27 ∉ ss) (h2 : 28 ∉ ks ∧ 29 ∉ ks) : RA an S' F' := by
  obtain ⟨a1, a2, a3⟩ := h
  refine ⟨(hs _ h1).trans a1, a2, fun i hi => ?_⟩
  rw [hf _ h2.1, hf _ h2.2]; exact a3 i hi
theorem rm_tell {node lv : Nat} {P : List Nat} {an : List (List Nat)} (hs : μ.2.2.1 ≤ m) (hR : RTr T F) (hn : node < 61) (h30 : S 30 = nI lv) (hlv : lv < 8) (h33 : F 33 lv = nI P.length) (hP : RPa P F) (hA : RA an S F) (h60 : an.length < 60) (h53 : (pj P (nm T node)).length ≤ 53) (hc : ∀ c ∈ pj P (nm T node), c < 128) : ∃ S' F', fX11_tell m (nI node) (rf_M μ m S F) = some ((), rf_M μ m S' F', 0, 0) ∧ RA (an ++ [pj P (nm T node)]) S' F' ∧ sE [27] S S' ∧ fE [28, 29, 35] F F' ∧ ∀ i, i < P.length → F' 35 i = F 35 i := by
  obtain ⟨F1, e1, e2, e3, e4⟩ := rm_spell (S := S) hs hR hn h30 hlv h33 hP
  obtain ⟨S2, F2, f1, f2, f3, f4⟩ := rm_tellL (S := S) hs (hA.e sE.refl (ss := []) e2 (by decide) (by decide)) h60 h53 hc e3 vg_fuel 0 F1 (Nat.zero_le _) (by rw [ps_fuel]; omega) fE.refl (fun _ _ => rfl) (fun j hj => absurd hj (Nat.not_lt_zero _))
  rw [nI_0] at f1
  refine ⟨S2, F2, ?_, f2, f3, (e2.trans fE.refl (by decide)).trans (f4.trans fE.refl (by decide)) (fun _ h => h), fun i hi => by rw [f4 35 (by decide)]; exact e4 i hi⟩
  unfold fX11_tell
  rw [rf_cv, e1, pg_b0]
  exact f1
theorem rm_enter {lv f : Nat} {x e : Int32} (hs : μ.2.2.1 ≤ m) (h30 : S 30 = x) (hx : x + 1 = nI lv) (hlv : lv < 8) : fX11_enter m (nI f) e (rf_M μ m S F) = some ((), rf_M μ m (upd S 30 (nI lv)) (rf_u (rf_u (rf_u (rf_u F 31 lv (nI f)) 34 lv (nI f)) 32 lv (-1)) 33 lv e), 0, 0) := by
  unfold fX11_enter
  simp only [rf_i30, h30, pg_o1, rf_p30 hs, hx, rf_r31, pk_us, rf_s31 hs hlv, rf_r34, rf_s34 hs hlv, rf_r32, rf_s32 hs hlv, rf_r33, rf_s33 hs hlv, vg_ret]
theorem rm_counts {fr : Nat → Nat → Bool} {nq B q node : Nat} (hq : q < nq) (hq6 : nq ≤ 6) (hSn : RSn fr nq T B S F) (hB : B < 2 ^ 30) (hn : node < 61) (hl : 0 < kd T node) : fX11_counts m (nI q) (nI node) (rf_M μ m S F) = some (bI (fr q node), rf_M μ m S F, 0, 0) := by
  obtain ⟨ma, cg, ow, to, as, se, an, h1, h2, h3, h4, h5, h6, h7, h8⟩ := hSn
  obtain ⟨a1, a2, a3, a4, a5⟩ := h5 node hn
  obtain ⟨c1, c2, c3⟩ := h6 q (by omega)
  obtain ⟨d1, d2⟩ := h7 (61 * q + node) (by omega)
  unfold fX11_counts
  simp only [rf_r23, pg_o1, rf_a23 (show q < 6 by omega), c3, bI_0, rf_r24, show (61 : Int32) = nI 61 from rfl, pk_mul, nI_add, rf_a24 (show 61 * q + node < 366 by omega), d1, rf_r10, rf_a10 hn, a1, nI_eq (show se (61 * q + node) < 2 ^ 31 by omega) (show ow node < 2 ^ 31 by omega), rf_r9, rf_a9 hn, a2, rf_r19, rf_a19 (show q < 6 by omega), c1, nI_leI (show to node < 2 ^ 31 by omega) (show as q < 2 ^ 31 by omega), fX11_counts_44, fX11_counts_49, pg_z0, pg_z1, vg_ret]
  rw [h8 q hq node hn hl]
  cases han : an q with
  | true => rw [if_neg (by decide)]; rfl
  | false =>
    rw [if_pos rfl]
    by_cases hse : se (61 * q + node) = ow node
    · rw [if_pos hse, decide_eq_false (fun h => h hse)]
      by_cases hto : to node ≤ as q
      · rw [if_pos hto, decide_eq_false (by omega)]; rfl
      · rw [if_neg hto, decide_eq_true (by omega)]; rfl
    · rw [if_neg hse, decide_eq_true hse]; rfl
end
