/-! The reference: trails against patterns, queries' answers. -/
abbrev sP : Type := Bool × List (List (List Nat)) × Bool
abbrev sQ : Type := List Nat × List sP
def ins (Q : sQ) : List sP := Q.2.filter (fun P => !P.1)
def outs (Q : sQ) : List sP := Q.2.filter (fun P => P.1)
def ffits (P : sP) (names : List (List Nat)) (isF : Bool) : Bool := decide (P.2.2 = isF) && pbits P.2.1 names P.2.1.length
def qtakes (Q : sQ) (names : List (List Nat)) (isF : Bool) : Bool := (ins Q).any (fun P => ffits P names isF) && !(outs Q).any (fun P => ffits P names isF)
def pgoes (P : sP) (names : List (List Nat)) : Bool := (List.range P.2.1.length).any (pbits P.2.1 names)
def qgoes (Q : sQ) (names : List (List Nat)) : Bool := (ins Q).any (fun P => pgoes P names)
def RQ1 (q : Nat) (Q : sQ) (F : Nat → Nat → Int32) : Prop := F 16 q = nI Q.1.length ∧ Q.1.length ≤ 60 ∧ (∀ i, i < Q.1.length → F 21 (60 * q + i) = nI (Q.1.getD i 0)) ∧ (∀ c ∈ Q.1, 32 ≤ c ∧ c < 127) ∧ (Q.1 = [] ∨ (pt Q.1).isSome = true) ∧ F 17 q = nI (ins Q).length ∧ (ins Q).length ≤ 4 ∧ F 18 q = nI (outs Q).length ∧ (outs Q).length ≤ 4 ∧ (∀ i, i < (ins Q).length → RP (8 * q + i) ((ins Q).getD i (false, [], false)).2.1 ((ins Q).getD i (false, [], false)).2.2 F) ∧ ∀ i, i < (outs Q).length → RP (8 * q + 4 + i) ((outs Q).getD i (false, [], false)).2.1 ((outs Q).getD i (false, [], false)).2.2 F
def RQ (qs : List sQ) (S : Nat → Int32) (F : Nat → Nat → Int32) : Prop := S 15 = nI qs.length ∧ qs.length ≤ 6 ∧ (∀ q, q < qs.length → RQ1 q (qs.getD q ([], [])) F) ∧ ∀ q, qs.length ≤ q → q < 6 → F 17 q = nI 0 ∧ F 18 q = nI 0
theorem RP.mono {p : Nat} {ps : List (List (List Nat))} {fo : Bool} {F F' : Nat → Nat → Int32} (h : RP p ps fo F) (h20 : F' 20 = F 20) (h22 : F' 22 = F 22) : RP p ps fo F' := ⟨h.1, h.2.1, by rw [h20]; exact h.2.2.1, fun k hk => by rw [h22]; exact h.2.2.2 k hk⟩
theorem RQ1.mono {q : Nat} {Q : sQ} {F F' : Nat → Nat → Int32} (h : RQ1 q Q F) (h16 : F' 16 = F 16) (h17 : F' 17 = F 17) (h18 : F' 18 = F 18) (h20 : F' 20 = F 20) (h21 : F' 21 = F 21) (h22 : F' 22 = F 22) : RQ1 q Q F' := by
  obtain ⟨a1, a2, a3, a4, a5, a6, a7, a8, a9, a10, a11⟩ := h
  unfold RQ1
  rw [h16, h17, h18, h21]
  exact ⟨a1, a2, a3, a4, a5, a6, a7, a8, a9, fun i hi => (a10 i hi).mono h20 h22, fun i hi => (a11 i hi).mono h20 h22⟩
theorem RQ.e {qs : List sQ} {S S' : Nat → Int32} {F F' : Nat → Nat → Int32} {ss ks : List Nat} (h : RQ qs S F) (hs : sE ss S S') (hf : fE ks F F') (h1 : 15 ∉ ss) (h2 : 16 ∉ ks ∧ 17 ∉ ks ∧ 18 ∉ ks ∧ 20 ∉ ks ∧ 21 ∉ ks ∧ 22 ∉ ks) : RQ qs S' F' := by
  obtain ⟨a1, a2, a3, a4⟩ := h
  refine ⟨(hs _ h1).trans a1, a2, fun q hq => (a3 q hq).mono (hf _ h2.1) (hf _ h2.2.1) (hf _ h2.2.2.1) (hf _ h2.2.2.2.1) (hf _ h2.2.2.2.2.1) (hf _ h2.2.2.2.2.2), fun q h3 h4 => ?_⟩
  rw [hf _ h2.2.1, hf _ h2.2.2.1]; exact a4 q h3 h4
def RTl (tr : List Nat) (S : Nat → Int32) (F : Nat → Nat → Int32) : Prop := S 30 = nI tr.length ∧ tr.length ≤ 6 ∧ ∀ k, k < tr.length → F 34 (k + 1) = nI (tr.getD k 0) ∧ tr.getD k 0 < 61
section
variable {μ : vg_M} {m : Nat} {S : Nat → Int32} {F : Nat → Nat → Int32} {p : Nat} {ps : List (List (List Nat))} {fo : Bool}
/-- what the pieces before i have set -/
def stI (ps : List (List (List Nat))) (s : Nat → Bool) (w : List Nat) (i : Nat) : Nat → Bool
  | 0 => decide (0 < i) && (dpf ps 0 && s 0)
  | j + 1 => (decide (j + 1 < i) && (dpf ps (j + 1) && s (j + 1))) || (decide (j < i) && (!dpf ps j && s j && pfit (ps.getD j []) w))
theorem stI_end {s : Nat → Bool} {w : List Nat} (j : Nat) (h0 : 1 ≤ ps.length) : stI ps s w ps.length j = stp ps s w j := by
  cases j with
  | zero => show (decide (0 < ps.length) && _) = _; rw [decide_eq_true (show 0 < ps.length by omega), Bool.true_and]; rfl
  | succ j =>
    show ((decide (j + 1 < ps.length) && (dpf ps (j + 1) && s (j + 1))) || (decide (j < ps.length) && (!dpf ps j && s j && pfit (ps.getD j []) w))) = ((dpf ps (j + 1) && s (j + 1)) || (decide (j < ps.length) && !dpf ps j && s j && pfit (ps.getD j []) w))
    by_cases h : j + 1 < ps.length
    · rw [decide_eq_true h, Bool.true_and]; simp only [Bool.and_assoc]
    · rw [decide_eq_false h, dpf_out (by omega)]; simp only [Bool.and_assoc, Bool.false_and]
theorem stI_step {s : Nat → Bool} {w : List Nat} {i : Nat} (j : Nat) : stI ps s w (i + 1) j = (stI ps s w i j || (decide (j = i) && (dpf ps i && s i)) || (decide (j = i + 1) && (!dpf ps i && s i && pfit (ps.getD i []) w))) := by
  cases j with
  | zero =>
    show (decide (0 < i + 1) && (dpf ps 0 && s 0)) = ((decide (0 < i) && (dpf ps 0 && s 0)) || (decide (0 = i) && (dpf ps i && s i)) || (decide (0 = i + 1) && _))
    rw [decide_eq_false (show ¬ 0 = i + 1 by omega), decide_eq_true (show 0 < i + 1 by omega)]
    by_cases h : i = 0
    · subst h; simp
    · rw [decide_eq_true (show 0 < i by omega), decide_eq_false (show ¬ 0 = i by omega)]; simp
  | succ j =>
    show ((decide (j + 1 < i + 1) && (dpf ps (j + 1) && s (j + 1))) || (decide (j < i + 1) && (!dpf ps j && s j && pfit (ps.getD j []) w))) = (((decide (j + 1 < i) && (dpf ps (j + 1) && s (j + 1))) || (decide (j < i) && (!dpf ps j && s j && pfit (ps.getD j []) w))) || (decide (j + 1 = i) && (dpf ps i && s i)) || (decide (j + 1 = i + 1) && (!dpf ps i && s i && pfit (ps.getD i []) w)))
    by_cases h1 : j + 1 = i
    · subst h1
      rw [decide_eq_true (show j + 1 < j + 1 + 1 by omega), decide_eq_true (show j < j + 1 + 1 by omega), decide_eq_false (show ¬ j + 1 < j + 1 by omega), decide_eq_true (show j < j + 1 by omega), decide_eq_true rfl, decide_eq_false (show ¬ j + 1 = j + 1 + 1 by omega)]
      simp only [Bool.true_and, Bool.false_and, Bool.false_or, Bool.or_false, Bool.or_comm]
    · by_cases h2 : j = i
      · subst h2
        rw [decide_eq_false (show ¬ j + 1 < j + 1 by omega), decide_eq_true (show j < j + 1 by omega), decide_eq_false (show ¬ j + 1 < j by omega), decide_eq_false (show ¬ j < j by omega), decide_eq_false (show ¬ j + 1 = j by omega), decide_eq_true rfl]
        simp only [Bool.true_and, Bool.false_and, Bool.false_or]
      · rw [decide_eq_false h1, decide_eq_false (show ¬ j + 1 = i + 1 by omega)]
        simp only [Bool.false_and, Bool.or_false]
        congr 2
        · rw [decide_eq_decide]; omega
        · rw [decide_eq_decide]; omega
theorem rm_onL {T : sT} {node : Nat} {s : Nat → Bool} {x : Int32} (h : RP p ps fo F) (hR : RTr T F) (hnode : node < 61) (hx : bs x s) : ∀ n i k y, i ≤ ps.length → ps.length < i + n → k ≤ 100 → (raw ps fo).drop k = raw (ps.drop i) fo → bs y (stI ps s (nm T node) i) → ∃ z, fX11_on_9 n m (nI p) x (nI node) y (nI k) (nI i) (rf_M μ m S F) = some (z, rf_M μ m S F, 0, 0) ∧ bs z (clo ps (stp ps s (nm T node))) := by
  obtain ⟨h1, h2, h3, h4⟩ := id h
  intro n
  induction n with
  | zero => intro i k y q1 q2; omega
  | succ n ih =>
    intro i k y q1 q2 hk hdr hy
    have hp6 := h2.2.1
    unfold fX11_on_9
    simp only [rf_cv, rm_pieces h, pg_b0, nI_leI (show ps.length < 2 ^ 31 by omega) (show i < 2 ^ 31 by omega)]
    by_cases he : ps.length ≤ i
    · rw [if_pos he]
      obtain rfl : i = ps.length := by omega
      obtain ⟨z, z1, z2⟩ := rm_closed (μ := μ) (m := m) (S := S) h (bs_eq hy fun j _ => stI_end j h2.1)
      rw [z1, pg_b0]
      exact ⟨z, rfl, z2⟩
    · have hi : i < ps.length := by omega
      rw [if_neg he]
      obtain ⟨d1, v, d2, d3⟩ := raw_dropS hi hdr
      have hcok : cOk (ps.getD i []) := by
        rw [List.getD_eq_getElem?_getD, List.getElem?_eq_getElem hi]; exact h2.2.2.1 _ (List.getElem_mem hi)
      have hlen : k + (ps.getD i []).flatten.length ≤ 60 := by
        have e := congrArg List.length d2
        rw [List.length_drop, List.length_append] at e
        have := h2.2.2.2.1
        have := cOk_ne hcok
        omega
      simp only [rm_pieceEnd h d2 (cOk_47 hcok) d3 hk, rm_isStars h hcok d2 hk, pg_b0, rf_cv, fX11_on_84, fX11_on_87, nI_1, bs_t1 hx (show i < 32 by omega), bI_0]
      rw [← dpf_get hi]
      have step : ∀ y', bs y' (stI ps s (nm T node) (i + 1)) → ∃ z, fX11_on_9 n m (nI p) x (nI node) y' (nI (k + (ps.getD i []).flatten.length + 1)) (nI (i + 1)) (rf_M μ m S F) = some (z, rf_M μ m S F, 0, 0) ∧ bs z (clo ps (stp ps s (nm T node))) := fun y' hy' => ih (i + 1) _ y' (by omega) (by omega) (by omega) d1 hy'
      cases hsi : s i with
      | false =>
        rw [if_neg (by decide)]
        refine step y (bs_eq hy fun j _ => ?_)
        rw [stI_step, hsi]; simp
      | true =>
        rw [if_pos rfl]
        cases hd : dpf ps i with
        | true =>
          rw [if_neg (by decide)]
          refine step _ (bs_eq (bs_or hy (bs_s1 (show i < 32 by omega))) fun j _ => ?_)
          rw [stI_step, hsi, hd]; simp
        | false =>
          rw [if_pos rfl]
          have hplain : (∀ a ∈ ps.getD i [], aOk a) ∧ (ps.getD i []).length ≤ 8 := by
            rcases hcok with hh | hh
            · rw [dpf_get hi, hh] at hd; simp at hd
            · exact ⟨hh.2.2.1, hh.2.1⟩
          simp only [rm_fitsName h hR hnode hplain.1 hlen d2 hplain.2, pg_b0, bI_0]
          cases hf : pfit (ps.getD i []) (nm T node) with
          | false =>
            rw [if_pos rfl]
            refine step _ (bs_eq (bs_or hy bs_z) fun j _ => ?_)
            rw [stI_step, hsi, hd, hf]; simp
          | true =>
            rw [if_neg (by decide)]
            refine step _ (bs_eq (bs_or hy (bs_s2 (show i < 31 by omega))) fun j _ => ?_)
            rw [stI_step, hsi, hd, hf]; simp
theorem rm_on {T : sT} {node : Nat} {s : Nat → Bool} {x : Int32} (h : RP p ps fo F) (hR : RTr T F) (hnode : node < 61) (hx : bs x s) : ∃ z, fX11_on m (nI p) x (nI node) (rf_M μ m S F) = some (z, rf_M μ m S F, 0, 0) ∧ bs z (clo ps (stp ps s (nm T node))) := by
  refine rm_onL h hR hnode hx vg_fuel 0 0 0 (Nat.zero_le _) (by rw [ps_fuel]; have := h.2.1.2.1; omega) (by decide) rfl (bs_eq bs_z fun j _ => ?_)
  cases j with
  | zero => rfl
  | succ j => simp [stI]
theorem pbits_snoc (ps : List (List (List Nat))) (tr : List (List Nat)) (w : List Nat) : pbits ps (tr ++ [w]) = clo ps (stp ps (pbits ps tr) w) := by
  unfold pbits; rw [List.foldl_append]; rfl
def onm (T : sT) : Option Nat → List (List Nat)
  | none => []
  | some k => [nm T k]
theorem rm_bitsL {T : sT} {tr : List Nat} {more : Int32} {oN : Option Nat} (h : RP p ps fo F) (hR : RTr T F) (hT : RTl tr S F) (hm : more = oI oN) (hmo : ∀ k, oN = some k → k < 61) : ∀ n k x, k ≤ tr.length → tr.length < k + n → bs x (pbits ps ((tr.take k).map (nm T))) → ∃ z, fX11_bitsOf_10 n m (nI p) more x (nI (k + 1)) (rf_M μ m S F) = some (z, rf_M μ m S F, 0, 0) ∧ bs z (pbits ps (tr.map (nm T) ++ onm T oN)) := by
  obtain ⟨t1, t2, t3⟩ := hT
  intro n
  induction n with
  | zero => intro k x q1 q2; omega
  | succ n ih =>
    intro k x q1 q2 hx
    unfold fX11_bitsOf_10
    simp only [rf_i30, t1, pg_o1, nI_ltI (show tr.length < 2 ^ 31 by omega) (show k + 1 < 2 ^ 31 by omega), fX11_bitsOf_55, vg_ret]
    by_cases hk : k = tr.length
    · subst hk
      rw [List.take_length] at hx
      rw [if_pos (by omega)]
      cases oN with
      | none => rw [if_pos (by rw [hm]; rfl)]; exact ⟨x, rfl, by unfold onm; rw [List.append_nil]; exact hx⟩
      | some nd =>
        have hnd := hmo nd rfl
        rw [hm, if_neg (by show ¬ nI nd = -1; rw [li_m1 (by omega)]; exact fun h => h)]
        obtain ⟨z, z1, z2⟩ := rm_on (μ := μ) (m := m) (S := S) h hR hnd hx
        show ∃ y, vg_cv 14 m (rf_M μ m S F) (fX11_on m (nI p) x (nI nd) (rf_M μ m S F)) _ = _ ∧ _
        rw [rf_cv, z1, pg_b0]
        exact ⟨z, rfl, by unfold onm; rw [pbits_snoc]; exact z2⟩
    · have hkl : k < tr.length := by omega
      rw [if_neg (by omega)]
      obtain ⟨v1, v2⟩ := t3 k hkl
      simp only [rf_r34, pg_o1, rf_a34 (show k + 1 < 8 by omega), v1, rf_cv]
      obtain ⟨z, z1, z2⟩ := rm_on (μ := μ) (m := m) (S := S) h hR v2 hx
      rw [z1, pg_b0, nI_1]
      refine ih (k + 1) z (by omega) (by omega) ?_
      have : (tr.take (k + 1)).map (nm T) = (tr.take k).map (nm T) ++ [nm T (tr.getD k 0)] := by
        rw [List.take_succ, List.getElem?_eq_getElem hkl, List.map_append, ls_get hkl]; rfl
      rw [this, pbits_snoc]; exact z2
theorem rm_bitsOf {T : sT} {tr : List Nat} (oN : Option Nat) (h : RP p ps fo F) (hR : RTr T F) (hT : RTl tr S F) (hmo : ∀ k, oN = some k → k < 61) : ∃ z, fX11_bitsOf m (nI p) (oI oN) (rf_M μ m S F) = some (z, rf_M μ m S F, 0, 0) ∧ bs z (pbits ps (tr.map (nm T) ++ onm T oN)) := by
  unfold fX11_bitsOf
  obtain ⟨y, y1, y2⟩ := rm_closed (μ := μ) (m := m) (S := S) h bs_1
  rw [rf_cv, y1, pg_b0]
  exact rm_bitsL h hR hT rfl hmo vg_fuel 0 y (Nat.zero_le _) (by rw [ps_fuel]; have := hT.2.1; omega) y2
theorem rm_fits {T : sT} {tr : List Nat} {node : Nat} {out : Bool} (h : RP p ps fo F) (hR : RTr T F) (hT : RTl tr S F) (hn : node < 61) : fX11_fits m (nI p) (nI node) (rf_M μ m S F) = some (bI (ffits (out, ps, fo) (tr.map (nm T) ++ [nm T node]) (decide (kd T node = 2))), rf_M μ m S F, 0, 0) := by
  obtain ⟨r6, r7, r8, r11, b1, b2, b3, r12, b4⟩ := hR node hn
  obtain ⟨z, z1, z2⟩ := rm_bitsOf (μ := μ) (m := m) (some node) h hR hT (fun k e => by cases e; exact hn)
  have z1' : fX11_bitsOf m (nI p) (nI node) (rf_M μ m S F) = some (z, rf_M μ m S F, 0, 0) := z1
  have z2 : bs z (pbits ps (tr.map (nm T) ++ [nm T node])) := z2
  have hp6 := h.2.1.2.1
  have h20 : ∀ b : Bool, fX11_fits_20 m (nI p) (nI node) (bI fo) (bI b) (rf_M μ m S F) = some (bI (decide (fo = b) && pbits ps (tr.map (nm T) ++ [nm T node]) ps.length), rf_M μ m S F, 0, 0) := by
    intro b
    unfold fX11_fits_20
    simp only [bI_inj, rf_cv, z1', rm_pieces h, pg_b0, bs_t1 z2 (show ps.length < 32 by omega), fX11_fits_45, fX11_fits_46, pg_z0, pg_z1, pg_o1, vg_ret]
    by_cases hb : fo = b
    · rw [if_pos hb, decide_eq_true hb, Bool.true_and]
      cases pbits ps (tr.map (nm T) ++ [nm T node]) ps.length <;> rfl
    · rw [if_neg hb, decide_eq_false hb]; rfl
  unfold fX11_fits
  simp only [rf_cv, rm_isForFolders h, pg_b0, rf_r6, pg_o1, rf_a6 hn, r6, li_c 2 (c := 2) rfl (show kd T node < 2 ^ 31 by omega) (by decide)]
  unfold ffits
  by_cases h2 : kd T node = 2
  · rw [if_pos h2, decide_eq_true h2]; exact h20 true
  · rw [if_neg h2, decide_eq_false h2]; exact h20 false
end
theorem any_take {α : Type} (l : List α) (f : α → Bool) (d : α) {i : Nat} (hi : i < l.length) : (l.take (i + 1)).any f = ((l.take i).any f || f (l.getD i d)) := by
  rw [List.take_succ, List.getElem?_eq_getElem hi, List.any_append, List.getD_eq_getElem?_getD, List.getElem?_eq_getElem hi]; simp
section
variable {μ : vg_M} {m : Nat} {S : Nat → Int32} {F : Nat → Nat → Int32} {T : sT} {tr : List Nat} {q : Nat} {Q : sQ}
theorem rm_isAnswer {node : Nat} (hQ : RQ1 q Q F) (hq : q < 6) (hR : RTr T F) (hT : RTl tr S F) (hn : node < 61) : fX11_isAnswer m (nI q) (nI node) (rf_M μ m S F) = some (bI (qtakes Q (tr.map (nm T) ++ [nm T node]) (decide (kd T node = 2))), rf_M μ m S F, 0, 0) := by
  obtain ⟨a1, a2, a3, a4, a5, a6, a7, a8, a9, a10, a11⟩ := hQ
  have outL : ∀ bi : Bool, ∀ n i, i ≤ (outs Q).length → (outs Q).length < i + n → fX11_isAnswer_53 n m (nI q) (nI node) (bI bi) (bI (((outs Q).take i).any (fun P => ffits P (tr.map (nm T) ++ [nm T node]) (decide (kd T node = 2))))) (nI i) (rf_M μ m S F) = some (bI (bi && !(outs Q).any (fun P => ffits P (tr.map (nm T) ++ [nm T node]) (decide (kd T node = 2)))), rf_M μ m S F, 0, 0) := by
    intro bi n
    induction n with
    | zero => intro i q1 q2; omega
    | succ n ih =>
      intro i q1 q2
      unfold fX11_isAnswer_53
      simp only [rf_r18, pg_o1, rf_a18 hq, a8, nI_leI (show (outs Q).length < 2 ^ 31 by omega) (show i < 2 ^ 31 by omega), bI_0, fX11_isAnswer_112, fX11_isAnswer_113, pg_z0, pg_z1, vg_ret, fX11_isAnswer_91, fX11_isAnswer_86, nI_1, show (8 : Int32) = nI 8 from rfl, show (4 : Int32) = nI 4 from rfl, pk_mul, nI_add]
      by_cases hi : i = (outs Q).length
      · subst hi
        rw [if_pos (Nat.le_refl _), List.take_length]
        cases bi <;> cases (outs Q).any (fun P => ffits P (tr.map (nm T) ++ [nm T node]) (decide (kd T node = 2))) <;> rfl
      · have hil : i < (outs Q).length := by omega
        rw [if_neg (by omega)]
        have ih' := ih (i + 1) (by omega) (by omega)
        rw [any_take _ _ (false, [], false) hil] at ih'
        cases hb : ((outs Q).take i).any (fun P => ffits P (tr.map (nm T) ++ [nm T node]) (decide (kd T node = 2))) with
        | true => rw [if_neg (by decide)]; rw [hb, Bool.true_or, bI_t] at ih'; exact ih'
        | false =>
          rw [if_pos rfl]
          rw [hb, Bool.false_or] at ih'
          have hf : fX11_fits m (nI (8 * q + 4 + i)) (nI node) (rf_M μ m S F) = some (bI (ffits ((outs Q).getD i (false, [], false)) (tr.map (nm T) ++ [nm T node]) (decide (kd T node = 2))), rf_M μ m S F, 0, 0) := rm_fits (out := ((outs Q).getD i (false, [], false)).1) (a11 i hil) hR hT hn
          rw [rf_cv, hf, pg_b0]
          simp only [bI_0]
          cases hc : ffits ((outs Q).getD i (false, [], false)) (tr.map (nm T) ++ [nm T node]) (decide (kd T node = 2)) with
          | true => rw [hc, bI_t] at ih'; rw [if_neg (by decide)]; exact ih'
          | false => rw [hc, bI_f] at ih'; rw [if_pos rfl]; exact ih'
  have inL : ∀ n i, i ≤ (ins Q).length → (ins Q).length < i + n → fX11_isAnswer_8 n m (nI q) (nI node) (bI (((ins Q).take i).any (fun P => ffits P (tr.map (nm T) ++ [nm T node]) (decide (kd T node = 2))))) 0 (nI i) (rf_M μ m S F) = some (bI (qtakes Q (tr.map (nm T) ++ [nm T node]) (decide (kd T node = 2))), rf_M μ m S F, 0, 0) := by
    intro n
    induction n with
    | zero => intro i q1 q2; omega
    | succ n ih =>
      intro i q1 q2
      unfold fX11_isAnswer_8
      simp only [rf_r17, pg_o1, rf_a17 hq, a6, nI_leI (show (ins Q).length < 2 ^ 31 by omega) (show i < 2 ^ 31 by omega), bI_0, fX11_isAnswer_43, fX11_isAnswer_38, nI_1, show (8 : Int32) = nI 8 from rfl, pk_mul, nI_add]
      by_cases hi : i = (ins Q).length
      · subst hi
        rw [if_pos (Nat.le_refl _), List.take_length]
        have := outL ((ins Q).any (fun P => ffits P (tr.map (nm T) ++ [nm T node]) (decide (kd T node = 2)))) vg_fuel 0 (Nat.zero_le _) (by rw [ps_fuel]; omega)
        exact this
      · have hil : i < (ins Q).length := by omega
        rw [if_neg (by omega)]
        have ih' := ih (i + 1) (by omega) (by omega)
        rw [any_take _ _ (false, [], false) hil] at ih'
        cases hb : ((ins Q).take i).any (fun P => ffits P (tr.map (nm T) ++ [nm T node]) (decide (kd T node = 2))) with
        | true => rw [if_neg (by decide)]; rw [hb, Bool.true_or, bI_t] at ih'; exact ih'
        | false =>
          rw [if_pos rfl]
          rw [hb, Bool.false_or] at ih'
          have hf : fX11_fits m (nI (8 * q + i)) (nI node) (rf_M μ m S F) = some (bI (ffits ((ins Q).getD i (false, [], false)) (tr.map (nm T) ++ [nm T node]) (decide (kd T node = 2))), rf_M μ m S F, 0, 0) := rm_fits (out := ((ins Q).getD i (false, [], false)).1) (a10 i hil) hR hT hn
          rw [rf_cv, hf, pg_b0]
          simp only [bI_0]
          cases hc : ffits ((ins Q).getD i (false, [], false)) (tr.map (nm T) ++ [nm T node]) (decide (kd T node = 2)) with
          | true => rw [hc, bI_t] at ih'; rw [if_neg (by decide)]; exact ih'
          | false => rw [hc, bI_f] at ih'; rw [if_pos rfl]; exact ih'
  exact inL vg_fuel 0 (Nat.zero_le _) (by rw [ps_fuel]; omega)
theorem rm_isLooked (hQ : RQ1 q Q F) (hq : q < 6) (hR : RTr T F) (hT : RTl tr S F) : fX11_isLooked m (nI q) (rf_M μ m S F) = some (bI (decide (tr = []) || qgoes Q (tr.map (nm T))), rf_M μ m S F, 0, 0) := by
  obtain ⟨a1, a2, a3, a4, a5, a6, a7, a8, a9, a10, a11⟩ := hQ
  have L : ∀ b0 : Bool, ∀ n i, i ≤ (ins Q).length → (ins Q).length < i + n → fX11_isLooked_15 n m (nI q) (bI (b0 || ((ins Q).take i).any (fun P => pgoes P (tr.map (nm T))))) (nI i) (rf_M μ m S F) = some (bI (b0 || qgoes Q (tr.map (nm T))), rf_M μ m S F, 0, 0) := by
    intro b0 n
    induction n with
    | zero => intro i q1 q2; omega
    | succ n ih =>
      intro i q1 q2
      unfold fX11_isLooked_15
      simp only [rf_r17, pg_o1, rf_a17 hq, a6, nI_leI (show (ins Q).length < 2 ^ 31 by omega) (show i < 2 ^ 31 by omega), bI_0, bI_z, vg_ret, fX11_isLooked_58, fX11_isLooked_63, nI_1, show (8 : Int32) = nI 8 from rfl, pk_mul, nI_add]
      by_cases hi : i = (ins Q).length
      · subst hi
        rw [if_pos (Nat.le_refl _), List.take_length]; rfl
      · have hil : i < (ins Q).length := by omega
        rw [if_neg (by omega)]
        have ih' := ih (i + 1) (by omega) (by omega)
        rw [any_take _ _ (false, [], false) hil, ← Bool.or_assoc] at ih'
        generalize (b0 || ((ins Q).take i).any (fun P => pgoes P (tr.map (nm T)))) = b at ih' ⊢
        cases b with
        | true => rw [if_neg (by decide)]; rw [Bool.true_or, bI_t] at ih'; exact ih'
        | false =>
          rw [if_pos rfl]
          rw [Bool.false_or] at ih'
          obtain ⟨z, z1, z2⟩ := rm_bitsOf (μ := μ) (m := m) none (a10 i hil) hR hT (fun k e => by cases e)
          have z1' : fX11_bitsOf m (nI (8 * q + i)) (-1) (rf_M μ m S F) = some (z, rf_M μ m S F, 0, 0) := z1
          have hp6 := (a10 i hil).2.1.2.1
          have z2 : bs z (pbits ((ins Q).getD i (false, [], false)).2.1 (tr.map (nm T) ++ [])) := z2
          simp only [rf_cv, z1', pg_b0, rm_pieces (a10 i hil), bs_m1 z2 (show ((ins Q).getD i (false, [], false)).2.1.length < 16 by omega)]
          have e : pgoes ((ins Q).getD i (false, [], false)) (tr.map (nm T)) = true ↔ ¬ ∀ j, j < ((ins Q).getD i (false, [], false)).2.1.length → pbits ((ins Q).getD i (false, [], false)).2.1 (tr.map (nm T) ++ []) j = false := by
            unfold pgoes
            rw [List.any_eq_true, List.append_nil]
            constructor
            · rintro ⟨j, h1, h2⟩ h3
              rw [h3 j (List.mem_range.mp h1)] at h2; cases h2
            · intro h3
              apply Classical.byContradiction
              intro h4
              apply h3
              intro j hj
              apply Bool.eq_false_iff.mpr
              intro h5
              exact h4 ⟨j, List.mem_range.mpr hj, h5⟩
          cases hc : pgoes ((ins Q).getD i (false, [], false)) (tr.map (nm T)) with
          | true => rw [hc, bI_t] at ih'; rw [if_neg (e.mp hc)]; exact ih'
          | false =>
            rw [hc, bI_f] at ih'
            rw [if_pos (Classical.byContradiction fun h => by have := e.mpr h; rw [hc] at this; cases this)]; exact ih'
  unfold fX11_isLooked
  simp only [rf_i30, hT.1, pg_o1, li_eq0 (show tr.length < 2 ^ 31 by have := hT.2.1; omega), fX11_isLooked_12]
  by_cases h0 : tr.length = 0
  · have e := List.eq_nil_of_length_eq_zero h0
    rw [if_pos h0, decide_eq_true e]
    exact L true vg_fuel 0 (Nat.zero_le _) (by rw [ps_fuel]; omega)
  · rw [if_neg h0, decide_eq_false (fun e => h0 (by rw [e]; rfl))]
    exact L false vg_fuel 0 (Nat.zero_le _) (by rw [ps_fuel]; omega)
end
