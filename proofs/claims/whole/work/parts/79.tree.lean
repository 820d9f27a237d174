/-! The class's tree: each slot's node at its address. -/
def cT (g : pg_G) (A : Nat → Nat) (T : sT) (sn : Nat → Nat → Nat) : Prop := (∀ k, k ≤ 60 → 0 < kd T k → cn_N g (A k) (nm T k) (if k = 60 then none else some (A (pa T k))) (decide (kd T k = 2)) ((ch T k).map A) (pk T k) (sn k)) ∧ (∀ k k', k ≤ 60 → k' ≤ 60 → 0 < kd T k → 0 < kd T k' → A k = A k' → k = k') ∧ ∀ k, k ≤ 60 → kd T k ≤ 2
def cTo (g : pg_G) (a r n : Nat) : Prop := g.1.1 a = some (.inr (11, [.ref r, .int (nI n)])) ∧ g.2 a = 5
theorem cT.ext {W : Nat → Prop} {g g' : pg_G} {A : Nat → Nat} {T : sT} {sn : Nat → Nat → Nat} (h : cT g A T sn) (hg : pg_Wf g) (he : pg_Ext W g g') (h0 : ¬ W 0) (hw : ∀ t, 100 ≤ t → ¬ W t) : cT g' A T sn := ⟨fun k hk hl => (h.1 k hk hl).ext hg he h0 (fun i _ => hw _ (by omega)), h.2⟩
theorem cTo.ext {W : Nat → Prop} {g g' : pg_G} {a r n : Nat} (h : cTo g a r n) (hg : pg_Wf g) (he : pg_Ext W g g') (hw : ¬ W 5) : cTo g' a r n := ⟨he.at hg h.1 (by rw [h.2]; exact hw), by rw [he.tag hg h.1, h.2]⟩
def cW (A : Nat → Nat) (T : sT) (x : Nat) : List Nat := nm T (((List.range 61).find? (fun c => decide (0 < kd T c) && decide (A c = x))).getD 0)
def tcx (T : sT) (k : Nat) (w : List Nat) : Option Nat := if kd T k = 2 then tc T k w else none
def atf (T : sT) : List (List Nat) → Option Nat → Option Nat
  | [], x => x
  | w :: ws, x => atf T ws (x.bind (fun k => tcx T k w))
section
variable {g : pg_G} {A : Nat → Nat} {T : sT} {sn : Nat → Nat → Nat}
theorem cW_A (h : cT g A T sn) {c : Nat} (hc : c ≤ 60) (hl : 0 < kd T c) : cW A T (A c) = nm T c := by
  unfold cW
  cases hf : (List.range 61).find? (fun c' => decide (0 < kd T c') && decide (A c' = A c)) with
  | none =>
    have := List.find?_eq_none.mp hf c (List.mem_range.mpr (by omega))
    rw [decide_eq_true hl, decide_eq_true rfl] at this
    exact absurd rfl this
  | some d =>
    have h1 := List.find?_some hf
    have h2 := List.mem_range.mp (List.mem_of_find?_eq_some hf)
    rw [Bool.and_eq_true, decide_eq_true_eq, decide_eq_true_eq] at h1
    rw [Option.getD_some, h.2.1 d c (by omega) hc h1.1 hl h1.2]
theorem cT_nm (hW : WT T) (h : cT g A T sn) {k : Nat} (hk : k ≤ 60) (hl : 0 < kd T k) : ∀ x ∈ (ch T k).map A, cn_nm g x (cW A T x) := by
  intro x hx
  obtain ⟨c, hc, rfl⟩ := List.mem_map.mp hx
  obtain ⟨c1, c2, c3⟩ := (hW.mem hk hl).mp hc
  rw [cW_A h (by omega) c2]
  exact (h.1 c (by omega) c2).nm
theorem cT_find (hW : WT T) (h : cT g A T sn) {k : Nat} (hk : k ≤ 60) (hl : 0 < kd T k) (w : List Nat) : ((ch T k).map A).find? (fun x => decide (cW A T x = w)) = (tcx T k w).map A := by
  rw [List.find?_map]
  congr 1
  have hcw : ∀ c ∈ ch T k, cW A T (A c) = nm T c := fun c hc => by
    obtain ⟨c1, c2, c3⟩ := (hW.mem hk hl).mp hc
    exact cW_A h (by omega) c2
  unfold tcx
  by_cases h2 : kd T k = 2
  · rw [if_pos h2]
    cases htc : tc T k w with
    | none =>
      rw [List.find?_eq_none]
      intro c hc hx
      obtain ⟨c1, c2, c3⟩ := (hW.mem hk hl).mp hc
      have hx : decide (cW A T (A c) = w) = true := hx
      rw [hcw c hc, decide_eq_true_eq] at hx
      exact tc_none htc c1 c2 c3 hx
    | some d =>
      obtain ⟨d1, d2, d3, d4⟩ := tc_some htc
      cases hf : (ch T k).find? ((fun x => decide (cW A T x = w)) ∘ A) with
      | none =>
        have := List.find?_eq_none.mp hf d ((hW.mem hk hl).mpr ⟨d1, d2, d3⟩)
        have hd : (decide (cW A T (A d) = w)) = true := by rw [hcw d ((hW.mem hk hl).mpr ⟨d1, d2, d3⟩), d4]; exact decide_eq_true rfl
        exact absurd hd this
      | some e =>
        have e1 := List.find?_some hf
        have e2 := List.mem_of_find?_eq_some hf
        have e1 : decide (cW A T (A e) = w) = true := e1
        rw [hcw e e2, decide_eq_true_eq] at e1
        obtain ⟨c1, c2, c3⟩ := (hW.mem hk hl).mp e2
        rw [hW.2.2.2.2.2.1 e d c1 d1 c2 d2 (c3.trans d3.symm) (e1.trans d4.symm)]
  · rw [if_neg h2, hW.file hk hl h2]; rfl
theorem cT_child (hW : WT T) (h : cT g A T sn) {k b : Nat} {w : List Nat} (hk : k ≤ 60) (hl : 0 < kd T k) (hs : ps_S g b w) : fX1_child (A k) (some b) g.1 = some ((tcx T k w).map A, g.1, 0, 0) := by
  rw [cn_child (h.1 k hk hl) (cT_nm hW h hk hl) hs, cT_find hW h hk hl]
theorem tcx_some {k c : Nat} {w : List Nat} (h : tcx T k w = some c) : kd T k = 2 ∧ tc T k w = some c := by
  unfold tcx at h
  by_cases h2 : kd T k = 2
  · rw [if_pos h2] at h; exact ⟨h2, h⟩
  · rw [if_neg h2] at h; cases h
theorem atf_none : ∀ ws, atf T ws none = none := by
  intro ws
  induction ws with
  | nil => rfl
  | cons w ws ih => exact ih
theorem tg_cons {w : List Nat} {ws : List (List Nat)} {k : Nat} : tg T (w :: ws) k = match tcx T k w with
    | none => (k, 0)
    | some c => ((tg T ws c).1, (tg T ws c).2 + 1) := by
  rw [tg]
  unfold tcx
  by_cases h2 : kd T k = 2
  · rw [if_pos h2, if_pos h2]; cases tc T k w <;> rfl
  · rw [if_neg h2, if_neg h2]
theorem atf_tg : ∀ ws k, atf T ws (some k) = if (tg T ws k).2 = ws.length then some (tg T ws k).1 else none := by
  intro ws
  induction ws with
  | nil => intro k; rfl
  | cons w ws ih =>
    intro k
    show atf T ws (tcx T k w) = _
    rw [tg_cons]
    cases hc : tcx T k w with
    | none => rw [atf_none, if_neg (by rw [List.length_cons]; exact fun h => by cases h)]
    | some c =>
      rw [ih c, List.length_cons]
      by_cases he : (tg T ws c).2 = ws.length
      · rw [if_pos he]; simp only [he, if_true]
      · rw [if_neg he, if_neg (fun h => he (Nat.succ.inj h))]
theorem getD_wd {ws : List (List Nat)} {i : Nat} (h : i < ws.length) : ws.drop i = ws.getD i [] :: ws.drop (i + 1) := by
  rw [List.drop_eq_getElem_cons h, List.getD_eq_getElem?_getD, List.getElem?_eq_getElem h]; rfl
theorem cT_atL {t : List Nat} {sp : List (Nat × Nat)} {p : Nat} (hW : WT T) : ∀ n i (g : pg_G) x, pg_Wf g → pg_C g → cT g A T sn → cp_P g 0 p t sp → (∀ k, x = some k → k ≤ 60 ∧ 0 < kd T k) → i ≤ sp.length → sp.length < i + n → pg_T (fX8_at_7 n (some p) (x.map A) (nI i) g.1) (2 * (6 - i)) (12 * (6 - i)) (fun _ => False) g (fun r _ => r = (atf T ((wd t sp).drop i) x).map A) := by
  intro n
  induction n with
  | zero => intro i g x _ _ _ _ _ hi hn; omega
  | succ n ih =>
    intro i g x hg hC hT hP hx hi hn
    obtain ⟨s, st, en, f1, f2, h1, h2, h3, h4, h5, h6, h7, h8, h9, h10⟩ := id hP
    rw [fX8_at_7]
    simp only [pg_o1, pg_gI h1 (k := 3) rfl, fX8_at_35]
    by_cases hie : i = sp.length
    · rw [if_pos (nI_le (by omega) (by omega))]
      refine pg_T.ret hg ?_
      rw [hie, List.drop_of_length_le (by rw [wd_len]; exact Nat.le_refl _)]; rfl
    · have hlt : i < sp.length := by omega
      rw [if_neg (nI_ge hlt (by omega))]
      cases x with
      | none =>
        refine pg_T.ret hg ?_
        rw [atf_none]; rfl
      | some k =>
        obtain ⟨k1, k2⟩ := hx k rfl
        show pg_T (vg_cv 6 p g.1 (fX3_name p (nI i) g.1) _) _ _ _ _ _
        rw [pg_cv h1]
        refine pg_T.b (cp_name hg hC hP (by omega)) (fun _ h => h) (by omega) (by omega) (fun r g1 hx1 hp => ?_)
        obtain ⟨q, rfl, hq⟩ := hp
        have hT1 := hT.ext hg hx1 (fun h => h) (fun _ _ h => h)
        obtain ⟨_, _, _, o1, -⟩ := hT1.1 k k1 k2
        rw [pg_cv o1.1, cT_child hW hT1 k1 k2 hq, pg_b0, nI_1]
        have := ih (i + 1) g1 (tcx T k ((wd t sp).getD i [])) hx1.wf (hC.ext hg hx1 (fun h => h)) hT1 (hP.ext hg hx1 (fun h => h) (fun h => h)) (fun c hc => by have := tc_some (tcx_some hc).2; exact ⟨by omega, this.2.1⟩) (by omega) (by omega)
        refine this.mono (by omega) (by omega) (fun _ h => h) (fun r _ _ h => ?_)
        rw [h, getD_wd (i := i) (by rw [wd_len]; exact hlt)]; rfl
theorem cT_at {t : List Nat} {sp : List (Nat × Nat)} {p a m : Nat} (hW : WT T) (hg : pg_Wf g) (hC : pg_C g) (hT : cT g A T sn) (ho : cTo g a (A 60) m) (hP : cp_P g 0 p t sp) : pg_T (fX8_at a (some p) g.1) 12 72 (fun _ => False) g (fun r _ => r = (if (tg T (wd t sp) 60).2 = sp.length then some (A (tg T (wd t sp) 60).1) else none)) := by
  have hsp : sp.length ≤ 6 := by obtain ⟨s, st, en, f1, f2, h1, h2, h3, h4, h5, h6, h7, h8, h9, h10⟩ := hP; exact h9
  rw [fX8_at, pg_gR ho.1 (k := 0) rfl, pg_o1]
  have := cT_atL (p := p) (t := t) (sp := sp) (A := A) (sn := sn) hW vg_fuel 0 g (some 60) hg hC hT hP (fun k hk => by cases hk; exact ⟨Nat.le_refl _, by rw [hW.1]; decide⟩) (Nat.zero_le _) (by rw [ps_fuel]; omega)
  rw [nI_0, List.drop_zero, atf_tg, wd_len] at this
  refine this.mono (by decide) (by decide) (fun _ h => h) (fun r _ _ h => ?_)
  rw [h]
  by_cases he : (tg T (wd t sp) 60).2 = sp.length
  · rw [if_pos he, if_pos he]; rfl
  · rw [if_neg he, if_neg he]; rfl
-- sizes
theorem cT_sizeL (hW : WT T) (hT : cT g A T sn) {rc : Option Nat → Int32 → vg_M → vg_R Int32} {k d : Nat} (hk : k ≤ 60) (hl : 0 < kd T k) (hd : d ≤ 6) (hrc : d < 6 → ∀ c, c < 60 → 0 < kd T c → rc (some (A c)) (nI (d + 1)) g.1 = some (nI (1 + (visG T (fun _ => true) (6 - (d + 1)) (ch T c)).length), g.1, 0, 0)) : ∀ n i acc, i ≤ (ch T k).length → (ch T k).length < i + n → fX8_size_4 rc n (some (A k)) (nI d) (nI acc) (nI i) g.1 = some (nI (acc + (visG T (fun _ => true) (6 - d) ((ch T k).drop i)).length), g.1, 0, 0) := by
  obtain ⟨s, c, e, o1, o2, o3, o4⟩ := hT.1 k hk hl
  obtain ⟨fl, hlo⟩ := pl_is o3
  have hlen := hW.len hk hl
  have hlm : ((ch T k).map A).length = (ch T k).length := List.length_map ..
  intro n
  induction n with
  | zero => intro i acc hi hn; omega
  | succ n ih =>
    intro i acc hi hn
    rw [fX8_size_4]
    simp only [pg_o1, pg_gR o1.1 (k := 3) rfl, pg_cv hlo, pl_size o3, pg_b0, fX8_size_47, vu_ret, hlm]
    by_cases hie : i = (ch T k).length
    · rw [if_pos (nI_le (by omega) (by omega)), hie, List.drop_length, vis_nil]; rfl
    · have hlt : i < (ch T k).length := by omega
      rw [if_neg (nI_ge hlt (by omega))]
      by_cases h6 : d = 6
      · rw [if_pos (show (6 : Int32) ≤ nI d by rw [h6]; decide), h6]; rfl
      · rw [if_neg (show ¬ (6 : Int32) ≤ nI d from nI_ge (b := 6) (by omega) (by decide)), pl_get o3 (by rw [hlm]; exact hlt), pg_b0]
        have hcm : (ch T k).getD i 0 ∈ ch T k := by rw [ls_get hlt]; exact List.getElem_mem hlt
        obtain ⟨c1, c2, c3⟩ := (hW.mem hk hl).mp hcm
        have hge : ((ch T k).map A).getD i 0 = A ((ch T k).getD i 0) := by
          rw [List.getD_eq_getElem?_getD, List.getElem?_map, List.getElem?_eq_getElem hlt, ls_get hlt]; rfl
        obtain ⟨fsx, hxo⟩ := (hT.1 _ (Nat.le_of_lt c1) c2).is
        rw [hge, pg_ckO hxo, nI_1, hrc (by omega) _ c1 c2, pg_b0, nI_add, nI_1, ih (i + 1) _ (by omega) (by omega)]
        have e1 : (ch T k).drop i = (ch T k).getD i 0 :: (ch T k).drop (i + 1) := by rw [List.drop_eq_getElem_cons hlt, ls_get hlt]
        rw [e1, show 6 - d = (6 - (d + 1)) + 1 by omega, vis_cons, if_pos rfl, List.length_append, List.length_cons]
        congr 3
        omega
theorem cT_size (hW : WT T) (hT : cT g A T sn) : ∀ n d k, k ≤ 60 → 0 < kd T k → d ≤ 6 → 6 < d + n → gX8_size n (some (A k)) (nI d) g.1 = some (nI (1 + (visG T (fun _ => true) (6 - d) (ch T k)).length), g.1, 0, 0) := by
  intro n
  induction n with
  | zero => intro d k _ _ hd hn; omega
  | succ n ih =>
    intro d k hk hl hd hn
    rw [gX8_size, fX8_size]
    have hlen := hW.len hk hl
    have := cT_sizeL hW hT (rc := gX8_size n) hk hl hd (fun h c hc hcl => ih (d + 1) c (by omega) hcl (by omega) (by omega)) vg_fuel 0 1 (Nat.zero_le _) (by rw [ps_fuel]; omega)
    rw [List.drop_zero, nI_0] at this
    exact this
-- from one tree to the next
theorem pg_nw_lt {W : Nat → Prop} (hg : pg_Wf g) (h : cT g A T sn) {k : Nat} (hk : k ≤ 60) (hl : 0 < kd T k) : A k < g.1.2.1 := by
  obtain ⟨fs, h1⟩ := (h.1 k hk hl).is
  exact hg.lt h1
end
def cS (rd : Nat → Nat) (nq : Nat) (T : sT) (fr : Nat → Nat → Bool) (sn : Nat → Nat → Nat) : Prop := (∀ q, q < nq → 1 ≤ rd q) ∧ ∀ k, k ≤ 60 → 0 < kd T k → (∀ q, q < nq → fr q k = decide (sn k q ≠ rd q) ∧ sn k q ≤ rd q) ∧ ∀ q, nq ≤ q → sn k q = 0
section
variable {g : pg_G} {A : Nat → Nat} {T : sT} {sn : Nat → Nat → Nat} {fr : Nat → Nat → Bool} {rd : Nat → Nat} {nq : Nat}
theorem cS.touch {node : Nat} (h : cS rd nq T fr sn) : cS rd nq T (frT fr node) (va_up sn node (fun _ => 0)) := by
  refine ⟨h.1, fun k hk hl => ?_⟩
  obtain ⟨h1, h2⟩ := h.2 k hk hl
  by_cases hkn : k = node
  · subst hkn
    rw [va_up_self]
    refine ⟨fun q hq => ⟨?_, Nat.zero_le _⟩, fun _ _ => rfl⟩
    unfold frT
    have := h.1 q hq
    rw [decide_eq_true rfl, Bool.true_or, decide_eq_true (by omega)]
  · rw [va_up_ne _ _ hkn]
    refine ⟨fun q hq => ?_, h2⟩
    unfold frT
    rw [decide_eq_false hkn, Bool.false_or]
    exact h1 q hq
theorem cT.cut (hW : WT T) (h : cT g A T sn) {node : Nat} (hn : node < 60) (hl0 : 0 < kd T node) {g' : pg_G} {W : Nat → Prop} (hg : pg_Wf g) (hx : pg_Ext W g g') (h0 : ¬ W 0) (hw : ∀ t, 100 ≤ t → W t → t = 101 + 3 * A (pa T node) ∨ t = 102 + 3 * A (pa T node)) (hN : cn_N g' (A (pa T node)) (nm T (pa T node)) (if pa T node = 60 then none else some (A (pa T (pa T node)))) true (((ch T (pa T node)).map A).erase (A node)) (pk T (pa T node)) (fun _ => 0)) : cT g' A (trem T node) (va_up sn (pa T node) (fun _ => 0)) := by
  have tk := trem_kd hW hn hl0
  have hpn : pa T node ≤ 60 := (hW.2.2.2.2.1 node hn hl0).2.1
  have hp2 := hW.kdn hn hl0
  have hpl : 0 < kd T (pa T node) := by rw [hp2]; decide
  have live : ∀ j, 0 < kd (trem T node) j → kd (trem T node) j = kd T j := by
    intro j hj
    rw [(tk j).1, tkill_kd] at hj ⊢
    by_cases hc : j < 60 ∧ tun T node j = true
    · rw [if_pos hc] at hj; exact absurd hj (by decide)
    · rw [if_neg hc]
  refine ⟨fun k hk hl => ?_, fun k k' hk hk' hl hl' e => ?_, fun k hk => ?_⟩
  · have e := live k hl
    rw [e] at hl
    rw [e, (tk k).2.2.1, (tk k).2.1, (tk k).2.2.2.1, trem_ch hW]
    by_cases hkp : k = pa T node
    · rw [if_pos hkp, hkp, va_up_self, decide_eq_true hp2]
      have : ((ch T (pa T node)).erase node).map A = ((ch T (pa T node)).map A).erase (A node) := by
        have hinj : ∀ x ∈ ch T (pa T node), A x = A node → x = node := fun x hx' he => by
          obtain ⟨c1, c2, c3⟩ := (hW.mem hpn hpl).mp hx'
          exact h.2.1 x node (by omega) (by omega) c2 hl0 he
        generalize ch T (pa T node) = L at hinj
        induction L with
        | nil => rfl
        | cons x L ih =>
          by_cases hxn : x = node
          · rw [hxn, List.erase_cons_head, List.map_cons, List.erase_cons_head]
          · have hA : A x ≠ A node := fun e => hxn (hinj x List.mem_cons_self e)
            rw [List.erase_cons_tail (by simpa using hxn), List.map_cons, List.map_cons, List.erase_cons_tail (by simpa using hA), ih (fun y hy => hinj y (List.mem_cons_of_mem _ hy))]
      rw [this]
      exact hN
    · rw [if_neg hkp, va_up_ne _ _ hkp]
      have hA : A k ≠ A (pa T node) := fun e => hkp (h.2.1 k _ hk hpn hl hpl e)
      exact (h.1 k hk hl).ext hg hx h0 (fun i hi hWt => by have := hw _ (by omega) hWt; omega)
  · rw [live k hl] at hl
    rw [live k' hl'] at hl'
    exact h.2.1 k k' hk hk' hl hl' e
  · rw [(tk k).1, tkill_kd]
    split
    · exact Nat.zero_le _
    · exact h.2.2 k hk
theorem takeW_map {P : Nat → Bool} {Q : Nat → Bool} : ∀ (L : List Nat), (∀ c ∈ L, P (A c) = Q c) → (L.map A).takeWhile P = (L.takeWhile Q).map A ∧ (L.map A).dropWhile P = (L.dropWhile Q).map A := by
  intro L
  induction L with
  | nil => intro _; exact ⟨rfl, rfl⟩
  | cons c L ih =>
    intro h
    have hc := h c List.mem_cons_self
    obtain ⟨i1, i2⟩ := ih (fun x hx => h x (List.mem_cons_of_mem _ hx))
    rw [List.map_cons, List.takeWhile_cons, List.dropWhile_cons, List.takeWhile_cons, List.dropWhile_cons, hc]
    cases Q c with
    | false => exact ⟨rfl, rfl⟩
    | true => exact ⟨by simp only [if_true, List.map_cons, i1], by simp only [if_true, i2]⟩
theorem map_ne {q j : Nat} : ∀ (L : List Nat), j ∉ L → L.map (va_up A j q) = L.map A := by
  intro L h
  exact List.map_congr_left (fun c hc => va_up_ne _ _ (fun e => h (e ▸ hc)))
theorem cT.add (hW : WT T) (h : cT g A T sn) {node k q what : Nat} {w : List Nat} {isF : Bool} (hn : node ≤ 60) (h2 : kd T node = 2) (hk : k < 60) (hk0 : kd T k = 0) (hwh : what = if isF then 2 else 1) {g' : pg_G} {W : Nat → Prop} (hg : pg_Wf g) (hq : g.1.2.1 ≤ q) (hx : pg_Ext W g g') (h0 : ¬ W 0) (hw : ∀ t, 100 ≤ t → W t → t = 101 + 3 * A node ∨ t = 102 + 3 * A node ∨ 100 + 3 * q ≤ t) (hN : cn_N g' (A node) (nm T node) (if node = 60 then none else some (A (pa T node))) true (((ch T node).map A).takeWhile (fun x => nlt (cW A T x) w) ++ q :: ((ch T node).map A).dropWhile (fun x => nlt (cW A T x) w)) (pk T node) (fun _ => 0)) (hQ : cn_N g' q w (some (A node)) isF [] false (fun _ => 0)) : cT g' (va_up A k q) (tadd T node w what k) (va_up (va_up sn k (fun _ => 0)) node (fun _ => 0)) := by
  have hne : node ≠ k := fun e => by rw [e, hk0] at h2; cases h2
  have hnl : 0 < kd T node := by rw [h2]; decide
  have kk := tadd_k (T := T) (node := node) (w := w) (what := what) (k := k) hne
  have kk1 : kd (tadd T node w what k) k = what := by unfold kd; rw [kk]
  have kk2 : pa (tadd T node w what k) k = node := by unfold pa; rw [kk]
  have kk3 : nm (tadd T node w what k) k = w := by unfold nm; rw [kk]
  have kk4 : pk (tadd T node w what k) k = false := by unfold pk; rw [kk]
  have kk5 : ch (tadd T node w what k) k = [] := by unfold ch; rw [kk]
  have nn : ch (tadd T node w what k) node = nins T (ch T node) k w := by unfold ch; rw [tadd_new]; rfl
  have hpk : ∀ j, j < 60 → 0 < kd T j → pa T j ≠ k := fun j hj hl e => by have := hW.kdn hj hl; rw [e, hk0] at this; cases this
  have hck : ∀ j, j ≤ 60 → 0 < kd T j → k ∉ ch T j := fun j hj hl hm => by have := ((hW.mem hj hl).mp hm).2.1; rw [hk0] at this; omega
  have lt : ∀ j, j ≤ 60 → 0 < kd T j → A j < q := fun j hj hl => by
    obtain ⟨fs, h1⟩ := (h.1 j hj hl).is
    have := hg.lt h1; omega
  have hpar : ∀ j, j ≤ 60 → 0 < kd T j → (if j = 60 then none else some (va_up A k q (pa T j))) = (if j = 60 then none else some (A (pa T j))) := by
    intro j hj hl
    by_cases h6 : j = 60
    · rw [if_pos h6, if_pos h6]
    · rw [if_neg h6, if_neg h6, va_up_ne _ _ (hpk j (by omega) hl)]
  refine ⟨fun j hj hl => ?_, fun j j' hj hj' hl hl' e => ?_, fun j hj => ?_⟩
  · by_cases hjk : j = k
    · rw [hjk, va_up_self, kk3, kk2, kk1, kk5, kk4, if_neg (by omega), va_up_ne _ _ hne, va_up_ne _ _ (Ne.symm hne), va_up_self]
      have : decide (what = 2) = isF := by rw [hwh]; cases isF <;> rfl
      rw [this]; exact hQ
    · rw [tadd_kd hjk] at hl
      rw [va_up_ne _ _ hjk, tadd_nm hjk, tadd_pa hjk, tadd_kd hjk, tadd_pk hjk, hpar j hj hl]
      by_cases hjn : j = node
      · rw [hjn, nn, va_up_self, decide_eq_true h2]
        have hcw : ∀ c ∈ ch T node, nlt (cW A T (A c)) w = nlt (nm T c) w := fun c hc => by
          obtain ⟨c1, c2, c3⟩ := (hW.mem hn hnl).mp hc
          rw [cW_A h (by omega) c2]
        obtain ⟨m1, m2⟩ := takeW_map (A := A) (P := fun x => nlt (cW A T x) w) (Q := fun c => nlt (nm T c) w) (ch T node) hcw
        rw [m1, m2] at hN
        have e : (nins T (ch T node) k w).map (va_up A k q) = ((ch T node).takeWhile (fun c => nlt (nm T c) w)).map A ++ q :: ((ch T node).dropWhile (fun c => nlt (nm T c) w)).map A := by
          have hk' := hck node hn hnl
          have e0 := List.takeWhile_append_dropWhile (p := fun c => nlt (nm T c) w) (l := ch T node)
          unfold nins
          rw [List.map_append, List.map_cons, va_up_self, map_ne _ (fun hm => hk' (by rw [← e0]; exact List.mem_append_left _ hm)), map_ne _ (fun hm => hk' (by rw [← e0]; exact List.mem_append_right _ hm))]
        rw [e]; exact hN
      · rw [tadd_ch hjn hjk, map_ne _ (hck j hj hl), va_up_ne _ _ hjn, va_up_ne _ _ hjk]
        have hA : A j ≠ A node := fun e => hjn (h.2.1 j _ hj hn hl hnl e)
        have hlt := lt j hj hl
        exact (h.1 j hj hl).ext hg hx h0 (fun i hi hWt => by have := hw _ (by omega) hWt; omega)
  · by_cases hjk : j = k
    · by_cases hjk' : j' = k
      · rw [hjk, hjk']
      · rw [tadd_kd hjk'] at hl'
        rw [hjk, va_up_self, va_up_ne _ _ hjk'] at e
        have := lt j' hj' hl'; omega
    · rw [tadd_kd hjk] at hl
      by_cases hjk' : j' = k
      · rw [hjk', va_up_self, va_up_ne _ _ hjk] at e
        have := lt j hj hl; omega
      · rw [tadd_kd hjk'] at hl'
        rw [va_up_ne _ _ hjk, va_up_ne _ _ hjk'] at e
        exact h.2.1 j j' hj hj' hl hl' e
  · by_cases hjk : j = k
    · rw [hjk, kk1, hwh]; cases isF <;> decide
    · rw [tadd_kd hjk]; exact h.2.2 j hj
theorem cS.add (h : cS rd nq T fr sn) {node k what : Nat} {w : List Nat} (hne : node ≠ k) (hnl : 0 < kd T node) : cS rd nq (tadd T node w what k) (frT (frT fr k) node) (va_up (va_up sn k (fun _ => 0)) node (fun _ => 0)) := by
  refine ⟨h.1, fun j hj hl => ?_⟩
  by_cases hjn : j = node ∨ j = k
  · have e : va_up (va_up sn k (fun _ => 0)) node (fun _ => 0) j = fun _ => 0 := by
      rcases hjn with e | e
      · rw [e, va_up_self]
      · rw [e, va_up_ne _ _ (Ne.symm hne), va_up_self]
    rw [e]
    refine ⟨fun q hq => ⟨?_, Nat.zero_le _⟩, fun _ _ => rfl⟩
    have := h.1 q hq
    unfold frT
    rw [decide_eq_true (p := 0 ≠ rd q) (by omega)]
    rcases hjn with e | e
    · rw [decide_eq_true e, Bool.true_or]
    · rw [decide_eq_true e, Bool.true_or, Bool.or_true]
  · have hjk : j ≠ k := fun e => hjn (Or.inr e)
    have hjn' : j ≠ node := fun e => hjn (Or.inl e)
    rw [tadd_kd hjk] at hl
    rw [va_up_ne _ _ hjn', va_up_ne _ _ hjk]
    unfold frT
    refine ⟨fun q hq => ?_, (h.2 j hj hl).2⟩
    rw [decide_eq_false hjn', decide_eq_false hjk, Bool.false_or, Bool.false_or]
    exact (h.2 j hj hl).1 q hq
end
