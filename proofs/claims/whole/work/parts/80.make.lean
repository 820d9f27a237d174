/-! Making and cutting in the class's tree. -/
section
variable {T : sT}
theorem tg_dp (hW : WT T) : ∀ ws k, k ≤ 60 → 0 < kd T k → dp T (tg T ws k).1 = dp T k + (tg T ws k).2 := by
  intro ws
  induction ws with
  | nil => intro k _ _; rfl
  | cons w ws ih =>
    intro k hk hl
    rw [tg_cons]
    cases hc : tcx T k w with
    | none => rfl
    | some c =>
      have h1 := tc_some (tcx_some hc).2
      have h2 := (hW.2.2.2.2.1 c h1.1 h1.2.1).2.2.2.1
      rw [h1.2.2.1] at h2
      show dp T (tg T ws c).1 = _
      rw [ih c (by omega) h1.2.1, h2]
      show _ = dp T k + ((tg T ws c).2 + 1)
      omega
theorem tg_stop : ∀ ws k, (tg T ws k).2 < ws.length → tcx T (tg T ws k).1 (ws.getD (tg T ws k).2 []) = none := by
  intro ws
  induction ws with
  | nil => intro k h; exact absurd h (Nat.not_lt_zero _)
  | cons w ws ih =>
    intro k
    rw [tg_cons]
    cases hc : tcx T k w with
    | none => intro _; exact hc
    | some c =>
      intro h
      exact ih c (by rw [List.length_cons] at h; exact Nat.lt_of_succ_lt_succ h)
end
section
variable {rd : Nat → Nat} {nq a p : Nat} {t : List Nat} {sp : List (Nat × Nat)}
theorem tput_cons {T : sT} {fr : Nat → Nat → Bool} {w : List Nat} {ws : List (List Nat)} {node what k : Nat} (h : tfree T = some k) : tput T fr (w :: ws) node what = tput (tadd T node w (if ws = [] then what else 2) k) (frT (frT fr k) node) ws k what := by rw [tput, h]
theorem cT_makeL (asF : Bool) (num0 lack : Nat) (hsp : ∀ i, i < sp.length → pt_name ((wd t sp).getD i []) = true) : ∀ m n i (g : pg_G) (A : Nat → Nat) (T : sT) (sn : Nat → Nat → Nat) (fr : Nat → Nat → Bool) (node : Nat), m = sp.length - i → i ≤ sp.length → pg_Wf g → pg_C g → WT T → cT g A T sn → cS rd nq T fr sn → cp_P g 0 p t sp → cTo g a (A 60) num0 → node ≤ 60 → 0 < kd T node → (i < sp.length → kd T node = 2 ∧ tc T node ((wd t sp).getD i []) = none) → dp T node + (sp.length - i) ≤ 6 → tnum T 60 0 + (sp.length - i) ≤ 60 → sp.length < i + n →
    pg_T (fX8_make_120 n a (some p) (bI asF) (some (A node)) (nI lack) (nI i) g.1) (6 * m) (240 * m) (fun t => 100 ≤ t ∨ t = 5) g (fun r g' => r = .inl (nI lack) ∧ ∃ A' sn', cT g' A' (tput T fr ((wd t sp).drop i) node (if asF then 2 else 1)).1 sn' ∧ cS rd nq (tput T fr ((wd t sp).drop i) node (if asF then 2 else 1)).1 (tput T fr ((wd t sp).drop i) node (if asF then 2 else 1)).2 sn' ∧ cTo g' a (A' 60) (num0 + lack) ∧ WT (tput T fr ((wd t sp).drop i) node (if asF then 2 else 1)).1 ∧ tnum (tput T fr ((wd t sp).drop i) node (if asF then 2 else 1)).1 60 0 = tnum T 60 0 + m) := by
  intro m
  induction m with
  | zero =>
    intro n i g A T sn fr node hm hi hg hC hW hT hS hP ho hn hl h2 hd hnum hf
    obtain ⟨n, rfl⟩ : ∃ n', n = n' + 1 := ⟨n - 1, by omega⟩
    obtain ⟨s, st, en, f1, f2, h1, -⟩ := id hP
    have hsp6 : sp.length ≤ 6 := by obtain ⟨s, st, en, f1, f2, h1, h2, h3, h4, h5, h6, h7, h8, h9, h10⟩ := hP; exact h9
    rw [fX8_make_120]
    simp only [pg_o1, pg_gI h1 (k := 3) rfl]
    rw [if_pos (nI_le (by omega) (by omega)), pg_gI ho.1 (k := 1) rfl, pg_o1, nI_add]
    have xx := pg_put_ext (W := fun t => t = 5) (e := .inr (11, [.ref (A 60), .int (nI num0)].set 1 (.int (nI (num0 + lack))))) hg ho.1 ho.2 (by simp [pg_kd])
    refine pg_T.p hg ho.1 (by simp) (by rw [ho.2]; decide) (Or.inr ho.2) (pg_T.ret xx.wf ⟨rfl, A, sn, ?_⟩)
    rw [List.drop_of_length_le (by rw [wd_len]; omega)]
    simp only [tput, Nat.add_zero]
    exact ⟨hT.ext hg xx (by decide) (fun t h e => by omega), hS, ⟨pg_put_self _ _ _, ho.2⟩, hW, trivial⟩
  | succ m ih =>
    intro n i g A T sn fr node hm hi hg hC hW hT hS hP ho hn hl h2 hd hnum hf
    obtain ⟨n, rfl⟩ : ∃ n', n = n' + 1 := ⟨n - 1, by omega⟩
    have hlt : i < sp.length := by omega
    obtain ⟨hk2, htc⟩ := h2 hlt
    obtain ⟨k, hfree⟩ := tnum_free (T := T) 60 0 (by omega)
    obtain ⟨-, hk60, hk0, -⟩ := fst1_some _ _ _ hfree
    have hk0 : kd T k = 0 := by rw [decide_eq_true_eq] at hk0; exact hk0
    have hne : node ≠ k := fun e => by rw [e, hk0] at hk2; cases hk2
    have hname := hsp i hlt
    have hsp6 : sp.length ≤ 6 := by obtain ⟨s, st, en, f1, f2, h1, h2, h3, h4, h5, h6, h7, h8, h9, h10⟩ := hP; exact h9
    have hrest : (wd t sp).drop i = (wd t sp).getD i [] :: (wd t sp).drop (i + 1) := getD_wd (by rw [wd_len]; exact hlt)
    rw [hrest, tput_cons (T := T) (k := k) hfree]
    obtain ⟨s, st, en, f1, f2, h1, -⟩ := id hP
    rw [fX8_make_120]
    simp only [pg_o1, pg_gI h1 (k := 3) rfl]
    rw [if_neg (nI_ge hlt (by omega))]
    refine pg_T.nO (t := 100 + 3 * g.1.2.1) hg (by omega) (by omega) ?_
    have x1 := pg_new_ext (W := fun _ => False) (t := 100 + 3 * g.1.2.1) (e := .inr (4, [.null, .null, .int 0, .null, .null, .int 0])) hg
    have q1 := pg_new_self g (100 + 3 * g.1.2.1) (.inr (4, [.null, .null, .int 0, .null, .null, .int 0]))
    have u1 := pg_new_tag g (100 + 3 * g.1.2.1) (.inr (4, [.null, .null, .int 0, .null, .null, .int 0]))
    have hP1 := hP.ext hg x1 (fun h => h) (fun h => h)
    have hC1 := hC.ext hg x1 (fun h => h)
    generalize pg_new g (100 + 3 * g.1.2.1) (.inr (4, [.null, .null, .int 0, .null, .null, .int 0])) = g1 at *
    obtain ⟨s1, st1, en1, f11, f21, h11, -⟩ := id hP1
    rw [pg_cv h11]
    refine pg_T.b (cp_name x1.wf hC1 hP1 (show i < 100 by omega)) (fun _ h => h.elim) (by omega) (by omega) (fun r g2 x2 hp => ?_)
    obtain ⟨b, rfl, hb⟩ := hp
    have w2 := x2.wf
    have q2 := x2.at x1.wf q1 (fun h => h)
    have u2 : g2.2 g.1.2.1 = 100 + 3 * g.1.2.1 := by rw [x2.tag x1.wf q1]; exact u1
    have hP2 := hP1.ext x1.wf x2 (fun h => h) (fun h => h)
    have hC2 := hC1.ext x1.wf x2 (fun h => h)
    have x12 := x1.trans x2
    obtain ⟨s2, st2, en2, f12, f22, h12, -⟩ := id hP2
    have fin : ∀ isF : Bool, isF = (asF || decide (i + 1 < sp.length)) → pg_T (fX8_make_160 (fX8_make_120 n) a (some p) (bI asF) (some (A node)) (nI lack) (nI i) (some g.1.2.1) (some g.1.2.1) (some b) (some (A node)) (bI isF) g2.1) (6 * (m + 1) - 1 - 2) (240 * (m + 1) - 6 - 12) (fun t => 100 ≤ t ∨ t = 5) g2 (fun r g' => r = .inl (nI lack) ∧ ∃ A' sn', cT g' A' (tput (tadd T node ((wd t sp).getD i []) (if (wd t sp).drop (i + 1) = [] then (if asF then 2 else 1) else 2) k) (frT (frT fr k) node) ((wd t sp).drop (i + 1)) k (if asF then 2 else 1)).1 sn' ∧ cS rd nq (tput (tadd T node ((wd t sp).getD i []) (if (wd t sp).drop (i + 1) = [] then (if asF then 2 else 1) else 2) k) (frT (frT fr k) node) ((wd t sp).drop (i + 1)) k (if asF then 2 else 1)).1 (tput (tadd T node ((wd t sp).getD i []) (if (wd t sp).drop (i + 1) = [] then (if asF then 2 else 1) else 2) k) (frT (frT fr k) node) ((wd t sp).drop (i + 1)) k (if asF then 2 else 1)).2 sn' ∧ cTo g' a (A' 60) (num0 + lack) ∧ WT (tput (tadd T node ((wd t sp).getD i []) (if (wd t sp).drop (i + 1) = [] then (if asF then 2 else 1) else 2) k) (frT (frT fr k) node) ((wd t sp).drop (i + 1)) k (if asF then 2 else 1)).1 ∧ tnum (tput (tadd T node ((wd t sp).getD i []) (if (wd t sp).drop (i + 1) = [] then (if asF then 2 else 1) else 2) k) (frT (frT fr k) node) ((wd t sp).drop (i + 1)) k (if asF then 2 else 1)).1 60 0 = tnum T 60 0 + (m + 1)) := by
      intro isF hisF
      have hwhat : (if (wd t sp).drop (i + 1) = [] then (if asF then 2 else 1) else 2) = if isF then 2 else 1 := by
        by_cases hl1 : i + 1 < sp.length
        · rw [if_neg (fun e => by have := congrArg List.length e; rw [List.length_drop, wd_len, List.length_nil] at this; omega), hisF, decide_eq_true hl1, Bool.or_true]; rfl
        · rw [if_pos (List.drop_of_length_le (by rw [wd_len]; omega)), hisF, decide_eq_false hl1, Bool.or_false]
      rw [hwhat]
      rw [fX8_make_160, pg_o1]
      refine pg_T.b (cn_init (pr := some (A node)) (isF := isF) w2 q2 u2 hb) (fun t h => Or.inl (by omega)) (by omega) (by omega) (fun r g3 x3 hQ3 => ?_)
      have w3 := x3.wf
      have hAlt : A node < g.1.2.1 := pg_nw_lt (W := fun _ => True) hg hT hn hl
      have hT2 := hT.ext hg x12 (fun h => h) (fun _ _ h => h)
      have lt2 : ∀ j, j ≤ 60 → 0 < kd T j → A j < g.1.2.1 := fun j hj hjl => pg_nw_lt (W := fun _ => True) hg hT hj hjl
      have hT3 : cT g3 A T sn := ⟨fun j hj hjl => (hT2.1 j hj hjl).ext w2 x3 (by omega) (fun i' hi' hWt => by have := lt2 j hj hjl; omega), hT2.2⟩
      have hC3 := hC2.ext w2 x3 (by omega)
      have hN3 := hT3.1 node hn hl
      obtain ⟨_, _, _, o3, -⟩ := id hN3
      rw [pg_o1, pg_cv o3.1]
      have hlen := hW.len hn hl
      refine pg_T.b (cn_insert w3 hC3 hN3 (cT_nm hW hT3 hn hl) hQ3.nm (by rw [List.length_map]; omega)) (fun t h => Or.inl (by omega)) (by omega) (by omega) (fun r g4 x4 hN4 => ?_)
      have w4 := x4.wf
      have hQ4 := hQ3.ext w3 x4 (by omega) (fun i' hi' hWt => by omega)
      have x14 : pg_Ext (fun t => t = 100 + 3 * g.1.2.1 ∨ t = 101 + 3 * g.1.2.1 ∨ t = 101 + 3 * A node ∨ t = 102 + 3 * A node) g g4 := ((x12.mono (fun _ h => h.elim)).trans (x3.mono (fun t h => by omega))).trans (x4.mono (fun t h => by omega))
      rw [decide_eq_true hk2] at hN4
      have hT4 := cT.add hW hT (k := k) (q := g.1.2.1) (what := if isF then 2 else 1) (isF := isF) hn hk2 (by omega) hk0 rfl hg (Nat.le_refl _) x14 (by omega) (fun t h1 h2 => by omega) hN4 hQ4
      have hwh : (if isF then 2 else 1) = 1 ∨ (if isF then 2 else 1) = 2 := by cases isF <;> decide
      have hW4 := hW.add (k := k) (what := if isF then 2 else 1) hn hk2 (by omega) hname htc (by omega) hk0 hwh
      have hS4 := hS.add (k := k) (what := if isF then 2 else 1) (w := (wd t sp).getD i []) hne hl
      have kk := tadd_k (T := T) (node := node) (w := (wd t sp).getD i []) (what := if isF then 2 else 1) (k := k) hne
      have kk1 : kd (tadd T node ((wd t sp).getD i []) (if isF then 2 else 1) k) k = if isF then 2 else 1 := by unfold kd; rw [kk]
      have kk6 : dp (tadd T node ((wd t sp).getD i []) (if isF then 2 else 1) k) k = dp T node + 1 := by show (tadd T node _ _ k k).2.2.2.2.2 = _; rw [kk]
      have hnum4 : tnum (tadd T node ((wd t sp).getD i []) (if isF then 2 else 1) k) 60 0 = tnum T 60 0 + 1 := tnum_up hk0 (by rw [kk1]; omega) 60 0 (Nat.zero_le _) (by omega) (fun j _ _ hj => tadd_kd hj)
      have := ih n (i + 1) g4 (va_up A k g.1.2.1) (tadd T node ((wd t sp).getD i []) (if isF then 2 else 1) k) _ (frT (frT fr k) node) k (by omega) (by omega) w4 (hC3.ext w3 x4 (by omega)) hW4 hT4 hS4 ((hP2.ext w2 x3 (by omega) (by omega)).ext w3 x4 (by omega) (by omega)) (by rw [va_up_ne _ _ (by omega)]; exact ho.ext hg x14 (by omega)) (by omega) (by rw [kk1]; omega) (fun hl1 => ⟨by rw [kk1, hisF, decide_eq_true hl1, Bool.or_true]; rfl, ?_⟩) (by rw [kk6]; omega) (by rw [hnum4]; omega) (by omega)
      · rw [va_up_self] at this
        rw [nI_1]
        refine this.mono (by omega) (by omega) (fun _ h => h) (fun r g' _ hp => ?_)
        obtain ⟨e1, A', sn', e2, e3, e4, e5, e6⟩ := hp
        exact ⟨e1, A', sn', e2, e3, e4, e5, by rw [e6, hnum4]; omega⟩
      · cases htc2 : tc (tadd T node ((wd t sp).getD i []) (if isF then 2 else 1) k) k ((wd t sp).getD (i + 1) []) with
        | none => rfl
        | some c =>
          obtain ⟨c1, c2, c3, c4⟩ := tc_some htc2
          have := (hW4.mem (j := k) (by omega) (by rw [kk1]; omega)).mpr ⟨c1, c2, c3⟩
          have e : ch (tadd T node ((wd t sp).getD i []) (if isF then 2 else 1) k) k = [] := by unfold ch; rw [kk]
          rw [e] at this; cases this
    cases asF with
    | false =>
      rw [bI_f, if_pos rfl, pg_gI h12 (k := 3) rfl, pg_o1, li_sub1 (by omega)]
      by_cases hlast : sp.length - 1 ≤ i
      · rw [if_pos (nI_le hlast (by omega))]
        exact fin false (by rw [decide_eq_false (by omega)]; rfl)
      · rw [if_neg (nI_ge (by omega) (by omega)), fX8_make_155]
        exact fin true (by rw [decide_eq_true (by omega)]; rfl)
    | true =>
      rw [bI_t, if_neg (by decide), fX8_make_155]
      exact fin true rfl
end
