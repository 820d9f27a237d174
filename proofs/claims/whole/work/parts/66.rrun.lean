/-! The reference: a walk as a whole. -/
def wgo (T : sT) (c : Nat) : Bool := decide (kd T c = 2) && !pk T c
def woth (T : sT) (c : Nat) : Bool := decide (kd T c = 2) && pk T c
def wkA (T : sT) (Q : sQ) : Nat → List Nat → List (List Nat) → List (List Nat)
  | 0, _, _ => []
  | d + 1, ks, ns => ks.flatMap (fun c => if woth T c = true then [] else (if qtakes Q (ns ++ [nm T c]) (decide (kd T c = 2)) = true then [pstr (ns ++ [nm T c])] else []) ++ (if kd T c = 2 then wkA T Q d (ch T c) (ns ++ [nm T c]) else []))
def wkL (T : sT) (Q : sQ) : Nat → List Nat → List (List Nat) → List Nat
  | 0, _, _ => []
  | d + 1, ks, ns => ks.flatMap (fun c => if wgo T c = true then (if qgoes Q (ns ++ [nm T c]) = true then [c] else []) ++ wkL T Q d (ch T c) (ns ++ [nm T c]) else [])
theorem wkA_cons {T : sT} {Q : sQ} {d c : Nat} {ks : List Nat} {ns : List (List Nat)} : wkA T Q (d + 1) (c :: ks) ns = (if woth T c = true then [] else (if qtakes Q (ns ++ [nm T c]) (decide (kd T c = 2)) = true then [pstr (ns ++ [nm T c])] else []) ++ (if kd T c = 2 then wkA T Q d (ch T c) (ns ++ [nm T c]) else [])) ++ wkA T Q (d + 1) ks ns := by
  show (c :: ks).flatMap _ = _; rw [List.flatMap_cons]; rfl
theorem wkL_cons {T : sT} {Q : sQ} {d c : Nat} {ks : List Nat} {ns : List (List Nat)} : wkL T Q (d + 1) (c :: ks) ns = (if wgo T c = true then (if qgoes Q (ns ++ [nm T c]) = true then [c] else []) ++ wkL T Q d (ch T c) (ns ++ [nm T c]) else []) ++ wkL T Q (d + 1) ks ns := by
  show (c :: ks).flatMap _ = _; rw [List.flatMap_cons]; rfl
theorem wkA_nil {T : sT} {Q : sQ} {d : Nat} {ns : List (List Nat)} : wkA T Q d [] ns = [] := by cases d <;> rfl
theorem wkL_nil {T : sT} {Q : sQ} {d : Nat} {ns : List (List Nat)} : wkL T Q d [] ns = [] := by cases d <;> rfl
theorem wkA_len {T : sT} {Q : sQ} : ∀ d ks ns, (wkA T Q d ks ns).length ≤ (visG T (wgo T) d ks).length := by
  intro d
  induction d with
  | zero => intro ks ns; exact Nat.le_refl _
  | succ d ih =>
    intro ks
    induction ks with
    | nil => intro ns; rw [wkA_nil]; exact Nat.zero_le _
    | cons c ks ihk =>
      intro ns
      rw [wkA_cons, vis_cons, List.length_append, List.length_append]
      have h1 := ihk ns
      have h2 := ih (ch T c) (ns ++ [nm T c])
      by_cases hk : kd T c = 2
      · cases hp : pk T c with
        | true =>
          rw [if_pos (show woth T c = true by simp [woth, hk, hp]), if_neg (show ¬ wgo T c = true by simp [wgo, hk, hp])]
          simp only [List.length_nil, List.length_cons]; omega
        | false =>
          rw [if_neg (show ¬ woth T c = true by simp [woth, hk, hp]), if_pos (show wgo T c = true by simp [wgo, hk, hp]), if_pos hk]
          simp only [List.length_append, List.length_cons]
          split
          · simp only [List.length_cons, List.length_nil]; omega
          · simp only [List.length_nil]; omega
      · rw [if_neg (show ¬ woth T c = true by simp [woth, hk]), if_neg (show ¬ wgo T c = true by simp [wgo, hk]), if_neg hk]
        simp only [List.append_nil, List.length_cons, List.length_nil]
        split
        · simp only [List.length_cons, List.length_nil]; omega
        · simp only [List.length_nil]; omega
theorem pstr_len {T : sT} {tr : List Nat} : (∀ k ∈ tr, (nm T k).length ≤ 8) → (pstr (tr.map (nm T))).length ≤ 9 * tr.length - 1 := by
  have key : ∀ (ns : List (List Nat)) (s : List Nat) (n : Nat), (∀ w ∈ ns, w.length ≤ 8) → s.length ≤ 9 * n - 1 → (ns.foldl pj s).length ≤ 9 * (n + ns.length) - 1 := by
    intro ns
    induction ns with
    | nil => intro s n _ h; simpa using h
    | cons w ns ih =>
      intro s n hw h
      have h8 := hw w (by simp)
      have := ih (pj s w) (n + 1) (fun x hx => hw x (by simp [hx])) (by
        unfold pj
        by_cases h0 : s.length = 0
        · rw [if_pos h0]; omega
        · rw [if_neg h0, List.length_append, List.length_cons]; omega)
      rw [List.foldl_cons, List.length_cons]
      rw [show n + (ns.length + 1) = n + 1 + ns.length by omega]
      exact this
  intro h
  have := key (tr.map (nm T)) [] 0 (fun w hw => by rw [List.mem_map] at hw; obtain ⟨k, hk, rfl⟩ := hw; exact h k hk) (by simp)
  rw [Nat.zero_add, List.length_map] at this
  exact this
theorem pj_c {P w : List Nat} (h1 : ∀ c ∈ P, c < 128) (h2 : ∀ c ∈ w, c < 128) : ∀ c ∈ pj P w, c < 128 := by
  intro c hc
  unfold pj at hc
  split at hc
  · exact h2 c hc
  · rcases List.mem_append.mp hc with h | h
    · exact h1 c h
    · rcases List.mem_cons.mp h with h | h
      · omega
      · exact h2 c h
section
variable {μ : vg_M} {m : Nat} {T : sT} {Q : sQ} {q nq B : Nat} {fr : Nat → Nat → Bool}
/-- what a walk only reads -/
def WS (T : sT) (Q : sQ) (q nq B : Nat) (fr : Nat → Nat → Bool) (S : Nat → Int32) (F : Nat → Nat → Int32) : Prop := RTr T F ∧ RQ1 q Q F ∧ RSn fr nq T B S F
theorem WS.e {S S' : Nat → Int32} {F F' : Nat → Nat → Int32} {ss ks : List Nat} (h : WS T Q q nq B fr S F) (hs : sE ss S S') (hf : fE ks F F') (h1 : 13 ∉ ss ∧ 14 ∉ ss) (h2 : (6 ∉ ks ∧ 7 ∉ ks ∧ 8 ∉ ks ∧ 11 ∉ ks ∧ 12 ∉ ks) ∧ (9 ∉ ks ∧ 10 ∉ ks ∧ 19 ∉ ks ∧ 23 ∉ ks ∧ 24 ∉ ks) ∧ 16 ∉ ks ∧ 17 ∉ ks ∧ 18 ∉ ks ∧ 20 ∉ ks ∧ 21 ∉ ks ∧ 22 ∉ ks) : WS T Q q nq B fr S' F' :=
  ⟨h.1.e hf h2.1, h.2.1.mono (hf _ h2.2.2.1) (hf _ h2.2.2.2.1) (hf _ h2.2.2.2.2.1) (hf _ h2.2.2.2.2.2.1) (hf _ h2.2.2.2.2.2.2.1) (hf _ h2.2.2.2.2.2.2.2), h.2.2.e hs hf h1 h2.2.1⟩
/-- where a walk stands -/
def WI (T : sT) (q : Nat) (fr : Nat → Nat → Bool) (tr : List Nat) (f : Nat) (an : List (List Nat)) (lkd : List Nat) (S : Nat → Int32) (F : Nat → Nat → Int32) : Prop := RTl tr S F ∧ f < 61 ∧ F 31 tr.length = nI f ∧ F 33 tr.length = nI (pstr (tr.map (nm T))).length ∧ RPa (pstr (tr.map (nm T))) F ∧ RA an S F ∧ S 26 = nI (lkd.filter (fr q)).length ∧ ∀ k, k < 61 → F 38 k = if k ∈ lkd then F 10 k else 0
def FRm (T : sT) (tr : List Nat) (S : Nat → Int32) (F : Nat → Nat → Int32) (S' : Nat → Int32) (F' : Nat → Nat → Int32) : Prop := sE [26, 27, 30] S S' ∧ S' 30 = S 30 ∧ fE [28, 29, 31, 32, 33, 34, 35, 38] F F' ∧ (∀ l, l ≤ tr.length → F' 31 l = F 31 l ∧ F' 33 l = F 33 l ∧ F' 34 l = F 34 l) ∧ (∀ l, l < tr.length → F' 32 l = F 32 l) ∧ ∀ i, i < (pstr (tr.map (nm T))).length → F' 35 i = F 35 i
theorem FRm.refl {tr : List Nat} {S : Nat → Int32} {F : Nat → Nat → Int32} : FRm T tr S F S F := ⟨sE.refl, rfl, fE.refl, fun _ _ => ⟨rfl, rfl, rfl⟩, fun _ _ => rfl, fun _ _ => rfl⟩
theorem FRm.trans {tr : List Nat} {S S' S'' : Nat → Int32} {F F' F'' : Nat → Nat → Int32} (h : FRm T tr S F S' F') (h' : FRm T tr S' F' S'' F'') : FRm T tr S F S'' F'' :=
  ⟨h.1.trans h'.1 (fun _ x => x), h'.2.1.trans h.2.1, h.2.2.1.trans h'.2.2.1 (fun _ x => x), fun l hl => ⟨(h'.2.2.2.1 l hl).1.trans (h.2.2.2.1 l hl).1, (h'.2.2.2.1 l hl).2.1.trans (h.2.2.2.1 l hl).2.1, (h'.2.2.2.1 l hl).2.2.trans (h.2.2.2.1 l hl).2.2⟩, fun l hl => (h'.2.2.2.2.1 l hl).trans (h.2.2.2.2.1 l hl), fun i hi => (h'.2.2.2.2.2 i hi).trans (h.2.2.2.2.2 i hi)⟩
theorem rm_look {tr : List Nat} {f : Nat} {an : List (List Nat)} {lkd : List Nat} {S : Nat → Int32} {F : Nat → Nat → Int32} (hs : μ.2.2.1 ≤ m) (hq : q < nq) (hq6 : nq ≤ 6) (hB : B < 2 ^ 30) (hS : WS T Q q nq B fr S F) (hI : WI T q fr tr f an lkd S F) (hl : 0 < kd T f) : ∃ S' F', fX11_look m (nI q) (rf_M μ m S F) = some ((), rf_M μ m S' F', 0, 0) ∧ WI T q fr tr f an (lkd ++ (if (decide (tr = []) || qgoes Q (tr.map (nm T))) = true then [f] else [])) S' F' ∧ sE [26] S S' ∧ fE [38] F F' := by
  obtain ⟨i1, i2, i3, i4, i5, i6, i7, i8⟩ := id hI
  have hlv : tr.length < 8 := by have := i1.2.1; omega
  unfold fX11_look
  simp only [rf_r31, rf_i30, i1.1, pg_o1, rf_a31 hlv, i3, rf_cv, rm_isLooked hS.2.1 (show q < 6 by omega) hS.1 i1, pg_b0, bI_0]
  cases hlk : (decide (tr = []) || qgoes Q (tr.map (nm T))) with
  | false =>
    rw [if_pos rfl]
    refine ⟨S, F, rfl, ?_, sE.refl, fE.refl⟩
    simp only [Bool.false_eq_true, if_false, List.append_nil]
    exact hI
  | true =>
    rw [if_neg (by decide)]
    simp only [rf_i26, i7, pg_o1, rm_counts hq hq6 hS.2.2 hB i2 hl, pg_b0, bI_0, if_true]
    have h37 : ∀ b : Bool, b = fr q f → ∃ S' F', fX11_look_37 m (nI f) m (nI (lkd.filter (fr q)).length) (bI b) (rf_M μ m S F) = some ((), rf_M μ m S' F', 0, 0) ∧ WI T q fr tr f an (lkd ++ [f]) S' F' ∧ sE [26] S S' ∧ fE [38] F F' := by
      intro b hb
      unfold fX11_look_37 fX11_look_53
      refine ⟨upd S 26 (nI (lkd.filter (fr q)).length + bI b), rf_u F 38 f (F 10 f), by simp only [rf_p26 hs, pg_o1, rf_r38, rf_r10, rf_a10 i2, rf_s38 hs i2, vg_ret], ?_, sE.u (by decide), fE.u (by decide)⟩
      have e38 : fE [38] F (rf_u F 38 f (F 10 f)) := fE.u (by decide)
      refine ⟨⟨by rw [pk_un (by decide)]; exact i1.1, i1.2.1, fun k hk => by rw [e38 34 (by decide)]; exact i1.2.2 k hk⟩, i2, by rw [e38 31 (by decide)]; exact i3, by rw [e38 33 (by decide)]; exact i4, ⟨i5.1, fun i hi => by rw [e38 35 (by decide)]; exact i5.2.1 i hi, i5.2.2⟩, i6.e (sE.u (ks := [26]) (by decide)) e38 (by decide) (by decide), ?_, fun k hk => ?_⟩
      · rw [pk_us, List.filter_append, List.length_append]
        cases b with
        | true =>
          have : ([f] : List Nat).filter (fr q) = [f] := by simp [← hb]
          rw [this, bI_t, nI_1]; rfl
        | false =>
          have : ([f] : List Nat).filter (fr q) = [] := by simp [← hb]
          rw [this, bI_f, ← nI_0, nI_add]; rfl
      · rw [rf_u5, e38 10 (by decide)]
        by_cases hkf : k = f
        · subst hkf; rw [if_pos rfl, if_pos (by simp)]
        · rw [if_neg hkf, i8 k hk]
          by_cases hkl : k ∈ lkd
          · rw [if_pos hkl, if_pos (by simp [hkl])]
          · rw [if_neg hkl, if_neg (by simp [hkl, hkf])]
    cases hfr : fr q f with
    | true => rw [if_neg (by decide)]; have := h37 true hfr.symm; rw [bI_t] at this; exact this
    | false => rw [if_pos rfl]; have := h37 false hfr.symm; rw [bI_f] at this; exact this
theorem rm_run (hs : μ.2.2.1 ≤ m) (hW : WT T) (hq : q < nq) (hq6 : nq ≤ 6) (hB : B < 2 ^ 30) :
    ∀ d rest tr f lo an lkd S F, WS T Q q nq B fr S F → WI T q fr tr f an lkd S F → F 32 tr.length = oI lo → Flw T f lo rest → kd T f = 2 → (∀ k ∈ tr, (nm T k).length ≤ 8) → tr.length ≤ dp T f → 7 ≤ dp T f + d → an.length + (visG T (wgo T) d rest).length ≤ 60 →
      ∃ k S' F' lo', (∀ n, fX11_walk_16 (n + k) m (nI q) (rf_M μ m S F) = fX11_walk_16 n m (nI q) (rf_M μ m S' F')) ∧ WI T q fr tr f (an ++ wkA T Q d rest (tr.map (nm T))) (lkd ++ wkL T Q d rest (tr.map (nm T))) S' F' ∧ F' 32 tr.length = oI lo' ∧ Flw T f lo' [] ∧ FRm T tr S F S' F' ∧ k ≤ 2 * (visG T (wgo T) d rest).length := by
  intro d
  induction d with
  | zero =>
    intro rest tr f lo an lkd S F hS hI h32 hF hkf htr htl hd
    exfalso
    by_cases h60 : f = 60
    · rw [h60, hW.2.2.1] at hd; omega
    · have := (hW.2.2.2.2.1 f (by have := hI.2.1; omega) (by omega)).2.2.2.2.1; omega
  | succ d ihd =>
    intro rest
    induction rest with
    | nil =>
      intro tr f lo an lkd S F hS hI h32 hF hkf htr htl hd han
      refine ⟨0, S, F, lo, fun n => rfl, ?_, h32, hF, FRm.refl, Nat.zero_le _⟩
      rw [wkA_nil, wkL_nil, List.append_nil, List.append_nil]; exact hI
    | cons c rest ihr =>
      intro tr f lo an lkd S F hS hI h32 hF hkf htr htl hd han
      obtain ⟨i1, i2, i3, i4, i5, i6, i7, i8⟩ := id hI
      have hlv : tr.length < 8 := by have := i1.2.1; omega
      obtain ⟨g1, g2, g3⟩ := id hF
      have hcm := (g1 c).mp (by simp)
      have hc60 := hcm.1
      obtain ⟨w1, w2, w3, w4, w5, w6⟩ := hW.2.2.2.2.1 c hc60 hcm.2.1
      rw [hcm.2.2.1] at w4
      have ht5 : tr.length ≤ 5 := by omega
      rw [List.pairwise_cons] at g2
      -- behind c
      have hF' : Flw T f (some c) rest := by
        refine ⟨fun x => ⟨fun hx => ?_, fun hx => ?_⟩, g2.2, fun l e => by cases e; exact hc60⟩
        · have := (g1 x).mp (by simp [hx])
          exact ⟨this.1, this.2.1, this.2.2.1, fun l e => by cases e; exact g2.1 x hx⟩
        · have hcx := hx.2.2.2 c rfl
          have : x ∈ c :: rest := (g1 x).mpr ⟨hx.1, hx.2.1, hx.2.2.1, fun l e => nlt_tr _ _ _ (hcm.2.2.2 l e) hcx⟩
          rcases List.mem_cons.mp this with e | e
          · rw [e, nlt_irr] at hcx; cases hcx
          · exact e
      have hfol := rm_following (μ := μ) (m := m) hS.1 hW i1.1 hlv i3 i2 h32 hF
      obtain ⟨r6, r7, r8, r11, b1, b2, b3, r12, b4⟩ := hS.1 c (by omega)
      -- the first words of a round
      have hstart : ∀ n, fX11_walk_16 (n + 1) m (nI q) (rf_M μ m S F) = fX11_walk_80 (fX11_walk_16 n) m (nI q) (nI c) (bI (woth T c)) (rf_M μ m S (rf_u F 32 tr.length (nI c))) := by
        intro n
        have e6 : rf_u F 32 tr.length (nI c) 6 c = nI (kd T c) := by rw [rf_u3 _ _ _ _ (by decide)]; exact r6
        have e11 : rf_u F 32 tr.length (nI c) 11 c = bI (pk T c) := by rw [rf_u3 _ _ _ _ (by decide)]; exact r11
        rw [fX11_walk_16]
        simp only [rf_i30, i1.1, pg_o1, li_lt0 (show tr.length < 2 ^ 31 by omega), if_false, rf_cv, hfol, pg_b0, List.head?_cons, oI, li_m1 (show c < 2 ^ 31 by omega), rf_r32, rf_s32 hs hlv, rf_r6, rf_a6 (show c < 61 by omega), e6, li_c 2 (c := 2) rfl (show kd T c < 2 ^ 31 by omega) (by decide), rf_r11, rf_a11 (show c < 61 by omega), e11, bI_0, fX11_walk_79]
        unfold woth
        by_cases hk2 : kd T c = 2
        · rw [if_pos hk2, decide_eq_true hk2, Bool.true_and]
          cases pk T c <;> rfl
        · rw [if_neg hk2, decide_eq_false hk2]; rfl
      have e32 : fE [32] F (rf_u F 32 tr.length (nI c)) := fE.u (by decide)
      have hS1 : WS T Q q nq B fr S (rf_u F 32 tr.length (nI c)) := hS.e sE.refl (ss := []) e32 (by decide) (by decide)
      have hI1 : WI T q fr tr f an lkd S (rf_u F 32 tr.length (nI c)) := ⟨⟨i1.1, i1.2.1, fun k hk => by rw [e32 34 (by decide)]; exact i1.2.2 k hk⟩, i2, by rw [e32 31 (by decide)]; exact i3, by rw [e32 33 (by decide)]; exact i4, ⟨i5.1, fun i hi => by rw [e32 35 (by decide)]; exact i5.2.1 i hi, i5.2.2⟩, i6.e sE.refl (ss := []) e32 (by decide) (by decide), i7, fun k hk => by rw [e32 38 (by decide), e32 10 (by decide)]; exact i8 k hk⟩
      have hFR1 : FRm T tr S F S (rf_u F 32 tr.length (nI c)) := ⟨sE.refl, rfl, e32.trans fE.refl (by decide), fun l _ => ⟨by rw [e32 31 (by decide)], by rw [e32 33 (by decide)], by rw [e32 34 (by decide)]⟩, fun l hl => rf_u2 _ _ _ (by omega), fun i _ => by rw [e32 35 (by decide)]⟩
      have h321 : rf_u F 32 tr.length (nI c) 32 tr.length = oI (some c) := rf_u1 _ _ _ _
      generalize rf_u F 32 tr.length (nI c) = F1 at *
      clear i3 i4 i6 i8 i5 hfol
      obtain ⟨i1, i2, i3, i4, i5, i6, i7, i8⟩ := id hI1
      rw [vis_cons, List.length_append] at han
      rw [wkA_cons, wkL_cons, vis_cons, List.length_append]
      by_cases hoth : woth T c = true
      · -- another package: passed over
        have hng : wgo T c = false := by
          unfold woth at hoth; unfold wgo
          rw [Bool.and_eq_true] at hoth
          rw [hoth.2]; simp
        rw [if_pos hoth, if_neg (by rw [hng]; decide), if_neg (by rw [hng]; decide)]
        rw [if_neg (by rw [hng]; decide)] at han
        simp only [List.length_cons, List.length_nil] at han ⊢
        obtain ⟨k, S', F', lo', a1, a2, a3, a4, a5, a6⟩ := ihr tr f (some c) an lkd S F1 hS1 hI1 h321 hF' hkf htr htl hd (by omega)
        refine ⟨k + 1, S', F', lo', fun n => ?_, by simpa using a2, a3, a4, hFR1.trans a5, by omega⟩
        rw [← Nat.add_assoc, hstart, hoth, bI_t]
        unfold fX11_walk_80 fX11_walk_101 fX11_walk_131
        rw [if_neg (by decide), if_neg (by decide)]
        exact a1 n
      · have hothf : woth T c = false := Bool.eq_false_iff.mpr hoth
        rw [if_neg hoth]
        -- the answer
        have hnames : (tr ++ [c]).map (nm T) = tr.map (nm T) ++ [nm T c] := by rw [List.map_append]; rfl
        have hpl : (pstr ((tr ++ [c]).map (nm T))).length ≤ 9 * (tr ++ [c]).length - 1 := pstr_len (fun k hk => by
          rcases List.mem_append.mp hk with h | h
          · exact htr k h
          · rw [List.mem_singleton] at h; rw [h]; exact b3)
        rw [hnames, pstr_snoc, List.length_append] at hpl
        simp only [List.length_cons, List.length_nil] at hpl
        have hpc : ∀ x ∈ pj (pstr (tr.map (nm T))) (nm T c), x < 128 := pj_c i5.2.2 b4
        have hans := rm_isAnswer (μ := μ) (m := m) (node := c) hS1.2.1 (show q < 6 by omega) hS1.1 i1 (by omega)
        have stepA : ∃ S2 F2, (∀ n, fX11_walk_80 (fX11_walk_16 n) m (nI q) (nI c) 0 (rf_M μ m S F1) = fX11_walk_101 (fX11_walk_16 n) m (nI q) (nI c) 0 (rf_M μ m S2 F2)) ∧ WI T q fr tr f (an ++ (if qtakes Q (tr.map (nm T) ++ [nm T c]) (decide (kd T c = 2)) = true then [pstr (tr.map (nm T) ++ [nm T c])] else [])) lkd S2 F2 ∧ FRm T tr S F1 S2 F2 ∧ F2 32 = F1 32 := by
          cases htk : qtakes Q (tr.map (nm T) ++ [nm T c]) (decide (kd T c = 2)) with
          | false =>
            refine ⟨S, F1, fun n => ?_, by simpa using hI1, FRm.refl, rfl⟩
            unfold fX11_walk_80
            rw [if_pos rfl, rf_cv, hans, htk, pg_b0, if_pos (by decide)]
          | true =>
            obtain ⟨S2, F2, t1, t2, t3, t4, t5⟩ := rm_tell (μ := μ) (m := m) (node := c) hs hS1.1 (by omega) i1.1 hlv i4 i5 i6 (by simp only [List.length_cons] at han; omega) (by omega) hpc
            refine ⟨S2, F2, fun n => ?_, ?_, ⟨t3.trans sE.refl (by decide), t3 30 (by decide), t4.trans fE.refl (by decide), fun l _ => ⟨by rw [t4 31 (by decide)], by rw [t4 33 (by decide)], by rw [t4 34 (by decide)]⟩, fun l _ => by rw [t4 32 (by decide)], t5⟩, t4 32 (by decide)⟩
            · unfold fX11_walk_80
              rw [if_pos rfl, rf_cv, hans, htk, pg_b0, if_neg (by decide), rf_cv, t1, pg_b0]
            · rw [if_pos rfl, pstr_snoc]
              exact ⟨⟨by rw [t3 30 (by decide)]; exact i1.1, i1.2.1, fun k hk => by rw [t4 34 (by decide)]; exact i1.2.2 k hk⟩, i2, by rw [t4 31 (by decide)]; exact i3, by rw [t4 33 (by decide)]; exact i4, ⟨i5.1, fun i hi => by rw [t5 i hi]; exact i5.2.1 i hi, i5.2.2⟩, t2, by rw [t3 26 (by decide)]; exact i7, fun k hk => by rw [t4 38 (by decide), t4 10 (by decide)]; exact i8 k hk⟩
        obtain ⟨S2, F2, sa1, sa2, sa3, sa4⟩ := stepA
        have hS2 : WS T Q q nq B fr S2 F2 := hS1.e sa3.1 sa3.2.2.1 (by decide) (by decide)
        have h322 : F2 32 tr.length = oI (some c) := by rw [sa4]; exact h321
        by_cases hk2 : kd T c = 2
        · -- a folder: go in
          have hgo : wgo T c = true := by
            unfold wgo; unfold woth at hothf
            rw [decide_eq_true hk2, Bool.true_and] at hothf ⊢
            rw [hothf]; rfl
          rw [if_pos hk2, if_pos hgo, if_pos hgo]
          rw [if_pos hgo] at han
          obtain ⟨j1, j2, j3, j4, j5, j6, j7, j8⟩ := id sa2
          obtain ⟨F3, p1, p2, p3, p4⟩ := rm_spell (μ := μ) (m := m) (S := S2) (node := c) hs hS2.1 (by omega) j1.1 hlv j4 j5
          have hent := rm_enter (μ := μ) (m := m) (S := S2) (F := F3) (f := c) (e := nI (pj (pstr (tr.map (nm T))) (nm T c)).length) hs j1.1 (nI_1 tr.length) (show tr.length + 1 < 8 by omega)
          -- the picture in the folder
          have e4 : fE [31, 32, 33, 34, 35] F2 (rf_u (rf_u (rf_u (rf_u F3 31 (tr.length + 1) (nI c)) 34 (tr.length + 1) (nI c)) 32 (tr.length + 1) (-1)) 33 (tr.length + 1) (nI (pj (pstr (tr.map (nm T))) (nm T c)).length)) :=
            (((p2.trans (fE.u (ks := [31, 32, 33, 34, 35]) (by decide)) (by decide)).trans (fE.u (by decide)) (fun _ h => h)).trans (fE.u (by decide)) (fun _ h => h)).trans (fE.u (by decide)) (fun _ h => h)
          have hS4 : WS T Q q nq B fr (upd S2 30 (nI (tr.length + 1))) (rf_u (rf_u (rf_u (rf_u F3 31 (tr.length + 1) (nI c)) 34 (tr.length + 1) (nI c)) 32 (tr.length + 1) (-1)) 33 (tr.length + 1) (nI (pj (pstr (tr.map (nm T))) (nm T c)).length)) := hS2.e (sE.u (ks := [30]) (by decide)) e4 (by decide) (by decide)
          have hlen1 : (tr ++ [c]).length = tr.length + 1 := by simp
          have hI4 : WI T q fr (tr ++ [c]) c (an ++ (if qtakes Q (tr.map (nm T) ++ [nm T c]) (decide (kd T c = 2)) = true then [pstr (tr.map (nm T) ++ [nm T c])] else [])) lkd (upd S2 30 (nI (tr.length + 1))) (rf_u (rf_u (rf_u (rf_u F3 31 (tr.length + 1) (nI c)) 34 (tr.length + 1) (nI c)) 32 (tr.length + 1) (-1)) 33 (tr.length + 1) (nI (pj (pstr (tr.map (nm T))) (nm T c)).length)) := by
            unfold WI
            rw [show pstr ((tr ++ [c]).map (nm T)) = pj (pstr (tr.map (nm T))) (nm T c) by rw [hnames, pstr_snoc], hlen1]
            refine ⟨⟨by rw [pk_us, hlen1], by rw [hlen1]; omega, fun k hk => ?_⟩, by omega, by simp (disch := decide) only [rf_u3, rf_u4, rf_u5, pk_us, pk_un]; rw [if_pos trivial], by rw [rf_u1], ⟨by omega, fun i hi => by simp (disch := decide) only [rf_u3, rf_u4, rf_u5, pk_us, pk_un]; exact p3 i hi, hpc⟩, j6.e (sE.u (ks := [30]) (by decide)) e4 (by decide) (by decide), by rw [pk_un (by decide)]; exact j7, fun k hk => by rw [e4 38 (by decide), e4 10 (by decide)]; exact j8 k hk⟩
            rw [hlen1] at hk
            simp (disch := decide) only [rf_u3, rf_u4, rf_u5, pk_us, pk_un]
            by_cases hkt : k = tr.length
            · subst hkt
              rw [if_pos rfl]
              have e : (tr ++ [c]).getD tr.length 0 = c := by simp [List.getD_eq_getElem?_getD]
              rw [e]; exact ⟨rfl, by omega⟩
            · rw [if_neg (by omega), p2 34 (by decide)]
              have e : (tr ++ [c]).getD k 0 = tr.getD k 0 := by rw [List.getD_eq_getElem?_getD, List.getD_eq_getElem?_getD, List.getElem?_append_left (by omega)]
              rw [e]; exact j1.2.2 k (by omega)
          -- frames of the entering
          have hin34 : ∀ l, l ≤ tr.length → (rf_u (rf_u (rf_u (rf_u F3 31 (tr.length + 1) (nI c)) 34 (tr.length + 1) (nI c)) 32 (tr.length + 1) (-1)) 33 (tr.length + 1) (nI (pj (pstr (tr.map (nm T))) (nm T c)).length)) 31 l = F2 31 l ∧ (rf_u (rf_u (rf_u (rf_u F3 31 (tr.length + 1) (nI c)) 34 (tr.length + 1) (nI c)) 32 (tr.length + 1) (-1)) 33 (tr.length + 1) (nI (pj (pstr (tr.map (nm T))) (nm T c)).length)) 33 l = F2 33 l ∧ (rf_u (rf_u (rf_u (rf_u F3 31 (tr.length + 1) (nI c)) 34 (tr.length + 1) (nI c)) 32 (tr.length + 1) (-1)) 33 (tr.length + 1) (nI (pj (pstr (tr.map (nm T))) (nm T c)).length)) 34 l = F2 34 l ∧ (rf_u (rf_u (rf_u (rf_u F3 31 (tr.length + 1) (nI c)) 34 (tr.length + 1) (nI c)) 32 (tr.length + 1) (-1)) 33 (tr.length + 1) (nI (pj (pstr (tr.map (nm T))) (nm T c)).length)) 32 l = F2 32 l := by
            intro l hl
            simp (disch := decide) only [rf_u3, rf_u4, rf_u5, pk_us, pk_un]
            rw [if_neg (show ¬ l = tr.length + 1 by omega), p2 31 (by decide), p2 32 (by decide), p2 33 (by decide), p2 34 (by decide), if_neg (show ¬ l = tr.length + 1 by omega), if_neg (show ¬ l = tr.length + 1 by omega), if_neg (show ¬ l = tr.length + 1 by omega)]
            exact ⟨rfl, rfl, rfl, rfl⟩
          have hin35 : ∀ i, i < (pstr (tr.map (nm T))).length → (rf_u (rf_u (rf_u (rf_u F3 31 (tr.length + 1) (nI c)) 34 (tr.length + 1) (nI c)) 32 (tr.length + 1) (-1)) 33 (tr.length + 1) (nI (pj (pstr (tr.map (nm T))) (nm T c)).length)) 35 i = F2 35 i := by
            intro i hi
            simp (disch := decide) only [rf_u3, rf_u4, rf_u5, pk_us, pk_un]
            exact p4 i hi
          have hin32 : (rf_u (rf_u (rf_u (rf_u F3 31 (tr.length + 1) (nI c)) 34 (tr.length + 1) (nI c)) 32 (tr.length + 1) (-1)) 33 (tr.length + 1) (nI (pj (pstr (tr.map (nm T))) (nm T c)).length)) 32 (tr.length + 1) = oI none := by
            simp (disch := decide) only [rf_u3, rf_u4, rf_u5, pk_us, pk_un]
            rw [if_pos trivial]; rfl
          generalize (rf_u (rf_u (rf_u (rf_u F3 31 (tr.length + 1) (nI c)) 34 (tr.length + 1) (nI c)) 32 (tr.length + 1) (-1)) 33 (tr.length + 1) (nI (pj (pstr (tr.map (nm T))) (nm T c)).length)) = F4 at *
          obtain ⟨S5, F5, k1, k2, k3, k4⟩ := rm_look hs hq hq6 hB hS4 hI4 (by omega)
          have hS5 : WS T Q q nq B fr S5 F5 := hS4.e k3 k4 (by decide) (by decide)
          rw [hnames] at k2
          have hlook : (decide (tr ++ [c] = []) || qgoes Q (tr.map (nm T) ++ [nm T c])) = qgoes Q (tr.map (nm T) ++ [nm T c]) := by simp
          rw [hlook] at k2
          have hch := hW.2.2.2.2.2.2 c (by omega) (by omega)
          have hFc : Flw T c none (ch T c) := ⟨fun x => ⟨fun hx => ⟨((hch.1 x).mp hx).1, ((hch.1 x).mp hx).2.1, ((hch.1 x).mp hx).2.2, fun l e => by cases e⟩, fun hx => (hch.1 x).mpr ⟨hx.1, hx.2.1, hx.2.2.1⟩⟩, hch.2, fun l e => by cases e⟩
          -- the walk in there
          obtain ⟨kk, S6, F6, lo6, m1, m2, m3, m4, m5, m6⟩ := ihd (ch T c) (tr ++ [c]) c none _ _ S5 F5 hS5 k2 (by rw [k4 32 (by decide), hlen1]; exact hin32) hFc hk2 (fun k hk => by
            rcases List.mem_append.mp hk with h | h
            · exact htr k h
            · rw [List.mem_singleton] at h; rw [h]; exact b3) (by rw [hlen1]; omega) (by omega) (by
            rw [List.length_append]
            simp only [List.length_cons] at han
            split
            · simp only [List.length_cons, List.length_nil]; omega
            · simp only [List.length_nil]; omega)
          rw [hnames] at m2
          have hS6 : WS T Q q nq B fr S6 F6 := hS5.e m5.1 m5.2.2.1 (by decide) (by decide)
          obtain ⟨n1, n2, n3, n4, n5, n6, n7, n8⟩ := id m2
          rw [hlen1] at n3 n4 m3
          have s630 : S6 30 = nI (tr.length + 1) := by have := n1.1; rw [hlen1] at this; exact this
          -- and back
          have hfol6 := rm_following (μ := μ) (m := m) hS6.1 hW s630 (show tr.length + 1 < 8 by omega) n3 (by omega) m3 m4
          have hback : ∀ n, fX11_walk_16 (n + 1) m (nI q) (rf_M μ m S6 F6) = fX11_walk_16 n m (nI q) (rf_M μ m (upd S6 30 (nI tr.length)) F6) := by
            intro n
            rw [fX11_walk_16]
            simp only [rf_i30, s630, pg_o1, li_lt0 (show tr.length + 1 < 2 ^ 31 by omega), if_false, rf_cv, hfol6, pg_b0, List.head?_nil, oI, if_true, nI_pred, rf_p30 hs, fX11_walk_131]
          have m5' := m5
          obtain ⟨o1, o2, o3, o4, o5, o6⟩ := m5
          rw [hlen1] at o4 o5
          rw [hnames, pstr_snoc] at o6
          have hF6 : ∀ l, l ≤ tr.length → F6 31 l = F2 31 l ∧ F6 33 l = F2 33 l ∧ F6 34 l = F2 34 l ∧ F6 32 l = F2 32 l := by
            intro l hl
            obtain ⟨x1, x2, x3⟩ := o4 l (by omega)
            have x4 := o5 l (by omega)
            obtain ⟨y1, y2, y3, y4⟩ := hin34 l hl
            rw [x1, x2, x3, x4, k4 31 (by decide), k4 32 (by decide), k4 33 (by decide), k4 34 (by decide)]
            exact ⟨y1, y2, y3, y4⟩
          have hpjl : (pstr (tr.map (nm T))).length ≤ (pj (pstr (tr.map (nm T))) (nm T c)).length := by
            unfold pj
            split
            · omega
            · rw [List.length_append]; omega
          have hF635 : ∀ i, i < (pstr (tr.map (nm T))).length → F6 35 i = F2 35 i := by
            intro i hi
            rw [o6 i (by omega), k4 35 (by decide)]
            exact hin35 i hi
          have hFRb : FRm T tr S2 F2 (upd S6 30 (nI tr.length)) F6 := by
            refine ⟨?_, by rw [pk_us]; exact j1.1.symm, ?_, fun l hl => ⟨(hF6 l hl).1, (hF6 l hl).2.1, (hF6 l hl).2.2.1⟩, fun l hl => (hF6 l (by omega)).2.2.2, hF635⟩
            · exact (((sE.u (ks := [26, 27, 30]) (by decide)).trans (k3.trans sE.refl (by decide)) (fun _ h => h)).trans o1 (fun _ h => h)).trans (sE.u (by decide)) (fun _ h => h)
            · exact ((e4.trans fE.refl (by decide)).trans (k4.trans fE.refl (by decide)) (fun _ h => h)).trans o3 (fun _ h => h)
          have hSb : WS T Q q nq B fr (upd S6 30 (nI tr.length)) F6 := hS6.e (sE.u (ks := [30]) (by decide)) fE.refl (ks := []) (by decide) (by decide)
          have hIb : WI T q fr tr f ((an ++ (if qtakes Q (tr.map (nm T) ++ [nm T c]) (decide (kd T c = 2)) = true then [pstr (tr.map (nm T) ++ [nm T c])] else [])) ++ wkA T Q d (ch T c) (tr.map (nm T) ++ [nm T c])) ((lkd ++ (if qgoes Q (tr.map (nm T) ++ [nm T c]) = true then [c] else [])) ++ wkL T Q d (ch T c) (tr.map (nm T) ++ [nm T c])) (upd S6 30 (nI tr.length)) F6 := by
            refine ⟨⟨pk_us, i1.2.1, fun k hk => ?_⟩, i2, by rw [(hF6 _ (Nat.le_refl _)).1]; exact j3, by rw [(hF6 _ (Nat.le_refl _)).2.1]; exact j4, ⟨i5.1, fun i hi => by rw [hF635 i hi]; exact j5.2.1 i hi, i5.2.2⟩, n6.e (sE.u (ks := [30]) (by decide)) fE.refl (ks := []) (by decide) (by decide), by rw [pk_un (by decide)]; exact n7, n8⟩
            rw [(hF6 (k + 1) (by omega)).2.2.1]; exact j1.2.2 k hk
          have hAl := wkA_len (T := T) (Q := Q) d (ch T c) (tr.map (nm T) ++ [nm T c])
          obtain ⟨k, S', F', lo', a1, a2, a3, a4, a5, a6⟩ := ihr tr f (some c) _ _ (upd S6 30 (nI tr.length)) F6 hSb hIb (by rw [(hF6 _ (Nat.le_refl _)).2.2.2]; exact h322) hF' hkf htr htl hd (by
            rw [List.length_append, List.length_append]
            simp only [List.length_cons] at han
            split
            · simp only [List.length_cons, List.length_nil]; omega
            · simp only [List.length_nil]; omega)
          refine ⟨k + 1 + kk + 1, S', F', lo', fun n => ?_, ?_, a3, a4, (hFR1.trans sa3).trans (hFRb.trans a5), by simp only [List.length_cons]; omega⟩
          · have e1 : n + (k + 1 + kk + 1) = (n + (k + 1) + kk) + 1 := by omega
            rw [e1, hstart, hothf, bI_f, sa1]
            unfold fX11_walk_101
            have c6 : F2 6 c = nI 2 := by have := (hS2.1 c (by omega)).1; rw [hk2] at this; exact this
            rw [if_pos rfl]
            simp only [rf_r6, pg_o1, rf_a6 (show c < 61 by omega), c6, show (nI 2 = (2 : Int32)) from rfl, if_true, rf_cv, p1, pg_b0, hent, k1, fX11_walk_131]
            rw [m1, ← Nat.add_assoc, hback]
            exact a1 n
          · have e1 : an ++ ((if qtakes Q (tr.map (nm T) ++ [nm T c]) (decide (kd T c = 2)) = true then [pstr (tr.map (nm T) ++ [nm T c])] else []) ++ wkA T Q d (ch T c) (tr.map (nm T) ++ [nm T c]) ++ wkA T Q (d + 1) rest (tr.map (nm T))) = an ++ (if qtakes Q (tr.map (nm T) ++ [nm T c]) (decide (kd T c = 2)) = true then [pstr (tr.map (nm T) ++ [nm T c])] else []) ++ wkA T Q d (ch T c) (tr.map (nm T) ++ [nm T c]) ++ wkA T Q (d + 1) rest (tr.map (nm T)) := by simp only [List.append_assoc]
            have e2 : lkd ++ ((if qgoes Q (tr.map (nm T) ++ [nm T c]) = true then [c] else []) ++ wkL T Q d (ch T c) (tr.map (nm T) ++ [nm T c]) ++ wkL T Q (d + 1) rest (tr.map (nm T))) = lkd ++ (if qgoes Q (tr.map (nm T) ++ [nm T c]) = true then [c] else []) ++ wkL T Q d (ch T c) (tr.map (nm T) ++ [nm T c]) ++ wkL T Q (d + 1) rest (tr.map (nm T)) := by simp only [List.append_assoc]
            rw [e1, e2]; exact a2
        · -- a file
          have hng : wgo T c = false := by unfold wgo; rw [decide_eq_false hk2]; rfl
          rw [if_neg hk2, if_neg (show ¬ wgo T c = true by rw [hng]; decide), if_neg (show ¬ wgo T c = true by rw [hng]; decide), List.append_nil]
          rw [if_neg (by rw [hng]; decide)] at han
          simp only [List.length_cons, List.length_nil] at han ⊢
          obtain ⟨k, S', F', lo', a1, a2, a3, a4, a5, a6⟩ := ihr tr f (some c) _ lkd S2 F2 hS2 sa2 h322 hF' hkf htr htl hd (by
            rw [List.length_append]
            split
            · simp only [List.length_cons, List.length_nil]; omega
            · simp only [List.length_nil]; omega)
          refine ⟨k + 1, S', F', lo', fun n => ?_, by rw [← List.append_assoc, List.nil_append]; exact a2, a3, a4, hFR1.trans (sa3.trans a5), by omega⟩
          rw [← Nat.add_assoc, hstart, hothf, bI_f, sa1]
          unfold fX11_walk_101 fX11_walk_131
          have c6 : F2 6 c = nI (kd T c) := (hS2.1 c (by omega)).1
          rw [if_pos rfl]
          simp only [rf_r6, pg_o1, rf_a6 (show c < 61 by omega), c6, li_c 2 (c := 2) rfl (show kd T c < 2 ^ 31 by omega) (by decide), hk2, if_false]
          exact a1 n
end
