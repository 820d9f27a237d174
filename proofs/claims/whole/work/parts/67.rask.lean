/-! The reference: ask. -/
/-- the folder of a query's package -/
def pkg (T : sT) (P : List Nat) : Option Nat := if P = [] then some 60 else match pt P with
  | none => none
  | some sp => if (tg T (wd P sp) 60).2 = sp.length ∧ kd T (tg T (wd P sp) 60).1 = 2 ∧ pk T (tg T (wd P sp) 60).1 = true then some (tg T (wd P sp) 60).1 else none
section
variable {μ : vg_M} {m : Nat} {T : sT} {Q : sQ} {q nq B : Nat} {fr : Nat → Nat → Bool}
theorem rm_walk {S : Nat → Int32} {F : Nat → Nat → Int32} {r : Nat} (hs : μ.2.2.1 ≤ m) (hW : WT T) (hq : q < nq) (hq6 : nq ≤ 6) (hB : B < 2 ^ 30) (hS : WS T Q q nq B fr S F) (hr : r < 61) (hk : kd T r = 2) (h27 : S 27 = 0) (h26 : S 26 = 0) (h38 : ∀ k, k < 61 → F 38 k = 0) :
    ∃ S' F', fX11_walk m (nI q) (nI r) (rf_M μ m S F) = some ((), rf_M μ m S' F', 0, 0) ∧ RA (wkA T Q 7 (ch T r) []) S' F' ∧ S' 26 = nI ((r :: wkL T Q 7 (ch T r) []).filter (fr q)).length ∧ (∀ k, k < 61 → F' 38 k = if k ∈ r :: wkL T Q 7 (ch T r) [] then F 10 k else 0) ∧ sE [26, 27, 30] S S' ∧ fE [28, 29, 31, 32, 33, 34, 35, 38] F F' := by
  unfold fX11_walk
  have hent := rm_enter (μ := μ) (m := m) (S := upd S 30 (-1)) (F := F) (f := r) (e := 0) (lv := 0) hs pk_us (by decide) (by decide)
  rw [rf_p30 hs, pg_o1, rf_cv, hent, pg_b0, rf_cv]
  have e0 : fE [31, 32, 33, 34] F (rf_u (rf_u (rf_u (rf_u F 31 0 (nI r)) 34 0 (nI r)) 32 0 (-1)) 33 0 0) := (((fE.u (ks := [31, 32, 33, 34]) (by decide)).trans (fE.u (by decide)) (fun _ h => h)).trans (fE.u (by decide)) (fun _ h => h)).trans (fE.u (by decide)) (fun _ h => h)
  have s0 : sE [30] S (upd (upd S 30 (-1)) 30 (nI 0)) := (sE.u (by decide)).trans (sE.u (by decide)) (fun _ h => h)
  have hI0 : WI T q fr [] r [] [] (upd (upd S 30 (-1)) 30 (nI 0)) (rf_u (rf_u (rf_u (rf_u F 31 0 (nI r)) 34 0 (nI r)) 32 0 (-1)) 33 0 0) := by
    refine ⟨⟨pk_us, by decide, fun k h => absurd h (Nat.not_lt_zero _)⟩, hr, by simp (disch := decide) only [rf_u3, rf_u4, rf_u5, pk_us, pk_un]; rfl, rf_u1 _ _ _ _, ⟨Nat.zero_le _, fun i h => absurd h (Nat.not_lt_zero _), fun c h => by cases h⟩, ⟨by rw [s0 27 (by decide)]; exact h27, by decide, fun i h => absurd h (Nat.not_lt_zero _)⟩, by rw [s0 26 (by decide)]; exact h26, fun k hk => by rw [e0 38 (by decide), h38 k hk]; rfl⟩
  have h320 : (rf_u (rf_u (rf_u (rf_u F 31 0 (nI r)) 34 0 (nI r)) 32 0 (-1)) 33 0 0) 32 0 = oI none := by simp (disch := decide) only [rf_u3, rf_u4, rf_u5, pk_us, pk_un]; rfl
  have hS0 := hS.e s0 e0 (by decide) (by decide)
  generalize (rf_u (rf_u (rf_u (rf_u F 31 0 (nI r)) 34 0 (nI r)) 32 0 (-1)) 33 0 0) = F0 at *
  generalize (upd (upd S 30 (-1)) 30 (nI 0)) = S0 at *
  obtain ⟨S1, F1, l1, l2, l3, l4⟩ := rm_look hs hq hq6 hB hS0 hI0 (by omega)
  rw [l1, pg_b0]
  have hS1 := hS0.e l3 l4 (by decide) (by decide)
  have hch := hW.2.2.2.2.2.2 r (by omega) (by omega)
  have hFc : Flw T r none (ch T r) := ⟨fun x => ⟨fun hx => ⟨((hch.1 x).mp hx).1, ((hch.1 x).mp hx).2.1, ((hch.1 x).mp hx).2.2, fun l e => by cases e⟩, fun hx => (hch.1 x).mpr ⟨hx.1, hx.2.1, hx.2.2.1⟩⟩, hch.2, fun l e => by cases e⟩
  have hlen := vis_len (g := wgo T) (d := 7) hW (show r ≤ 60 by omega) (show 0 < kd T r by omega)
  obtain ⟨k, S2, F2, lo', a1, a2, a3, a4, a5, a6⟩ := rm_run hs hW hq hq6 hB 7 (ch T r) [] r none [] _ S1 F1 hS1 l2 (by rw [l4 32 (by decide)]; exact h320) hFc hk (fun k h => by cases h) (Nat.zero_le _) (by omega) (by simpa using hlen)
  have hS2 := hS1.e a5.1 a5.2.2.1 (by decide) (by decide)
  obtain ⟨i1, i2, i3, i4, i5, i6, i7, i8⟩ := id a2
  have hfol := rm_following (μ := μ) (m := m) hS2.1 hW i1.1 (by decide) i3 i2 a3 a4
  have hl0 : (List.length ([] : List Nat)) = 0 := rfl
  have s230 : S2 30 = nI 0 := i1.1
  refine ⟨upd S2 30 (-1), F2, ?_, ?_, ?_, ?_, ?_, ?_⟩
  · have e1 : vg_fuel = (vg_fuel - k - 2 + 1 + 1) + k := by rw [ps_fuel]; omega
    rw [e1, a1]
    rw [fX11_walk_16]
    simp only [rf_i30, s230, pg_o1, li_lt0 (show 0 < 2 ^ 31 by decide), if_false, rf_cv, hfol, pg_b0, List.head?_nil, oI, if_true, show nI 0 - 1 = -1 by decide, rf_p30 hs, fX11_walk_131]
    rw [fX11_walk_16]
    simp only [rf_i30, pk_us, pg_o1]
    rw [if_pos (by decide)]; rfl
  · have := i6.e (sE.u (ks := [30]) (x := -1) (k := 30) (by decide)) fE.refl (ks := []) (by decide) (by decide)
    simpa using this
  · rw [pk_un (by decide)]
    simpa using i7
  · intro x hx
    have := i8 x hx
    rw [a5.2.2.1 10 (by decide), l4 10 (by decide), e0 10 (by decide)] at this
    simpa using this
  · exact (((s0.trans sE.refl (by decide)).trans (l3.trans sE.refl (by decide)) (fun _ h => h)).trans a5.1 (fun _ h => h)).trans (sE.u (by decide)) (fun _ h => h)
  · exact ((e0.trans fE.refl (by decide)).trans (l4.trans fE.refl (by decide)) (fun _ h => h)).trans a5.2.2.1 (fun _ h => h)
theorem rm_packageOfL {P : List Nat} (hs : μ.2.2.1 ≤ m) (hq : q < 6) (hPl : P.length ≤ 60) (hPc : ∀ c ∈ P, 32 ≤ c ∧ c < 127) (hPok : P = [] ∨ (pt P).isSome = true) (h60 : kd T 60 = 2 ∧ pk T 60 = true) :
    ∀ n i S F, i ≤ P.length → P.length < i + n → S 2 = nI P.length → RTr T F → (∀ j, j < P.length → F 21 (60 * q + j) = nI (P.getD j 0)) → (∀ j, j < i → F 1 j = nI (P.getD j 0)) → ∃ S' F', fX11_packageOf_12 n m (nI q) (nI i) (rf_M μ m S F) = some (oI (pkg T P), rf_M μ m S' F', 0, 0) ∧ sE [2, 3, 36] S S' ∧ fE [1, 4, 5] F F' := by
  intro n
  induction n with
  | zero => intro i S F h1 h2; omega
  | succ n ih =>
    intro i S F h1 h2 hS2 hR h21 hw
    unfold fX11_packageOf_12
    simp only [rf_i2, hS2, pg_o1, nI_leI (show P.length < 2 ^ 31 by omega) (show i < 2 ^ 31 by omega), li_le0 (show P.length < 2 ^ 31 by omega)]
    by_cases hi : i = P.length
    · subst hi
      rw [if_pos (Nat.le_refl _)]
      by_cases hP0 : P.length = 0
      · rw [if_pos hP0]
        have eP := List.eq_nil_of_length_eq_zero hP0
        unfold fX11_packageOf_103
        refine ⟨upd S 2 0, F, by rw [rf_p2 hs]; unfold pkg; rw [if_pos eP]; rfl, sE.u (by decide), fE.refl⟩
      · rw [if_neg hP0]
        have hPne : P ≠ [] := fun e => hP0 (by rw [e]; rfl)
        have hT : RT P S F := ⟨hS2, hPl, hw, hPc⟩
        obtain ⟨S1, F1, e1, e2, e3, e4⟩ := rm_isPath hs hT
        rcases hPok with hPok | hPok
        · exact absurd hPok hPne
        · obtain ⟨sp, hsp⟩ := Option.isSome_iff_exists.mp hPok
          have hW1 := e4 sp hsp
          have hT1 : RT P S1 F1 := hT.mono (e2 _ (by decide)) (e3 _ (by decide))
          have hR1 : RTr T F1 := hR.e e3 (by decide)
          obtain ⟨S2, g1, g2, g3⟩ := rm_go hs hsp hR1 hT1 hW1
          have l1 := tg_le (T := T) (wd P sp) 60 (by decide)
          rw [wd_len] at l1
          have w1 : S2 3 = nI sp.length := by rw [g2 _ (by decide)]; exact hW1.1
          have hsl := (pt_ok hsp).2.1
          unfold pkg
          rw [if_neg hPne, hsp]
          simp only [rf_cv, e1, hPok, bI_t, pg_b0, g1, if_neg (show ¬ (1 : Int32) = 0 by decide), rf_i36, rf_i3, g3, w1, pg_o1]
          generalize (tg T (wd P sp) 60).1 = node at *
          generalize (tg T (wd P sp) 60).2 = g at *
          obtain ⟨r6, r7, r8, r11, b1, b2, b3, r12, b4⟩ := hR1 node (by omega)
          simp only [rf_r6, rf_a6 (show node < 61 by omega), r6, pg_o1, li_c 2 (c := 2) rfl (show kd T node < 2 ^ 31 by omega) (by decide), rf_r11, rf_a11 (show node < 61 by omega), r11, bI_0, nI_eq (show g < 2 ^ 31 by omega) (show sp.length < 2 ^ 31 by omega), fX11_packageOf_101, fX11_packageOf_102, fX11_packageOf_103, rf_p2 hs, vg_ret]
          have hsE : sE [2, 3, 36] S (upd S2 2 0) := (e2.trans (g2.trans sE.refl (ks' := [3, 36]) (by decide)) (by decide)).trans (sE.u (by decide)) (by decide)
          have hfE : fE [1, 4, 5] F F1 := e3.trans fE.refl (by decide)
          by_cases c1 : g = sp.length
          · rw [if_pos c1]
            by_cases c2 : kd T node = 2
            · rw [if_pos c2]
              cases c3 : pk T node with
              | true => rw [if_neg (by decide), if_pos ⟨c1, c2, rfl⟩]; exact ⟨_, _, rfl, hsE, hfE⟩
              | false => rw [if_pos rfl, if_neg (fun h => by have := h.2.2; cases this)]; exact ⟨_, _, rfl, hsE, hfE⟩
            · rw [if_neg c2, if_neg (fun h => c2 h.2.1)]; exact ⟨_, _, rfl, hsE, hfE⟩
          · rw [if_neg c1, if_neg (fun h => c1 h.1)]; exact ⟨_, _, rfl, hsE, hfE⟩
    · have hil : i < P.length := by omega
      have hc : P.getD i 0 < 128 := by rw [ls_get hil]; have := hPc _ (List.getElem_mem hil); omega
      rw [if_neg (by omega)]
      simp only [rf_r1, rf_r21, pg_o1, show (60 : Int32) = nI 60 from rfl, pk_mul, nI_add, rf_a21 (show 60 * q + i < 360 by omega), h21 i hil, rf_s1 hs (show i < 60 by omega) (li_nb _ hc), nI_1]
      obtain ⟨S', F', e1, e2, e3⟩ := ih (i + 1) S (rf_u F 1 i (nI (P.getD i 0))) (by omega) (by omega) hS2 (hR.e (fE.u (ks := [1]) (by decide)) (by decide)) (fun j hj => by rw [rf_u3 _ _ _ _ (by decide)]; exact h21 j hj) (fun j hj => by
        by_cases hji : j = i
        · subst hji; rw [rf_u1]
        · rw [rf_u2 _ _ _ hji]; exact hw j (by omega))
      exact ⟨S', F', e1, e2, (fE.u (by decide)).trans e3 (fun _ h => h)⟩
theorem rm_packageOf {S : Nat → Int32} {F : Nat → Nat → Int32} (hs : μ.2.2.1 ≤ m) (hq : q < 6) (hQ : RQ1 q Q F) (hR : RTr T F) (h60 : kd T 60 = 2 ∧ pk T 60 = true) : ∃ S' F', fX11_packageOf m (nI q) (rf_M μ m S F) = some (oI (pkg T Q.1), rf_M μ m S' F', 0, 0) ∧ sE [2, 3, 36] S S' ∧ fE [1, 4, 5] F F' := by
  obtain ⟨a1, a2, a3, a4, a5, -⟩ := hQ
  unfold fX11_packageOf
  simp only [rf_r16, pg_o1, rf_a16 hq, a1, rf_p2 hs]
  obtain ⟨S', F', e1, e2, e3⟩ := rm_packageOfL (T := T) hs hq a2 a4 a5 h60 vg_fuel 0 (upd S 2 (nI Q.1.length)) F (Nat.zero_le _) (by rw [ps_fuel]; omega) pk_us hR a3 (fun j h => absurd h (Nat.not_lt_zero _))
  exact ⟨S', F', e1, (sE.u (by decide)).trans e2 (fun _ h => h), e3⟩
/-- what an asked query finds: the answers' paths, the folders looked at -/
def sfind (T : sT) (Q : sQ) : List (List Nat) × List Nat := match pkg T Q.1 with
  | none => ([], [])
  | some r => (wkA T Q 7 (ch T r) [], r :: wkL T Q 7 (ch T r) [])
def frA (fr : Nat → Nat → Bool) (q : Nat) (lkd : List Nat) : Nat → Nat → Bool := fun q' k => if q' = q then !lkd.contains k else fr q' k
theorem pkg_ok {P : List Nat} {r : Nat} (hW : WT T) (h : pkg T P = some r) : r < 61 ∧ kd T r = 2 := by
  unfold pkg at h
  split at h
  · cases h; exact ⟨by decide, hW.1⟩
  · split at h
    · cases h
    · next sp _ =>
      split at h
      · next h2 => cases h; exact ⟨by have := (tg_le (T := T) (wd P sp) 60 (by decide)).1; omega, h2.2.1⟩
      · cases h
theorem rm_ask137 {T : sT} {lkd : List Nat} {nqq : Nat} {S : Nat → Int32} (hs : μ.2.2.1 ≤ m) (hq : q < nqq) (hq6 : nqq ≤ 6) : ∀ n i F (F0 : Nat → Nat → Int32), i ≤ 61 → 61 < i + n → RSn fr nqq T B S F0 → B < 2 ^ 30 → fE [24] F0 F → (∀ k, k < 61 → F 38 k = if k ∈ lkd then F 10 k else 0) → (∀ j, j < 366 → F 24 j = if 61 * q ≤ j ∧ j < 61 * q + i then F 38 (j - 61 * q) else F0 24 j) → ∃ F', fX11_ask_137 n m (nI q) (nI i) (rf_M μ m S F) = some (S 27, rf_M μ m S F', 0, 0) ∧ RSn (frA fr q lkd) nqq T B S F' ∧ fE [19, 23, 24] F0 F' := by
  intro n
  induction n with
  | zero => intro i F F0 h1 h2; omega
  | succ n ih =>
    intro i F F0 h1 h2 hSn hB hE h38 h24
    unfold fX11_ask_137
    by_cases hi : i = 61
    · subst hi
      rw [if_pos (by decide)]
      obtain ⟨ma, cg, ow, to, as, se, an, s1, s2, s3, s4, s5, s6, s7, s8⟩ := hSn
      have e0 : vp_nar .boolean 0 = 0 := by decide
      simp only [rf_r19, rf_i14, s2, pg_o1, rf_s19 hs (show q < 6 by omega), rf_r23, rf_s23 hs (show q < 6 by omega) e0, rf_i27, vg_ret]
      refine ⟨_, rfl, ?_, ((hE.trans fE.refl (by decide)).trans (fE.u (ks := [19, 23, 24]) (by decide)) (fun _ h => h)).trans (fE.u (by decide)) (fun _ h => h)⟩
      refine ⟨ma, cg, ow, to, fun q' => if q' = q then cg else as q', fun j => if 61 * q ≤ j ∧ j < 61 * q + 61 then (if (j - 61 * q) ∈ lkd then ow (j - 61 * q) else 0) else se j, fun q' => if q' = q then false else an q', s1, s2, s3, s4, fun k hk => ?_, fun q' hq' => ?_, fun j hj => ?_, fun q' hq' k hk hl => ?_⟩
      · simp (disch := decide) only [rf_u3, rf_u4, rf_u5, pk_us, pk_un]
        rw [hE 10 (by decide), hE 9 (by decide)]; exact s5 k hk
      · simp (disch := decide) only [rf_u3, rf_u4, rf_u5, pk_us, pk_un]
        rw [hE 19 (by decide), hE 23 (by decide)]
        obtain ⟨c1, c2, c3⟩ := s6 q' hq'
        by_cases hqq : q' = q
        · simp only [hqq, if_true]; exact ⟨trivial, Nat.le_refl _, rfl⟩
        · simp only [if_neg hqq]; exact ⟨c1, c2, c3⟩
      · simp (disch := decide) only [rf_u3, rf_u4, rf_u5, pk_us, pk_un]
        rw [h24 j hj]
        by_cases hjj : 61 * q ≤ j ∧ j < 61 * q + 61
        · simp only [if_pos hjj]
          rw [h38 (j - 61 * q) (by omega), hE 10 (by decide)]
          obtain ⟨c1, c2, c3, c4, c5⟩ := s5 (j - 61 * q) (by omega)
          by_cases hm : (j - 61 * q) ∈ lkd
          · simp only [if_pos hm]; exact ⟨c1, c3⟩
          · simp only [if_neg hm]; exact ⟨rfl, Nat.zero_le _⟩
        · simp only [if_neg hjj]; exact s7 j hj
      · obtain ⟨c1, c2, c3, c4, c5⟩ := s5 k hk
        unfold frA
        by_cases hqq : q' = q
        · subst hqq
          simp only [if_true, if_pos (show 61 * q' ≤ 61 * q' + k ∧ 61 * q' + k < 61 * q' + 61 by omega), show 61 * q' + k - 61 * q' = k by omega, Bool.false_or]
          rw [decide_eq_false (show ¬ cg < to k by omega), Bool.or_false]
          by_cases hm : k ∈ lkd
          · simp [hm]
          · have := c5 hl
            have h0 : ¬ (0 : Nat) = ow k := by omega
            simp [hm, h0]
        · have hno : ¬ (61 * q ≤ 61 * q' + k ∧ 61 * q' + k < 61 * q + 61) := by omega
          simp only [if_neg hqq, if_neg hno]
          exact s8 q' hq' k hk hl
    · have hil : i < 61 := by omega
      rw [show (60 : Int32) = nI 60 from rfl, if_neg (nI_nlt (by omega) (by decide))]
      simp only [rf_r24, rf_r38, pg_o1, rf_a38 hil, show (61 : Int32) = nI 61 from rfl, pk_mul, nI_add, rf_s24 hs (show 61 * q + i < 366 by omega), nI_1]
      refine ih (i + 1) (rf_u F 24 (61 * q + i) (F 38 i)) F0 (by omega) (by omega) hSn hB (hE.trans (fE.u (by decide)) (fun _ h => h)) (fun k hk => by simp (disch := decide) only [rf_u3, rf_u4, rf_u5, pk_us, pk_un]; exact h38 k hk) (fun j hj => ?_)
      simp (disch := decide) only [rf_u3, rf_u4, rf_u5, pk_us, pk_un]
      by_cases hji : j = 61 * q + i
      · rw [if_pos hji, if_pos (by omega), hji, show 61 * q + i - 61 * q = i by omega]
      · rw [if_neg hji, h24 j hj]
        by_cases hjj : 61 * q ≤ j ∧ j < 61 * q + i
        · rw [if_pos hjj, if_pos (by omega)]
        · rw [if_neg hjj, if_neg (by omega)]
/-- a query is asked -/
theorem rm_ask {t : List Nat} {qs : List sQ} {S : Nat → Int32} {F : Nat → Nat → Int32} (hs : μ.2.2.1 ≤ m) (hW : WT T) (hq : q < qs.length) (hB : B < 2 ^ 30) (hT : RT t S F) (hR : RTr T F) (hSn : RSn fr qs.length T B S F) (hQ : RQ qs S F) :
    ∃ S' F', fX11_ask m (nI q) (rf_M μ m S F) = some (nI (sfind T (qs.getD q ([], []))).1.length, rf_M μ m S' F', 0, 0) ∧ S' 0 = 0 ∧ RT t S' F' ∧ RTr T F' ∧ RSn (frA fr q (sfind T (qs.getD q ([], []))).2) qs.length T B S' F' ∧ RQ qs S' F' ∧ RA (sfind T (qs.getD q ([], []))).1 S' F' ∧ S' 26 = nI ((sfind T (qs.getD q ([], []))).2.filter (fr q)).length ∧ S' 25 = S 25 := by
  obtain ⟨t1, t2, t3, t4⟩ := id hT
  have hq6 : q < 6 := by have := hQ.2.1; omega
  have hQ1 := hQ.2.2.1 q hq
  have tc : ∀ i, i < t.length → t.getD i 0 < 128 := fun i hi => by have := hT.lt hi; omega
  -- the text is put aside
  have c1 : ∀ n i S1 F1, i ≤ t.length → t.length < i + n → S1 2 = nI t.length → (∀ j, j < t.length → F1 1 j = nI (t.getD j 0)) → (∀ j, j < i → F1 37 j = nI (t.getD j 0)) → ∃ F2, fX11_ask_26 n m (nI q) (nI t.length) (nI i) (rf_M μ m S1 F1) = vg_b (fX11_packageOf m (nI q) (rf_M μ m S1 F2)) (fun x1 μ2 => vg_o (vg_p μ2 m 14 2 (.int (nI t.length))) fun μ3 => fX11_ask_63 vg_fuel m (nI q) (nI t.length) x1 0 μ3) ∧ fE [37] F1 F2 ∧ ∀ j, j < t.length → F2 37 j = nI (t.getD j 0) := by
    intro n
    induction n with
    | zero => intro i S1 F1 h1 h2; omega
    | succ n ih =>
      intro i S1 F1 h1 h2 h3 h4 h5
      unfold fX11_ask_26
      simp only [nI_leI (show t.length < 2 ^ 31 by omega) (show i < 2 ^ 31 by omega)]
      by_cases hi : i = t.length
      · subst hi
        rw [if_pos (Nat.le_refl _), rf_cv]
        exact ⟨F1, rfl, fE.refl, h5⟩
      · have hil : i < t.length := by omega
        rw [if_neg (by omega)]
        simp only [rf_r37, rf_r1, pg_o1, rf_a1 (show i < 60 by omega), h4 i hil, rf_s37 hs (show i < 60 by omega) (li_nb _ (tc i hil)), nI_1]
        obtain ⟨F2, e1, e2, e3⟩ := ih (i + 1) S1 (rf_u F1 37 i (nI (t.getD i 0))) (by omega) (by omega) h3 (fun j hj => by simp (disch := decide) only [rf_u3, rf_u4, rf_u5, pk_us, pk_un]; exact h4 j hj) (fun j hj => by
          by_cases hji : j = i
          · subst hji; rw [rf_u1]
          · rw [rf_u2 _ _ _ hji]; exact h5 j (by omega))
        exact ⟨F2, e1, (fE.u (by decide)).trans e2 (fun _ h => h), e3⟩
  -- and put back
  have c2 : ∀ n i (x : Int32) S1 F1, i ≤ t.length → t.length < i + n → (∀ j, j < t.length → F1 37 j = nI (t.getD j 0)) → (∀ j, j < i → F1 1 j = nI (t.getD j 0)) → ∃ F2, fX11_ask_63 n m (nI q) (nI t.length) x (nI i) (rf_M μ m S1 F1) = fX11_ask_102 vg_fuel m (nI q) x 0 (rf_M μ m (upd (upd S1 27 0) 26 0) F2) ∧ fE [1] F1 F2 ∧ ∀ j, j < t.length → F2 1 j = nI (t.getD j 0) := by
    intro n
    induction n with
    | zero => intro i x S1 F1 h1 h2; omega
    | succ n ih =>
      intro i x S1 F1 h1 h2 h4 h5
      unfold fX11_ask_63
      simp only [nI_leI (show t.length < 2 ^ 31 by omega) (show i < 2 ^ 31 by omega)]
      by_cases hi : i = t.length
      · subst hi
        rw [if_pos (Nat.le_refl _)]
        simp only [rf_p27 hs, rf_p26 hs, pg_o1]
        exact ⟨F1, rfl, fE.refl, h5⟩
      · have hil : i < t.length := by omega
        rw [if_neg (by omega)]
        simp only [rf_r37, rf_r1, pg_o1, rf_a37 (show i < 60 by omega), h4 i hil, rf_s1 hs (show i < 60 by omega) (li_nb _ (tc i hil)), nI_1]
        obtain ⟨F2, e1, e2, e3⟩ := ih (i + 1) x S1 (rf_u F1 1 i (nI (t.getD i 0))) (by omega) (by omega) (fun j hj => by simp (disch := decide) only [rf_u3, rf_u4, rf_u5, pk_us, pk_un]; exact h4 j hj) (fun j hj => by
          by_cases hji : j = i
          · subst hji; rw [rf_u1]
          · rw [rf_u2 _ _ _ hji]; exact h5 j (by omega))
        exact ⟨F2, e1, (fE.u (by decide)).trans e2 (fun _ h => h), e3⟩
  -- now is cleared
  have c3 : ∀ n i (x : Int32) S1 F1, i ≤ 61 → 61 < i + n → (∀ j, j < i → F1 38 j = 0) → ∃ F2, fX11_ask_102 n m (nI q) x (nI i) (rf_M μ m S1 F1) = (if x = -1 then fX11_ask_134 m (nI q) (rf_M μ m S1 F2) else vg_b (fX11_walk m (nI q) x (rf_M μ m S1 F2)) fun _ μ19 => fX11_ask_134 m (nI q) μ19) ∧ fE [38] F1 F2 ∧ ∀ j, j < 61 → F2 38 j = 0 := by
    intro n
    induction n with
    | zero => intro i x S1 F1 h1 h2; omega
    | succ n ih =>
      intro i x S1 F1 h1 h2 h5
      unfold fX11_ask_102
      by_cases hi : i = 61
      · subst hi
        rw [if_pos (by decide)]
        simp only [rf_cv]
        exact ⟨F1, rfl, fE.refl, h5⟩
      · have hil : i < 61 := by omega
        rw [show (60 : Int32) = nI 60 from rfl, if_neg (nI_nlt (by omega) (by decide))]
        simp only [rf_r38, pg_o1, rf_s38 hs hil, nI_1]
        obtain ⟨F2, e1, e2, e3⟩ := ih (i + 1) x S1 (rf_u F1 38 i 0) (by omega) (by omega) (fun j hj => by
          by_cases hji : j = i
          · subst hji; rw [rf_u1]
          · rw [rf_u2 _ _ _ hji]; exact h5 j (by omega))
        exact ⟨F2, e1, (fE.u (by decide)).trans e2 (fun _ h => h), e3⟩
  unfold fX11_ask
  rw [rf_p0 hs, pg_o1, if_neg (nI_pos (by omega))]
  have q15 : upd S 0 0 15 = nI qs.length := by rw [pk_un (by decide)]; exact hQ.1
  have q2 : upd S 0 0 2 = nI t.length := by rw [pk_un (by decide)]; exact t1
  simp only [rf_i15, q15, pg_o1, nI_ltI (show q < 2 ^ 31 by omega) (show qs.length < 2 ^ 31 by have := hQ.2.1; omega), if_pos hq, rf_i2, q2]
  obtain ⟨F1, d1, d2, d3⟩ := c1 vg_fuel 0 (upd S 0 0) F (Nat.zero_le _) (by rw [ps_fuel]; omega) q2 t3 (fun j h => absurd h (Nat.not_lt_zero _))
  rw [nI_0] at d1
  rw [d1]
  have s0 : sE [0] S (upd S 0 0) := sE.u (by decide)
  have q0 : upd S 0 0 0 = 0 := pk_us
  generalize upd S 0 0 = S0 at *
  have hR1 : RTr T F1 := hR.e d2 (by decide)
  have hQ1' := hQ1.mono (d2 16 (by decide)) (d2 17 (by decide)) (d2 18 (by decide)) (d2 20 (by decide)) (d2 21 (by decide)) (d2 22 (by decide))
  obtain ⟨S2, F2, p1, p2, p3⟩ := rm_packageOf (μ := μ) (m := m) (S := S0) hs hq6 hQ1' hR1 ⟨hW.1, hW.2.1⟩
  rw [p1, pg_b0, rf_p2 hs, pg_o1]
  obtain ⟨F3, f1, f2, f3⟩ := c2 vg_fuel 0 (oI (pkg T (qs.getD q ([], [])).1)) (upd S2 2 (nI t.length)) F2 (Nat.zero_le _) (by rw [ps_fuel]; omega) (fun j hj => by rw [p3 37 (by decide)]; exact d3 j hj) (fun j h => absurd h (Nat.not_lt_zero _))
  rw [nI_0] at f1
  rw [f1]
  obtain ⟨F4, g1, g2, g3⟩ := c3 vg_fuel 0 (oI (pkg T (qs.getD q ([], [])).1)) (upd (upd (upd S2 2 (nI t.length)) 27 0) 26 0) F3 (by decide) (by rw [ps_fuel]; decide) (fun j h => absurd h (Nat.not_lt_zero _))
  rw [nI_0] at g1
  rw [g1]
  have hS4a : sE [0, 2, 3, 26, 27, 36] S (upd (upd (upd S2 2 (nI t.length)) 27 0) 26 0) := ((((s0.trans sE.refl (by decide)).trans (p2.trans sE.refl (by decide)) (fun _ h => h)).trans (sE.u (by decide)) (fun _ h => h)).trans (sE.u (by decide)) (fun _ h => h)).trans (sE.u (by decide)) (fun _ h => h)
  have h42 : (upd (upd (upd S2 2 (nI t.length)) 27 0) 26 0) 2 = nI t.length := by simp (disch := decide) only [pk_us, pk_un]
  have h427 : (upd (upd (upd S2 2 (nI t.length)) 27 0) 26 0) 27 = 0 := by simp (disch := decide) only [pk_us, pk_un]
  have h426 : (upd (upd (upd S2 2 (nI t.length)) 27 0) 26 0) 26 = 0 := by simp (disch := decide) only [pk_us, pk_un]
  have h40 : (upd (upd (upd S2 2 (nI t.length)) 27 0) 26 0) 0 = 0 := by simp (disch := decide) only [pk_un]; rw [p2 0 (by decide)]; exact q0
  generalize (upd (upd (upd S2 2 (nI t.length)) 27 0) 26 0) = S4 at *
  have hF4 : fE [1, 4, 5, 37, 38] F F4 := (((d2.trans fE.refl (by decide)).trans (p3.trans fE.refl (by decide)) (fun _ h => h)).trans (f2.trans fE.refl (by decide)) (fun _ h => h)).trans (g2.trans fE.refl (by decide)) (fun _ h => h)
  have hT4 : ∀ j, j < t.length → F4 1 j = nI (t.getD j 0) := fun j hj => by rw [g2 1 (by decide)]; exact f3 j hj
  have hR4 : RTr T F4 := hR.e hF4 (by decide)
  have hSn4 : RSn fr qs.length T B S4 F4 := hSn.e hS4a hF4 (by decide) (by decide)
  have hQ4 : RQ qs S4 F4 := hQ.e hS4a hF4 (by decide) (by decide)
  unfold sfind
  cases hp : pkg T (qs.getD q ([], [])).1 with
  | none =>
    rw [show oI none = -1 from rfl, if_pos rfl]
    obtain ⟨F5, a1, a2, a3⟩ := rm_ask137 (μ := μ) (m := m) (q := q) (fr := fr) (B := B) (T := T) (lkd := []) (S := S4) hs hq hQ.2.1 vg_fuel 0 F4 F4 (by decide) (by rw [ps_fuel]; decide) hSn4 hB fE.refl (fun k hk => by rw [g3 k hk]; simp) (fun j hj => by rw [if_neg (by omega)])
    rw [nI_0] at a1
    unfold fX11_ask_134
    rw [a1]
    refine ⟨S4, F5, by rw [h427]; rfl, h40, ⟨h42, t2, fun j hj => by rw [a3 1 (by decide)]; exact hT4 j hj, t4⟩, hR4.e a3 (by decide), a2, hQ4.e sE.refl (ss := []) a3 (by decide) (by decide), ⟨h427, Nat.zero_le _, fun i h => absurd h (Nat.not_lt_zero _)⟩, h426, hS4a 25 (by decide)⟩
  | some r =>
    obtain ⟨hr1, hr2⟩ := pkg_ok hW hp
    rw [show oI (some r) = nI r from rfl, if_neg (by rw [li_m1 (by omega)]; exact fun h => h)]
    obtain ⟨S5, F5, b1, b2, b3, b4, b5, b6⟩ := rm_walk (μ := μ) (m := m) (Q := qs.getD q ([], [])) hs hW hq hQ.2.1 hB ⟨hR4, hQ4.2.2.1 q hq, hSn4⟩ hr1 hr2 h427 h426 g3
    rw [b1, pg_b0]
    have hSn5 : RSn fr qs.length T B S5 F5 := hSn4.e b5 b6 (by decide) (by decide)
    obtain ⟨F6, a1, a2, a3⟩ := rm_ask137 (μ := μ) (m := m) (q := q) (fr := fr) (B := B) (T := T) (lkd := r :: wkL T (qs.getD q ([], [])) 7 (ch T r) []) (S := S5) hs hq hQ.2.1 vg_fuel 0 F5 F5 (by decide) (by rw [ps_fuel]; decide) hSn5 hB fE.refl (fun k hk => by rw [b4 k hk, b6 10 (by decide)]) (fun j hj => by rw [if_neg (by omega)])
    rw [nI_0] at a1
    unfold fX11_ask_134
    rw [a1]
    refine ⟨S5, F6, by rw [b2.1], by rw [b5 0 (by decide)]; exact h40, ⟨by rw [b5 2 (by decide)]; exact h42, t2, fun j hj => by rw [a3 1 (by decide), b6 1 (by decide)]; exact hT4 j hj, t4⟩, (hR4.e b6 (by decide)).e a3 (by decide), a2, (hQ4.e b5 b6 (by decide) (by decide)).e sE.refl (ss := []) a3 (by decide) (by decide), b2.e sE.refl (ss := []) a3 (by decide) (by decide), b3, by rw [b5 25 (by decide)]; exact hS4a 25 (by decide)⟩
end
