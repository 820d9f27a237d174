/-! The reference: file, folder, pack. -/
theorem tnum_le {T : sT} : ∀ n k, tnum T n k ≤ n := by
  intro n
  induction n with
  | zero => intro k; exact Nat.le_refl _
  | succ n ih => intro k; unfold tnum; have := ih (k + 1); split <;> omega
theorem tnum_free {T : sT} : ∀ n k, tnum T n k < n → ∃ c, fst1 (fun k => decide (kd T k = 0)) n k = some c := by
  intro n
  induction n with
  | zero => intro k h; omega
  | succ n ih =>
    intro k h
    unfold tnum at h
    unfold fst1
    by_cases hk : kd T k = 0
    · exact ⟨k, by rw [if_pos (by simpa using hk)]⟩
    · rw [if_pos (by omega)] at h
      rw [if_neg (by simpa using hk)]
      exact ih _ (by omega)
theorem tnum_eq {T T' : sT} : ∀ n k, (∀ j, k ≤ j → j < k + n → kd T' j = kd T j) → tnum T' n k = tnum T n k := by
  intro n
  induction n with
  | zero => intro k _; rfl
  | succ n ih => intro k h; unfold tnum; rw [h k (Nat.le_refl _) (by omega), ih (k + 1) (fun j h1 h2 => h j (by omega) (by omega))]
theorem tnum_up {T T' : sT} {c : Nat} (h0 : kd T c = 0) (h1 : 0 < kd T' c) : ∀ n k, k ≤ c → c < k + n → (∀ j, k ≤ j → j < k + n → j ≠ c → kd T' j = kd T j) → tnum T' n k = tnum T n k + 1 := by
  intro n
  induction n with
  | zero => intro k h2 h3; omega
  | succ n ih =>
    intro k h2 h3 h
    unfold tnum
    by_cases hk : k = c
    · subst hk
      rw [h0, if_pos h1, if_neg (by omega), tnum_eq n (k + 1) (fun j q1 q2 => h j (by omega) (by omega) (by omega))]; omega
    · rw [h k (Nat.le_refl _) (by omega) hk, ih (k + 1) (by omega) (by omega) (fun j q1 q2 q3 => h j (by omega) (by omega) q3)]; omega
def tput : sT → (Nat → Nat → Bool) → List (List Nat) → Nat → Nat → sT × (Nat → Nat → Bool)
  | T, fr, [], _, _ => (T, fr)
  | T, fr, w :: ws, node, what => match tfree T with
    | none => (T, fr)
    | some k => tput (tadd T node w (if ws = [] then what else 2) k) (frT (frT fr k) node) ws k what
theorem rm_putL {t : List Nat} {sp : List (Nat × Nat)} {nq what : Nat} {μ : vg_M} {m : Nat} {r : Int32} (hs : μ.2.2.1 ≤ m) (hq : nq ≤ 6) (hp : pt t = some sp) (hw1 : 0 < what) (hw2 : what ≤ 2) :
    ∀ n g T fr node S F B, RT t S F → RW sp S F → RTr T F → RSn fr nq T B S F → B + 2 * (sp.length - g) < 2 ^ 30 → S 36 = nI g → g ≤ sp.length → sp.length < g + n → node < 61 → kd T node ≠ 0 → tnum T 60 0 + (sp.length - g) ≤ 60 →
      ∃ S' F', fX11_put_97 n m (nI what) r (nI node) (rf_M μ m S F) = some (r, rf_M μ m S' F', 0, 0) ∧ RTr (tput T fr ((wd t sp).drop g) node what).1 F' ∧ RSn (tput T fr ((wd t sp).drop g) node what).2 nq (tput T fr ((wd t sp).drop g) node what).1 (B + 2 * (sp.length - g)) S' F' ∧ sE [2, 13, 14, 36] S S' ∧ S' 2 = 0 ∧ fE [6, 7, 8, 9, 10, 11, 12] F F' := by
  intro n
  induction n with
  | zero => intro g T fr node S F B _ _ _ _ _ _ h1 h2; omega
  | succ n ih =>
    intro g T fr node S F B hT hW hR hSn hB hg h1 h2 hnode hkd hnum
    obtain ⟨w1, w2, w3⟩ := id hW
    unfold fX11_put_97
    simp only [rf_i36, rf_i3, hg, w1, pg_o1]
    by_cases he : g = sp.length
    · rw [if_pos (nI_le (by omega) (by omega)), List.drop_of_length_le (by rw [wd_len]; omega)]
      unfold fX11_put_149
      refine ⟨upd S 2 0, F, by rw [rf_p2 hs]; rfl, hR, hSn.mono (by omega) (pk_un (by decide)) (pk_un (by decide)) rfl rfl rfl rfl rfl (fun _ _ h => h), sE.u (by decide), pk_us, fE.refl⟩
    · have hgl : g < sp.length := by omega
      rw [if_neg (nI_ge hgl (by omega))]
      obtain ⟨k, hk⟩ := tnum_free (T := T) 60 0 (by omega)
      have hword := hW.word hp hgl
      have hdr : (wd t sp).drop g = (wd t sp).getD g [] :: (wd t sp).drop (g + 1) := by
        rw [wd_drop hgl]; congr 1; simp [wd, List.getD_eq_getElem?_getD, List.getElem?_eq_getElem hgl]
      have hlast : (wd t sp).drop (g + 1) = [] ↔ sp.length ≤ g + 1 := by rw [List.drop_eq_nil_iff, wd_len]
      rw [hdr]
      unfold tput
      have hk' : tfree T = some k := hk
      rw [hk']
      -- one making
      have one : ∀ wh, wh ≤ 2 → 0 < wh → wh = (if (wd t sp).drop (g + 1) = [] then what else 2) → ∃ S' F', fX11_put_132 (fX11_put_97 n) m (nI what) r m (nI node) (nI g) (nI wh) (rf_M μ m S F) = some (r, rf_M μ m S' F', 0, 0) ∧ RTr (tput (tadd T node ((wd t sp).getD g []) wh k) (frT (frT fr k) node) ((wd t sp).drop (g + 1)) k what).1 F' ∧ RSn (tput (tadd T node ((wd t sp).getD g []) wh k) (frT (frT fr k) node) ((wd t sp).drop (g + 1)) k what).2 nq (tput (tadd T node ((wd t sp).getD g []) wh k) (frT (frT fr k) node) ((wd t sp).drop (g + 1)) k what).1 (B + 2 * (sp.length - g)) S' F' ∧ sE [2, 13, 14, 36] S S' ∧ S' 2 = 0 ∧ fE [6, 7, 8, 9, 10, 11, 12] F F' := by
        intro wh hwa hwb _
        obtain ⟨S1, F1, e1, e2, e3, e4, e5⟩ := rm_add (what := wh) hs hq (by omega) hnode (show g < 6 by omega) hkd hwa hwb hk' hT hword hR hSn
        unfold fX11_put_132
        obtain ⟨q1, q2, q3, q4⟩ := fst1_some _ _ _ hk
        have hk0 : kd T k = 0 := by simpa using q3
        have hne : node ≠ k := fun h => hkd (h ▸ hk0)
        have hkk : kd (tadd T node ((wd t sp).getD g []) wh k) k = wh := by unfold kd; rw [tadd_k hne]
        have s36 : S1 36 = nI g := by rw [e4 36 (by decide)]; exact hg
        simp only [rf_cv, e1, pg_b0, rf_i36, s36, pg_o1, nI_1, rf_p36 hs]
        obtain ⟨S', F', f1, f2, f3, f4, f5, f6⟩ := ih (g + 1) (tadd T node ((wd t sp).getD g []) wh k) (frT (frT fr k) node) k (upd S1 36 (nI (g + 1))) F1 (B + 2) (hT.mono (by rw [pk_un (by decide), e4 2 (by decide)]) (e5 1 (by decide))) (hW.mono (by rw [pk_un (by decide), e4 3 (by decide)]) (e5 4 (by decide)) (e5 5 (by decide))) e2 (e3.mono (Nat.le_refl _) (pk_un (by decide)) (pk_un (by decide)) rfl rfl rfl rfl rfl (fun _ _ h => h)) (by omega) pk_us (by omega) (by omega) (by omega) (by omega) (by
            rw [tnum_up hk0 (by omega) 60 0 (by omega) (by omega) (fun j _ _ hj => tadd_kd hj)]; omega)
        exact ⟨S', F', f1, f2, f3.mono (by omega) rfl rfl rfl rfl rfl rfl rfl (fun _ _ h => h), (e4.trans (sE.u (ks := [2, 13, 14, 36]) (by decide)) (by decide)).trans f4 (fun _ h => h), f5, e5.trans f6 (fun _ h => h)⟩
      simp only [nI_1]
      by_cases hl : sp.length ≤ g + 1
      · rw [if_pos (nI_le hl (by omega)), if_pos (hlast.mpr hl)]
        exact one what hw2 hw1 (by rw [if_pos (hlast.mpr hl)])
      · rw [if_neg (nI_ge (by omega) (by omega)), if_neg (fun h => hl (hlast.mp h))]
        exact one 2 (by decide) (by decide) (by rw [if_neg (fun h => hl (hlast.mp h))])
theorem rm_takes {t : List Nat} {μ : vg_M} {m : Nat} {S : Nat → Int32} {F : Nat → Nat → Int32} (hs : μ.2.2.1 ≤ m) (hT : RT t S F) :
    ∃ S' F', fX11_takes m (rf_M μ m S F) = some (bI (pt t).isSome, rf_M μ m S' F', 0, 0) ∧ sE [0, 3] S S' ∧ fE [4, 5] F F' ∧ (S' 0 = if (pt t).isSome then 0 else 1) ∧ ∀ sp, pt t = some sp → RW sp S' F' := by
  obtain ⟨S1, F1, e1, e2, e3, e4⟩ := rm_isPath hs hT
  unfold fX11_takes
  rw [rf_cv, e1, pg_b0]
  simp only [fX11_takes_13, rf_p0 hs, pg_o1, rf_i0, pk_us, fX11_takes_28, bI_0]
  cases h : (pt t).isSome with
  | true =>
    refine ⟨upd S1 0 0, F1, rfl, e2.trans (sE.u (by decide)) (by decide), e3, pk_us, fun sp hsp => (e4 sp hsp).mono (pk_un (by decide)) rfl rfl⟩
  | false =>
    refine ⟨upd S1 0 1, F1, rfl, e2.trans (sE.u (by decide)) (by decide), e3, pk_us, fun sp hsp => by rw [hsp] at h; cases h⟩
def sbad (T : sT) (node g n what : Nat) : Bool := if g = n then decide (kd T node ≠ what) else (decide (kd T node ≠ 2) || decide (60 < tnum T 60 0 + (n - g)))
/-- file and folder: what is thrown, how many are new, the tree and who counts behind it -/
def sput (t : List Nat) (T : sT) (fr : Nat → Nat → Bool) (what : Nat) : Nat × Nat × sT × (Nat → Nat → Bool) := match pt t with
  | none => (1, 0, T, fr)
  | some sp => if sbad T (tg T (wd t sp) 60).1 (tg T (wd t sp) 60).2 sp.length what = true then (2, 0, T, fr) else
    (0, sp.length - (tg T (wd t sp) 60).2, (tput T fr ((wd t sp).drop (tg T (wd t sp) 60).2) (tg T (wd t sp) 60).1 what).1, (tput T fr ((wd t sp).drop (tg T (wd t sp) 60).2) (tg T (wd t sp) 60).1 what).2)
theorem tg_le {T : sT} : ∀ ws k, k ≤ 60 → (tg T ws k).1 ≤ 60 ∧ (tg T ws k).2 ≤ ws.length := by
  intro ws
  induction ws with
  | nil => intro k hk; exact ⟨hk, Nat.le_refl _⟩
  | cons w ws ih =>
    intro k hk
    unfold tg
    split
    · split
      · exact ⟨hk, Nat.zero_le _⟩
      · next c hc => have := ih c (by have := (tc_some hc).1; omega); exact ⟨this.1, by simp only [List.length_cons]; omega⟩
    · exact ⟨hk, Nat.zero_le _⟩
theorem tg_kd {T : sT} : ∀ ws k, 0 < kd T k → 0 < kd T (tg T ws k).1 := by
  intro ws
  induction ws with
  | nil => intro k hk; exact hk
  | cons w ws ih =>
    intro k hk
    unfold tg
    split
    · split
      · exact hk
      · next c hc => exact ih c (tc_some hc).2.1
    · exact hk
theorem rm_put {t : List Nat} {T : sT} {fr : Nat → Nat → Bool} {nq what B : Nat} {μ : vg_M} {m : Nat} {S : Nat → Int32} {F : Nat → Nat → Int32} (hs : μ.2.2.1 ≤ m) (hq : nq ≤ 6) (hw1 : 0 < what) (hw2 : what ≤ 2) (hT : RT t S F) (hR : RTr T F) (hSn : RSn fr nq T B S F) (hB : B + 12 < 2 ^ 30) (h60 : 0 < kd T 60) :
    ∃ S' F', fX11_put m (nI what) (rf_M μ m S F) = some (nI (sput t T fr what).2.1, rf_M μ m S' F', 0, 0) ∧ S' 0 = nI (sput t T fr what).1 ∧ RT [] S' F' ∧ RTr (sput t T fr what).2.2.1 F' ∧ RSn (sput t T fr what).2.2.2 nq (sput t T fr what).2.2.1 (B + 12) S' F' ∧ sE [0, 2, 3, 13, 14, 36] S S' ∧ fE [4, 5, 6, 7, 8, 9, 10, 11, 12] F F' := by
  obtain ⟨S1, F1, e1, e2, e3, e4, e5⟩ := rm_takes hs hT
  have rt0 : ∀ (S' : Nat → Int32) (F' : Nat → Nat → Int32), S' 2 = 0 → RT [] S' F' := fun S' F' h => ⟨h, by decide, fun i hi => absurd hi (Nat.not_lt_zero _), fun c hc => by cases hc⟩
  unfold fX11_put
  rw [rf_cv, e1, pg_b0]
  unfold sput
  cases hp : pt t with
  | none =>
    rw [hp] at e4
    simp only [Option.isSome_none, bI_f, if_true, fX11_put_149, rf_p2 hs, pg_o1, vg_ret]
    exact ⟨upd S1 2 0, F1, rfl, by rw [pk_un (by decide)]; exact e4, rt0 _ _ pk_us, hR.e e3 (by decide), hSn.mono (by omega) (by rw [pk_un (by decide)]; exact e2 _ (by decide)) (by rw [pk_un (by decide)]; exact e2 _ (by decide)) (e3 _ (by decide)) (e3 _ (by decide)) (e3 _ (by decide)) (e3 _ (by decide)) (e3 _ (by decide)) (fun _ _ h => h), e2.trans (sE.u (by decide)) (by decide), e3.trans fE.refl (by decide)⟩
  | some sp =>
    rw [hp] at e4
    have hW1 := e5 sp hp
    have hT1 : RT t S1 F1 := hT.mono (e2 _ (by decide)) (e3 _ (by decide))
    have hR1 : RTr T F1 := hR.e e3 (by decide)
    have hSn1 : RSn fr nq T B S1 F1 := hSn.e e2 e3 (by decide) (by decide)
    obtain ⟨S2, g1, g2, g3⟩ := rm_go hs hp hR1 hT1 hW1
    obtain ⟨q1, q2, q3⟩ := pt_ok hp
    have l1 := tg_le (T := T) (wd t sp) 60 (by decide)
    rw [wd_len] at l1
    have l2 := tg_kd (T := T) (wd t sp) 60 h60
    simp only [Option.isSome_some, bI_t, if_neg (show ¬ (1 : Int32) = 0 by decide), rf_cv, g1, pg_b0, rf_i36, rf_i3, g3, pg_o1]
    generalize (tg T (wd t sp) 60).1 = node at *
    generalize (tg T (wd t sp) 60).2 = g at *
    have w1 : S2 3 = nI sp.length := by rw [g2 _ (by decide)]; exact hW1.1
    obtain ⟨r6, -⟩ := hR1 node (by omega)
    have b1 := (hR1 node (by omega)).2.2.2.2.1
    have hT2 : RT t S2 F1 := hT1.mono (g2 _ (by decide)) rfl
    have hSn2 : RSn fr nq T B S2 F1 := hSn1.e g2 fE.refl (ks := []) (by decide) (by decide)
    have hW2 : RW sp S2 F1 := hW1.mono (g2 _ (by decide)) rfl rfl
    have two : ∃ S' F', fX11_put_79 m 0 (rf_M μ m S2 F1) = some (nI 0, rf_M μ m S' F', 0, 0) ∧ S' 0 = nI 2 ∧ RT [] S' F' ∧ RTr T F' ∧ RSn fr nq T (B + 12) S' F' ∧ sE [0, 2, 3, 13, 14, 36] S S' ∧ fE [4, 5, 6, 7, 8, 9, 10, 11, 12] F F' := by
      refine ⟨upd (upd S2 0 2) 2 0, F1, by simp only [fX11_put_79, fX11_put_149, rf_p0 hs, rf_p2 hs, pg_o1, vg_ret]; rfl, by rw [pk_un (by decide), pk_us]; rfl, rt0 _ _ pk_us, hR1, hSn2.mono (by omega) (by rw [pk_un (by decide), pk_un (by decide)]) (by rw [pk_un (by decide), pk_un (by decide)]) rfl rfl rfl rfl rfl (fun _ _ h => h), ?_, e3.trans fE.refl (by decide)⟩
      exact ((e2.trans (g2.trans sE.refl (ks' := [0, 3, 36]) (by decide)) (by decide)).trans (sE.u (ks := [0, 3, 36]) (by decide)) (fun _ h => h)).trans (sE.u (by decide)) (by decide)
    have go : kd T node ≠ 0 → tnum T 60 0 + (sp.length - g) ≤ 60 → ∃ S' F', fX11_put_87 m (nI what) (nI node) (rf_M μ m S2 F1) = some (nI (sp.length - g), rf_M μ m S' F', 0, 0) ∧ S' 0 = nI 0 ∧ RT [] S' F' ∧ RTr (tput T fr ((wd t sp).drop g) node what).1 F' ∧ RSn (tput T fr ((wd t sp).drop g) node what).2 nq (tput T fr ((wd t sp).drop g) node what).1 (B + 12) S' F' ∧ sE [0, 2, 3, 13, 14, 36] S S' ∧ fE [4, 5, 6, 7, 8, 9, 10, 11, 12] F F' := by
      intro hk hn
      obtain ⟨S', F', f1, f2, f3, f4, f5, f6⟩ := rm_putL (r := nI (sp.length - g)) hs hq hp hw1 hw2 vg_fuel g T fr node S2 F1 B hT2 hW2 hR1 hSn2 (by omega) g3 (by omega) (by rw [ps_fuel]; omega) (by omega) hk hn
      refine ⟨S', F', ?_, ?_, rt0 _ _ f5, f2, f3.mono (by omega) rfl rfl rfl rfl rfl rfl rfl (fun _ _ h => h), ?_, e3.trans (f6.trans fE.refl (by decide)) (by decide)⟩
      · unfold fX11_put_87
        simp only [rf_i3, rf_i36, w1, g3, pg_o1, pk_sub l1.2]
        exact f1
      · rw [f4 0 (by decide), g2 0 (by decide)]; exact e4
      · exact (e2.trans (g2.trans sE.refl (ks' := [0, 3, 36]) (by decide)) (by decide)).trans (f4.trans sE.refl (by decide)) (by decide)
    simp only [w1, nI_eq (show g < 2 ^ 31 by omega) (show sp.length < 2 ^ 31 by omega)]
    by_cases hg : g = sp.length
    · rw [if_pos hg]
      unfold fX11_put_30
      rw [if_neg (show ¬ (1 : Int32) = 0 by decide)]
      simp only [rf_r6, pg_o1, rf_a6 (show node < 61 by omega), r6, nI_eq (show kd T node < 2 ^ 31 by omega) (show what < 2 ^ 31 by omega)]
      by_cases hkw : kd T node = what
      · rw [if_pos hkw, if_neg (by unfold sbad; rw [if_pos hg]; simp [hkw])]
        exact go (by omega) (by have := tnum_le (T := T) 60 0; omega)
      · rw [if_neg hkw, if_pos (by unfold sbad; rw [if_pos hg]; simp [hkw])]
        exact two
    · rw [if_neg hg]
      unfold fX11_put_30
      rw [if_pos rfl]
      simp only [rf_r6, pg_o1, rf_a6 (show node < 61 by omega), r6, li_c 2 (c := 2) rfl (show kd T node < 2 ^ 31 by omega) (by decide), rf_cv, rm_many hR1, pg_b0, rf_i3, rf_i36, w1, g3]
      by_cases hk2 : kd T node = 2
      · rw [if_pos hk2]
        have hl := tnum_le (T := T) 60 0
        rw [nI_add, pk_sub (by omega), show (60 : Int32) = nI 60 from rfl]
        by_cases hm : tnum T 60 0 + (sp.length - g) ≤ 60
        · rw [if_pos (nI_le (by omega) (by decide)), if_neg (by unfold sbad; rw [if_neg hg]; simp [hk2]; omega)]
          exact go (by omega) hm
        · rw [if_neg (nI_ge (by omega) (by omega)), if_pos (by unfold sbad; rw [if_neg hg]; simp; omega)]
          exact two
      · rw [if_neg hk2, if_pos (by unfold sbad; rw [if_neg hg]; simp [hk2])]
        exact two
def tpk (T : sT) (k : Nat) (on : Bool) : sT := va_up T k (kd T k, pa T k, nm T k, on, ch T k, dp T k)
/-- pack: what is thrown, the tree and who counts behind it -/
def spack (t : List Nat) (T : sT) (fr : Nat → Nat → Bool) (on : Bool) : Nat × sT × (Nat → Nat → Bool) := match pt t with
  | none => (1, T, fr)
  | some sp => if (tg T (wd t sp) 60).2 < sp.length ∨ kd T (tg T (wd t sp) 60).1 ≠ 2 ∨ pk T (tg T (wd t sp) 60).1 = on then (2, T, fr) else (0, tpk T (tg T (wd t sp) 60).1 on, frT fr (pa T (tg T (wd t sp) 60).1))
theorem bI_inj (a b : Bool) : (bI a = bI b) ↔ a = b := by cases a <;> cases b <;> decide
theorem rm_pack {t : List Nat} {T : sT} {fr : Nat → Nat → Bool} {nq B : Nat} {on : Bool} {μ : vg_M} {m : Nat} {S : Nat → Int32} {F : Nat → Nat → Int32} (hs : μ.2.2.1 ≤ m) (hq : nq ≤ 6) (hT : RT t S F) (hR : RTr T F) (hSn : RSn fr nq T B S F) (hB : B + 12 < 2 ^ 30) :
    ∃ S' F', fX11_pack m (bI on) (rf_M μ m S F) = some ((), rf_M μ m S' F', 0, 0) ∧ S' 0 = nI (spack t T fr on).1 ∧ RT [] S' F' ∧ RTr (spack t T fr on).2.1 F' ∧ RSn (spack t T fr on).2.2 nq (spack t T fr on).2.1 (B + 12) S' F' ∧ sE [0, 2, 3, 13, 14, 36] S S' ∧ fE [4, 5, 9, 11] F F' := by
  obtain ⟨S1, F1, e1, e2, e3, e4, e5⟩ := rm_takes hs hT
  have rt0 : ∀ (S' : Nat → Int32) (F' : Nat → Nat → Int32), S' 2 = 0 → RT [] S' F' := fun S' F' h => ⟨h, by decide, fun i hi => absurd hi (Nat.not_lt_zero _), fun c hc => by cases hc⟩
  unfold fX11_pack
  rw [rf_cv, e1, pg_b0]
  unfold spack
  cases hp : pt t with
  | none =>
    rw [hp] at e4
    simp only [Option.isSome_none, bI_f, if_true, fX11_pack_68, rf_p2 hs, pg_o1, vg_ret]
    exact ⟨upd S1 2 0, F1, rfl, by rw [pk_un (by decide)]; exact e4, rt0 _ _ pk_us, hR.e e3 (by decide), hSn.mono (by omega) (by rw [pk_un (by decide)]; exact e2 _ (by decide)) (by rw [pk_un (by decide)]; exact e2 _ (by decide)) (e3 _ (by decide)) (e3 _ (by decide)) (e3 _ (by decide)) (e3 _ (by decide)) (e3 _ (by decide)) (fun _ _ h => h), e2.trans (sE.u (by decide)) (by decide), e3.trans fE.refl (by decide)⟩
  | some sp =>
    rw [hp] at e4
    have hW1 := e5 sp hp
    have hT1 : RT t S1 F1 := hT.mono (e2 _ (by decide)) (e3 _ (by decide))
    have hR1 : RTr T F1 := hR.e e3 (by decide)
    have hSn1 : RSn fr nq T B S1 F1 := hSn.e e2 e3 (by decide) (by decide)
    obtain ⟨S2, g1, g2, g3⟩ := rm_go hs hp hR1 hT1 hW1
    obtain ⟨q1, q2, q3⟩ := pt_ok hp
    have l1 := tg_le (T := T) (wd t sp) 60 (by decide)
    rw [wd_len] at l1
    simp only [Option.isSome_some, bI_t, if_neg (show ¬ (1 : Int32) = 0 by decide), rf_cv, g1, pg_b0, rf_i36, rf_i3, g3, pg_o1]
    generalize (tg T (wd t sp) 60).1 = node at *
    generalize (tg T (wd t sp) 60).2 = g at *
    have w1 : S2 3 = nI sp.length := by rw [g2 _ (by decide)]; exact hW1.1
    obtain ⟨r6, r7, r8, r11, b1, b2, b3, r12, b4⟩ := hR1 node (by omega)
    have hSn2 : RSn fr nq T B S2 F1 := hSn1.e g2 fE.refl (ks := []) (by decide) (by decide)
    have two : ∃ S' F', fX11_pack_43 m (rf_M μ m S2 F1) = some ((), rf_M μ m S' F', 0, 0) ∧ S' 0 = nI 2 ∧ RT [] S' F' ∧ RTr T F' ∧ RSn fr nq T (B + 12) S' F' ∧ sE [0, 2, 3, 13, 14, 36] S S' ∧ fE [4, 5, 9, 11] F F' := by
      refine ⟨upd (upd S2 0 2) 2 0, F1, by simp only [fX11_pack_43, fX11_pack_68, rf_p0 hs, rf_p2 hs, pg_o1, vg_ret], by rw [pk_un (by decide), pk_us]; rfl, rt0 _ _ pk_us, hR1, hSn2.mono (by omega) (by rw [pk_un (by decide), pk_un (by decide)]) (by rw [pk_un (by decide), pk_un (by decide)]) rfl rfl rfl rfl rfl (fun _ _ h => h), ?_, e3.trans fE.refl (by decide)⟩
      exact ((e2.trans (g2.trans sE.refl (ks' := [0, 3, 36]) (by decide)) (by decide)).trans (sE.u (ks := [0, 3, 36]) (by decide)) (fun _ h => h)).trans (sE.u (by decide)) (by decide)
    simp only [w1, nI_ltI (show g < 2 ^ 31 by omega) (show sp.length < 2 ^ 31 by omega), rf_r6, rf_a6 (show node < 61 by omega), r6, pg_o1, li_c 2 (c := 2) rfl (show kd T node < 2 ^ 31 by omega) (by decide), rf_r11, rf_a11 (show node < 61 by omega), r11, bI_inj]
    by_cases c1 : g < sp.length
    · rw [if_pos c1, if_pos (Or.inl c1)]; exact two
    · rw [if_neg c1]
      by_cases c2 : kd T node = 2
      · rw [if_pos c2]
        by_cases c3 : pk T node = on
        · rw [if_pos c3, if_pos (Or.inr (Or.inr c3))]; exact two
        · rw [if_neg c3, if_neg (by rintro (h | h | h); exact c1 h; exact h c2; exact c3 h)]
          rw [rf_s11 hs (show node < 61 by omega) (bI_n on)]
          have r7' : rf_u F1 11 node (bI on) 7 node = nI (pa T node) := by rw [rf_u3 _ _ _ _ (by decide)]; exact r7
          simp only [pg_o1, rf_r7, rf_a7 (show node < 61 by omega), r7']
          have tkd : ∀ k, kd (tpk T node on) k = kd T k := fun k => by
            unfold tpk kd
            by_cases h : k = node
            · subst h; rw [va_up_self]
            · rw [va_up_ne _ _ h]
          have hSn3 : RSn fr nq (tpk T node on) B S2 (rf_u F1 11 node (bI on)) := hSn2.mono (Nat.le_refl _) rfl rfl (rf_u4 _ _ _ (by decide)) (rf_u4 _ _ _ (by decide)) (rf_u4 _ _ _ (by decide)) (rf_u4 _ _ _ (by decide)) (rf_u4 _ _ _ (by decide)) (fun k _ h => by rw [tkd] at h; exact h)
          obtain ⟨S', F', f1, f2, f3, f4⟩ := rm_touch (node := pa T node) hs hq hSn3 (by omega) (by omega)
          rw [f1, rf_cv, pg_b0]
          refine ⟨upd S' 2 0, F', by simp only [fX11_pack_68, rf_p2 hs, pg_o1, vg_ret], ?_, rt0 _ _ pk_us, ?_, f2.mono (by omega) (pk_un (by decide)) (pk_un (by decide)) rfl rfl rfl rfl rfl (fun _ _ h => h), ?_, ?_⟩
          · rw [pk_un (by decide), f3 0 (by decide), g2 0 (by decide)]; exact e4
          · have hR3 : RTr (tpk T node on) (rf_u F1 11 node (bI on)) := by
              intro k hk
              obtain ⟨r6, r7, r8, r11, b1, b2, b3, r12, b4⟩ := hR1 k hk
              simp (disch := decide) only [rf_u3, rf_u4, rf_u5, pk_us, pk_un]
              unfold kd pa nm pk tpk
              by_cases h : k = node
              · subst h; rw [va_up_self, if_pos rfl]; exact ⟨r6, r7, r8, rfl, b1, b2, b3, r12, b4⟩
              · rw [va_up_ne _ _ h, if_neg h]; exact ⟨r6, r7, r8, r11, b1, b2, b3, r12, b4⟩
            exact hR3.e f4 (by decide)
          · exact (((e2.trans (g2.trans sE.refl (ks' := [0, 3, 36]) (by decide)) (by decide)).trans (f3.trans sE.refl (ks' := [0, 3, 14, 36]) (by decide)) (by decide))).trans (sE.u (by decide)) (by decide)
          · exact (e3.trans (fE.u (ks := [4, 5, 11]) (by decide)) (by decide)).trans (f4.trans fE.refl (by decide)) (by decide)
      · rw [if_neg c2, if_pos (Or.inr (Or.inl c2))]; exact two
