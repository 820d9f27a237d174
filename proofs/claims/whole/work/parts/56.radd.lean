/-! The reference: making nodes. -/
def nlt : List Nat → List Nat → Bool
  | _, [] => false
  | [], _ :: _ => true
  | a :: as, b :: bs => decide (a < b) || (decide (a = b) && nlt as bs)
/-- a child put where its name belongs -/
def nins (T : sT) (L : List Nat) (k : Nat) (w : List Nat) : List Nat := L.takeWhile (fun c => nlt (nm T c) w) ++ k :: L.dropWhile (fun c => nlt (nm T c) w)
def tadd (T : sT) (node : Nat) (w : List Nat) (what k : Nat) : sT := va_up (va_up T k (what, node, w, false, [], dp T node + 1)) node (kd T node, pa T node, nm T node, pk T node, nins T (ch T node) k w, dp T node)
def frT (fr : Nat → Nat → Bool) (node : Nat) : Nat → Nat → Bool := fun q k => decide (k = node) || fr q k
section
variable {T : sT} {node k what : Nat} {w : List Nat} (hne : node ≠ k)
theorem tadd_new : tadd T node w what k node = (kd T node, pa T node, nm T node, pk T node, nins T (ch T node) k w, dp T node) := va_up_self _ _ _
theorem tadd_k (hne : node ≠ k) : tadd T node w what k k = (what, node, w, false, [], dp T node + 1) := by unfold tadd; rw [va_up_ne _ _ (Ne.symm hne), va_up_self]
theorem tadd_o {j : Nat} (h1 : j ≠ node) (h2 : j ≠ k) : tadd T node w what k j = T j := by unfold tadd; rw [va_up_ne _ _ h1, va_up_ne _ _ h2]
theorem tadd_kd {j : Nat} (h2 : j ≠ k) : kd (tadd T node w what k) j = kd T j := by
  unfold kd
  by_cases h : j = node
  · subst h; rw [tadd_new]; rfl
  · rw [tadd_o h h2]
theorem tadd_pa {j : Nat} (h2 : j ≠ k) : pa (tadd T node w what k) j = pa T j := by
  unfold pa
  by_cases h : j = node
  · subst h; rw [tadd_new]; rfl
  · rw [tadd_o h h2]
theorem tadd_nm {j : Nat} (h2 : j ≠ k) : nm (tadd T node w what k) j = nm T j := by
  unfold nm
  by_cases h : j = node
  · subst h; rw [tadd_new]; rfl
  · rw [tadd_o h h2]
theorem tadd_pk {j : Nat} (h2 : j ≠ k) : pk (tadd T node w what k) j = pk T j := by
  unfold pk
  by_cases h : j = node
  · subst h; rw [tadd_new]; rfl
  · rw [tadd_o h h2]
theorem tadd_dp {j : Nat} (h2 : j ≠ k) : dp (tadd T node w what k) j = dp T j := by
  unfold dp
  by_cases h : j = node
  · subst h; rw [tadd_new]; rfl
  · rw [tadd_o h h2]
end
/-- who has been looked at, and since when: fr q k: slot k counts when q is asked next -/
def RSn (fr : Nat → Nat → Bool) (nq : Nat) (T : sT) (B : Nat) (S : Nat → Int32) (F : Nat → Nat → Int32) : Prop := ∃ (ma cg : Nat) (ow to as se : Nat → Nat) (an : Nat → Bool), S 13 = nI ma ∧ S 14 = nI cg ∧ ma ≤ B ∧ cg ≤ B ∧ (∀ k, k < 61 → F 10 k = nI (ow k) ∧ F 9 k = nI (to k) ∧ ow k ≤ ma ∧ to k ≤ cg ∧ (0 < kd T k → 1 ≤ ow k)) ∧ (∀ q, q < 6 → F 19 q = nI (as q) ∧ as q ≤ cg ∧ F 23 q = bI (an q)) ∧ (∀ j, j < 366 → F 24 j = nI (se j) ∧ se j ≤ ma) ∧ ∀ q, q < nq → ∀ k, k < 61 → 0 < kd T k → fr q k = (an q || decide (se (61 * q + k) ≠ ow k) || decide (as q < to k))
theorem RSn.mono {fr : Nat → Nat → Bool} {nq : Nat} {T T' : sT} {B B' : Nat} {S S' : Nat → Int32} {F F' : Nat → Nat → Int32} (h : RSn fr nq T B S F) (hB : B ≤ B') (s13 : S' 13 = S 13) (s14 : S' 14 = S 14) (f9 : F' 9 = F 9) (f10 : F' 10 = F 10) (f19 : F' 19 = F 19) (f23 : F' 23 = F 23) (f24 : F' 24 = F 24) (hT : ∀ k, k < 61 → 0 < kd T' k → 0 < kd T k) : RSn fr nq T' B' S' F' := by
  obtain ⟨ma, cg, ow, to, as, se, an, h1, h2, h3, h4, h5, h6, h7, h8⟩ := h
  refine ⟨ma, cg, ow, to, as, se, an, s13.trans h1, s14.trans h2, by omega, by omega, fun k hk => ?_, fun q hq => ?_, fun j hj => ?_, fun q hq k hk hl => h8 q hq k hk (hT k hk hl)⟩
  · rw [f9, f10]
    obtain ⟨a1, a2, a3, a4, a5⟩ := h5 k hk
    exact ⟨a1, a2, a3, a4, fun h => a5 (hT k hk h)⟩
  · rw [f19, f23]; exact h6 q hq
  · rw [f24]; exact h7 j hj
theorem RSn.e {fr : Nat → Nat → Bool} {nq : Nat} {T : sT} {B : Nat} {S S' : Nat → Int32} {F F' : Nat → Nat → Int32} {ss ks : List Nat} (h : RSn fr nq T B S F) (hs : sE ss S S') (hf : fE ks F F') (h1 : 13 ∉ ss ∧ 14 ∉ ss) (h2 : 9 ∉ ks ∧ 10 ∉ ks ∧ 19 ∉ ks ∧ 23 ∉ ks ∧ 24 ∉ ks) : RSn fr nq T B S' F' :=
  h.mono (Nat.le_refl _) (hs _ h1.1) (hs _ h1.2) (hf _ h2.1) (hf _ h2.2.1) (hf _ h2.2.2.1) (hf _ h2.2.2.2.1) (hf _ h2.2.2.2.2) (fun _ _ h => h)
theorem rm_touch {fr : Nat → Nat → Bool} {nq : Nat} {T : sT} {B : Nat} {μ : vg_M} {m : Nat} {S : Nat → Int32} {F : Nat → Nat → Int32} {node : Nat} (hs : μ.2.2.1 ≤ m) (hq : nq ≤ 6) (hR : RSn fr nq T B S F) (hB : B < 2 ^ 30) (hn : node < 61) :
    ∃ S' F', fX11_touch m (nI node) (rf_M μ m S F) = some ((), rf_M μ m S' F', 0, 0) ∧ RSn (frT fr node) nq T (B + 1) S' F' ∧ sE [14] S S' ∧ fE [9] F F' := by
  obtain ⟨ma, cg, ow, to, as, se, an, h1, h2, h3, h4, h5, h6, h7, h8⟩ := hR
  refine ⟨upd S 14 (nI (cg + 1)), rf_u F 9 node (nI (cg + 1)), ?_, ?_, sE.u (by decide), fE.u (by decide)⟩
  · unfold fX11_touch
    simp only [rf_i14, h2, pg_o1, rf_p14 hs, nI_1, rf_r9, pk_us, rf_s9 hs hn, vg_ret]
  · refine ⟨ma, cg + 1, ow, fun k => if k = node then cg + 1 else to k, as, se, an, by rw [pk_un (by decide)]; exact h1, pk_us, by omega, by omega, fun k hk => ?_, fun q hq => ?_, fun j hj => ?_, fun q hq k hk hl => ?_⟩
    · obtain ⟨a1, a2, a3, a4, a5⟩ := h5 k hk
      rw [rf_u3 _ _ _ _ (by decide), rf_u5]
      by_cases hkn : k = node
      · subst hkn; simp only [if_true]; exact ⟨a1, trivial, a3, by omega, a5⟩
      · simp only [if_neg hkn]; exact ⟨a1, a2, a3, by omega, a5⟩
    · obtain ⟨a1, a2, a3⟩ := h6 q hq
      rw [rf_u3 _ _ _ _ (by decide), rf_u3 _ _ _ _ (by decide)]
      exact ⟨a1, by omega, a3⟩
    · rw [rf_u3 _ _ _ _ (by decide)]; exact h7 j hj
    · unfold frT
      rw [h8 q hq k hk hl]
      by_cases hkn : k = node
      · have := (h6 q (by omega)).2.1
        simp only [hkn, if_true, decide_true, Bool.true_or, show as q < cg + 1 by omega, Bool.or_true]
      · simp only [hkn, if_false, decide_false, Bool.false_or]
/-- the word w of the path that was read -/
def RWd (t : List Nat) (F : Nat → Nat → Int32) (w : Nat) (wo : List Nat) : Prop := ∃ a b, F 4 w = nI a ∧ F 5 w = nI (b - a) ∧ a ≤ b ∧ b ≤ t.length ∧ wo = sl t a b ∧ wo.length = b - a ∧ pt_name wo = true
theorem RW.word {t : List Nat} {sp : List (Nat × Nat)} {S : Nat → Int32} {F : Nat → Nat → Int32} {g : Nat} (hp : pt t = some sp) (h : RW sp S F) (hg : g < sp.length) : RWd t F g ((wd t sp).getD g []) := by
  obtain ⟨p1, p2, p3⟩ := sp_get (pt_ok hp).1 hg
  obtain ⟨v1, v2⟩ := h.2.2 g hg
  have e : (wd t sp).getD g [] = sl t (sp.getD g (0, 0)).1 (sp.getD g (0, 0)).2 := by simp [wd, List.getD_eq_getElem?_getD, List.getElem?_eq_getElem hg]
  refine ⟨_, _, v1, v2, by omega, p2, ?_, ?_, ?_⟩
  · exact e
  · rw [e, sl_len p2]
  · rw [e]; exact p3
theorem rm_addL {t : List Nat} {T : sT} {fr : Nat → Nat → Bool} {nq B : Nat} {μ : vg_M} {m : Nat} {node w k what : Nat} {wo : List Nat} (hs : μ.2.2.1 ≤ m) (hq : nq ≤ 6) (hB : B + 1 < 2 ^ 30) (hnode : node < 61) (hw : w < 6) (hk : k < 60) (hk0 : kd T k = 0) (hne : node ≠ k) (hwhat : what ≤ 2) (hwh0 : 0 < what) :
    ∀ n i S F, i ≤ wo.length → wo.length < i + n → RT t S F → RWd t F w wo → (∀ j, j < 61 → j ≠ k → F 6 j = nI (kd T j) ∧ F 7 j = nI (pa T j) ∧ F 8 j = nI (nm T j).length ∧ F 11 j = bI (pk T j) ∧ kd T j ≤ 2 ∧ pa T j ≤ 60 ∧ (nm T j).length ≤ 8 ∧ (∀ i, i < (nm T j).length → F 12 (8 * j + i) = nI ((nm T j).getD i 0)) ∧ ∀ c ∈ nm T j, c < 128) → F 6 k = nI what → F 7 k = nI node → F 8 k = nI wo.length → (∀ j, j < i → F 12 (8 * k + j) = nI (wo.getD j 0)) → RSn fr nq T B S F →
      ∃ S' F', fX11_add_51 n m (nI node) (nI w) (nI k) (nI i) (rf_M μ m S F) = some (nI k, rf_M μ m S' F', 0, 0) ∧ RTr (tadd T node wo what k) F' ∧ RSn (frT (frT fr k) node) nq (tadd T node wo what k) (B + 2) S' F' ∧ sE [13, 14] S S' ∧ fE [9, 10, 11, 12] F F' := by
  intro n
  induction n with
  | zero => intro i S F h1 h2; omega
  | succ n ih =>
    intro i S F hi hn hT hW hR h6 h7 h8 h12 hSn
    obtain ⟨t1, t2, t3, t4⟩ := id hT
    obtain ⟨a, b, w4, w5, hab, hb, hwo, hwl, hwn⟩ := id hW
    have hw8 : wo.length ≤ 8 := by simp only [pt_name, Bool.and_eq_true, decide_eq_true_eq] at hwn; exact hwn.1.1.2
    unfold fX11_add_51
    simp only [rf_r5, pg_o1, rf_a5 hw, w5]
    by_cases he : i = wo.length
    · rw [if_pos (nI_le (by omega) (by omega))]
      obtain ⟨ma, cg, ow, to, as, se, an, s1, s2, s3, s4, s5, s6, s7, s8⟩ := id hSn
      have e0 : vp_nar .boolean 0 = 0 := by decide
      simp only [rf_i13, s1, pg_o1, nI_1, rf_p13 hs, rf_r10, pk_us, rf_s10 hs (show k < 61 by omega), rf_r11, rf_s11 hs (show k < 61 by omega) e0, rf_cv]
      -- the seen picture behind the making
      have hSn1 : RSn (frT fr k) nq (tadd T node wo what k) (B + 1) (upd S 13 (nI (ma + 1))) (rf_u (rf_u F 10 k (nI (ma + 1))) 11 k 0) := by
        refine ⟨ma + 1, cg, fun j => if j = k then ma + 1 else ow j, to, as, se, an, pk_us, by rw [pk_un (by decide)]; exact s2, by omega, by omega, fun j hj => ?_, fun q hq => ?_, fun j hj => ?_, fun q hq j hj hl => ?_⟩
        · obtain ⟨a1, a2, a3, a4, a5⟩ := s5 j hj
          simp (disch := decide) only [rf_u3, rf_u4, rf_u5, pk_us, pk_un]
          by_cases hjk : j = k
          · subst hjk; simp only [if_true]; exact ⟨trivial, a2, by omega, a4, fun _ => by omega⟩
          · simp only [if_neg hjk]; exact ⟨a1, a2, by omega, a4, fun h => a5 (by rwa [tadd_kd hjk] at h)⟩
        · rw [rf_u3 _ _ _ _ (by decide), rf_u3 _ _ _ _ (by decide), rf_u3 _ _ _ _ (by decide), rf_u3 _ _ _ _ (by decide)]; exact s6 q hq
        · rw [rf_u3 _ _ _ _ (by decide), rf_u3 _ _ _ _ (by decide)]
          have := s7 j hj
          exact ⟨this.1, by omega⟩
        · unfold frT
          by_cases hjk : j = k
          · have := (s7 (61 * q + j) (by omega)).2
            simp only [hjk, if_true, decide_true, Bool.true_or]
            rw [hjk] at this
            rw [decide_eq_true (show se (61 * q + k) ≠ ma + 1 by omega)]; simp
          · rw [tadd_kd hjk] at hl
            simp only [if_neg hjk, hjk, decide_false, Bool.false_or]
            exact s8 q hq j hj hl
      obtain ⟨S', F', e1, e2, e3, e4⟩ := rm_touch (node := node) hs hq hSn1 (by omega) hnode
      rw [e1, pg_b0]
      refine ⟨S', F', rfl, ?_, e2, ((sE.u (by decide)).trans (e3.trans sE.refl (by decide)) (fun _ h => h)), ((fE.u (by decide)).trans (fE.u (by decide)) (fun _ h => h)).trans (e4.trans fE.refl (by decide)) (fun _ h => h)⟩
      intro j hj
      rw [e4 6 (by decide), e4 7 (by decide), e4 8 (by decide), e4 11 (by decide), e4 12 (by decide)]
      simp (disch := decide) only [rf_u3, rf_u4, rf_u5, pk_us, pk_un]
      by_cases hjk : j = k
      · have q1 : kd (tadd T node wo what k) k = what := by unfold kd; rw [tadd_k hne]
        have q2 : pa (tadd T node wo what k) k = node := by unfold pa; rw [tadd_k hne]
        have q3 : nm (tadd T node wo what k) k = wo := by unfold nm; rw [tadd_k hne]
        have q4 : pk (tadd T node wo what k) k = false := by unfold pk; rw [tadd_k hne]
        subst hjk
        rw [q1, q2, q3, q4, if_pos rfl]
        refine ⟨h6, h7, h8, rfl, by omega, by omega, hw8, fun i' hi' => h12 i' (by omega), fun c hc => ?_⟩
        have hall : wo.all sg = true := by simp only [pt_name, Bool.and_eq_true] at hwn; exact hwn.2
        exact sg_lt (List.all_eq_true.mp hall c hc)
      · rw [tadd_kd hjk, tadd_pa hjk, tadd_nm hjk, tadd_pk hjk, if_neg hjk]
        exact hR j hj hjk
    · have hil : i < wo.length := by omega
      rw [if_neg (nI_ge (by omega) (by omega))]
      have g := sl_get (t := t) (a := a) (b := b) (i := i) (by omega)
      have c1 := hT.lt (show a + i < t.length by omega)
      simp only [rf_r12, rf_r1, rf_r4, pg_o1, rf_a4 hw, w4, nI_add, rf_a1 (show a + i < 60 by omega), t3 (a + i) (by omega), show (8 : Int32) = nI 8 from rfl, pk_mul, rf_s12 hs (show 8 * k + i < 488 by omega) (li_nb _ (show t.getD (a + i) 0 < 128 by omega)), nI_1]
      obtain ⟨S', F', e1, e2, e3, e4, e5⟩ := ih (i + 1) S (rf_u F 12 (8 * k + i) (nI (t.getD (a + i) 0))) (by omega) (by omega) (hT.mono rfl (rf_u4 _ _ _ (by decide))) ⟨a, b, by rw [rf_u3 _ _ _ _ (by decide)]; exact w4, by rw [rf_u3 _ _ _ _ (by decide)]; exact w5, hab, hb, hwo, hwl, hwn⟩ (fun j hj hjk => by
          obtain ⟨r6, r7, r8, r11, b1, b2, b3, r12, b4⟩ := hR j hj hjk
          rw [rf_u3 _ _ _ _ (by decide), rf_u3 _ _ _ _ (by decide), rf_u3 _ _ _ _ (by decide), rf_u3 _ _ _ _ (by decide)]
          exact ⟨r6, r7, r8, r11, b1, b2, b3, fun i' hi' => by rw [rf_u2 _ _ _ (by omega)]; exact r12 i' hi', b4⟩) (by rw [rf_u3 _ _ _ _ (by decide)]; exact h6) (by rw [rf_u3 _ _ _ _ (by decide)]; exact h7) (by rw [rf_u3 _ _ _ _ (by decide)]; exact h8) (fun j hj => by
          by_cases hji : j = i
          · subst hji; rw [rf_u1, hwo, g]
          · rw [rf_u2 _ _ _ (by omega)]; exact h12 j (by omega)) (hSn.mono (Nat.le_refl _) rfl rfl (rf_u4 _ _ _ (by decide)) (rf_u4 _ _ _ (by decide)) (rf_u4 _ _ _ (by decide)) (rf_u4 _ _ _ (by decide)) (rf_u4 _ _ _ (by decide)) (fun _ _ h => h))
      exact ⟨S', F', e1, e2, e3, e4, (fE.u (by decide)).trans e5 (fun _ h => h)⟩
def tfree (T : sT) : Option Nat := fst1 (fun k => decide (kd T k = 0)) 60 0
theorem rm_add {t : List Nat} {T : sT} {fr : Nat → Nat → Bool} {nq B : Nat} {μ : vg_M} {m : Nat} {node w k what : Nat} {wo : List Nat} {S : Nat → Int32} {F : Nat → Nat → Int32} (hs : μ.2.2.1 ≤ m) (hq : nq ≤ 6) (hB : B + 1 < 2 ^ 30) (hnode : node < 61) (hw : w < 6) (hkd : kd T node ≠ 0) (hwhat : what ≤ 2) (hwh0 : 0 < what) (hf : tfree T = some k) (hT : RT t S F) (hW : RWd t F w wo) (hR : RTr T F) (hSn : RSn fr nq T B S F) :
    ∃ S' F', fX11_add m (nI node) (nI w) (nI what) (rf_M μ m S F) = some (nI k, rf_M μ m S' F', 0, 0) ∧ RTr (tadd T node wo what k) F' ∧ RSn (frT (frT fr k) node) nq (tadd T node wo what k) (B + 2) S' F' ∧ sE [13, 14] S S' ∧ fE [6, 7, 8, 9, 10, 11, 12] F F' := by
  obtain ⟨q1, q2, q3, q4⟩ := fst1_some _ _ _ hf
  have hk : k < 60 := by omega
  have hk0 : kd T k = 0 := by simpa using q3
  have hne : node ≠ k := fun h => hkd (h ▸ hk0)
  have key : ∀ n j, j ≤ k → k < j + n → fX11_add_3 n m (nI node) (nI w) (nI what) (nI j) (rf_M μ m S F) = fX11_add_51 vg_fuel m (nI node) (nI w) (nI k) 0 (rf_M μ m S (rf_u (rf_u (rf_u F 6 k (nI what)) 7 k (nI node)) 8 k (F 5 w))) := by
    intro n
    induction n with
    | zero => intro j h1 h2; omega
    | succ n ih =>
      intro j h1 h2
      obtain ⟨r6, -⟩ := hR j (by omega)
      have b1 := (hR j (by omega)).2.2.2.2.1
      unfold fX11_add_3
      simp only [rf_r6, pg_o1, rf_a6 (show j < 61 by omega), r6]
      by_cases hjk : j = k
      · subst hjk
        rw [if_pos (by rw [hk0]; decide)]
        simp only [rf_s6 hs (show j < 61 by omega), rf_r7, rf_s7 hs (show j < 61 by omega), rf_r8, rf_r5, pg_o1, rf_a5 hw, rf_s8 hs (show j < 61 by omega), rf_u3 _ _ _ _ (show (5 : Nat) ≠ 7 by decide), rf_u3 _ _ _ _ (show (5 : Nat) ≠ 6 by decide)]
      · have := q4 j (by omega) (by omega)
        rw [if_neg (by rw [li_le0 (by omega)]; simpa using this), nI_1]
        exact ih (j + 1) (by omega) (by omega)
  unfold fX11_add
  have k0 := key vg_fuel 0 (Nat.zero_le _) (by rw [ps_fuel]; omega)
  rw [nI_0] at k0
  rw [k0, ← nI_0]
  obtain ⟨a, b, w4, w5, hab, hb, hwo, hwl, hwn⟩ := id hW
  obtain ⟨S', F', e1, e2, e3, e4, e5⟩ := rm_addL (t := t) (T := T) (fr := fr) (B := B) (node := node) (w := w) (k := k) (what := what) (wo := wo) hs hq hB hnode hw hk hk0 hne hwhat hwh0 vg_fuel 0 S (rf_u (rf_u (rf_u F 6 k (nI what)) 7 k (nI node)) 8 k (F 5 w)) (Nat.zero_le _) (by rw [ps_fuel]; have := hT.2.1; omega) (hT.mono rfl (by rw [rf_u4 _ _ _ (by decide), rf_u4 _ _ _ (by decide), rf_u4 _ _ _ (by decide)])) ⟨a, b, by rw [rf_u3 _ _ _ _ (by decide), rf_u3 _ _ _ _ (by decide), rf_u3 _ _ _ _ (by decide)]; exact w4, by rw [rf_u3 _ _ _ _ (by decide), rf_u3 _ _ _ _ (by decide), rf_u3 _ _ _ _ (by decide)]; exact w5, hab, hb, hwo, hwl, hwn⟩ (fun j hj hjk => by
      obtain ⟨r6, r7, r8, r11, b1, b2, b3, r12, b4⟩ := hR j hj
      rw [rf_u3 _ _ _ _ (by decide), rf_u3 _ _ _ _ (by decide), rf_u2 _ _ _ hjk, rf_u3 _ _ _ _ (by decide), rf_u2 _ _ _ hjk, rf_u3 _ _ _ _ (by decide), rf_u2 _ _ _ hjk, rf_u3 _ _ _ _ (by decide), rf_u3 _ _ _ _ (by decide), rf_u3 _ _ _ _ (by decide), rf_u3 _ _ _ _ (by decide), rf_u3 _ _ _ _ (by decide), rf_u4 _ _ _ (by decide), rf_u4 _ _ _ (by decide), rf_u4 _ _ _ (by decide)]
      exact ⟨r6, r7, r8, r11, b1, b2, b3, r12, b4⟩) (by rw [rf_u3 _ _ _ _ (by decide), rf_u3 _ _ _ _ (by decide), rf_u1]) (by rw [rf_u3 _ _ _ _ (by decide), rf_u1]) (by rw [rf_u1, w5, hwl]) (fun j hj => absurd hj (Nat.not_lt_zero _)) (hSn.mono (Nat.le_refl _) rfl rfl (by rw [rf_u4 _ _ _ (by decide), rf_u4 _ _ _ (by decide), rf_u4 _ _ _ (by decide)]) (by rw [rf_u4 _ _ _ (by decide), rf_u4 _ _ _ (by decide), rf_u4 _ _ _ (by decide)]) (by rw [rf_u4 _ _ _ (by decide), rf_u4 _ _ _ (by decide), rf_u4 _ _ _ (by decide)]) (by rw [rf_u4 _ _ _ (by decide), rf_u4 _ _ _ (by decide), rf_u4 _ _ _ (by decide)]) (by rw [rf_u4 _ _ _ (by decide), rf_u4 _ _ _ (by decide), rf_u4 _ _ _ (by decide)]) (fun _ _ h => h))
  exact ⟨S', F', e1, e2, e3, e4, (((fE.u (by decide)).trans (fE.u (by decide)) (fun _ h => h)).trans (fE.u (by decide)) (fun _ h => h)).trans (e5.trans fE.refl (by decide)) (fun _ h => h)⟩
theorem rm_manyL {T : sT} {μ : vg_M} {m : Nat} {S : Nat → Int32} {F : Nat → Nat → Int32} (hR : RTr T F) : ∀ n k c, k ≤ 60 → 60 < k + n → fX11_many_4 n m (nI c) (nI k) (rf_M μ m S F) = some (nI (c + tnum T (60 - k) k), rf_M μ m S F, 0, 0) := by
  intro n
  induction n with
  | zero => intro k c h1 h2; omega
  | succ n ih =>
    intro k c h1 h2
    unfold fX11_many_4
    by_cases hk : k = 60
    · subst hk; rw [if_pos (by decide)]; rfl
    · obtain ⟨r6, -⟩ := hR k (by omega)
      have b1 := (hR k (by omega)).2.2.2.2.1
      rw [show (60 : Int32) = nI 60 from rfl, if_neg (nI_ge (by omega) (by decide)), show 60 - k = (60 - (k + 1)) + 1 by omega]
      unfold tnum
      simp only [rf_r6, pg_o1, rf_a6 (show k < 61 by omega), r6, fX11_many_25, nI_1, li_le0 (show kd T k < 2 ^ 31 by omega)]
      by_cases c1 : kd T k = 0
      · rw [if_pos c1, if_neg (by omega), ← nI_0, nI_add, ih (k + 1) (c + 0) (by omega) (by omega)]; simp
      · rw [if_neg c1, if_pos (by omega), ih (k + 1) (c + 1) (by omega) (by omega)]; rw [show c + 1 + tnum T (60 - (k + 1)) (k + 1) = c + (1 + tnum T (60 - (k + 1)) (k + 1)) by omega]
theorem rm_many {T : sT} {μ : vg_M} {m : Nat} {S : Nat → Int32} {F : Nat → Nat → Int32} (hR : RTr T F) : fX11_many m (rf_M μ m S F) = some (nI (tnum T 60 0), rf_M μ m S F, 0, 0) := by
  have := rm_manyL (μ := μ) (m := m) (S := S) hR vg_fuel 0 0 (by decide) (by rw [ps_fuel]; decide)
  rw [nI_0, Nat.zero_add] at this
  exact this
