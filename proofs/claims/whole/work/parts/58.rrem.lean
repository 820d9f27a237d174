/-! The reference: remove. -/
def WT (T : sT) : Prop := kd T 60 = 2 ∧ pk T 60 = true ∧ dp T 60 = 0 ∧ nm T 60 = [] ∧ (∀ k, k < 60 → 0 < kd T k → kd T (pa T k) = 2 ∧ pa T k ≤ 60 ∧ pt_name (nm T k) = true ∧ dp T k = dp T (pa T k) + 1 ∧ dp T k ≤ 6 ∧ (pk T k = true → kd T k = 2)) ∧ (∀ k k', k < 60 → k' < 60 → 0 < kd T k → 0 < kd T k' → pa T k = pa T k' → nm T k = nm T k' → k = k') ∧ ∀ k, k ≤ 60 → 0 < kd T k → (∀ c, c ∈ ch T k ↔ c < 60 ∧ 0 < kd T c ∧ pa T c = k) ∧ (ch T k).Pairwise (fun a b => nlt (nm T a) (nm T b) = true)
def tund (T : sT) (node : Nat) : Nat → Nat → Bool
  | 0, _ => false
  | n + 1, j => decide (j = node) || (decide (j ≠ 60) && tund T node n (pa T j))
def tun (T : sT) (node j : Nat) : Bool := tund T node 7 j
theorem tund_fuel {T : sT} {node : Nat} (hW : WT T) : ∀ n j, j ≤ 60 → 0 < kd T j → dp T j < n → tund T node n j = tund T node (n + 1) j := by
  intro n
  induction n with
  | zero => intro j _ _ h; omega
  | succ n ih =>
    intro j hj hl hd
    unfold tund
    by_cases h60 : j = 60
    · subst h60; simp
    · obtain ⟨a1, a2, a3, a4, a5, a6⟩ := hW.2.2.2.2.1 j (by omega) hl
      rw [ih (pa T j) a2 (by omega) (by omega)]
theorem tun_step {T : sT} {node j : Nat} (hW : WT T) (hj : j < 60) (hl : 0 < kd T j) : tun T node j = (decide (j = node) || tun T node (pa T j)) := by
  obtain ⟨a1, a2, a3, a4, a5, a6⟩ := hW.2.2.2.2.1 j hj hl
  unfold tun
  rw [← tund_fuel (n := 6) hW (pa T j) a2 (by omega) (by omega)]
  show (decide (j = node) || (decide (j ≠ 60) && tund T node 6 (pa T j))) = _
  rw [decide_eq_true (show j ≠ 60 by omega), Bool.true_and]
theorem tun_60 {T : sT} {node : Nat} (h : node ≠ 60) : tun T node 60 = false := by
  show (decide (60 = node) || (decide ((60 : Nat) ≠ 60) && tund T node 6 (pa T 60))) = false
  rw [decide_eq_false (fun e => h e.symm)]; simp
def tkill (T : sT) (node : Nat) : sT := fun j => if j < 60 ∧ tun T node j = true then (0, (T j).2) else T j
/-- a state on the way of orphans: kinds only have gone to 0, and only below node -/
def Orp (T : sT) (node : Nat) (C : sT) : Prop := (∀ j, (C j).2 = (T j).2) ∧ (∀ j, 60 ≤ j → C j = T j) ∧ (∀ j, j < 60 → kd C j = kd T j ∨ (kd C j = 0 ∧ tun T node j = true)) ∧ kd C node = 0
theorem Orp.kill {T C : sT} {node j : Nat} (hW : WT T) (h : Orp T node C) (hj : j < 60) (hl : 0 < kd C j) (hp : kd C (pa T j) = 0) : Orp T node (va_up C j (0, (C j).2)) := by
  obtain ⟨h1, h2, h3, h4⟩ := h
  have hkj : kd C j = kd T j := by rcases h3 j hj with h | h; exact h; omega
  have hlT : 0 < kd T j := by omega
  obtain ⟨a1, a2, a3, a4, a5, a6⟩ := hW.2.2.2.2.1 j hj hlT
  have hpu : tun T node (pa T j) = true := by
    by_cases hp60 : pa T j = 60
    · rw [hp60] at hp
      have : kd C 60 = kd T 60 := by unfold kd; rw [h2 60 (Nat.le_refl _)]
      rw [this, hW.1] at hp; cases hp
    · rcases h3 (pa T j) (by omega) with h | h
      · omega
      · exact h.2
  refine ⟨fun i => ?_, fun i hi => ?_, fun i hi => ?_, ?_⟩
  · by_cases hij : i = j
    · subst hij; rw [va_up_self]; exact h1 i
    · rw [va_up_ne _ _ hij]; exact h1 i
  · rw [va_up_ne _ _ (by omega)]; exact h2 i hi
  · by_cases hij : i = j
    · subst hij
      right
      exact ⟨by unfold kd; rw [va_up_self], by rw [tun_step hW hi hlT, hpu, Bool.or_true]⟩
    · unfold kd; rw [va_up_ne _ _ hij]; exact h3 i hi
  · by_cases hij : node = j
    · subst hij; unfold kd; rw [va_up_self]
    · unfold kd; rw [va_up_ne _ _ hij]; exact h4
theorem rm_orpIn {T : sT} {node : Nat} {μ : vg_M} {m : Nat} {S : Nat → Int32} (hs : μ.2.2.1 ≤ m) (hW : WT T) (q4 : Nat → Int32 → Int32 → vg_M → vg_R Int32) :
    ∀ n k c mo C F, k ≤ 60 → 60 < k + n → RTr C F → Orp T node C → ∃ C' c' mo' F', fX11_orphans_12 q4 n m (nI c) (bI mo) (nI k) (rf_M μ m S F) = q4 m (nI c') (bI mo') (rf_M μ m S F') ∧ RTr C' F' ∧ Orp T node C' ∧ fE [6] F F' ∧ c' + tnum C' 60 0 = c + tnum C 60 0 ∧ (mo' = true → mo = true ∨ tnum C' 60 0 < tnum C 60 0) ∧ tnum C' 60 0 ≤ tnum C 60 0 ∧ (mo' = false → mo = false ∧ C' = C ∧ ∀ j, k ≤ j → j < 60 → 0 < kd C j → kd C (pa T j) ≠ 0) := by
  intro n
  induction n with
  | zero => intro k c mo C F h1 h2; omega
  | succ n ih =>
    intro k c mo C F h1 h2 hR hO
    unfold fX11_orphans_12
    by_cases hk : k = 60
    · subst hk
      rw [if_pos (by decide)]
      exact ⟨C, c, mo, F, rfl, hR, hO, fE.refl, rfl, fun h => Or.inl h, Nat.le_refl _, fun h => ⟨h, rfl, fun j h1 h2 => by omega⟩⟩
    · obtain ⟨r6, r7, r8, r11, b1, b2, b3, r12, b4⟩ := hR k (by omega)
      have hpk : pa C k = pa T k := by unfold pa; rw [hO.1 k]
      obtain ⟨s6, -⟩ := hR (pa C k) (by omega)
      have s6b := (hR (pa C k) (by omega)).2.2.2.2.1
      rw [show (60 : Int32) = nI 60 from rfl, if_neg (nI_ge (by omega) (by decide))]
      simp only [rf_r6, rf_r7, pg_o1, rf_a6 (show k < 61 by omega), r6, rf_a7 (show k < 61 by omega), r7, rf_a6 (show pa C k < 61 by omega), s6, li_le0 (show kd C k < 2 ^ 31 by omega), li_eq0 (show kd C (pa C k) < 2 ^ 31 by omega), fX11_orphans_53, nI_1]
      by_cases c1 : kd C k = 0
      · rw [if_pos c1]
        obtain ⟨C', c', mo', F', e1, e2, e3, e4, e5, e6, e7, e8⟩ := ih (k + 1) c mo C F (by omega) (by omega) hR hO
        exact ⟨C', c', mo', F', e1, e2, e3, e4, e5, e6, e7, fun h => ⟨(e8 h).1, (e8 h).2.1, fun j h1 h2 h3 => by
          by_cases hjk : j = k
          · subst hjk; omega
          · exact (e8 h).2.2 j (by omega) h2 h3⟩⟩
      · rw [if_neg c1]
        by_cases c2 : kd C (pa C k) = 0
        · rw [if_pos c2, rf_s6 hs (show k < 61 by omega), pg_o1]
          have hO' := hO.kill hW (show k < 60 by omega) (by omega) (by rw [← hpk]; exact c2)
          have hR' : RTr (va_up C k (0, (C k).2)) (rf_u F 6 k 0) := by
            intro j hj
            obtain ⟨r6, r7, r8, r11, b1, b2, b3, r12, b4⟩ := hR j hj
            simp (disch := decide) only [rf_u3, rf_u4, rf_u5, pk_us, pk_un]
            unfold kd pa nm pk
            by_cases h : j = k
            · subst h; rw [va_up_self, if_pos rfl]; exact ⟨rfl, r7, r8, r11, Nat.zero_le _, b2, b3, r12, b4⟩
            · rw [va_up_ne _ _ h, if_neg h]; exact ⟨r6, r7, r8, r11, b1, b2, b3, r12, b4⟩
          have hnum := tnum_up (T := va_up C k (0, (C k).2)) (T' := C) (c := k) (by unfold kd; rw [va_up_self]) (by omega) 60 0 (by omega) (by omega) (fun j _ _ hj => by unfold kd; rw [va_up_ne _ _ hj])
          obtain ⟨C', c', mo', F', e1, e2, e3, e4, e5, e6, e7, e8⟩ := ih (k + 1) (c + 1) true (va_up C k (0, (C k).2)) (rf_u F 6 k 0) (by omega) (by omega) hR' hO'
          rw [bI_t] at e1
          exact ⟨C', c', mo', F', e1, e2, e3, (fE.u (by decide)).trans e4 (fun _ h => h), by omega, fun _ => Or.inr (by omega), by omega, fun h => by have := (e8 h).1; cases this⟩
        · rw [if_neg c2]
          obtain ⟨C', c', mo', F', e1, e2, e3, e4, e5, e6, e7, e8⟩ := ih (k + 1) c mo C F (by omega) (by omega) hR hO
          exact ⟨C', c', mo', F', e1, e2, e3, e4, e5, e6, e7, fun h => ⟨(e8 h).1, (e8 h).2.1, fun j h1 h2 h3 => by
            by_cases hjk : j = k
            · subst hjk; rw [← hpk]; exact c2
            · exact (e8 h).2.2 j (by omega) h2 h3⟩⟩
theorem Orp.done {T C : sT} {node : Nat} (hW : WT T) (hO : Orp T node C) (hn : node < 60) (h : ∀ j, j < 60 → 0 < kd C j → kd C (pa T j) ≠ 0) : C = tkill T node := by
  obtain ⟨h1, h2, h3, h4⟩ := hO
  have key : ∀ d j, j < 60 → 0 < kd T j → dp T j ≤ d → tun T node j = true → kd C j = 0 := by
    intro d
    induction d with
    | zero => intro j hj hl hd _; have := (hW.2.2.2.2.1 j hj hl).2.2.2.1; omega
    | succ d ih =>
      intro j hj hl hd hu
      by_cases hjn : j = node
      · rw [hjn]; exact h4
      · obtain ⟨a1, a2, a3, a4, a5, a6⟩ := hW.2.2.2.2.1 j hj hl
        rw [tun_step hW hj hl, decide_eq_false hjn, Bool.false_or] at hu
        have hp60 : pa T j ≠ 60 := fun e => by rw [e, tun_60 (by omega)] at hu; cases hu
        have := ih (pa T j) (by omega) (by omega) (by omega) hu
        by_cases hc : 0 < kd C j
        · exact absurd this (h j hj hc)
        · omega
  funext j
  unfold tkill
  by_cases hj : j < 60
  · by_cases hu : tun T node j = true
    · rw [if_pos ⟨hj, hu⟩]
      refine Prod.ext ?_ (h1 j)
      show kd C j = 0
      by_cases hl : 0 < kd T j
      · exact key _ j hj hl (Nat.le_refl _) hu
      · rcases h3 j hj with h | h
        · omega
        · exact h.1
    · rw [if_neg (fun q => hu q.2)]
      refine Prod.ext ?_ (h1 j)
      rcases h3 j hj with h | h
      · exact h
      · exact absurd h.2 hu
  · rw [if_neg (fun q => hj q.1)]; exact h2 j (by omega)
theorem rm_orpOut {T : sT} {node : Nat} {μ : vg_M} {m : Nat} {S : Nat → Int32} (hs : μ.2.2.1 ≤ m) (hW : WT T) (hn : node < 60) :
    ∀ n c C F, tnum C 60 0 + 1 < n → RTr C F → Orp T node C → ∃ F', fX11_orphans_4 n m (nI c) 1 (rf_M μ m S F) = some (nI (c + tnum C 60 0 - tnum (tkill T node) 60 0), rf_M μ m S F', 0, 0) ∧ RTr (tkill T node) F' ∧ fE [6] F F' := by
  intro n
  induction n with
  | zero => intro c C F h; omega
  | succ n ih =>
    intro c C F hn1 hR hO
    unfold fX11_orphans_4
    rw [if_neg (show ¬ (1 : Int32) = 0 by decide)]
    obtain ⟨C', c', mo', F', e1, e2, e3, e4, e5, e6, e7, e8⟩ := rm_orpIn (S := S) hs hW (fX11_orphans_4 n) vg_fuel 0 c false C F (by decide) (by rw [ps_fuel]; decide) hR hO
    rw [nI_0, bI_f] at e1
    rw [e1]
    cases mo' with
    | true =>
      rcases e6 rfl with h | h
      · cases h
      · obtain ⟨F2, f1, f2, f3⟩ := ih c' C' F' (by omega) e2 e3
        rw [bI_t, f1, e5]
        exact ⟨F2, rfl, f2, e4.trans f3 (fun _ h => h)⟩
    | false =>
      obtain ⟨-, g1, g2⟩ := e8 rfl
      subst g1
      have hd := hO.done hW hn (fun j hj hl => g2 j (Nat.zero_le _) hj hl)
      obtain ⟨n, rfl⟩ : ∃ n', n = n' + 1 := ⟨n - 1, by omega⟩
      unfold fX11_orphans_4
      rw [bI_f, if_pos rfl]
      refine ⟨F', ?_, by rw [← hd]; exact e2, e4⟩
      rw [← hd]
      have : c' = c + tnum C' 60 0 - tnum C' 60 0 := by omega
      rw [← this]; rfl
def trem (T : sT) (node : Nat) : sT := va_up (tkill T node) (pa T node) (kd T (pa T node), pa T (pa T node), nm T (pa T node), pk T (pa T node), (ch T (pa T node)).erase node, dp T (pa T node))
/-- remove: what is thrown, how many went, the tree and who counts behind it -/
def srem (t : List Nat) (T : sT) (fr : Nat → Nat → Bool) : Nat × Nat × sT × (Nat → Nat → Bool) := match pt t with
  | none => (1, 0, T, fr)
  | some sp => if (tg T (wd t sp) 60).2 < sp.length then (2, 0, T, fr) else (0, tnum T 60 0 - tnum (tkill T (tg T (wd t sp) 60).1) 60 0, trem T (tg T (wd t sp) 60).1, frT fr (pa T (tg T (wd t sp) 60).1))
theorem tg_60 {T : sT} : ∀ ws k, (tg T ws k).2 = ws.length → ws ≠ [] → (tg T ws k).1 < 60 ∧ 0 < kd T (tg T ws k).1 := by
  intro ws
  induction ws with
  | nil => intro k _ h; exact absurd rfl h
  | cons w ws ih =>
    intro k h _
    unfold tg at h ⊢
    by_cases h2 : kd T k = 2
    · rw [if_pos h2] at h ⊢
      cases hc : tc T k w with
      | none => rw [hc] at h; simp at h
      | some c =>
        rw [hc] at h
        simp only [List.length_cons, Nat.add_right_cancel_iff] at h ⊢
        by_cases hw : ws = []
        · subst hw; exact ⟨(tc_some hc).1, (tc_some hc).2.1⟩
        · exact ih c h hw
    · rw [if_neg h2] at h; simp at h
theorem tkill_pa {T : sT} {node : Nat} (hW : WT T) (hn : node < 60) (hl : 0 < kd T node) : tkill T node (pa T node) = T (pa T node) := by
  unfold tkill
  rw [if_neg]
  rintro ⟨h1, h2⟩
  -- the one around isn't below
  have key : ∀ d j, j ≤ 60 → 0 < kd T j → dp T j ≤ d → tun T node j = true → dp T node ≤ dp T j := by
    intro d
    induction d with
    | zero =>
      intro j hj hjl hd hu
      by_cases h60 : j = 60
      · rw [h60, tun_60 (by omega)] at hu; cases hu
      · have := (hW.2.2.2.2.1 j (by omega) hjl).2.2.2.1; omega
    | succ d ih =>
      intro j hj hjl hd hu
      by_cases h60 : j = 60
      · rw [h60, tun_60 (by omega)] at hu; cases hu
      · obtain ⟨a1, a2, a3, a4, a5, a6⟩ := hW.2.2.2.2.1 j (by omega) hjl
        rw [tun_step hW (by omega) hjl] at hu
        by_cases hjn : j = node
        · rw [hjn]; exact Nat.le_refl _
        · rw [decide_eq_false hjn, Bool.false_or] at hu
          have := ih (pa T j) a2 (by omega) (by omega) hu
          omega
  obtain ⟨a1, a2, a3, a4, a5, a6⟩ := hW.2.2.2.2.1 node hn hl
  have := key _ (pa T node) a2 (by omega) (Nat.le_refl _) h2
  omega
theorem trem_kd {T : sT} {node : Nat} (hW : WT T) (hn : node < 60) (hl : 0 < kd T node) (j : Nat) : kd (trem T node) j = kd (tkill T node) j ∧ pa (trem T node) j = pa T j ∧ nm (trem T node) j = nm T j ∧ pk (trem T node) j = pk T j ∧ dp (trem T node) j = dp T j := by
  unfold trem
  by_cases h : j = pa T node
  · have e : kd (tkill T node) (pa T node) = kd T (pa T node) := by unfold kd; rw [tkill_pa hW hn hl]
    subst h
    unfold kd pa nm pk dp
    rw [va_up_self, show (tkill T node (T node).2.1) = T (T node).2.1 from tkill_pa hW hn hl]
    exact ⟨rfl, rfl, rfl, rfl, rfl⟩
  · unfold kd pa nm pk dp
    have h' : j ≠ (T node).2.1 := h
    rw [va_up_ne _ _ h']
    refine ⟨rfl, ?_⟩
    unfold tkill
    split <;> exact ⟨rfl, rfl, rfl, rfl⟩
theorem rm_remove {t : List Nat} {T : sT} {fr : Nat → Nat → Bool} {nq B : Nat} {μ : vg_M} {m : Nat} {S : Nat → Int32} {F : Nat → Nat → Int32} (hs : μ.2.2.1 ≤ m) (hq : nq ≤ 6) (hT : RT t S F) (hR : RTr T F) (hW : WT T) (hSn : RSn fr nq T B S F) (hB : B + 12 < 2 ^ 30) :
    ∃ S' F', fX11_remove m (rf_M μ m S F) = some (nI (srem t T fr).2.1, rf_M μ m S' F', 0, 0) ∧ S' 0 = nI (srem t T fr).1 ∧ RT [] S' F' ∧ RTr (srem t T fr).2.2.1 F' ∧ RSn (srem t T fr).2.2.2 nq (srem t T fr).2.2.1 (B + 12) S' F' ∧ sE [0, 2, 3, 13, 14, 36] S S' ∧ fE [4, 5, 6, 9] F F' := by
  obtain ⟨S1, F1, e1, e2, e3, e4, e5⟩ := rm_takes hs hT
  have rt0 : ∀ (S' : Nat → Int32) (F' : Nat → Nat → Int32), S' 2 = 0 → RT [] S' F' := fun S' F' h => ⟨h, by decide, fun i hi => absurd hi (Nat.not_lt_zero _), fun c hc => by cases hc⟩
  unfold fX11_remove
  rw [rf_cv, e1, pg_b0]
  unfold srem
  cases hp : pt t with
  | none =>
    rw [hp] at e4
    simp only [Option.isSome_none, bI_f, if_true, fX11_remove_57, rf_p2 hs, pg_o1, vg_ret]
    exact ⟨upd S1 2 0, F1, rfl, by rw [pk_un (by decide)]; exact e4, rt0 _ _ pk_us, hR.e e3 (by decide), hSn.mono (by omega) (by rw [pk_un (by decide)]; exact e2 _ (by decide)) (by rw [pk_un (by decide)]; exact e2 _ (by decide)) (e3 _ (by decide)) (e3 _ (by decide)) (e3 _ (by decide)) (e3 _ (by decide)) (e3 _ (by decide)) (fun _ _ h => h), e2.trans (sE.u (by decide)) (by decide), e3.trans fE.refl (by decide)⟩
  | some sp =>
    rw [hp] at e4
    have hW1 := e5 sp hp
    have hT1 : RT t S1 F1 := hT.mono (e2 _ (by decide)) (e3 _ (by decide))
    have hR1 : RTr T F1 := hR.e e3 (by decide)
    have hSn1 : RSn fr nq T B S1 F1 := hSn.e e2 e3 (by decide) (by decide)
    obtain ⟨S2, g1, g2, g3⟩ := rm_go hs hp hR1 hT1 hW1
    obtain ⟨q1, q2, q3⟩ := pt_ok hp
    have l1 := tg_le (T := T) (wd t sp) 60 (by decide)
    have l3 := tg_60 (T := T) (wd t sp) 60
    have hwne : wd t sp ≠ [] := by
      intro h
      have e0 : (wd t sp).length = 0 := by rw [h]; rfl
      rw [wd_len] at e0
      omega
    rw [wd_len] at l1 l3
    simp only [Option.isSome_some, bI_t, if_neg (show ¬ (1 : Int32) = 0 by decide), rf_cv, g1, pg_b0, rf_i36, rf_i3, g3, pg_o1]
    generalize (tg T (wd t sp) 60).1 = node at *
    generalize (tg T (wd t sp) 60).2 = g at *
    have w1 : S2 3 = nI sp.length := by rw [g2 _ (by decide)]; exact hW1.1
    obtain ⟨r6, r7, r8, r11, b1, b2, b3, r12, b4⟩ := hR1 node (by omega)
    have hSn2 : RSn fr nq T B S2 F1 := hSn1.e g2 fE.refl (ks := []) (by decide) (by decide)
    simp only [w1, nI_leI (show sp.length < 2 ^ 31 by omega) (show g < 2 ^ 31 by omega)]
    by_cases c1 : g < sp.length
    · rw [if_neg (by omega), if_pos c1]
      refine ⟨upd (upd S2 0 2) 2 0, F1, by simp only [fX11_remove_57, rf_p0 hs, rf_p2 hs, pg_o1, vg_ret]; rfl, by rw [pk_un (by decide), pk_us]; rfl, rt0 _ _ pk_us, hR1, hSn2.mono (by omega) (by rw [pk_un (by decide), pk_un (by decide)]) (by rw [pk_un (by decide), pk_un (by decide)]) rfl rfl rfl rfl rfl (fun _ _ h => h), ?_, e3.trans fE.refl (by decide)⟩
      exact ((e2.trans (g2.trans sE.refl (ks' := [0, 3, 36]) (by decide)) (by decide)).trans (sE.u (ks := [0, 3, 36]) (by decide)) (fun _ h => h)).trans (sE.u (by decide)) (by decide)
    · rw [if_pos (by omega), if_neg c1]
      obtain ⟨hn60, hnl⟩ := l3 (by omega) hwne
      simp only [rf_r7, rf_a7 (show node < 61 by omega), r7, pg_o1]
      obtain ⟨S3, F3, f1, f2, f3, f4⟩ := rm_touch (node := pa T node) hs hq hSn2 (by omega) (by omega)
      simp only [f1, pg_b0, rf_cv, rf_r6, pg_o1, rf_s6 hs (show node < 61 by omega)]
      have hR3 : RTr T F3 := hR1.e f4 (by decide)
      have hR4 : RTr (va_up T node (0, (T node).2)) (rf_u F3 6 node 0) := by
        intro j hj
        obtain ⟨y6, y7, y8, y11, z1, z2, z3, y12, z4⟩ := hR3 j hj
        simp (disch := decide) only [rf_u3, rf_u4, rf_u5, pk_us, pk_un]
        unfold kd pa nm pk
        by_cases h : j = node
        · subst h; rw [va_up_self, if_pos rfl]; exact ⟨rfl, y7, y8, y11, Nat.zero_le _, z2, z3, y12, z4⟩
        · rw [va_up_ne _ _ h, if_neg h]; exact ⟨y6, y7, y8, y11, z1, z2, z3, y12, z4⟩
      have hO : Orp T node (va_up T node (0, (T node).2)) := by
        refine ⟨fun j => ?_, fun j hj => va_up_ne _ _ (by omega), fun j hj => ?_, by unfold kd; rw [va_up_self]⟩
        · by_cases h : j = node
          · subst h; rw [va_up_self]
          · rw [va_up_ne _ _ h]
        · by_cases h : j = node
          · right; subst h; exact ⟨by unfold kd; rw [va_up_self], by show (decide (j = j) || _) = true; rw [decide_eq_true rfl]; rfl⟩
          · left; unfold kd; rw [va_up_ne _ _ h]
      have hnum := tnum_up (T := va_up T node (0, (T node).2)) (T' := T) (c := node) (by unfold kd; rw [va_up_self]) hnl 60 0 (by omega) (by omega) (fun j _ _ hj => by unfold kd; rw [va_up_ne _ _ hj])
      have hl60 := tnum_le (T := va_up T node (0, (T node).2)) 60 0
      obtain ⟨F4, o1, o2, o3⟩ := rm_orpOut (S := S3) hs hW hn60 vg_fuel 0 _ _ (by rw [ps_fuel]; omega) hR4 hO
      have o1' : fX11_orphans m (rf_M μ m S3 (rf_u F3 6 node 0)) = _ := o1
      rw [o1', pg_b0]
      -- what is gone
      have hkill : tnum (tkill T node) 60 0 ≤ tnum (va_up T node (0, (T node).2)) 60 0 := by
        have : ∀ (A B : sT), (∀ j, j < 60 → kd A j ≤ kd B j) → ∀ n k, k + n ≤ 60 → tnum A n k ≤ tnum B n k := by
          intro A B hAB n
          induction n with
          | zero => intro k _; exact Nat.le_refl _
          | succ n ih =>
            intro k hk
            unfold tnum
            have h1 := ih (k + 1) (by omega)
            have h2 := hAB k (by omega)
            split <;> split <;> omega
        refine this _ _ (fun j hj => ?_) 60 0 (by omega)
        by_cases h : j = node
        · subst h
          have : kd (tkill T j) j = 0 := by
            unfold kd tkill
            rw [if_pos ⟨hj, by show (decide (j = j) || _) = true; rw [decide_eq_true rfl]; rfl⟩]
          rw [this]; exact Nat.zero_le _
        · have e : kd (va_up T node (0, (T node).2)) j = kd T j := by unfold kd; rw [va_up_ne _ _ h]
          rw [e]
          unfold kd tkill
          split
          · exact Nat.zero_le _
          · exact Nat.le_refl _
      refine ⟨upd S3 2 0, F4, ?_, ?_, rt0 _ _ pk_us, ?_, ?_, ?_, ?_⟩
      · simp only [fX11_remove_57, rf_p2 hs, pg_o1, vg_ret]
        rw [show (1 : Int32) = nI 1 from rfl, nI_add, show 1 + (0 + tnum (va_up T node (0, (T node).2)) 60 0 - tnum (tkill T node) 60 0) = tnum T 60 0 - tnum (tkill T node) 60 0 by omega]
      · rw [pk_un (by decide), f3 0 (by decide), g2 0 (by decide)]; exact e4
      · intro j hj
        obtain ⟨k1, k2, k3, k4, k5⟩ := trem_kd hW hn60 hnl j
        have t1 : pa (tkill T node) j = pa T j ∧ nm (tkill T node) j = nm T j ∧ pk (tkill T node) j = pk T j := by
          unfold pa nm pk tkill; split <;> exact ⟨rfl, rfl, rfl⟩
        have := o2 j hj
        rw [t1.1, t1.2.1, t1.2.2] at this
        rw [k1, k2, k3, k4]
        exact this
      · refine f2.mono (by omega) (pk_un (by decide)) (pk_un (by decide)) ?_ ?_ ?_ ?_ ?_ ?_
        · rw [o3 _ (by decide), rf_u4 _ _ _ (by decide)]
        · rw [o3 _ (by decide), rf_u4 _ _ _ (by decide)]
        · rw [o3 _ (by decide), rf_u4 _ _ _ (by decide)]
        · rw [o3 _ (by decide), rf_u4 _ _ _ (by decide)]
        · rw [o3 _ (by decide), rf_u4 _ _ _ (by decide)]
        · intro k hk h
          rw [(trem_kd hW hn60 hnl k).1] at h
          unfold kd tkill at h
          split at h
          · cases h
          · exact h
      · exact (((e2.trans (g2.trans sE.refl (ks' := [0, 3, 36]) (by decide)) (by decide)).trans (f3.trans sE.refl (ks' := [0, 3, 14, 36]) (by decide)) (by decide))).trans (sE.u (by decide)) (by decide)
      · exact ((e3.trans (f4.trans fE.refl (ks' := [4, 5, 9]) (by decide)) (by decide)).trans (fE.u (ks := [4, 5, 6, 9]) (by decide)) (by decide)).trans (o3.trans fE.refl (by decide)) (fun _ h => h)
