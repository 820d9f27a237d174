/-! The tree's picture: for each slot its kind, the slot around it, its name, whether it is packed, its children in order, its depth. Slot 60 is the root. -/
abbrev sT : Type := Nat → Nat × Nat × List Nat × Bool × List Nat × Nat
def kd (T : sT) (k : Nat) : Nat := (T k).1
def pa (T : sT) (k : Nat) : Nat := (T k).2.1
def nm (T : sT) (k : Nat) : List Nat := (T k).2.2.1
def pk (T : sT) (k : Nat) : Bool := (T k).2.2.2.1
def ch (T : sT) (k : Nat) : List Nat := (T k).2.2.2.2.1
def dp (T : sT) (k : Nat) : Nat := (T k).2.2.2.2.2
def RTr (T : sT) (F : Nat → Nat → Int32) : Prop := ∀ k, k < 61 → F 6 k = nI (kd T k) ∧ F 7 k = nI (pa T k) ∧ F 8 k = nI (nm T k).length ∧ F 11 k = bI (pk T k) ∧ kd T k ≤ 2 ∧ pa T k ≤ 60 ∧ (nm T k).length ≤ 8 ∧ (∀ i, i < (nm T k).length → F 12 (8 * k + i) = nI ((nm T k).getD i 0)) ∧ ∀ c ∈ nm T k, c < 128
theorem RTr.mono {T : sT} {F F' : Nat → Nat → Int32} (h : RTr T F) (h6 : F' 6 = F 6) (h7 : F' 7 = F 7) (h8 : F' 8 = F 8) (h11 : F' 11 = F 11) (h12 : F' 12 = F 12) : RTr T F' := by
  intro k hk
  rw [h6, h7, h8, h11, h12]
  exact h k hk
theorem RTr.e {T : sT} {F F' : Nat → Nat → Int32} {ks : List Nat} (h : RTr T F) (he : fE ks F F') (hk : 6 ∉ ks ∧ 7 ∉ ks ∧ 8 ∉ ks ∧ 11 ∉ ks ∧ 12 ∉ ks) : RTr T F' := h.mono (he _ hk.1) (he _ hk.2.1) (he _ hk.2.2.1) (he _ hk.2.2.2.1) (he _ hk.2.2.2.2)
theorem pt_goP {t : List Nat} : ∀ n k f acc sp, pt_go t n k f acc = some sp → f ≤ k → (∀ s ∈ acc, s.1 < s.2 ∧ s.2 ≤ t.length ∧ pt_name (sl t s.1 s.2) = true) → acc.length ≤ 6 → (∀ s ∈ sp, s.1 < s.2 ∧ s.2 ≤ t.length ∧ pt_name (sl t s.1 s.2) = true) ∧ sp.length ≤ 6 ∧ (k ≤ t.length → 1 ≤ sp.length) ∧ acc.length ≤ sp.length := by
  intro n
  induction n with
  | zero => intro k f acc sp h; cases h
  | succ n ih =>
    intro k f acc sp h hf ha hl
    unfold pt_go at h
    by_cases hlk : t.length < k
    · rw [if_pos hlk] at h; cases h; exact ⟨ha, hl, fun h => by omega, Nat.le_refl _⟩
    · rw [if_neg hlk] at h
      by_cases he : k = t.length ∨ t.getD k 0 = 47
      · rw [if_pos he] at h
        by_cases hc : acc.length < 6 ∧ pt_name (sl t f k) = true
        · rw [if_pos hc] at h
          have hkl : k ≤ t.length := by omega
          have hn := hc.2
          simp only [pt_name, Bool.and_eq_true, decide_eq_true_eq, sl_len hkl] at hn
          obtain ⟨q1, q2, q3, q4⟩ := ih (k + 1) (k + 1) _ sp h (Nat.le_refl _) (by
            intro s hs
            rcases List.mem_append.mp hs with hs | hs
            · exact ha s hs
            · rw [List.mem_singleton] at hs
              subst hs
              exact ⟨by show f < k; omega, hkl, hc.2⟩) (by rw [List.length_append]; simp; omega)
          rw [List.length_append] at q4
          simp only [List.length_cons, List.length_nil] at q4
          exact ⟨q1, q2, fun _ => by omega, by omega⟩
        · rw [if_neg hc] at h; cases h
      · rw [if_neg he] at h
        obtain ⟨q1, q2, q3, q4⟩ := ih (k + 1) f acc sp h (by omega) ha hl
        exact ⟨q1, q2, fun hk => by
          by_cases hk2 : k + 1 ≤ t.length
          · exact q3 hk2
          · exfalso; exact he (Or.inl (by omega)), q4⟩
theorem pt_ok {t : List Nat} {sp : List (Nat × Nat)} (h : pt t = some sp) : (∀ s ∈ sp, s.1 < s.2 ∧ s.2 ≤ t.length ∧ pt_name (sl t s.1 s.2) = true) ∧ sp.length ≤ 6 ∧ 1 ≤ sp.length := by
  obtain ⟨q1, q2, q3, q4⟩ := pt_goP _ _ _ _ _ h (Nat.le_refl _) (fun s hs => by cases hs) (by decide)
  exact ⟨q1, q2, q3 (Nat.zero_le _)⟩
theorem rm_isNamedL {t : List Nat} {T : sT} {μ : vg_M} {m : Nat} {S : Nat → Int32} {F : Nat → Nat → Int32} {k w a b : Nat} (hT : RT t S F) (hR : RTr T F) (hk : k < 61) (hw : w < 6) (h4 : F 4 w = nI a) (hab : a ≤ b) (hb : b ≤ t.length) (hl : (nm T k).length = b - a) :
    ∀ n i, i ≤ b - a → b - a < i + n → (∀ j, j < i → (nm T k).getD j 0 = (sl t a b).getD j 0) → fX11_isNamed_19 n m (nI k) (nI w) (nI i) (rf_M μ m S F) = some (bI (decide (nm T k = sl t a b)), rf_M μ m S F, 0, 0) := by
  obtain ⟨r6, r7, r8, r11, b1, b2, b3, r12, b4⟩ := hR k hk
  obtain ⟨t1, t2, t3, t4⟩ := id hT
  intro n
  induction n with
  | zero => intro i h1 h2; omega
  | succ n ih =>
    intro i h1 h2 heq
    unfold fX11_isNamed_19
    simp only [rf_r8, pg_o1, rf_a8 hk, r8, hl]
    by_cases hi : i = b - a
    · have e : nm T k = sl t a b := ls_ext (by rw [sl_len hb, hl]) (fun j hj => heq j (by omega))
      rw [if_pos (nI_le (by omega) (by omega)), pg_z1, decide_eq_true e]; rfl
    · have hi2 : i < b - a := by omega
      rw [if_neg (nI_ge hi2 (by omega))]
      have g := sl_get (t := t) (a := a) (b := b) (i := i) (by omega)
      have c1 := hT.lt (show a + i < t.length by omega)
      have c2 : (nm T k).getD i 0 < 128 := ps_get b4 i (by omega)
      simp only [show (8 : Int32) = nI 8 from rfl, pk_mul, nI_add, rf_r12, pg_o1, rf_a12 (show 8 * k + i < 488 by omega), r12 i (by omega), rf_r1, rf_r4, rf_a4 hw, h4, rf_a1 (show a + i < 60 by omega), t3 (a + i) (by omega)]
      by_cases hc : (nm T k).getD i 0 = t.getD (a + i) 0
      · rw [if_pos (by rw [hc]), nI_1]
        exact ih (i + 1) (by omega) (by omega) (fun j hj => by
          by_cases hji : j = i
          · subst hji; rw [hc, g]
          · exact heq j (by omega))
      · rw [if_neg (fun h => hc ((nI_eq (by omega) (by omega)).mp h)), pg_z0, decide_eq_false (fun e => hc (by rw [e, g]))]; rfl
theorem rm_isNamed {t : List Nat} {T : sT} {μ : vg_M} {m : Nat} {S : Nat → Int32} {F : Nat → Nat → Int32} {k w a b : Nat} (hT : RT t S F) (hR : RTr T F) (hk : k < 61) (hw : w < 6) (h4 : F 4 w = nI a) (h5 : F 5 w = nI (b - a)) (hab : a ≤ b) (hb : b ≤ t.length) :
    fX11_isNamed m (nI k) (nI w) (rf_M μ m S F) = some (bI (decide (nm T k = sl t a b)), rf_M μ m S F, 0, 0) := by
  obtain ⟨r6, r7, r8, r11, b1, b2, b3, r12, b4⟩ := hR k hk
  obtain ⟨t1, t2, t3, t4⟩ := id hT
  unfold fX11_isNamed
  simp only [rf_r8, pg_o1, rf_a8 hk, r8, rf_r5, rf_a5 hw, h5]
  by_cases hl : (nm T k).length = b - a
  · rw [if_pos (by rw [hl])]
    have := rm_isNamedL (μ := μ) (m := m) hT hR hk hw h4 hab hb hl vg_fuel 0 (Nat.zero_le _) (by rw [ps_fuel]; omega) (fun j h => absurd h (Nat.not_lt_zero _))
    rw [nI_0] at this
    exact this
  · rw [if_neg (fun h => hl ((nI_eq (by omega) (by omega)).mp h)), pg_z0, decide_eq_false (fun e => hl (by rw [e, sl_len hb]))]; rfl
/-- the first index with a property -/
def fst1 (P : Nat → Bool) : Nat → Nat → Option Nat
  | 0, _ => none
  | n + 1, k => if P k = true then some k else fst1 P n (k + 1)
theorem fst1_some {P : Nat → Bool} : ∀ n k c, fst1 P n k = some c → k ≤ c ∧ c < k + n ∧ P c = true ∧ ∀ j, k ≤ j → j < c → P j = false := by
  intro n
  induction n with
  | zero => intro k c h; cases h
  | succ n ih =>
    intro k c h
    unfold fst1 at h
    by_cases hp : P k = true
    · rw [if_pos hp] at h; cases h; exact ⟨Nat.le_refl _, by omega, hp, fun j h1 h2 => by omega⟩
    · rw [if_neg hp] at h
      obtain ⟨q1, q2, q3, q4⟩ := ih _ _ h
      refine ⟨by omega, by omega, q3, fun j h1 h2 => ?_⟩
      by_cases hjk : j = k
      · subst hjk; exact Bool.eq_false_iff.mpr hp
      · exact q4 j (by omega) h2
theorem fst1_none {P : Nat → Bool} : ∀ n k, fst1 P n k = none → ∀ j, k ≤ j → j < k + n → P j = false := by
  intro n
  induction n with
  | zero => intro k _ j h1 h2; omega
  | succ n ih =>
    intro k h j h1 h2
    unfold fst1 at h
    by_cases hp : P k = true
    · rw [if_pos hp] at h; cases h
    · rw [if_neg hp] at h
      by_cases hjk : j = k
      · subst hjk; exact Bool.eq_false_iff.mpr hp
      · exact ih _ h j (by omega) (by omega)
def oI (x : Option Nat) : Int32 := match x with
  | none => -1
  | some k => nI k
def tcP (T : sT) (node : Nat) (w : List Nat) (k : Nat) : Bool := decide (0 < kd T k) && decide (pa T k = node) && decide (nm T k = w)
def tc (T : sT) (node : Nat) (w : List Nat) : Option Nat := fst1 (tcP T node w) 60 0
theorem tc_some {T : sT} {node c : Nat} {w : List Nat} (h : tc T node w = some c) : c < 60 ∧ 0 < kd T c ∧ pa T c = node ∧ nm T c = w := by
  obtain ⟨q1, q2, q3, q4⟩ := fst1_some _ _ _ h
  simp only [tcP, Bool.and_eq_true, decide_eq_true_eq] at q3
  exact ⟨by omega, q3.1.1, q3.1.2, q3.2⟩
theorem tc_none {T : sT} {node : Nat} {w : List Nat} (h : tc T node w = none) {c : Nat} (hc : c < 60) (h1 : 0 < kd T c) (h2 : pa T c = node) : nm T c ≠ w := by
  have := fst1_none _ _ h c (by omega) (by omega)
  intro e
  simp only [tcP, h1, h2, e, decide_true, Bool.and_true] at this
  cases this
theorem rm_childL {t : List Nat} {T : sT} {μ : vg_M} {m : Nat} {S : Nat → Int32} {F : Nat → Nat → Int32} {node w a b : Nat} (hT : RT t S F) (hR : RTr T F) (hnode : node ≤ 60) (hw : w < 6) (h4 : F 4 w = nI a) (h5 : F 5 w = nI (b - a)) (hab : a ≤ b) (hb : b ≤ t.length) :
    ∀ n k, k ≤ 60 → 60 < k + n → fX11_child_2 n m (nI node) (nI w) (nI k) (rf_M μ m S F) = some (oI (fst1 (tcP T node (sl t a b)) (60 - k) k), rf_M μ m S F, 0, 0) := by
  intro n
  induction n with
  | zero => intro k h1 h2; omega
  | succ n ih =>
    intro k h1 h2
    unfold fX11_child_2
    by_cases hk : k = 60
    · subst hk; rw [if_pos (by decide)]; rfl
    · have hk2 : k < 60 := by omega
      obtain ⟨r6, r7, r8, r11, b1, b2, b3, r12, b4⟩ := hR k (by omega)
      rw [show (60 : Int32) = nI 60 from rfl, if_neg (nI_ge hk2 (by decide)), show 60 - k = (60 - (k + 1)) + 1 by omega]
      unfold fst1
      have ih' := ih (k + 1) (by omega) (by omega)
      simp only [rf_r6, pg_o1, rf_a6 (show k < 61 by omega), r6, fX11_child_38, nI_1, ih', rf_r7, rf_a7 (show k < 61 by omega), r7, rf_cv, rm_isNamed (μ := μ) (m := m) hT hR (show k < 61 by omega) hw h4 h5 hab hb, pg_b0, li_le0 (show kd T k < 2 ^ 31 by omega), nI_eq (show pa T k < 2 ^ 31 by omega) (show node < 2 ^ 31 by omega), bI_0]
      by_cases c1 : kd T k = 0
      · rw [if_pos c1, if_neg (by simp [tcP, c1])]
      · rw [if_neg c1]
        by_cases c2 : pa T k = node
        · rw [if_pos c2]
          by_cases c3 : nm T k = sl t a b
          · rw [if_neg (by simp [c3]), if_pos (by simp [tcP, c2, c3]; omega)]; rfl
          · rw [if_pos (by simp [c3]), if_neg (by simp [tcP, c3])]
        · rw [if_neg c2, if_neg (by simp [tcP, c2])]
theorem rm_child {t : List Nat} {T : sT} {μ : vg_M} {m : Nat} {S : Nat → Int32} {F : Nat → Nat → Int32} {node w a b : Nat} (hT : RT t S F) (hR : RTr T F) (hnode : node ≤ 60) (hw : w < 6) (h4 : F 4 w = nI a) (h5 : F 5 w = nI (b - a)) (hab : a ≤ b) (hb : b ≤ t.length) :
    fX11_child m (nI node) (nI w) (rf_M μ m S F) = some (oI (tc T node (sl t a b)), rf_M μ m S F, 0, 0) := by
  have := rm_childL (μ := μ) (m := m) hT hR hnode hw h4 h5 hab hb vg_fuel 0 (by decide) (by rw [ps_fuel]; decide)
  rw [nI_0] at this
  exact this
def tg (T : sT) : List (List Nat) → Nat → Nat × Nat
  | [], k => (k, 0)
  | w :: ws, k => if kd T k = 2 then (match tc T k w with
    | none => (k, 0)
    | some c => ((tg T ws c).1, (tg T ws c).2 + 1)) else (k, 0)
def wd (t : List Nat) (sp : List (Nat × Nat)) : List (List Nat) := sp.map (fun s => sl t s.1 s.2)
theorem wd_len {t : List Nat} {sp : List (Nat × Nat)} : (wd t sp).length = sp.length := by simp [wd]
theorem wd_drop {t : List Nat} {sp : List (Nat × Nat)} {g : Nat} (h : g < sp.length) : (wd t sp).drop g = sl t (sp.getD g (0, 0)).1 (sp.getD g (0, 0)).2 :: (wd t sp).drop (g + 1) := by
  have hl : g < (wd t sp).length := by rw [wd_len]; exact h
  rw [List.drop_eq_getElem_cons hl]
  congr 1
  simp [wd, List.getD_eq_getElem?_getD, List.getElem?_eq_getElem h]
theorem sp_get {sp : List (Nat × Nat)} {P : Nat × Nat → Prop} (h : ∀ s ∈ sp, P s) {g : Nat} (hg : g < sp.length) : P (sp.getD g (0, 0)) := by
  rw [List.getD_eq_getElem?_getD, List.getElem?_eq_getElem hg]; exact h _ (List.getElem_mem hg)
theorem RW.mono {sp : List (Nat × Nat)} {S S' : Nat → Int32} {F F' : Nat → Nat → Int32} (h : RW sp S F) (h3 : S' 3 = S 3) (h4 : F' 4 = F 4) (h5 : F' 5 = F 5) : RW sp S' F' := ⟨h3.trans h.1, h.2.1, fun w hw => by rw [h4, h5]; exact h.2.2 w hw⟩
theorem rm_goL {t : List Nat} {T : sT} {sp : List (Nat × Nat)} {μ : vg_M} {m : Nat} {F : Nat → Nat → Int32} (hs : μ.2.2.1 ≤ m) (hp : ∀ s ∈ sp, s.1 < s.2 ∧ s.2 ≤ t.length ∧ pt_name (sl t s.1 s.2) = true) (hR : RTr T F) :
    ∀ n S g node, RT t S F → RW sp S F → S 36 = nI g → g ≤ sp.length → sp.length < g + n → node ≤ 60 → ∃ S', fX11_go_10 n m (nI node) 1 (rf_M μ m S F) = some (nI (tg T ((wd t sp).drop g) node).1, rf_M μ m S' F, 0, 0) ∧ sE [36] S S' ∧ S' 36 = nI (g + (tg T ((wd t sp).drop g) node).2) := by
  intro n
  induction n with
  | zero => intro S g node _ _ _ h1 h2; omega
  | succ n ih =>
    intro S g node hT hW hg h1 h2 hnode
    obtain ⟨w1, w2, w3⟩ := id hW
    unfold fX11_go_10
    rw [if_neg (show ¬ (1 : Int32) = 0 by decide)]
    simp only [rf_i36, rf_i3, hg, w1, pg_o1, fX11_go_79]
    by_cases he : g = sp.length
    · rw [if_pos (nI_le (by omega) (by omega))]
      refine ⟨S, ?_, sE.refl, ?_⟩
      · rw [List.drop_of_length_le (by rw [wd_len]; omega)]; rfl
      · rw [List.drop_of_length_le (by rw [wd_len]; omega), hg]; rfl
    · have hgl : g < sp.length := by omega
      rw [if_neg (nI_ge hgl (by omega)), wd_drop hgl]
      obtain ⟨p1, p2, p3⟩ := sp_get hp hgl
      obtain ⟨v1, v2⟩ := w3 g hgl
      obtain ⟨r6, r7, r8, r11, b1, b2, b3, r12, b4⟩ := hR node (by omega)
      simp only [rf_r6, rf_a6 (show node < 61 by omega), r6, pg_o1, li_c 2 (c := 2) rfl (show kd T node < 2 ^ 31 by omega) (by decide)]
      unfold tg
      have stop : fX11_go_48 (fX11_go_10 n) m (nI node) (-1) (rf_M μ m S F) = some (nI node, rf_M μ m S F, 0, 0) := by
        unfold fX11_go_48 fX11_go_59 fX11_go_76
        obtain ⟨n, rfl⟩ : ∃ n', n = n' + 1 := ⟨n - 1, by omega⟩
        rw [if_pos rfl, if_pos rfl]
        unfold fX11_go_10
        rw [if_pos rfl]; rfl
      by_cases h2k : kd T node = 2
      · rw [if_pos h2k, if_pos h2k, rf_cv, rm_child hT hR hnode (show g < 6 by omega) v1 v2 (by omega) p2, pg_b0]
        cases hc : tc T node (sl t (sp.getD g (0, 0)).1 (sp.getD g (0, 0)).2) with
        | none => exact ⟨S, stop, sE.refl, hg⟩
        | some c =>
          have hcl := (tc_some hc).1
          show ∃ S', fX11_go_48 (fX11_go_10 n) m (nI node) (nI c) (rf_M μ m S F) = some (nI (tg T ((wd t sp).drop (g + 1)) c).1, rf_M μ m S' F, 0, 0) ∧ sE [36] S S' ∧ S' 36 = nI (g + ((tg T ((wd t sp).drop (g + 1)) c).2 + 1))
          unfold fX11_go_48 fX11_go_59 fX11_go_76
          rw [if_neg (by rw [li_m1 (by omega)]; exact fun h => h), if_neg (show ¬ (1 : Int32) = 0 by decide)]
          simp only [rf_i36, hg, pg_o1, nI_1, rf_p36 hs]
          obtain ⟨S', e1, e2, e3⟩ := ih (upd S 36 (nI (g + 1))) (g + 1) c (hT.mono (pk_un (by decide)) rfl) (hW.mono (pk_un (by decide)) rfl rfl) pk_us (by omega) (by omega) (by omega)
          exact ⟨S', e1, (sE.u (by decide)).trans e2 (fun _ h => h), by rw [e3]; congr 1; omega⟩
      · rw [if_neg h2k, if_neg h2k]
        exact ⟨S, stop, sE.refl, hg⟩
theorem rm_go {t : List Nat} {T : sT} {sp : List (Nat × Nat)} {μ : vg_M} {m : Nat} {S : Nat → Int32} {F : Nat → Nat → Int32} (hs : μ.2.2.1 ≤ m) (hp : pt t = some sp) (hR : RTr T F) (hT : RT t S F) (hW : RW sp S F) :
    ∃ S', fX11_go m (rf_M μ m S F) = some (nI (tg T (wd t sp) 60).1, rf_M μ m S' F, 0, 0) ∧ sE [36] S S' ∧ S' 36 = nI (tg T (wd t sp) 60).2 := by
  obtain ⟨q1, q2, q3⟩ := pt_ok hp
  obtain ⟨S', e1, e2, e3⟩ := rm_goL hs q1 hR vg_fuel (upd S 36 0) 0 60 (hT.mono (pk_un (by decide)) rfl) (hW.mono (pk_un (by decide)) rfl rfl) pk_us (by omega) (by rw [ps_fuel]; omega) (by decide)
  rw [List.drop_zero] at e1 e3
  refine ⟨S', ?_, (sE.u (by decide)).trans e2 (fun _ h => h), by rw [e3]; congr 1; omega⟩
  unfold fX11_go
  rw [rf_p36 hs, pg_o1]
  exact e1
def tnum (T : sT) : Nat → Nat → Nat
  | 0, _ => 0
  | n + 1, k => (if 0 < kd T k then 1 else 0) + tnum T n (k + 1)
