/-! The tree's picture: order of names, who lies below whom, what a walk meets. -/
theorem nlt_irr : ∀ a, nlt a a = false := by
  intro a
  induction a with
  | nil => rfl
  | cons x a ih => simp [nlt, ih]
theorem nlt_tr : ∀ a b c, nlt a b = true → nlt b c = true → nlt a c = true := by
  intro a
  induction a with
  | nil =>
    intro b c h1 h2
    cases c with
    | nil => cases b <;> cases h2
    | cons z c => rfl
  | cons x a ih =>
    intro b c h1 h2
    cases b with
    | nil => cases h1
    | cons y b =>
      cases c with
      | nil => cases h2
      | cons z c =>
        simp only [nlt, Bool.or_eq_true, Bool.and_eq_true, decide_eq_true_eq] at h1 h2 ⊢
        rcases h1 with h1 | ⟨h1, h1'⟩
        · rcases h2 with h2 | ⟨h2, h2'⟩
          · left; omega
          · left; omega
        · rcases h2 with h2 | ⟨h2, h2'⟩
          · left; omega
          · right; exact ⟨by omega, ih b c h1' h2'⟩
theorem nlt_as {a b : List Nat} (h : nlt a b = true) : nlt b a = false := by
  apply Bool.eq_false_iff.mpr
  intro h'
  have := nlt_tr _ _ _ h h'
  rw [nlt_irr] at this
  cases this
theorem nlt_tot : ∀ a b, a ≠ b → nlt a b = true ∨ nlt b a = true := by
  intro a
  induction a with
  | nil => intro b h; cases b with
    | nil => exact absurd rfl h
    | cons y b => exact Or.inl rfl
  | cons x a ih =>
    intro b h
    cases b with
    | nil => exact Or.inr rfl
    | cons y b =>
      simp only [nlt, Bool.or_eq_true, Bool.and_eq_true, decide_eq_true_eq]
      rcases Nat.lt_trichotomy x y with h1 | h1 | h1
      · exact Or.inl (Or.inl h1)
      · subst h1
        rcases ih b (fun e => h (by rw [e])) with h2 | h2
        · exact Or.inl (Or.inr ⟨rfl, h2⟩)
        · exact Or.inr (Or.inr ⟨rfl, h2⟩)
      · exact Or.inr (Or.inl h1)
theorem tun_self {T : sT} {x : Nat} : tun T x x = true := by
  show (decide (x = x) || _) = true
  rw [decide_eq_true rfl]; rfl
theorem tun_dp {T : sT} {c : Nat} (hW : WT T) (hc : c < 60) : ∀ d j, j ≤ 60 → 0 < kd T j → dp T j ≤ d → tun T c j = true → dp T c ≤ dp T j := by
  intro d
  induction d with
  | zero =>
    intro j hj hl hd hu
    by_cases h60 : j = 60
    · rw [h60, tun_60 (by omega)] at hu; cases hu
    · have := (hW.2.2.2.2.1 j (by omega) hl).2.2.2.1; omega
  | succ d ih =>
    intro j hj hl hd hu
    by_cases h60 : j = 60
    · rw [h60, tun_60 (by omega)] at hu; cases hu
    · obtain ⟨a1, a2, a3, a4, a5, a6⟩ := hW.2.2.2.2.1 j (by omega) hl
      rw [tun_step hW (by omega) hl] at hu
      by_cases hjn : j = c
      · rw [hjn]; exact Nat.le_refl _
      · rw [decide_eq_false hjn, Bool.false_or] at hu
        have := ih (pa T j) a2 (by omega) (by omega) hu
        omega
theorem tun_uni {T : sT} {c c' : Nat} (hW : WT T) (hc : c < 60) (hc' : c' < 60) (hd : dp T c = dp T c') : ∀ n j, j ≤ 60 → 0 < kd T j → dp T j ≤ n → tun T c j = true → tun T c' j = true → c = c' := by
  intro n
  induction n with
  | zero =>
    intro j hj hl hdj hu _
    by_cases h60 : j = 60
    · rw [h60, tun_60 (by omega)] at hu; cases hu
    · have := (hW.2.2.2.2.1 j (by omega) hl).2.2.2.1; omega
  | succ n ih =>
    intro j hj hl hdj hu hu'
    by_cases h60 : j = 60
    · rw [h60, tun_60 (by omega)] at hu; cases hu
    · obtain ⟨a1, a2, a3, a4, a5, a6⟩ := hW.2.2.2.2.1 j (by omega) hl
      by_cases h1 : j = c
      · by_cases h2 : j = c'
        · rw [← h1, ← h2]
        · rw [tun_step hW (by omega) hl, decide_eq_false h2, Bool.false_or] at hu'
          have := tun_dp hW hc' _ (pa T j) a2 (by omega) (Nat.le_refl _) hu'
          rw [h1] at this a4; omega
      · by_cases h2 : j = c'
        · rw [tun_step hW (by omega) hl, decide_eq_false h1, Bool.false_or] at hu
          have := tun_dp hW hc _ (pa T j) a2 (by omega) (Nat.le_refl _) hu
          rw [h2] at this a4; omega
        · rw [tun_step hW (by omega) hl, decide_eq_false h1, Bool.false_or] at hu
          rw [tun_step hW (by omega) hl, decide_eq_false h2, Bool.false_or] at hu'
          exact ih (pa T j) a2 (by omega) (by omega) hu hu'
/-- what a walk meets, in its order; g: whether it goes in -/
def visG (T : sT) (g : Nat → Bool) : Nat → List Nat → List Nat
  | 0, _ => []
  | d + 1, ks => ks.flatMap (fun c => c :: (if g c = true then visG T g d (ch T c) else []))
theorem vis_cons {T : sT} {g : Nat → Bool} {d c : Nat} {ks : List Nat} : visG T g (d + 1) (c :: ks) = (c :: (if g c = true then visG T g d (ch T c) else [])) ++ visG T g (d + 1) ks := by
  show (c :: ks).flatMap _ = _
  rw [List.flatMap_cons]; rfl
theorem vis_nil {T : sT} {g : Nat → Bool} {d : Nat} : visG T g d [] = [] := by cases d <;> rfl
theorem vis_mem {T : sT} {g : Nat → Bool} (hW : WT T) : ∀ d ks x, (∀ c ∈ ks, c < 60 ∧ 0 < kd T c) → x ∈ visG T g d ks → x < 60 ∧ 0 < kd T x ∧ ∃ c ∈ ks, tun T c x = true := by
  intro d
  induction d with
  | zero => intro ks x _ h; cases h
  | succ d ih =>
    intro ks
    induction ks with
    | nil => intro x _ h; rw [vis_nil] at h; cases h
    | cons c ks ihk =>
      intro x hk h
      rw [vis_cons] at h
      obtain ⟨hc1, hc2⟩ := hk c (by simp)
      rcases List.mem_append.mp h with h | h
      · rcases List.mem_cons.mp h with h | h
        · rw [h]; exact ⟨hc1, hc2, c, by simp, tun_self⟩
        · by_cases hg : g c = true
          · rw [if_pos hg] at h
            have hch := hW.2.2.2.2.2.2 c (by omega) hc2
            obtain ⟨q1, q2, y, q3, q4⟩ := ih (ch T c) x (fun y hy => ⟨((hch.1 y).mp hy).1, ((hch.1 y).mp hy).2.1⟩) h
            refine ⟨q1, q2, c, by simp, ?_⟩
            -- below a child is below
            have hy := (hch.1 y).mp q3
            have key : ∀ n j, j ≤ 60 → 0 < kd T j → dp T j ≤ n → tun T y j = true → tun T c j = true := by
              intro n
              induction n with
              | zero =>
                intro j hj hl hdj hu
                by_cases h60 : j = 60
                · rw [h60, tun_60 (by omega)] at hu; cases hu
                · have := (hW.2.2.2.2.1 j (by omega) hl).2.2.2.1; omega
              | succ n ihn =>
                intro j hj hl hdj hu
                by_cases h60 : j = 60
                · rw [h60, tun_60 (by omega)] at hu; cases hu
                · obtain ⟨a1, a2, a3, a4, a5, a6⟩ := hW.2.2.2.2.1 j (by omega) hl
                  rw [tun_step hW (by omega) hl]
                  by_cases h1 : j = y
                  · rw [h1, hy.2.2, tun_self, Bool.or_true]
                  · rw [tun_step hW (by omega) hl, decide_eq_false h1, Bool.false_or] at hu
                    rw [ihn (pa T j) a2 (by omega) (by omega) hu, Bool.or_true]
            exact key _ x (by omega) q2 (Nat.le_refl _) q4
          · rw [if_neg hg] at h; cases h
      · obtain ⟨q1, q2, y, q3, q4⟩ := ihk x (fun c hc => hk c (by simp [hc])) h
        exact ⟨q1, q2, y, by simp [q3], q4⟩
theorem pw_nodup {T : sT} {L : List Nat} (h : L.Pairwise (fun a b => nlt (nm T a) (nm T b) = true)) : L.Nodup := by
  apply List.Pairwise.imp _ h
  intro a b hab e
  rw [e, nlt_irr] at hab
  cases hab
theorem vis_nodup {T : sT} {g : Nat → Bool} (hW : WT T) : ∀ d ks e, (∀ c ∈ ks, c < 60 ∧ 0 < kd T c ∧ dp T c = e) → ks.Nodup → (visG T g d ks).Nodup := by
  intro d
  induction d with
  | zero => intro ks e _ _; exact List.nodup_nil
  | succ d ih =>
    intro ks
    induction ks with
    | nil => intro e _ _; rw [vis_nil]; exact List.nodup_nil
    | cons c ks ihk =>
      intro e hk hnd
      rw [vis_cons]
      obtain ⟨hc1, hc2, hc3⟩ := hk c (by simp)
      rw [List.nodup_cons] at hnd
      have hch := hW.2.2.2.2.2.2 c (by omega) hc2
      have hin : ∀ x ∈ (c :: (if g c = true then visG T g d (ch T c) else [])), tun T c x = true ∧ x < 60 ∧ 0 < kd T x := by
        intro x hx
        have := vis_mem (T := T) (g := g) hW (d + 1) [c] x (fun y hy => by rw [List.mem_singleton] at hy; rw [hy]; exact ⟨hc1, hc2⟩) (by rw [vis_cons, vis_nil, List.append_nil]; exact hx)
        obtain ⟨q1, q2, y, q3, q4⟩ := this
        rw [List.mem_singleton] at q3
        rw [q3] at q4
        exact ⟨q4, q1, q2⟩
      rw [List.nodup_append]
      refine ⟨?_, ihk e (fun c hc => hk c (by simp [hc])) hnd.2, ?_⟩
      · rw [List.nodup_cons]
        constructor
        · intro hx
          by_cases hg : g c = true
          · rw [if_pos hg] at hx
            obtain ⟨q1, q2, y, q3, q4⟩ := vis_mem hW d (ch T c) c (fun y hy => ⟨((hch.1 y).mp hy).1, ((hch.1 y).mp hy).2.1⟩) hx
            have hy := (hch.1 y).mp q3
            have h1 := tun_dp hW hy.1 _ c (by omega) hc2 (Nat.le_refl _) q4
            have h2 := (hW.2.2.2.2.1 y hy.1 hy.2.1).2.2.2.1
            rw [hy.2.2] at h2
            omega
          · rw [if_neg hg] at hx; cases hx
        · by_cases hg : g c = true
          · rw [if_pos hg]
            refine ih (ch T c) (dp T c + 1) (fun y hy => ?_) (pw_nodup hch.2)
            have hy := (hch.1 y).mp hy
            have h2 := (hW.2.2.2.2.1 y hy.1 hy.2.1).2.2.2.1
            rw [hy.2.2] at h2
            exact ⟨hy.1, hy.2.1, h2⟩
          · rw [if_neg hg]; exact List.nodup_nil
      · intro x hx y hy hxy
        obtain ⟨p1, p2, p3⟩ := hin x hx
        obtain ⟨q1, q2, z, q3, q4⟩ := vis_mem hW (d + 1) ks y (fun c hc => ⟨(hk c (by simp [hc])).1, (hk c (by simp [hc])).2.1⟩) hy
        rw [← hxy] at q4
        have hz := hk z (by simp [q3])
        have := tun_uni hW hc1 hz.1 (by rw [hc3, hz.2.2]) _ x (by omega) p3 (Nat.le_refl _) p1 q4
        exact hnd.1 (by rw [this]; exact q3)
theorem nodup_len : ∀ (n : Nat) (L : List Nat), L.Nodup → (∀ x ∈ L, x < n) → L.length ≤ n := by
  intro n
  induction n with
  | zero =>
    intro L _ h2
    cases L with
    | nil => exact Nat.le_refl _
    | cons x L => exact absurd (h2 x (by simp)) (Nat.not_lt_zero _)
  | succ n ih =>
    intro L h1 h2
    by_cases hn : n ∈ L
    · have h3 := ih (L.erase n) (h1.erase n) (fun x hx => by
        rw [h1.mem_erase_iff] at hx
        have := h2 x hx.2
        omega)
      rw [List.length_erase_of_mem hn] at h3
      omega
    · have h3 := ih L h1 (fun x hx => by
        have := h2 x hx
        have : x ≠ n := fun e => hn (e ▸ hx)
        omega)
      omega
theorem vis_len {T : sT} {g : Nat → Bool} (hW : WT T) {f d : Nat} (hf : f ≤ 60) (hl : 0 < kd T f) : (visG T g d (ch T f)).length ≤ 60 := by
  have hch := hW.2.2.2.2.2.2 f hf hl
  have hk : ∀ c ∈ ch T f, c < 60 ∧ 0 < kd T c ∧ dp T c = dp T f + 1 := fun y hy => by
    have hy := (hch.1 y).mp hy
    have h2 := (hW.2.2.2.2.1 y hy.1 hy.2.1).2.2.2.1
    rw [hy.2.2] at h2
    exact ⟨hy.1, hy.2.1, h2⟩
  exact nodup_len 60 _ (vis_nodup hW d (ch T f) _ hk (pw_nodup hch.2)) (fun x hx => (vis_mem hW d (ch T f) x (fun c hc => ⟨(hk c hc).1, (hk c hc).2.1⟩) hx).1)
