/-! What keeps a tree well made; how many nodes a removal takes. -/
section
variable {T : sT} {node k what : Nat} {w : List Nat}
theorem WT.kdn (hW : WT T) {j : Nat} (hj : j < 60) (hl : 0 < kd T j) : kd T (pa T j) = 2 := (hW.2.2.2.2.1 j hj hl).1
theorem WT.mem (hW : WT T) {j c : Nat} (hj : j ≤ 60) (hl : 0 < kd T j) : c ∈ ch T j ↔ c < 60 ∧ 0 < kd T c ∧ pa T c = j := (hW.2.2.2.2.2.2 j hj hl).1 c
theorem WT.srt (hW : WT T) {j : Nat} (hj : j ≤ 60) (hl : 0 < kd T j) : (ch T j).Pairwise (fun a b => nlt (nm T a) (nm T b) = true) := (hW.2.2.2.2.2.2 j hj hl).2
theorem WT.nod (hW : WT T) {j : Nat} (hj : j ≤ 60) (hl : 0 < kd T j) : (ch T j).Nodup := (hW.srt hj hl).imp (fun {a b} h e => by rw [e, nlt_irr] at h; cases h)
theorem WT.len (hW : WT T) {j : Nat} (hj : j ≤ 60) (hl : 0 < kd T j) : (ch T j).length ≤ 60 := nodup_len 60 _ (hW.nod hj hl) (fun x hx => ((hW.mem hj hl).mp hx).1)
theorem WT.file (hW : WT T) {j : Nat} (hj : j ≤ 60) (hl : 0 < kd T j) (h2 : kd T j ≠ 2) : ch T j = [] := by
  cases hc : ch T j with
  | nil => rfl
  | cons c l =>
    have := (hW.mem hj hl).mp (by rw [hc]; exact List.mem_cons_self)
    have h := hW.kdn this.1 this.2.1
    rw [this.2.2] at h
    exact absurd h h2
theorem nins_mem {L : List Nat} {c : Nat} : c ∈ nins T L k w ↔ c ∈ L ∨ c = k := by
  unfold nins
  rw [List.mem_append, List.mem_cons]
  have e := List.takeWhile_append_dropWhile (p := fun c => nlt (nm T c) w) (l := L)
  constructor
  · rintro (h | h | h)
    · left; rw [← e]; exact List.mem_append_left _ h
    · exact Or.inr h
    · left; rw [← e]; exact List.mem_append_right _ h
  · rintro (h | h)
    · rw [← e] at h
      rcases List.mem_append.mp h with h | h
      · exact Or.inl h
      · exact Or.inr (Or.inr h)
    · exact Or.inr (Or.inl h)
theorem takeW {p : Nat → Bool} : ∀ (L : List Nat) x, x ∈ L.takeWhile p → p x = true := by
  intro L
  induction L with
  | nil => intro x hx; cases hx
  | cons a L ih =>
    intro x hx
    rw [List.takeWhile_cons] at hx
    cases hp : p a with
    | false => rw [hp] at hx; cases hx
    | true =>
      rw [hp] at hx
      rcases List.mem_cons.mp hx with h | h
      · rw [h]; exact hp
      · exact ih x h
theorem dropW {p : Nat → Bool} : ∀ (L : List Nat) y l, L.dropWhile p = y :: l → p y = false := by
  intro L
  induction L with
  | nil => intro y l h; cases h
  | cons a L ih =>
    intro y l h
    rw [List.dropWhile_cons] at h
    cases hp : p a with
    | false => rw [hp] at h; simp only [Bool.false_eq_true, if_false, List.cons.injEq] at h; rw [← h.1]; exact hp
    | true => rw [hp] at h; exact ih y l h
theorem nins_srt {L : List Nat} (N : Nat → List Nat) (hs : L.Pairwise (fun a b => nlt (nm T a) (nm T b) = true)) (hk : N k = w) (hN : ∀ c ∈ L, N c = nm T c) (hw : ∀ c ∈ L, nm T c ≠ w) : (nins T L k w).Pairwise (fun a b => nlt (N a) (N b) = true) := by
  unfold nins
  have e := List.takeWhile_append_dropWhile (p := fun c => nlt (nm T c) w) (l := L)
  have hs' := hs
  rw [← e] at hs'
  rw [List.pairwise_append] at hs'
  obtain ⟨s1, s2, s3⟩ := hs'
  have m1 : ∀ c ∈ L.takeWhile (fun c => nlt (nm T c) w), c ∈ L := fun c hc => by rw [← e]; exact List.mem_append_left _ hc
  have m2 : ∀ c ∈ L.dropWhile (fun c => nlt (nm T c) w), c ∈ L := fun c hc => by rw [← e]; exact List.mem_append_right _ hc
  have hd : ∀ y ∈ L.dropWhile (fun c => nlt (nm T c) w), nlt w (nm T y) = true := by
    cases hdw : L.dropWhile (fun c => nlt (nm T c) w) with
    | nil => intro y hy; cases hy
    | cons y0 l =>
      have h0 := dropW L y0 l hdw
      have h0' : nlt w (nm T y0) = true := by
        rcases nlt_tot w (nm T y0) (fun e' => hw y0 (m2 y0 (by rw [hdw]; exact List.mem_cons_self)) e'.symm) with h | h
        · exact h
        · have h0 : nlt (nm T y0) w = false := h0
          rw [h0] at h; cases h
      intro y hy
      rcases List.mem_cons.mp hy with h | h
      · rw [h]; exact h0'
      · rw [hdw, List.pairwise_cons] at s2
        exact nlt_tr _ _ _ h0' (s2.1 y h)
  have imp : ∀ (L' : List Nat), (∀ c ∈ L', c ∈ L) → L'.Pairwise (fun a b => nlt (nm T a) (nm T b) = true) → L'.Pairwise (fun a b => nlt (N a) (N b) = true) := by
    intro L'
    induction L' with
    | nil => intro _ _; exact List.Pairwise.nil
    | cons x l ih =>
      intro hm hp
      rw [List.pairwise_cons] at hp ⊢
      refine ⟨fun y hy => ?_, ih (fun c hc => hm c (List.mem_cons_of_mem _ hc)) hp.2⟩
      rw [hN x (hm x List.mem_cons_self), hN y (hm y (List.mem_cons_of_mem _ hy))]; exact hp.1 y hy
  rw [List.pairwise_append, List.pairwise_cons]
  refine ⟨imp _ m1 s1, ⟨fun y hy => ?_, imp _ m2 s2⟩, fun x hx y hy => ?_⟩
  · rw [hk, hN y (m2 y hy)]; exact hd y hy
  · rcases List.mem_cons.mp hy with h | h
    · rw [h, hk, hN x (m1 x hx)]; exact takeW L x hx
    · rw [hN x (m1 x hx), hN y (m2 y h)]; exact s3 x hx y h
theorem tadd_ch {j : Nat} (h1 : j ≠ node) (h2 : j ≠ k) : ch (tadd T node w what k) j = ch T j := by unfold ch; rw [tadd_o h1 h2]
theorem WT.add (hW : WT T) (hn : node ≤ 60) (h2 : kd T node = 2) (hd : dp T node ≤ 5) (hw : pt_name w = true) (hc : tc T node w = none) (hk : k < 60) (hk0 : kd T k = 0) (hwh : what = 1 ∨ what = 2) : WT (tadd T node w what k) := by
  have hne : node ≠ k := fun e => by rw [e, hk0] at h2; cases h2
  have hne60 : (60 : Nat) ≠ k := by omega
  have kk := tadd_k (T := T) (node := node) (w := w) (what := what) (k := k) hne
  have kk1 : kd (tadd T node w what k) k = what := by unfold kd; rw [kk]
  have kk2 : pa (tadd T node w what k) k = node := by unfold pa; rw [kk]
  have kk3 : nm (tadd T node w what k) k = w := by unfold nm; rw [kk]
  have kk4 : pk (tadd T node w what k) k = false := by unfold pk; rw [kk]
  have kk5 : ch (tadd T node w what k) k = [] := by unfold ch; rw [kk]
  have kk6 : dp (tadd T node w what k) k = dp T node + 1 := by show (tadd T node w what k k).2.2.2.2.2 = _; rw [kk]
  have nn : ch (tadd T node w what k) node = nins T (ch T node) k w := by unfold ch; rw [tadd_new]; rfl
  obtain ⟨w1, w2, w3, w4, w5, w6, w7⟩ := id hW
  have hpk : ∀ j, j < 60 → 0 < kd T j → pa T j ≠ k := fun j hj hl e => by have := hW.kdn hj hl; rw [e, hk0] at this; cases this
  refine ⟨by rw [tadd_kd hne60]; exact w1, by rw [tadd_pk hne60]; exact w2, by rw [tadd_dp hne60]; exact w3, by rw [tadd_nm hne60]; exact w4, fun j hj hl => ?_, fun j j' hj hj' hl hl' hp hm => ?_, fun j hj hl => ?_⟩
  · by_cases hjk : j = k
    · rw [hjk, kk1, kk2, kk3, kk4, kk6, tadd_kd hne, tadd_dp hne]
      exact ⟨h2, hn, hw, rfl, by omega, fun h => by cases h⟩
    · rw [tadd_kd hjk] at hl
      have hp := hpk j hj hl
      rw [tadd_pa hjk, tadd_nm hjk, tadd_dp hjk, tadd_pk hjk, tadd_kd hjk, tadd_kd hp, tadd_dp hp]
      exact w5 j hj hl
  · by_cases hjk : j = k
    · by_cases hjk' : j' = k
      · rw [hjk, hjk']
      · rw [tadd_kd hjk'] at hl'
        rw [hjk, kk2, tadd_pa hjk'] at hp
        rw [hjk, kk3, tadd_nm hjk'] at hm
        exact absurd hm.symm (tc_none hc hj' hl' hp.symm)
    · rw [tadd_kd hjk] at hl
      by_cases hjk' : j' = k
      · rw [hjk', kk2, tadd_pa hjk] at hp
        rw [hjk', kk3, tadd_nm hjk] at hm
        exact absurd hm (tc_none hc hj hl hp)
      · rw [tadd_kd hjk'] at hl'
        rw [tadd_pa hjk, tadd_pa hjk'] at hp
        rw [tadd_nm hjk, tadd_nm hjk'] at hm
        exact w6 j j' hj hj' hl hl' hp hm
  · by_cases hjk : j = k
    · rw [hjk, kk5]
      refine ⟨fun c => ⟨fun h => (by cases h), fun ⟨a, b, d⟩ => ?_⟩, List.Pairwise.nil⟩
      by_cases hck : c = k
      · rw [hck, kk2] at d; exact absurd d hne
      · rw [tadd_kd hck] at b
        rw [tadd_pa hck] at d
        exact absurd d (hpk c a b)
    · rw [tadd_kd hjk] at hl
      obtain ⟨v1, v2⟩ := w7 j hj hl
      by_cases hjn : j = node
      · rw [hjn, nn]
        rw [hjn] at v1 v2
        refine ⟨fun c => ?_, nins_srt _ v2 kk3 (fun c hc' => tadd_nm (fun e => ?_)) (fun c hc' => ?_)⟩
        · rw [nins_mem, v1 c]
          by_cases hck : c = k
          · rw [hck, kk1, kk2]
            exact ⟨fun _ => ⟨hk, by omega, rfl⟩, fun _ => Or.inr rfl⟩
          · rw [tadd_kd hck, tadd_pa hck]
            exact ⟨fun h => h.elim (fun h => h) (fun h => absurd h hck), Or.inl⟩
        · have := ((v1 c).mp hc').2.1
          rw [e, hk0] at this; omega
        · obtain ⟨a, b, d⟩ := (v1 c).mp hc'
          exact tc_none hc a b d
      · rw [tadd_ch hjn hjk]
        have hck : ∀ c ∈ ch T j, c ≠ k := fun c hc' e => by have := ((v1 c).mp hc').2.1; rw [e, hk0] at this; omega
        refine ⟨fun c => ?_, ?_⟩
        · by_cases hck' : c = k
          · rw [hck', kk2]
            exact ⟨fun h => absurd rfl (hck k h), fun h => absurd h.2.2 (Ne.symm hjn)⟩
          · rw [tadd_kd hck', tadd_pa hck']; exact v1 c
        · refine List.Pairwise.imp_of_mem (fun {a b} ha hb h => ?_) v2
          rw [tadd_nm (hck a ha), tadd_nm (hck b hb)]; exact h
theorem tpk_o {on : Bool} {j : Nat} : kd (tpk T k on) j = kd T j ∧ pa (tpk T k on) j = pa T j ∧ nm (tpk T k on) j = nm T j ∧ ch (tpk T k on) j = ch T j ∧ dp (tpk T k on) j = dp T j ∧ pk (tpk T k on) j = if j = k then on else pk T j := by
  unfold tpk kd pa nm ch dp pk
  by_cases h : j = k
  · rw [h, va_up_self, if_pos rfl]; exact ⟨rfl, rfl, rfl, rfl, rfl, rfl⟩
  · rw [va_up_ne _ _ h, if_neg h]; exact ⟨rfl, rfl, rfl, rfl, rfl, rfl⟩
theorem tpk_n {on : Bool} : nm (tpk T k on) = nm T := funext (fun _ => tpk_o.2.2.1)
theorem WT.tpk {on : Bool} (hW : WT T) (hk : k < 60) (h2 : kd T k = 2) : WT (tpk T k on) := by
  have hn := tpk_n (T := T) (k := k) (on := on)
  obtain ⟨w1, w2, w3, w4, w5, w6, w7⟩ := hW
  refine ⟨by rw [tpk_o.1]; exact w1, by rw [tpk_o.2.2.2.2.2, if_neg (by omega)]; exact w2, by rw [tpk_o.2.2.2.2.1]; exact w3, by rw [hn]; exact w4, fun j hj hl => ?_, fun j j' hj hj' hl hl' hp hm => ?_, fun j hj hl => ?_⟩
  · rw [tpk_o.1] at hl
    rw [tpk_o.2.1, tpk_o.1, hn, tpk_o.2.2.2.2.1, tpk_o.2.2.2.2.1, tpk_o.1, tpk_o.2.2.2.2.2]
    obtain ⟨a, b, c, d, e, f⟩ := w5 j hj hl
    refine ⟨a, b, c, d, e, fun h => ?_⟩
    by_cases hjk : j = k
    · rw [hjk]; exact h2
    · rw [if_neg hjk] at h; exact f h
  · rw [tpk_o.1] at hl hl'
    rw [tpk_o.2.1, tpk_o.2.1] at hp
    rw [hn] at hm
    exact w6 j j' hj hj' hl hl' hp hm
  · rw [tpk_o.1] at hl
    rw [tpk_o.2.2.2.1, hn]
    refine ⟨fun c => ?_, (w7 j hj hl).2⟩
    rw [tpk_o.1, tpk_o.2.1]; exact (w7 j hj hl).1 c
theorem tkill_kd {j : Nat} : kd (tkill T node) j = if j < 60 ∧ tun T node j = true then 0 else kd T j := by
  by_cases h : j < 60 ∧ tun T node j = true
  · simp only [tkill, kd, if_pos h]
  · simp only [tkill, kd, if_neg h]
theorem trem_ch (hW : WT T) {j : Nat} : ch (trem T node) j = if j = pa T node then (ch T (pa T node)).erase node else ch T j := by
  unfold trem
  by_cases h : j = pa T node
  · rw [if_pos h, h]; unfold ch; rw [va_up_self]
  · rw [if_neg h]; unfold ch; rw [va_up_ne _ _ h]; unfold tkill; split <;> rfl
theorem WT.rem (hW : WT T) (hn : node < 60) (hl0 : 0 < kd T node) : WT (trem T node) := by
  have tk := trem_kd hW hn hl0
  have hpn : pa T node ≤ 60 := (hW.2.2.2.2.1 node hn hl0).2.1
  have hpl : 0 < kd T (pa T node) := by rw [hW.kdn hn hl0]; decide
  have hnm : nm (trem T node) = nm T := funext (fun j => (tk j).2.2.1)
  have hkd : ∀ j, kd (trem T node) j = if j < 60 ∧ tun T node j = true then 0 else kd T j := fun j => by rw [(tk j).1, tkill_kd]
  have live : ∀ j, 0 < kd (trem T node) j → 0 < kd T j ∧ (j < 60 → tun T node j = false) := by
    intro j hj
    rw [hkd] at hj
    by_cases hc : j < 60 ∧ tun T node j = true
    · rw [if_pos hc] at hj; exact absurd hj (by decide)
    · rw [if_neg hc] at hj
      refine ⟨hj, fun h6 => ?_⟩
      cases ht : tun T node j with
      | false => rfl
      | true => exact absurd ⟨h6, ht⟩ hc
  have liv2 : ∀ j, 0 < kd T j → (j < 60 → tun T node j = false) → kd (trem T node) j = kd T j := by
    intro j hj ht
    rw [hkd, if_neg (fun h => by rw [ht h.1] at h; cases h.2)]
  have par : ∀ j, j < 60 → 0 < kd (trem T node) j → kd (trem T node) (pa T j) = kd T (pa T j) := by
    intro j hj hl
    obtain ⟨a, b⟩ := live j hl
    refine liv2 _ (by rw [hW.kdn hj a]; decide) (fun h6 => ?_)
    have := tun_step (node := node) hW hj a
    rw [b hj] at this
    cases ht : tun T node (pa T j) with
    | false => rfl
    | true => rw [ht, Bool.or_true] at this; cases this
  obtain ⟨w1, w2, w3, w4, w5, w6, w7⟩ := id hW
  refine ⟨by rw [hkd, if_neg (fun h => absurd h.1 (by decide))]; exact w1, by rw [(tk 60).2.2.2.1]; exact w2, by rw [(tk 60).2.2.2.2]; exact w3, by rw [hnm]; exact w4, fun j hj hl => ?_, fun j j' hj hj' hl hl' hp hm => ?_, fun j hj hl => ?_⟩
  · have hp := par j hj hl
    obtain ⟨a, b⟩ := live j hl
    rw [(tk j).2.1, hp, hnm, (tk j).2.2.2.2, (tk (pa T j)).2.2.2.2, (tk j).2.2.2.1, liv2 j a b]
    exact w5 j hj a
  · rw [(tk j).2.1, (tk j').2.1] at hp
    rw [hnm] at hm
    exact w6 j j' hj hj' (live j hl).1 (live j' hl').1 hp hm
  · obtain ⟨a, b⟩ := live j hl
    have hj6 : j ≤ 60 := hj
    have htj : tun T node j = false := by
      by_cases h6 : j < 60
      · exact b h6
      · rw [show j = 60 by omega]; exact tun_60 (by omega)
    rw [trem_ch hW, hnm]
    obtain ⟨v1, v2⟩ := w7 j hj a
    have key : ∀ c, c < 60 → 0 < kd T c → pa T c = j → (0 < kd (trem T node) c ↔ c ≠ node) := by
      intro c hc hcl hcp
      have ht := tun_step (node := node) hW hc hcl
      rw [hcp, htj, Bool.or_false] at ht
      rw [hkd]
      by_cases hcn : c = node
      · rw [if_pos ⟨hc, by rw [ht, decide_eq_true hcn]⟩]; exact ⟨fun h => absurd h (by decide), fun h => absurd hcn h⟩
      · rw [if_neg (fun h => by rw [ht, decide_eq_false hcn] at h; cases h.2)]; exact ⟨fun _ => hcn, fun _ => hcl⟩
    by_cases hjp : j = pa T node
    · rw [if_pos hjp, ← hjp]
      have hnd : (ch T j).Nodup := hW.nod hj a
      refine ⟨fun c => ?_, v2.sublist List.erase_sublist⟩
      rw [hnd.mem_erase_iff, v1 c, (tk c).2.1]
      constructor
      · rintro ⟨h1, h2, h3, h4⟩
        exact ⟨h2, (key c h2 h3 h4).mpr h1, h4⟩
      · rintro ⟨h1, h2, h3⟩
        have := (live c h2).1
        exact ⟨(key c h1 this h3).mp h2, h1, this, h3⟩
    · rw [if_neg hjp]
      refine ⟨fun c => ?_, v2⟩
      rw [v1 c, (tk c).2.1]
      constructor
      · rintro ⟨h2, h3, h4⟩
        exact ⟨h2, (key c h2 h3 h4).mpr (fun e => hjp (by rw [← h4, e])), h4⟩
      · rintro ⟨h1, h2, h3⟩
        exact ⟨h1, (live c h2).1, h3⟩
theorem tnum_kill : ∀ (L : List Nat), L.Nodup → (∀ x ∈ L, x < 60 ∧ 0 < kd T x) → tnum T 60 0 = tnum (fun j => if j ∈ L then (0, (T j).2) else T j) 60 0 + L.length := by
  intro L
  induction L with
  | nil => intro _ _; rw [List.length_nil, Nat.add_zero]; exact (tnum_eq 60 0 (fun j _ _ => by simp [kd])).symm
  | cons c L ih =>
    intro hn hm
    rw [List.nodup_cons] at hn
    rw [ih hn.2 (fun x hx => hm x (List.mem_cons_of_mem _ hx)), List.length_cons]
    have := tnum_up (T := fun j => if j ∈ c :: L then (0, (T j).2) else T j) (T' := fun j => if j ∈ L then (0, (T j).2) else T j) (c := c) (by simp only [kd, if_pos (List.mem_cons_self (a := c) (l := L))]) (by simp only [kd, if_neg hn.1]; exact (hm c List.mem_cons_self).2) 60 0 (Nat.zero_le _) (by have := (hm c List.mem_cons_self).1; omega) (fun j _ _ hj => by
      by_cases h : j ∈ L
      · simp only [kd, if_pos h, if_pos (List.mem_cons_of_mem c h)]
      · have h2 : j ∉ c :: L := fun h' => (List.mem_cons.mp h').elim hj h
        simp only [kd, if_neg h, if_neg h2])
    omega
theorem tun_child (hW : WT T) {c : Nat} (hc : c ≤ 60) : ∀ n x, x ≤ 60 → 0 < kd T x → dp T x ≤ n → tun T c x = true → x ≠ c → ∃ c', c' < 60 ∧ 0 < kd T c' ∧ pa T c' = c ∧ tun T c' x = true := by
  intro n
  induction n with
  | zero =>
    intro x hx hl hd ht hne
    by_cases h6 : x < 60
    · have := (hW.2.2.2.2.1 x h6 hl).2.2.2.1; omega
    · have hx60 : x = 60 := by omega
      rw [hx60, tun_60 (by omega)] at ht; cases ht
  | succ n ih =>
    intro x hx hl hd ht hne
    by_cases h6 : x < 60
    · have hs := tun_step (node := c) hW h6 hl
      rw [ht, decide_eq_false hne, Bool.false_or] at hs
      have hw := hW.2.2.2.2.1 x h6 hl
      by_cases hp : pa T x = c
      · exact ⟨x, h6, hl, hp, tun_self⟩
      · obtain ⟨c', q1, q2, q3, q4⟩ := ih (pa T x) hw.2.1 (by rw [hw.1]; decide) (by have := hw.2.2.2.1; omega) hs.symm hp
        exact ⟨c', q1, q2, q3, by rw [tun_step hW h6 hl, q4, Bool.or_true]⟩
    · have hx60 : x = 60 := by omega
      rw [hx60, tun_60 (by omega)] at ht; cases ht
theorem vis_all (hW : WT T) : ∀ d ks c x, c ∈ ks → c < 60 → 0 < kd T c → x < 60 → 0 < kd T x → tun T c x = true → dp T x < dp T c + d → x ∈ visG T (fun _ => true) d ks := by
  intro d
  induction d with
  | zero =>
    intro ks c x hc h1 h2 h3 h4 h5 h6
    have := tun_dp hW h1 (dp T x) x (by omega) h4 (Nat.le_refl _) h5
    omega
  | succ d ih =>
    intro ks c x hc h1 h2 h3 h4 h5 h6
    rw [visG, List.mem_flatMap]
    refine ⟨c, hc, ?_⟩
    by_cases hx : x = c
    · rw [hx]; exact List.mem_cons_self
    · obtain ⟨c', q1, q2, q3, q4⟩ := tun_child hW (by omega) (dp T x) x (by omega) h4 (Nat.le_refl _) h5 hx
      have hd := (hW.2.2.2.2.1 c' q1 q2).2.2.2.1
      rw [q3] at hd
      refine List.mem_cons_of_mem _ ?_
      rw [if_pos rfl]
      exact ih (ch T c) c' x ((hW.mem (by omega) h2).mpr ⟨q1, q2, q3⟩) q1 q2 h3 h4 q4 (by omega)
theorem tun_up (hW : WT T) {c x : Nat} (hcl : c < 60) (hl : 0 < kd T c) : ∀ n y, y < 60 → 0 < kd T y → dp T y ≤ n → tun T c y = true → pa T c = x → tun T x y = true := by
  intro n
  induction n with
  | zero =>
    intro y hy hly hd ht hp
    have := (hW.2.2.2.2.1 y hy hly).2.2.2.1; omega
  | succ n ih =>
    intro y hy hly hd ht hp
    rw [tun_step hW hy hly]
    rw [tun_step hW hy hly] at ht
    have hw := hW.2.2.2.2.1 y hy hly
    by_cases hyc : y = c
    · rw [hyc, hp, tun_self, Bool.or_true]
    · rw [decide_eq_false hyc, Bool.false_or] at ht
      by_cases h6 : pa T y < 60
      · rw [ih (pa T y) h6 (by rw [hw.1]; decide) (by have := hw.2.2.2.1; omega) ht hp, Bool.or_true]
      · rw [show pa T y = 60 by omega, tun_60 (by omega)] at ht; cases ht
theorem tnum_rem (hW : WT T) (hn : node < 60) (hl : 0 < kd T node) : 1 + (visG T (fun _ => true) 6 (ch T node)).length = tnum T 60 0 - tnum (tkill T node) 60 0 := by
  have hch : ∀ c ∈ ch T node, c < 60 ∧ 0 < kd T c ∧ pa T c = node := fun c hc => (hW.mem (by omega) hl).mp hc
  have hdp : ∀ c ∈ ch T node, dp T c = dp T node + 1 := fun c hc => by
    have := (hW.2.2.2.2.1 c (hch c hc).1 (hch c hc).2.1).2.2.2.1
    rw [(hch c hc).2.2] at this; exact this
  have hvm : ∀ x ∈ visG T (fun _ => true) 6 (ch T node), x < 60 ∧ 0 < kd T x ∧ ∃ c ∈ ch T node, tun T c x = true := fun x hx => vis_mem hW 6 _ x (fun c hc => ⟨(hch c hc).1, (hch c hc).2.1⟩) hx
  have hnn : node ∉ visG T (fun _ => true) 6 (ch T node) := fun h => by
    obtain ⟨_, _, c, hc, ht⟩ := hvm node h
    have := tun_dp hW (hch c hc).1 (dp T node) node (by omega) hl (Nat.le_refl _) ht
    have := hdp c hc; omega
  have nd : (node :: visG T (fun _ => true) 6 (ch T node)).Nodup := List.nodup_cons.mpr ⟨hnn, vis_nodup hW 6 _ (dp T node + 1) (fun c hc => ⟨(hch c hc).1, (hch c hc).2.1, hdp c hc⟩) (hW.nod (by omega) hl)⟩
  have key := tnum_kill (T := T) _ nd (fun x hx => (List.mem_cons.mp hx).elim (fun e => e ▸ ⟨hn, hl⟩) (fun h => ⟨(hvm x h).1, (hvm x h).2.1⟩))
  have e : tnum (fun j => if j ∈ node :: visG T (fun _ => true) 6 (ch T node) then (0, (T j).2) else T j) 60 0 = tnum (tkill T node) 60 0 := by
    refine tnum_eq 60 0 (fun j _ hj => ?_)
    rw [tkill_kd]
    show (if j ∈ node :: visG T (fun _ => true) 6 (ch T node) then (0, (T j).2) else T j).1 = if j < 60 ∧ tun T node j = true then 0 else (T j).1
    by_cases hlj : 0 < kd T j
    · by_cases hm : j ∈ node :: visG T (fun _ => true) 6 (ch T node)
      · rw [if_pos hm]
        have ht : tun T node j = true := by
          rcases List.mem_cons.mp hm with h | h
          · rw [h]; exact tun_self
          · obtain ⟨q1, q2, c, hc, ht⟩ := hvm j h
            exact tun_up hW (hch c hc).1 (hch c hc).2.1 (dp T j) j q1 q2 (Nat.le_refl _) ht (hch c hc).2.2
        rw [if_pos ⟨by omega, ht⟩]
      · rw [if_neg hm, if_neg]
        rintro ⟨h6, ht⟩
        refine hm ?_
        by_cases hjn : j = node
        · rw [hjn]; exact List.mem_cons_self
        · obtain ⟨c', q1, q2, q3, q4⟩ := tun_child hW (by omega) (dp T j) j (by omega) hlj (Nat.le_refl _) ht hjn
          refine List.mem_cons_of_mem _ (vis_all hW 6 _ c' j ((hW.mem (by omega) hl).mpr ⟨q1, q2, q3⟩) q1 q2 h6 hlj q4 ?_)
          have := (hW.2.2.2.2.1 j h6 hlj).2.2.2.2.1
          have := (hW.2.2.2.2.1 c' q1 q2).2.2.2.1
          omega
    · have h0 : (T j).1 = 0 := by unfold kd at hlj; omega
      rw [h0, ite_self]
      by_cases hm : j ∈ node :: visG T (fun _ => true) 6 (ch T node)
      · rw [if_pos hm]
      · rw [if_neg hm]; exact h0
  rw [e, List.length_cons] at key
  omega
end
