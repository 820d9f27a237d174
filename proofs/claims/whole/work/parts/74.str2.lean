/-! Strings cut out of others; where a letter stands in one. -/
section
variable {g : pg_G} {a v : Nat} {cs : List Nat}
theorem pg_cpB {a0 b n0 n1 sp dp n : Nat} {f h : Nat → Int32} (h0 : g.1.1 a0 = some (.inl (0, n0, .inl f))) (h1 : g.1.1 b = some (.inl (0, n1, .inl h))) (hs : g.1.2.2.1 ≤ b) (h2 : sp + n ≤ n0) (h3 : dp + n ≤ n1) (hb0 : n0 < 2 ^ 31) (hb1 : n1 < 2 ^ 31) (ho : ∀ i, i < n → vp_nar .byte (f (sp + i)) = f (sp + i)) : vg_cpB g.1 a0 (nI sp) b (nI dp) (nI n) = some (pg_put g b (.inl (0, n1, .inl (va_cpy f h sp dp n)))).1 := by
  have c1 : (nI sp).toNatClampNeg = sp := nI_clamp (by omega)
  have c2 : (nI dp).toNatClampNeg = dp := nI_clamp (by omega)
  have c3 : (nI n).toNatClampNeg = n := nI_clamp (by omega)
  simp only [vg_cpB, h0, h1, c1, c2, c3]
  rw [if_pos ⟨trivial, trivial, nI_pos (by omega), nI_pos (by omega), nI_pos (by omega), h2, h3, hs, ho⟩]; rfl
/-- a new row of bytes made under a tag of its own, then handed to another owner -/
theorem pg_T.own {α : Type} {x : vg_R α} {C N : Nat} {Q : α → pg_G → Prop} {r : α} {g1 : pg_G} {c n : Nat} (hg : pg_Wf g) (e : x = some (r, g1.1, c, n)) (hc : c ≤ C) (hn : n ≤ N) (hx : pg_Ext (fun t => t = pg_fr g) g g1) (ρ : Nat → Nat) (hρ : ∀ b, b < g.1.2.1 → ρ b = g1.2 b) (hq : Q r (g1.1, ρ)) : pg_T x C N (fun _ => False) g Q :=
  pg_T.fresh hg (W := fun _ => False) (P := fun r' g' => r' = r ∧ g' = g1) ⟨r, g1, c, n, e, hc, hn, hx.mono (fun _ h => Or.inr h), rfl, rfl⟩ (fun r' g' _ hp => by obtain ⟨rfl, rfl⟩ := hp; exact ⟨ρ, hρ, hq⟩)
theorem ps_copy {n s e : Nat} {f : Nat → Int32} (t : Nat) (hg : pg_Wf g) (hv : g.1.1 v = some (.inl (0, n, .inl f))) (hse : s ≤ e) (hen : e ≤ n) (hn : n < 67108864) (hb : ∀ i, i < e → vp_nar .byte (f i) = f i) (hb' : s = 0 → e = n → g.1.2.2.1 ≤ v ∧ ∀ i, i < n → vp_nar .byte (f i) = f i) :
    pg_T (fJ7_copyOfRange_39247 (some v) (nI s) (nI e) g.1) 1 (e - s) (fun _ => False) g (fun r g' => ∃ f', r = some g.1.2.1 ∧ g'.1.1 g.1.2.1 = some (.inl (0, e - s, .inl f')) ∧ (∀ i, i < e - s → f' i = f (s + i)) ∧ g'.2 g.1.2.1 = t) := by
  have hvl := hg.lt hv
  have hne : v ≠ g.1.2.1 := by omega
  have slow : pg_T (fJ7_copyOfRange_39247_10 (some v) (nI s) (nI e) g.1) 1 (e - s) (fun _ => False) g (fun r g' => ∃ f', r = some g.1.2.1 ∧ g'.1.1 g.1.2.1 = some (.inl (0, e - s, .inl f')) ∧ (∀ i, i < e - s → f' i = f (s + i)) ∧ g'.2 g.1.2.1 = t) := by
    unfold fJ7_copyOfRange_39247_10 fJ7_copyOfRangeByte_39247 fJ7_checkLength_df160
    rw [pg_br, if_pos (nI_le hse (by omega)), show vg_ret () g.1 = some ((), g.1, 0, 0) from rfl, pg_b0, pk_sub hse, pg_lenN (by omega), pg_o1]
    have hv1 : (pg_new g (pg_fr g) (.inl (0, e - s, .inl (fun _ => 0)))).1.1 v = some (.inl (0, n, .inl f)) := by rw [pg_new_ne _ _ _ hne]; exact hv
    have hq1 := pg_new_self g (pg_fr g) (.inl (0, e - s, .inl (fun _ => 0)))
    have hmin : (if nI (e - s) < nI n - nI s then nI (e - s) else nI n - nI s) = nI (e - s) := by
      rw [pk_sub (by omega : s ≤ n)]
      by_cases h : e - s < n - s
      · rw [if_pos (nI_lt h (by omega))]
      · rw [if_neg (nI_nlt (by omega) (by omega)), show n - s = e - s by omega]
    have ec : vg_nw (e - s) g.1.2.1 (vg_nA g.1 0 (e - s)) (fun a3 μ4 => vg_o (some v) fun a5 => vg_o (vg_al μ4 a5) fun x6 => vg_o (vg_cpB μ4 a5 (nI s) a3 0 (if nI (e - s) < x6 - nI s then nI (e - s) else x6 - nI s)) fun μ7 => vg_ret (some a3) μ7) = some (some g.1.2.1, (pg_put (pg_new g (pg_fr g) (.inl (0, e - s, .inl (fun _ => 0)))) g.1.2.1 (.inl (0, e - s, .inl (va_cpy f (fun _ => 0) s 0 (e - s))))).1, 1, e - s) := by
      have e0 : vg_nA g.1 0 (e - s) = (pg_new g (pg_fr g) (.inl (0, e - s, .inl (fun _ => 0)))).1 := rfl
      rw [e0]
      have e1 := pg_cpB (g := pg_new g (pg_fr g) (.inl (0, e - s, .inl (fun _ => 0)))) (n := e - s) (sp := s) (dp := 0) hv1 hq1 hg.2.1 (by omega) (by omega) (by omega) (by omega) (fun i hi => hb _ (by omega))
      simp only [vg_nw, pg_o1, pg_al hv1 (by decide), hmin, nI_0] at e1 ⊢
      rw [e1, pg_o1]; rfl
    have htag := pg_new_tag g (pg_fr g) (.inl (0, e - s, .inl (fun _ => 0)))
    refine pg_T.own hg ec (Nat.le_refl _) (Nat.le_refl _) ((pg_new_ext hg).trans (pg_put_ext (pg_new_wf hg) hq1 htag (by simp [pg_kd]))) (va_up (pg_new g (pg_fr g) (.inl (0, e - s, .inl (fun _ => 0)))).2 g.1.2.1 t) (fun b hb => by rw [va_up_ne _ _ (by omega)]; rfl) ⟨va_cpy f (fun _ => 0) s 0 (e - s), rfl, pg_put_self _ _ _, fun i hi => ?_, va_up_self _ _ _⟩
    rw [pk_cpy_in (Nat.zero_le _) (by omega)]; rfl
  unfold fJ7_copyOfRange_39247
  by_cases hs0 : s = 0
  · rw [if_pos (by rw [hs0]; rfl), pg_o1, pg_al hv (by decide), pg_o1]
    by_cases hen2 : e = n
    · rw [if_pos (by rw [hen2])]
      simp only [vg_cl, hv, if_pos (show True ∧ g.1.2.2.1 ≤ v ∧ ∀ i, i < n → vp_nar .byte (f i) = f i from ⟨trivial, hb' hs0 hen2⟩)]
      refine pg_T.own (g1 := pg_new g t (.inl (0, n, .inl f))) hg (r := some g.1.2.1) (c := 1) (n := n) ?_ (Nat.le_refl _) (by omega) (pg_new_ext hg) (pg_new g t (.inl (0, n, .inl f))).2 (fun _ _ => rfl) ⟨f, rfl, ?_, fun i hi => by rw [hs0, Nat.zero_add], pg_new_tag g t _⟩
      · have : (pg_new g t (.inl (0, n, .inl f))).1.1 g.1.2.1 = some (.inl (0, n, .inl f)) := pg_new_self _ _ _
        show vg_nw n g.1.2.1 (pg_new g t (.inl (0, n, .inl f))).1 _ = _
        have hold : (pg_new g t (.inl (0, n, .inl f))).1.2.2.1 ≤ g.1.2.1 := hg.2.1
        simp only [vg_nw, vg_cka, this, hold, or_true, and_self, if_true]; rfl
      · rw [hs0, hen2, Nat.sub_zero]; exact pg_new_self _ _ _
    · rw [if_neg (fun h => hen2 ((nI_eq (by omega) (by omega)).mp h))]
      exact slow
  · rw [if_neg (fun h => hs0 ((li_eq0 (by omega)).mp h))]
    exact slow
/-- a new string over a part of a row -/
theorem ps_newString {n s e : Nat} {f : Nat → Int32} (hnew : s = 0 → e = n → g.1.2.2.1 ≤ v) (hg : pg_Wf g) (hC : pg_C g) (hv : g.1.1 v = some (.inl (0, n, .inl f))) (hse : s ≤ e) (hen : e ≤ n) (hn : n < 67108864) (hb : ∀ i, i < n → vp_nar .byte (f i) = f i) (hl : cs.length = e - s) (hf : ∀ i, i < e - s → f (s + i) = nI (cs.getD i 0)) (h128 : ∀ c ∈ cs, c < 128) (h1000 : cs.length ≤ 1000) :
    pg_T (fJ1_newString_b4f7a (some v) (nI s) (nI (e - s)) g.1) 2 (4 + (e - s)) (fun _ => False) g (fun r g' => ∃ q, r = some q ∧ ps_S g' q cs) := by
  unfold fJ1_newString_b4f7a
  by_cases h0 : e - s = 0
  · rw [if_pos (by rw [h0]; rfl), vg_k]
    have : cs = [] := List.eq_nil_of_length_eq_zero (by omega)
    exact pg_T.ret hg ⟨_, rfl, this ▸ hC.2.1⟩
  · rw [if_neg (nI_ne0 (by omega) (by omega)), nI_add, show s + (e - s) = e by omega]
    refine pg_T.fresh (P := fun r g' => r = some g.1.2.1 ∧ ∃ f', g'.1.1 g.1.2.1 = some (.inr (0, [.ref (g.1.2.1 + 1), .int 0, .int 0, .int 0])) ∧ g'.1.1 (g.1.2.1 + 1) = some (.inl (0, e - s, .inl f')) ∧ ∀ i, i < e - s → f' i = f (s + i)) hg ?_ (fun r g' hx hp => ?_)
    · have hvl := hg.lt hv
      refine pg_T.nO (t := pg_fr g) hg (by decide) (by omega) ?_
      have w1 : pg_Wf (pg_new g (pg_fr g) (.inr (0, [.null, .int 0, .int 0, .int 0]))) := pg_new_wf hg
      have hv1 : (pg_new g (pg_fr g) (.inr (0, [.null, .int 0, .int 0, .int 0]))).1.1 v = some (.inl (0, n, .inl f)) := by rw [pg_new_ne _ _ _ (by omega)]; exact hv
      have ho := pg_new_self g (pg_fr g) (.inr (0, [.null, .int 0, .int 0, .int 0]))
      have hto := pg_new_tag g (pg_fr g) (.inr (0, [.null, .int 0, .int 0, .int 0]))
      have hsz : (pg_new g (pg_fr g) (.inr (0, [.null, .int 0, .int 0, .int 0]))).1.2.1 = g.1.2.1 + 1 := rfl
      have hz3 : (pg_new g (pg_fr g) (.inr (0, [.null, .int 0, .int 0, .int 0]))).1.2.2.1 = g.1.2.2.1 := rfl
      generalize pg_new g (pg_fr g) (.inr (0, [.null, .int 0, .int 0, .int 0])) = gz at *
      refine pg_T.b (ps_copy 0 w1 hv1 hse hen hn (fun i hi => hb i (by omega)) (fun q1 q2 => ⟨by rw [hz3]; exact hnew q1 q2, hb⟩)) (fun _ h => h.elim) (by decide) (by omega) (fun r g1 hx hp => ?_)
      obtain ⟨f', rfl, p2, p3, p4⟩ := hp
      rw [hsz] at p2 p4 ⊢
      have ho1 := hx.at w1 ho (fun h => h)
      have ht1 : g1.2 g.1.2.1 = pg_fr g := by rw [hx.tag w1 ho]; exact hto
      unfold fJ0_init_031fb
      refine pg_T.b (C1 := 0) (N1 := 0) (W1 := fun t => t = pg_fr g) (P := fun _ g' => ∃ f', g'.1.1 g.1.2.1 = some (.inr (0, [.ref (g.1.2.1 + 1), .int 0, .int 0, .int 0])) ∧ g'.1.1 (g.1.2.1 + 1) = some (.inl (0, e - s, .inl f')) ∧ ∀ i, i < e - s → f' i = f (s + i)) ?_ (fun _ h => Or.inr h) (by decide) (by omega) (fun _ g2 hx2 hp2 => pg_T.ret hx2.wf ⟨rfl, hp2⟩)
      refine pg_T.p hx.wf ho1 (by simp) (by rw [ht1]; exact pg_fr_0) ht1 ?_
      have ho2 := pg_put_self g1 g.1.2.1 (.inr (0, [.null, .int 0, .int 0, .int 0].set 0 (va_rf (some (g.1.2.1 + 1)))))
      have w2 : pg_Wf (pg_put g1 g.1.2.1 (.inr (0, [.null, .int 0, .int 0, .int 0].set 0 (va_rf (some (g.1.2.1 + 1)))))) := pg_put_wf hx.wf ho1
      rw [show vg_z .byte 0 = some 0 by decide, pg_o1]
      refine pg_T.p w2 ho2 (by simp) (by rw [pg_put_t, ht1]; exact pg_fr_0) ht1 ?_
      refine pg_T.ret (pg_put_wf w2 ho2) ⟨f', ?_, ?_, p3⟩
      · rw [pg_put_self]; rfl
      · rw [pg_put_ne _ _ (by omega), pg_put_ne _ _ (by omega)]; exact p2
    · obtain ⟨rfl, f', p1, p2, p3⟩ := hp
      refine ⟨fun b => if b < g.1.2.1 then g'.2 b else 0, fun b hb => if_pos hb, g.1.2.1, rfl, g.1.2.1 + 1, .int 0, .int 0, f', p1, ?_, fun i hi => ?_, h128, h1000, ?_, ?_⟩
      · rw [hl]; exact p2
      · rw [p3 i (by omega)]; exact hf i (by omega)
      · show (if g.1.2.1 < g.1.2.1 then _ else _) = _
        rw [if_neg (by omega)]
      · show (if g.1.2.1 + 1 < g.1.2.1 then _ else _) = _
        rw [if_neg (by omega)]
theorem ps_sub {s e : Nat} (hg : pg_Wf g) (hC : pg_C g) (h : ps_S g a cs) (hse : s ≤ e) (he : e ≤ cs.length) : pg_T (fJ0_substring_37a41 a (nI s) (nI e) g.1) 2 (4 + (e - s)) (fun _ => False) g (fun r g' => ∃ q, r = some q ∧ ps_S g' q (sl cs s e)) := by
  obtain ⟨v, x, z, f, h1, h2, h3, h4, h5, h6, h7⟩ := id h
  have slow : ¬ (s = 0 ∧ e = cs.length) → pg_T (fJ0_substring_37a41_22 a (nI s) (nI e) g.1) 2 (4 + (e - s)) (fun _ => False) g (fun r g' => ∃ q, r = some q ∧ ps_S g' q (sl cs s e)) := by
    intro hne
    simp only [fJ0_substring_37a41_22, pg_cv h1, ps_latin h, pg_b0, if_neg (show ¬ (1 : Int32) = 0 by decide), pg_gR h1 (k := 0) rfl, pg_o1, pg_br, pk_sub hse]
    have hsub : ∀ c ∈ sl cs s e, c ∈ cs := fun c hc => List.mem_of_mem_take (List.mem_of_mem_drop hc)
    exact ps_newString (fun q1 q2 => absurd ⟨q1, q2⟩ hne) hg hC h2 hse he (by omega) (fun i hi => by rw [h3 i hi]; exact (ps_c128 _ (ps_get h4 i hi)).2.2.1) (sl_len he) (fun i hi => by rw [h3 _ (by omega), sl_get (by omega)]) (fun c hc => h4 c (hsub c hc)) (by rw [sl_len he]; omega)
  simp only [fJ0_substring_37a41, pg_cv h1, ps_length h, pg_b0, fJ0_checkBoundsBeginEnd_23922, vg_kq, fJ3_checkFromToIndex_8c36e, if_neg (nI_pos (n := s) (by omega)), if_neg (nI_nlt hse (show e < 2 ^ 31 by omega)), if_pos (nI_le he (show cs.length < 2 ^ 31 by omega)), show ∀ (x : Int32) (μ : vg_M), vg_ret x μ = some (x, μ, 0, 0) from fun _ _ => rfl, show ∀ (x : Unit) (μ : vg_M), vg_ret x μ = some (x, μ, 0, 0) from fun _ _ => rfl, li_eq0 (show s < 2 ^ 31 by omega), nI_eq (show e < 2 ^ 31 by omega) (show cs.length < 2 ^ 31 by omega)]
  by_cases hs0 : s = 0
  · rw [if_pos hs0]
    by_cases hen : e = cs.length
    · rw [if_pos hen]
      refine pg_T.ret hg ⟨a, rfl, ?_⟩
      rw [hs0, hen, sl, List.take_length, List.drop_zero]; exact h
    · rw [if_neg hen]; exact slow (fun q => hen q.2)
  · rw [if_neg hs0]; exact slow (fun q => hs0 q.1)
theorem ps_ixL {f : Nat → Int32} {c : Nat} (hv : g.1.1 v = some (.inl (0, cs.length, .inl f))) (h3 : ∀ i, i < cs.length → f i = nI (cs.getD i 0)) (h4 : ∀ c ∈ cs, c < 128) (h5 : cs.length ≤ 1000) (hc : c < 128) : ∀ n i, i ≤ cs.length → cs.length < i + n → (∀ j, j < i → cs.getD j 0 ≠ c) → ∃ r, fJ1_indexOfChar_4cfef_7 n (some v) (nI cs.length) (nI c) (nI i) g.1 = some (r, g.1, 0, 0) ∧ ((r < 0) ↔ c ∉ cs) := by
  intro n
  induction n with
  | zero => intro i hi hn; omega
  | succ n ih =>
    intro i hi hn hne
    rw [fJ1_indexOfChar_4cfef_7]
    by_cases hie : i = cs.length
    · rw [if_pos (nI_le (by omega) (by omega))]
      refine ⟨-1, rfl, iff_of_true (by decide) (fun hm => ?_)⟩
      obtain ⟨j, hj, e⟩ := List.getElem_of_mem hm
      exact hne j (by omega) (by rw [ls_get hj]; exact e)
    · have hlt : i < cs.length := by omega
      rw [if_neg (nI_ge hlt (by omega)), pg_o1, pg_aI hv hlt (by omega), pg_o1, h3 i hlt]
      have c1 := ps_get h4 i hlt
      by_cases hce : cs.getD i 0 = c
      · rw [if_pos (by rw [hce])]
        refine ⟨nI i, rfl, iff_of_false (nI_pos (by omega)) (fun hm => hm ?_)⟩
        rw [← hce, ls_get hlt]; exact List.getElem_mem hlt
      · rw [if_neg (fun h => hce ((nI_eq (by omega) (by omega)).mp h)), nI_1]
        exact ih (i + 1) (by omega) (by omega) (fun j hj => by
          by_cases hji : j = i
          · subst hji; exact hce
          · exact hne j (by omega))
theorem ps_indexOf {c : Nat} (h : ps_S g a cs) (hc : c < 128) : ∃ r, fJ0_indexOf_0f7a4 a (nI c) g.1 = some (r, g.1, 0, 0) ∧ ((r < 0) ↔ c ∉ cs) := by
  obtain ⟨v, x, z, f, h1, h2, h3, h4, h5, h6, h7⟩ := id h
  have c8 := (ps_c128 c hc).2.2.2
  simp only [fJ0_indexOf_0f7a4, fJ0_indexOf_7cf53, pg_cv h1, ps_latin h, pg_b0, if_neg (show ¬ (1 : Int32) = 0 by decide), pg_gR h1 (k := 0) rfl, pg_o1, ps_length h, pg_br, fJ1_indexOf_4cfef, fJ1_canEncode_9a6ad, if_neg (nI_pos (n := c) (by omega)), if_neg (show ¬ (255 : Int32) < nI c from nI_nlt (a := 255) (b := c) (by omega) (by decide)), fJ1_canEncode_9a6ad_16, pg_z1, show ∀ (x : Int32) (μ : vg_M), vg_ret x μ = some (x, μ, 0, 0) from fun _ _ => rfl, pg_al h2 (show 0 < 6 by decide), if_neg (show ¬ (0 : Int32) < 0 by decide), ite_self]
  by_cases h0 : cs.length = 0
  · have hn : cs = [] := List.eq_nil_of_length_eq_zero h0
    rw [if_neg (by rw [h0]; decide)]
    exact ⟨-1, rfl, iff_of_true (by decide) (by rw [hn]; simp)⟩
  · rw [if_pos ((li_0lt (by omega)).mpr (by omega)), fJ1_indexOfChar_4cfef, c8]
    obtain ⟨r, e, hr⟩ := ps_ixL h2 h3 h4 h5 hc vg_fuel 0 (Nat.zero_le _) (by rw [ps_fuel]; omega) (fun j hj => absurd hj (Nat.not_lt_zero _))
    rw [nI_0] at e
    rw [e]
    exact ⟨r, rfl, hr⟩
end
