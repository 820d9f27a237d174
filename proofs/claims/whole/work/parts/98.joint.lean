/-! Both sides at once. -/
def RR (g : pg_G) (m : Nat) (S : Nat → Int32) (F : Nat → Nat → Int32) : Prop := (∀ a, m ≤ a → a < m + 29 → g.1.1 a = (rf_M g.1 m S F).1 a ∧ g.2 a = 1) ∧ g.1.2.2.1 ≤ m
def RF (t : List Nat) (T : sT) (fr : Nat → Nat → Bool) (qs : List sQ) (plc : Int32) (an : List (List Nat)) (lk B : Nat) (S : Nat → Int32) (F : Nat → Nat → Int32) : Prop := RT t S F ∧ RTr T F ∧ RSn fr qs.length T B S F ∧ RQ qs S F ∧ RA an S F ∧ S 26 = nI lk ∧ S 25 = plc
def LO (g : pg_G) (m out : Nat) (fo : Nat → Int64) : Prop := g.1.1 out = some (.inl (4, 1, .inr (.inl fo))) ∧ g.2 out = 1 ∧ (out < m ∨ m + 29 ≤ out) ∧ g.1.2.2.1 ≤ out
def LI (g : pg_G) (x m out B : Nat) : Prop := ∃ t T fr qs plc an lk S F fo, cG g x B t T fr qs plc an lk ∧ RR g m S F ∧ RF t T fr qs plc an lk B S F ∧ LO g m out fo
section
variable {g g' : pg_G} {W : Nat → Prop} {x m out B lk : Nat} {t : List Nat} {T : sT} {fr : Nat → Nat → Bool} {qs : List sQ} {plc : Int32} {an : List (List Nat)} {S S' : Nat → Int32} {F F' : Nat → Nat → Int32} {fo : Nat → Int64}
theorem rf_ar_some {j : Nat} (h1 : 1 ≤ j) (h2 : j < 29) : ∃ q, rf_tab j = some q := by
  have : ∀ j, j < 29 → (rf_tab j).isSome = true := by decide +kernel
  exact Option.isSome_iff_exists.mp (this j h2)
theorem rf_kd {μ : vg_M} {a : Nat} : pg_kd ((rf_M μ m S' F').1 a) = if m ≤ a ∧ a < m + 29 then pg_kd ((rf_M μ m S F).1 a) else pg_kd (μ.1 a) := by
  by_cases h : m ≤ a ∧ a < m + 29
  · rw [if_pos h]
    by_cases hm : a = m
    · subst hm; rw [rf_at0, rf_at0]; rfl
    · obtain ⟨j, rfl⟩ : ∃ j, a = m + j := ⟨a - m, by omega⟩
      obtain ⟨q, hq⟩ := rf_ar_some (j := j) (by omega) (by omega)
      rw [rf_atj _ _ _ _ (by omega) (by omega), rf_atj _ _ _ _ (by omega) (by omega)]
      simp only [rf_ar, hq, pg_kd]
  · rw [if_neg h, rf_out _ _ _ _ (by omega)]
theorem RR.eq (h : RR g m S F) : rf_M g.1 m S F = g.1 := by
  refine Prod.ext (funext fun a => ?_) rfl
  by_cases hr : m ≤ a ∧ a < m + 29
  · exact ((h.1 a hr.1 hr.2).1).symm
  · exact rf_out _ _ _ _ (by omega)
theorem RR.m0 (h : RR g m S F) : ∃ fs, g.1.1 m = some (.inr (14, fs)) := ⟨_, by rw [(h.1 m (Nat.le_refl _) (by omega)).1, rf_at0]⟩
theorem RR.some (h : RR g m S F) {a : Nat} (h1 : m ≤ a) (h2 : a < m + 29) : ∃ e, g.1.1 a = some e := by
  rw [(h.1 a h1 h2).1]
  by_cases hm : a = m
  · subst hm; exact ⟨_, rf_at0 _ _ _ _⟩
  · obtain ⟨j, rfl⟩ : ∃ j, a = m + j := ⟨a - m, by omega⟩
    obtain ⟨q, hq⟩ := rf_ar_some (j := j) (by omega) (by omega)
    rw [rf_atj _ _ _ _ (by omega) (by omega)]
    simp only [rf_ar, hq]
    exact ⟨_, rfl⟩
theorem rf_same {μ μ' : vg_M} {a : Nat} (h1 : m ≤ a) (h2 : a < m + 29) : (rf_M μ m S F).1 a = (rf_M μ' m S F).1 a := by
  by_cases hm : a = m
  · subst hm; rw [rf_at0, rf_at0]
  · obtain ⟨j, rfl⟩ : ∃ j, a = m + j := ⟨a - m, by omega⟩
    rw [rf_atj _ _ _ _ (by omega) (by omega), rf_atj _ _ _ _ (by omega) (by omega)]
theorem RR.ext (h : RR g m S F) (hg : pg_Wf g) (he : pg_Ext W g g') (hw : ¬ W 1) : RR g' m S F := by
  refine ⟨fun a h1 h2 => ?_, by rw [he.2.1]; exact h.2⟩
  obtain ⟨e, hs⟩ := h.some h1 h2
  obtain ⟨q1, q2⟩ := h.1 a h1 h2
  exact ⟨by rw [he.at hg hs (by rw [q2]; exact hw), ← hs, q1]; exact rf_same h1 h2, by rw [he.tag hg hs, q2]⟩
/-- the reference's own step -/
theorem RR.step (S' : Nat → Int32) (F' : Nat → Nat → Int32) (h : RR g m S F) (hg : pg_Wf g) : pg_Ext (fun s => s = 1) g (rf_M g.1 m S' F', g.2) ∧ RR (rf_M g.1 m S' F', g.2) m S' F' := by
  have hlt : ∀ a, m ≤ a → a < m + 29 → a < g.1.2.1 := fun a h1 h2 => by obtain ⟨e, hs⟩ := h.some h1 h2; exact hg.lt hs
  refine ⟨⟨Nat.le_refl _, rfl, fun _ _ => rfl, fun b hb hn => ?_, fun b hb => ?_, ⟨fun b hb => ?_, hg.2⟩⟩, fun a h1 h2 => ⟨?_, (h.1 a h1 h2).2⟩, h.2⟩
  · show (rf_M g.1 m S' F').1 b = g.1.1 b
    by_cases hr : m ≤ b ∧ b < m + 29
    · exact absurd (h.1 b hr.1 hr.2).2 hn
    · exact rf_out _ _ _ _ (by omega)
  · show pg_kd ((rf_M g.1 m S' F').1 b) = pg_kd (g.1.1 b)
    rw [rf_kd (S := S) (F := F)]
    by_cases hr : m ≤ b ∧ b < m + 29
    · rw [if_pos hr, (h.1 b hr.1 hr.2).1]
    · rw [if_neg hr]
  · show (rf_M g.1 m S' F').1 b = none
    have hb' : g.1.2.1 ≤ b := hb
    rw [rf_out _ _ _ _ (by
      by_cases hr : m ≤ b ∧ b < m + 29
      · have := hlt b hr.1 hr.2; omega
      · omega)]
    exact hg.1 b hb'
  · show (rf_M g.1 m S' F').1 a = (rf_M (rf_M g.1 m S' F') m S' F').1 a
    exact rf_same h1 h2
theorem cGx.ext1 {a tb tr ql wk ans pb : Nat} {A : Nat → Nat} {sn : Nat → Nat → Nat} {rd : Nat → Nat} {qx : List Nat} (h : cGx g a tb tr ql wk ans pb A sn rd qx B t T fr qs plc an lk) (he : pg_Ext W g g') (hw : ∀ s, W s → s = 1) : cGx g' a tb tr ql wk ans pb A sn rd qx B t T fr qs plc an lk := by
  obtain ⟨⟨a1, a2⟩, a3, ⟨a4, a5⟩, ⟨a6, a7, a8⟩, ⟨a9, a10⟩, a11, a12, a13, a14, a15, a16, a17⟩ := h
  have nw : ∀ s, s ≠ 1 → ¬ W s := fun s h1 h2 => h1 (hw s h2)
  exact ⟨⟨he.at a15 a1 (by rw [a2]; exact nw 7 (by decide)), by rw [he.tag a15 a1, a2]⟩, a3.ext a15 he (nw 2 (by decide)), ⟨a4.ext a15 he (nw 5 (by decide)), a5.ext a15 he (nw 0 (by decide)) (fun s hs => nw s (by omega))⟩, ⟨a6.ext a15 he (nw 0 (by decide)) (nw 6 (by decide)) (fun s h1 h2 => nw s (by omega)), a7, a8⟩, ⟨he.at a15 a9 (by rw [a10]; exact nw 0 (by decide)), by rw [he.tag a15 a9, a10]⟩, a11.ext a15 he (nw 3 (by decide)), a12.ext a15 he (nw 4 (by decide)) (nw 8 (by decide)) (nw 9 (by decide)), a13, a14.ext a15 he (nw 0 (by decide)), he.wf, a16, a17⟩
theorem cG.ext1 (h : cG g x B t T fr qs plc an lk) (he : pg_Ext W g g') (hw : ∀ s, W s → s = 1) : cG g' x B t T fr qs plc an lk := by
  obtain ⟨tb, tr, ql, wk, ans, pb, A, sn, rd, qx, h⟩ := h
  exact ⟨tb, tr, ql, wk, ans, pb, A, sn, rd, qx, h.ext1 he hw⟩
theorem cG.wf (h : cG g x B t T fr qs plc an lk) : pg_Wf g ∧ WT T := by
  obtain ⟨tb, tr, ql, wk, ans, pb, A, sn, rd, qx, h⟩ := h
  exact ⟨h.w.1, h.w.2.2⟩
theorem cG.x0 (h : cG g x B t T fr qs plc an lk) : ∃ fs, g.1.1 x = some (.inr (13, fs)) := by
  obtain ⟨tb, tr, ql, wk, ans, pb, A, sn, rd, qx, ⟨a1, -⟩, -⟩ := h
  exact ⟨_, a1⟩
/-- the heap's size may be another -/
theorem cG.resize {z : Nat} (h : cG g x B t T fr qs plc an lk) (hw : pg_Wf ((g.1.1, z, g.1.2.2), g.2)) : cG ((g.1.1, z, g.1.2.2), g.2) x B t T fr qs plc an lk := by
  obtain ⟨tb, tr, ql, wk, ans, pb, A, sn, rd, qx, a1, a3, a4, a6, a9, a11, a12, a13, a14, a15, a16, a17⟩ := h
  exact ⟨tb, tr, ql, wk, ans, pb, A, sn, rd, qx, a1, a3, a4, a6, a9, a11, a12, a13, a14, hw, a16, a17⟩
theorem LO.ext (h : LO g m out fo) (hg : pg_Wf g) (he : pg_Ext W g g') (hw : ¬ W 1) : LO g' m out fo := ⟨he.at hg h.1 (by rw [h.2.1]; exact hw), by rw [he.tag hg h.1]; exact h.2.1, h.2.2.1, by rw [he.2.1]; exact h.2.2.2⟩
theorem LO.step (h : LO g m out fo) : LO (rf_M g.1 m S' F', g.2) m out fo := ⟨by show (rf_M g.1 m S' F').1 out = _; rw [rf_out _ _ _ _ h.2.2.1]; exact h.1, h.2.1, h.2.2.1, h.2.2.2⟩
theorem RSn.up {B' : Nat} {nq : Nat} (h : RSn fr nq T B S F) (hB : B ≤ B') : RSn fr nq T B' S F := by
  obtain ⟨ma, cg, ow, to, as, se, a0, h1, h2, h3, h4, h5⟩ := h
  exact ⟨ma, cg, ow, to, as, se, a0, h1, h2, by omega, by omega, h5⟩
/-- where one side has gone on, and the other not yet -/
def LM (g : pg_G) (x m out B : Nat) (t : List Nat) (T : sT) (fr : Nat → Nat → Bool) (qs : List sQ) (plc : Int32) (an : List (List Nat)) (lk : Nat) (S : Nat → Int32) (F : Nat → Nat → Int32) (fo : Nat → Int64) : Prop := cG g x B t T fr qs plc an lk ∧ RR g m S F ∧ LO g m out fo
theorem LM.put {f' : Nat → Int64} (h : LM g x m out B t T fr qs plc an lk S F fo) : LM (pg_put g out (.inl (4, 1, .inr (.inl f')))) x m out B t T fr qs plc an lk S F f' := by
  obtain ⟨h1, h2, h3⟩ := h
  obtain ⟨hg, -⟩ := h1.wf
  have xx := pg_put_ext (W := fun s => s = 1) (e := .inl (4, 1, .inr (.inl f'))) hg h3.1 h3.2.1 (by simp [pg_kd])
  refine ⟨h1.ext1 xx (fun s h => h), ⟨fun a q1 q2 => ⟨?_, (h2.1 a q1 q2).2⟩, h2.2⟩, pg_put_self _ _ _, h3.2.1, h3.2.2.1, h3.2.2.2⟩
  have := h3.2.2.1
  rw [pg_put_ne _ _ (by omega), (h2.1 a q1 q2).1]
  exact rf_same q1 q2
theorem LM.resize {z : Nat} (h : LM g x m out B t T fr qs plc an lk S F fo) (hw : pg_Wf ((g.1.1, z, g.1.2.2), g.2)) : LM ((g.1.1, z, g.1.2.2), g.2) x m out B t T fr qs plc an lk S F fo := by
  obtain ⟨h1, h2, h3⟩ := h
  exact ⟨h1.resize hw, ⟨fun a q1 q2 => ⟨by show g.1.1 a = _; rw [(h2.1 a q1 q2).1]; exact rf_same q1 q2, (h2.1 a q1 q2).2⟩, h2.2⟩, h3⟩
theorem LM.done {t' : List Nat} {S' : Nat → Int32} {F' : Nat → Nat → Int32} {B' : Nat} (h : LM g x m out B t T fr qs plc an lk S F fo) (hB : B ≤ B') (hF : RF t T fr qs plc an lk B' S' F') : LI (rf_M g.1 m S' F', g.2) x m out B' := by
  obtain ⟨h1, h2, h3⟩ := h
  obtain ⟨hg, -⟩ := h1.wf
  obtain ⟨x1, x2⟩ := h2.step S' F' hg
  exact ⟨t, T, fr, qs, plc, an, lk, S', F', fo, (h1.ext1 x1 (fun s h => h)).mono hB, x2, hF, h3.step⟩
theorem LM.cls {C N : Nat} {α : Type} {f : vg_R α} {Q : α → pg_G → Prop} (h : LO g m out fo) (h2 : RR g m S F) (hg : pg_Wf g) (hf : pg_T f C N (fun s => 2 ≤ s) g Q) : ∃ r g1 c1 n1, f = some (r, g1.1, c1, n1) ∧ c1 ≤ C ∧ n1 ≤ N ∧ Q r g1 ∧ RR g1 m S F ∧ LO g1 m out fo := by
  obtain ⟨r, g1, c1, n1, e, q1, q2, q3, q4⟩ := hf
  exact ⟨r, g1, c1, n1, e, q1, q2, q4, h2.ext hg q3 (by decide), h.ext hg q3 (by decide)⟩
/-- a call whose answer is a number, or a throw that the law catches -/
def LC (fc : vg_M → vg_R (Int32 ⊕ Nat)) (fm : vg_M → vg_R Int32) (g : pg_G) (x m out B : Nat) : Prop := ∃ (r : Int32 ⊕ Nat) (g1 : pg_G) (c1 n1 k v : Nat) (fo : Nat → Int64), fc g.1 = some (r, g1.1, c1, n1) ∧ c1 ≤ 310 ∧ n1 ≤ 8480 ∧ k ≤ 2 ∧ r = (if k = 0 then .inl (nI v) else .inr k) ∧ LO g1 m out fo ∧ pg_Wf g1 ∧ ∀ g2 : pg_G, ((∃ f', g2 = pg_put g1 out (.inl (4, 1, .inr (.inl f')))) ∨ ∃ z, g2 = ((g1.1.1, z, g1.1.2.2), g1.2) ∧ pg_Wf g2) → ∃ g3 : pg_G, fm g2.1 = some (nI v, g3.1, 0, 0) ∧ fX11_thrown m g3.1 = some (nI k, g3.1, 0, 0) ∧ LI g3 x m out (B + 12) ∧ (∃ fs, g2.1.1 m = some (.inr (14, fs))) ∧ g3.1.1 out = g2.1.1 out
def LU (fc : vg_M → vg_R (Unit ⊕ Nat)) (fm : vg_M → vg_R Unit) (g : pg_G) (x m out B : Nat) : Prop := ∃ (r : Unit ⊕ Nat) (g1 : pg_G) (c1 n1 k : Nat), fc g.1 = some (r, g1.1, c1, n1) ∧ c1 ≤ 310 ∧ n1 ≤ 8480 ∧ k ≤ 2 ∧ r = (if k = 0 then .inl () else .inr k) ∧ pg_Wf g1 ∧ ∀ g2 : pg_G, (g2 = g1 ∨ ∃ z, g2 = ((g1.1.1, z, g1.1.2.2), g1.2) ∧ pg_Wf g2) → ∃ g3 : pg_G, fm g2.1 = some ((), g3.1, 0, 0) ∧ fX11_thrown m g3.1 = some (nI k, g3.1, 0, 0) ∧ LI g3 x m out (B + 12) ∧ ∃ fs, g2.1.1 m = some (.inr (14, fs))
theorem sput_le {what : Nat} : (sput t T fr what).1 ≤ 2 := by
  unfold sput
  cases pt t with
  | none => simp
  | some sp => simp only; split <;> simp
theorem srem_le : (srem t T fr).1 ≤ 2 := by
  unfold srem
  cases pt t with
  | none => simp
  | some sp => simp only; split <;> simp
theorem spack_le {on : Bool} : (spack t T fr on).1 ≤ 2 := by
  unfold spack
  cases pt t with
  | none => simp
  | some sp => simp only; split <;> simp
theorem sqry_le : (sqry t qs).1 ≤ 2 := by
  unfold sqry
  split
  · simp
  · split <;> simp
theorem spat_le {q : Int32} {o : Bool} : (spat t qs q o).1 ≤ 2 := by
  unfold spat
  split
  · simp
  · cases pp t with
    | inr e => simp
    | inl P =>
      simp only
      generalize (if o = true then outs (qs.getD q.toNatClampNeg ([], [])) else ins (qs.getD q.toNatClampNeg ([], []))).length = nn
      by_cases hn : nn = 4
      · rw [if_pos hn]; simp
      · rw [if_neg hn]; simp
/-- a step of both, the answer a number -/
theorem LC.mk {fc : vg_M → vg_R (Int32 ⊕ Nat)} {fm : vg_M → vg_R Int32} {k v lk' B' : Nat} {t' : List Nat} {T' : sT} {fr' : Nat → Nat → Bool} {qs' : List sQ} {plc' : Int32} {an' : List (List Nat)} (hc : cG g x B t T fr qs plc an lk) (hR : RR g m S F) (hO : LO g m out fo) (hB : B' ≤ B + 12) (hk : k ≤ 2)
    (h1 : pg_T (fc g.1) 310 8480 (fun s => 2 ≤ s) g (fun r g' => r = (if k = 0 then .inl (nI v) else .inr k) ∧ cG g' x B' t' T' fr' qs' plc' an' lk'))
    (h2 : ∀ μ : vg_M, μ.2.2.1 ≤ m → ∃ S' F', fm (rf_M μ m S F) = some (nI v, rf_M μ m S' F', 0, 0) ∧ S' 0 = nI k ∧ RF t' T' fr' qs' plc' an' lk' (B + 12) S' F') : LC fc fm g x m out B := by
  obtain ⟨hg, -⟩ := hc.wf
  obtain ⟨r, g1, c1, n1, e, q1, q2, ⟨q3, q4⟩, q5, q6⟩ := LM.cls hO hR hg h1
  refine ⟨r, g1, c1, n1, k, v, fo, e, q1, q2, hk, q3, q6, q4.wf.1, fun g2 hg2 => ?_⟩
  have hM1 : LM g1 x m out B' t' T' fr' qs' plc' an' lk' S F fo := ⟨q4, q5, q6⟩
  obtain ⟨fo2, hM2⟩ : ∃ fo2, LM g2 x m out B' t' T' fr' qs' plc' an' lk' S F fo2 := by
    rcases hg2 with ⟨f', rfl⟩ | ⟨z, rfl, hw⟩
    · exact ⟨f', hM1.put⟩
    · exact ⟨fo, hM1.resize hw⟩
  obtain ⟨S', F', e1, e2, e3⟩ := h2 g2.1 hM2.2.1.2
  rw [hM2.2.1.eq] at e1
  refine ⟨(rf_M g2.1 m S' F', g2.2), e1, ?_, hM2.done (t' := t) hB e3, hM2.2.1.m0, rf_out _ _ _ _ hM2.2.2.2.2.1⟩
  show fX11_thrown m (rf_M g2.1 m S' F') = _
  rw [rm_thrown, e2]
theorem LU.mk {fc : vg_M → vg_R (Unit ⊕ Nat)} {fm : vg_M → vg_R Unit} {k lk' B' : Nat} {t' : List Nat} {T' : sT} {fr' : Nat → Nat → Bool} {qs' : List sQ} {plc' : Int32} {an' : List (List Nat)} (hc : cG g x B t T fr qs plc an lk) (hR : RR g m S F) (hO : LO g m out fo) (hB : B' ≤ B + 12) (hk : k ≤ 2)
    (h1 : pg_T (fc g.1) 310 8480 (fun s => 2 ≤ s) g (fun r g' => r = (if k = 0 then .inl () else .inr k) ∧ cG g' x B' t' T' fr' qs' plc' an' lk'))
    (h2 : ∀ μ : vg_M, μ.2.2.1 ≤ m → ∃ S' F', fm (rf_M μ m S F) = some ((), rf_M μ m S' F', 0, 0) ∧ S' 0 = nI k ∧ RF t' T' fr' qs' plc' an' lk' (B + 12) S' F') : LU fc fm g x m out B := by
  obtain ⟨hg, -⟩ := hc.wf
  obtain ⟨r, g1, c1, n1, e, q1, q2, ⟨q3, q4⟩, q5, q6⟩ := LM.cls hO hR hg h1
  refine ⟨r, g1, c1, n1, k, e, q1, q2, hk, q3, q4.wf.1, fun g2 hg2 => ?_⟩
  have hM1 : LM g1 x m out B' t' T' fr' qs' plc' an' lk' S F fo := ⟨q4, q5, q6⟩
  obtain ⟨fo2, hM2⟩ : ∃ fo2, LM g2 x m out B' t' T' fr' qs' plc' an' lk' S F fo2 := by
    rcases hg2 with rfl | ⟨z, rfl, hw⟩
    · exact ⟨fo, hM1⟩
    · exact ⟨fo, hM1.resize hw⟩
  obtain ⟨S', F', e1, e2, e3⟩ := h2 g2.1 hM2.2.1.2
  rw [hM2.2.1.eq] at e1
  refine ⟨(rf_M g2.1 m S' F', g2.2), e1, ?_, hM2.done (t' := t) hB e3, hM2.2.1.m0⟩
  show fX11_thrown m (rf_M g2.1 m S' F') = _
  rw [rm_thrown, e2]
theorem RQ.e2 {ss ks : List Nat} (h : RQ qs S F) (hs : sE ss S S') (hf : fE ks F F') (h1 : 15 ∉ ss) (h2 : 16 ∉ ks ∧ 17 ∉ ks ∧ 18 ∉ ks ∧ 20 ∉ ks ∧ 21 ∉ ks ∧ 22 ∉ ks) : RQ qs S' F' := by
  obtain ⟨a1, a2, a3, a4⟩ := h
  obtain ⟨k1, k2, k3, k4, k5, k6⟩ := h2
  refine ⟨by rw [hs 15 h1]; exact a1, a2, fun q hq => ?_, fun q h1 h2 => by rw [hf 17 k2, hf 18 k3]; exact a4 q h1 h2⟩
  have := a3 q hq
  unfold RQ1 RP at this ⊢
  rw [hf 16 k1, hf 17 k2, hf 18 k3, hf 20 k4, hf 21 k5, hf 22 k6]
  exact this
theorem LI_put (what : Nat) (asF : Bool) (hwh : what = if asF then 2 else 1) (h : LI g x m out B) (hB : B + 12 < 2 ^ 30) {fc : vg_M → vg_R (Int32 ⊕ Nat)} {fm : vg_M → vg_R Int32} (hfc : fc g.1 = vg_o (vg_gR g.1 x 13 1) fun x1 => vg_cx 13 x g.1 (fX10_takePath x g.1) fun x2 μ3 => vg_o x1 fun a4 => vg_cx 11 a4 μ3 (fX8_make a4 x2 (bI asF) μ3) fun x5 μ6 => vg_ret (.inl x5) μ6) (hfm : ∀ μ S F, fm (rf_M μ m S F) = fX11_put m (nI what) (rf_M μ m S F)) : LC fc fm g x m out B := by
  obtain ⟨t, T, fr, qs, plc, an, lk, S, F, fo, hc, hR, ⟨f1, f2, f3, f4, f5, f6, f7⟩, hO⟩ := h
  refine LC.mk (B' := B) hc hR hO (by omega) sput_le ((cG_put asF hc hfc).mono (by decide) (by decide) (fun _ h => h) (fun _ _ _ h => h)) (fun μ hμ => ?_)
  obtain ⟨S', F', e1, e2, e3, e4, e5, e6, e7⟩ := rm_put (what := what) (nq := qs.length) hμ f4.2.1 (by rw [hwh]; cases asF <;> decide) (by rw [hwh]; cases asF <;> decide) f1 f2 f3 hB (by rw [hc.wf.2.1]; decide)
  rw [hfm, hwh.symm]
  exact ⟨S', F', e1, e2, e3, e4, e5, f4.e2 e6 e7 (by decide) (by decide), f5.e e6 e7 (by decide) (by decide), by rw [e6 26 (by decide)]; exact f6, by rw [e6 25 (by decide)]; exact f7⟩
theorem LI_file (h : LI g x m out B) (hB : B + 12 < 2 ^ 30) : LC (fX10_file x) (fX11_file m) g x m out B :=
  LI_put 1 false rfl h hB rfl (fun μ S F => by rw [fX11_file, rf_cv]; exact pg_br)
theorem LI_folder (h : LI g x m out B) (hB : B + 12 < 2 ^ 30) : LC (fX10_folder x) (fX11_folder m) g x m out B :=
  LI_put 2 true rfl h hB rfl (fun μ S F => by rw [fX11_folder, rf_cv]; exact pg_br)
theorem LI_remove (h : LI g x m out B) (hB : B + 12 < 2 ^ 30) : LC (fX10_remove x) (fX11_remove m) g x m out B := by
  obtain ⟨t, T, fr, qs, plc, an, lk, S, F, fo, hc, hR, ⟨f1, f2, f3, f4, f5, f6, f7⟩, hO⟩ := h
  refine LC.mk (B' := B) hc hR hO (by omega) srem_le ((cG_remove hc).mono (by decide) (by decide) (fun _ h => h) (fun _ _ _ h => h)) (fun μ hμ => ?_)
  obtain ⟨S', F', e1, e2, e3, e4, e5, e6, e7⟩ := rm_remove (nq := qs.length) hμ f4.2.1 f1 f2 hc.wf.2 f3 hB
  exact ⟨S', F', e1, e2, e3, e4, e5, f4.e2 e6 e7 (by decide) (by decide), f5.e e6 e7 (by decide) (by decide), by rw [e6 26 (by decide)]; exact f6, by rw [e6 25 (by decide)]; exact f7⟩
theorem LI_query (h : LI g x m out B) (hB : B + 12 < 2 ^ 30) (hB1 : 1 ≤ B) : LC (fX10_query x) (fX11_query m) g x m out B := by
  obtain ⟨t, T, fr, qs, plc, an, lk, S, F, fo, hc, hR, ⟨f1, f2, f3, f4, f5, f6, f7⟩, hO⟩ := h
  refine LC.mk (B' := B) hc hR hO (by omega) sqry_le ((cG_query hc hB1).mono (by decide) (by decide) (fun _ h => h) (fun _ _ _ h => h)) (fun μ hμ => ?_)
  obtain ⟨S', F', e1, e2, e3, e4, e5, e6, e7⟩ := rm_query hμ f1 f3 f4
  exact ⟨S', F', e1, e2, e3, f2.e e7 (by decide), e4.up (by omega), e5, f5.e e6 e7 (by decide) (by decide), by rw [e6 26 (by decide)]; exact f6, by rw [e6 25 (by decide)]; exact f7⟩
theorem LI_pack {on : Bool} (h : LI g x m out B) (hB : B + 12 < 2 ^ 30) : LU (fX10_pack x (bI on)) (fX11_pack m (bI on)) g x m out B := by
  obtain ⟨t, T, fr, qs, plc, an, lk, S, F, fo, hc, hR, ⟨f1, f2, f3, f4, f5, f6, f7⟩, hO⟩ := h
  refine LU.mk (B' := B) hc hR hO (by omega) spack_le ((cG_pack (on := on) hc).mono (by decide) (by decide) (fun _ h => h) (fun _ _ _ h => h)) (fun μ hμ => ?_)
  obtain ⟨S', F', e1, e2, e3, e4, e5, e6, e7⟩ := rm_pack (on := on) (nq := qs.length) hμ f4.2.1 f1 f2 f3 hB
  exact ⟨S', F', e1, e2, e3, e4, e5, f4.e2 e6 e7 (by decide) (by decide), f5.e e6 e7 (by decide) (by decide), by rw [e6 26 (by decide)]; exact f6, by rw [e6 25 (by decide)]; exact f7⟩
theorem LI_pattern {q : Int32} {o : Bool} (h : LI g x m out B) (hB : B + 12 < 2 ^ 30) : LU (fX10_pattern x q (bI o)) (fX11_pattern m q (bI o)) g x m out B := by
  obtain ⟨t, T, fr, qs, plc, an, lk, S, F, fo, hc, hR, ⟨f1, f2, f3, f4, f5, f6, f7⟩, hO⟩ := h
  refine LU.mk (B' := B + 1) hc hR hO (by omega) spat_le ((cG_pattern (q := q) (out := o) hc).mono (by decide) (by decide) (fun _ h => h) (fun _ _ _ h => h)) (fun μ hμ => ?_)
  obtain ⟨S', F', e1, e2, e25, e3, e4, e5, e6, e7⟩ := rm_pattern (q := q) (out := o) hμ f1 f3 f4
  have hlen : (spat t qs q o).2.length = qs.length := by
    unfold spat
    split
    · rfl
    · cases pp t with
      | inr e => rfl
      | inl P =>
        simp only
        generalize (if o = true then outs (qs.getD q.toNatClampNeg ([], [])) else ins (qs.getD q.toNatClampNeg ([], []))).length = nn
        by_cases hn : nn = 4
        · rw [if_pos hn]
        · rw [if_neg hn, List.length_set]
  exact ⟨S', F', e1, e2, e3, f2.e e7 (by decide), by rw [hlen]; exact e4.up (by omega), e5, f5.e e6 e7 (by decide) (by decide), by rw [e6 26 (by decide)]; exact f6, e25⟩
/-- a call without a throw -/
def LV (fc fm : vg_M → vg_R Int32) (g : pg_G) (x m out B : Nat) : Prop := ∃ (r : Int32) (g1 : pg_G) (c1 n1 : Nat) (g3 : pg_G), fc g.1 = some (r, g1.1, c1, n1) ∧ c1 ≤ 310 ∧ n1 ≤ 8480 ∧ fm g1.1 = some (r, g3.1, 0, 0) ∧ LI g3 x m out (B + 12) ∧ ∃ fs, g1.1.1 m = some (.inr (14, fs))
theorem LV.mk {fc fm : vg_M → vg_R Int32} {r : Int32} {lk' B' : Nat} {t' : List Nat} {T' : sT} {fr' : Nat → Nat → Bool} {qs' : List sQ} {plc' : Int32} {an' : List (List Nat)} (hc : cG g x B t T fr qs plc an lk) (hR : RR g m S F) (hO : LO g m out fo) (hB : B' ≤ B + 12)
    (h1 : pg_T (fc g.1) 310 8480 (fun s => 2 ≤ s) g (fun r' g' => r' = r ∧ cG g' x B' t' T' fr' qs' plc' an' lk'))
    (h2 : ∀ μ : vg_M, μ.2.2.1 ≤ m → ∃ S' F', fm (rf_M μ m S F) = some (r, rf_M μ m S' F', 0, 0) ∧ RF t' T' fr' qs' plc' an' lk' (B + 12) S' F') : LV fc fm g x m out B := by
  obtain ⟨hg, -⟩ := hc.wf
  obtain ⟨r', g1, c1, n1, e, q1, q2, ⟨rfl, q4⟩, q5, q6⟩ := LM.cls hO hR hg h1
  have hM2 : LM g1 x m out B' t' T' fr' qs' plc' an' lk' S F fo := ⟨q4, q5, q6⟩
  obtain ⟨S', F', e1, e3⟩ := h2 g1.1 q5.2
  rw [q5.eq] at e1
  exact ⟨r', g1, c1, n1, (rf_M g1.1 m S' F', g1.2), e, q1, q2, e1, hM2.done (t' := t) hB e3, q5.m0⟩
theorem LI_type {c : Nat} (h : LI g x m out B) (hc0 : c < 65536) : LV (fX10_type x (nI c)) (fX11_type m (nI c)) g x m out B := by
  obtain ⟨t, T, fr, qs, plc, an, lk, S, F, fo, hc, hR, ⟨f1, f2, f3, f4, f5, f6, f7⟩, hO⟩ := h
  refine LV.mk (B' := B) hc hR hO (by omega) ((cG_type hc hc0).mono (by decide) (by decide) (fun _ h => h) (fun _ _ _ h => h)) (fun μ hμ => ?_)
  obtain ⟨S', F', e1, e3, e6, e7⟩ := rm_type (c := c) hμ f1 hc0
  have hSn : RSn fr qs.length T (B + 12) S' F' := by
    obtain ⟨ma, cg, ow, to, as, se, a0, h1, h2, h3, h4, h5, h5b, h5c, h5d⟩ := f3
    exact ⟨ma, cg, ow, to, as, se, a0, by rw [e6 13 (by decide)]; exact h1, by rw [e6 14 (by decide)]; exact h2, by omega, by omega, fun k hk => by rw [e7 10 (by decide), e7 9 (by decide)]; exact h5 k hk, fun q hq => by rw [e7 19 (by decide), e7 23 (by decide)]; exact h5b q hq, fun j hj => by rw [e7 24 (by decide)]; exact h5c j hj, h5d⟩
  exact ⟨S', F', e1, e3, f2.e e7 (by decide), hSn, f4.e2 e6 e7 (by decide) (by decide), f5.e e6 e7 (by decide) (by decide), by rw [e6 26 (by decide)]; exact f6, by rw [e6 25 (by decide)]; exact f7⟩
theorem RF.s0 {v : Int32} (h : RF t T fr qs plc an lk B S F) {B' : Nat} (hB : B ≤ B') : RF t T fr qs plc an lk B' (upd S 0 v) F := by
  obtain ⟨f1, f2, f3, f4, f5, f6, f7⟩ := h
  have e6 : sE [0] S (upd S 0 v) := fun k hk => pk_un (by simpa using hk)
  have e7 : fE [] F F := fun _ _ => rfl
  have hSn : RSn fr qs.length T B' (upd S 0 v) F := by
    obtain ⟨ma, cg, ow, to, as, se, a0, h1, h2, h3, h4, h5⟩ := f3
    exact ⟨ma, cg, ow, to, as, se, a0, by rw [e6 13 (by decide)]; exact h1, by rw [e6 14 (by decide)]; exact h2, by omega, by omega, h5⟩
  exact ⟨⟨by rw [e6 2 (by decide)]; exact f1.1, f1.2⟩, f2, hSn, f4.e2 e6 e7 (by decide) (by decide), f5.e e6 e7 (by decide) (by decide), by rw [e6 26 (by decide)]; exact f6, by rw [e6 25 (by decide)]; exact f7⟩
theorem LI_place (h : LI g x m out B) : LV (fX10_place x) (fX11_place m) g x m out B := by
  obtain ⟨t, T, fr, qs, plc, an, lk, S, F, fo, hc, hR, hF, hO⟩ := h
  refine LV.mk (r := plc) (B' := B) hc hR hO (by omega) (pg_T.eq hc.wf.1 (cG_place hc) ⟨rfl, hc⟩) (fun μ hμ => ⟨upd S 0 0, F, ?_, hF.s0 (by omega)⟩)
  rw [rm_place hμ, hF.2.2.2.2.2.2]
theorem LI_looked (h : LI g x m out B) : LV (fX10_looked x) (fX11_looked m) g x m out B := by
  obtain ⟨t, T, fr, qs, plc, an, lk, S, F, fo, hc, hR, hF, hO⟩ := h
  exact LV.mk (r := nI lk) (B' := B) hc hR hO (by omega) (pg_T.eq hc.wf.1 (cG_looked hc) ⟨rfl, hc⟩) (fun μ hμ => ⟨upd S 0 0, F, rm_looked hμ hF.2.2.2.2.2.1, hF.s0 (by omega)⟩)
theorem LI_answer {k i : Int32} (h : LI g x m out B) : LV (fX10_answer x k i) (fX11_answer m k i) g x m out B := by
  obtain ⟨t, T, fr, qs, plc, an, lk, S, F, fo, hc, hR, hF, hO⟩ := h
  exact LV.mk (r := sans an k i) (B' := B) hc hR hO (by omega) (pg_T.eq hc.wf.1 (cG_answer hc) ⟨rfl, hc⟩) (fun μ hμ => ⟨upd S 0 0, F, rm_answer hμ hF.2.2.2.2.1, hF.s0 (by omega)⟩)
theorem rm_askN {μ : vg_M} {q : Int32} (hs : μ.2.2.1 ≤ m) (h15 : S 15 = nI qs.length) (h6 : qs.length ≤ 6) (hq : q < 0 ∨ nI qs.length ≤ q) : fX11_ask m q (rf_M μ m S F) = some (-1, rf_M μ m (upd S 0 0) F, 0, 0) := by
  have e15 : upd S 0 0 15 = nI qs.length := by rw [pk_un (by decide)]; exact h15
  simp only [fX11_ask, rf_p0 hs, pg_o1, rf_i15, e15, fX11_ask_17, vu_ret]
  by_cases h0 : q < 0
  · rw [if_pos h0]
  · rw [if_neg h0, if_neg]
    intro h
    rcases hq with hq | hq
    · exact h0 hq
    · exact absurd h (Int32.not_lt.mpr hq)
theorem LI_ask {q : Int32} (h : LI g x m out B) (hB : B + 12 < 2 ^ 30) : LV (fX10_ask x q) (fX11_ask m q) g x m out B := by
  obtain ⟨t, T, fr, qs, plc, an, lk, S, F, fo, hc, hR, hF, hO⟩ := h
  obtain ⟨f1, f2, f3, f4, f5, f6, f7⟩ := id hF
  by_cases hq : q < 0 ∨ nI qs.length ≤ q
  · exact LV.mk (r := -1) (B' := B) hc hR hO (by omega) (pg_T.eq hc.wf.1 (cG_askN hc hq) ⟨rfl, hc⟩) (fun μ hμ => ⟨upd S 0 0, F, rm_askN hμ f4.1 f4.2.1 hq, hF.s0 (by omega)⟩)
  · obtain ⟨k, rfl, hk, -⟩ := qAt_nat hq f4.2.1
    refine LV.mk (B' := B + 1) hc hR hO (by omega) ((cG_ask hc hk (by omega)).mono (by decide) (by decide) (fun _ h => h) (fun _ _ _ h => h)) (fun μ hμ => ?_)
    obtain ⟨S', F', e1, e2, e3, e4, e5, e6, e7, e8, e9⟩ := rm_ask hμ hc.wf.2 hk (by omega) f1 f2 f3 f4
    exact ⟨S', F', e1, e3, e4, e5.up (by omega), e6, e7, e8, by rw [e9]; exact f7⟩
end
