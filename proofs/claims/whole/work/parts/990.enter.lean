/-! The law from its entry to its loop. -/
section LWE
variable {p : Program} {l : Launch} {e : Env} {R : Room} {s : State} {m : MethodId} {args : Array Value} {below : List Frame} {meth : Method} {c : Code} {H : Heap} {locs : List Loc} {cells slots : Nat} {Q : State → Prop}
variable {cc : ByteArray} {pc : Nat} {ls : Array Slot} {rest : List Value} {D : va_G} {cy : Nat → ClassId} {H0 : Heap} {μ : vg_M} {own : String}
theorem vy_new (X : vg_X D cy H0 p s m args c cc own) (hH : vg_H D cy H0 μ H) {index ci N : Nat} {fs : List Value} (hS : vg_N own index ci N fs) (hdg : decode cc pc = .ok (.new index, 3)) (hRc : cells + 1 ≤ R.cells) (hRs : slots + N ≤ R.slots)
    (kk : ∀ (H1 : Heap), vg_H D cy H0 (vg_nO μ ci fs) H1 → W p l e R s m args below meth c H1 locs (cells + 1) (slots + N) Q (F0 m (pc + 3) ls (.ref μ.2.1 :: rest))) : W p l e R s m args below meth c H locs cells slots Q (F0 m pc ls rest) := by
  refine vg_new X hH hS hdg (kont := fun q μ => vg_ret q μ) (r := μ.2.1) (μ' := vg_nO μ ci fs) (cn := 1) (nn := N) rfl rfl rfl hRc hRs (fun q μ1 c2 n2 H1 hf _ _ hH1 => ?_)
  obtain ⟨rfl, rfl⟩ : q = μ.2.1 ∧ μ1 = vg_nO μ ci fs := by
    have := Option.some.inj hf
    simp only [Prod.mk.injEq] at this
    exact ⟨this.1, this.2.1⟩
  exact kk H1 hH1
theorem ri_start {μ : vg_M} : vg_nO μ 14 rD = ri_M μ μ.2.1 0 rD := by
  refine Prod.ext (funext fun a => ?_) rfl
  show va_up μ.1 μ.2.1 (some (.inr (14, rD))) a = (if a = μ.2.1 then some (.inr (14, rD)) else if μ.2.1 < a ∧ a ≤ μ.2.1 + 0 then _ else μ.1 a)
  by_cases h : a = μ.2.1
  · rw [if_pos h, h, va_up_self]
  · rw [if_neg h, if_neg (by omega), va_up_ne _ _ h]
/-- behind the reference's making -/
theorem R_made0 {g : pg_G} (hw : pg_Wf g) : pg_Ext (fun _ => False) g (rf_M (g.1.1, g.1.2.1 + 29, g.1.2.2) g.1.2.1 rS0 rF0, fun b => if g.1.2.1 ≤ b ∧ b < g.1.2.1 + 29 then 1 else g.2 b) ∧ RR (rf_M (g.1.1, g.1.2.1 + 29, g.1.2.2) g.1.2.1 rS0 rF0, fun b => if g.1.2.1 ≤ b ∧ b < g.1.2.1 + 29 then 1 else g.2 b) g.1.2.1 rS0 rF0 := by
  refine ⟨⟨Nat.le_add_right _ _, rfl, fun b hb => if_neg (by omega), fun b hb _ => rf_out _ _ _ _ (Or.inl hb), fun b hb => ?_, fun b hb => ?_, ?_, fun b hb => ?_⟩, fun a h1 h2 => ⟨rf_same h1 h2, if_pos ⟨h1, h2⟩⟩, hw.2.1⟩
  · show pg_kd ((rf_M (g.1.1, g.1.2.1 + 29, g.1.2.2) g.1.2.1 rS0 rF0).1 b) = pg_kd (g.1.1 b)
    rw [rf_out _ _ _ _ (Or.inl hb)]
  · have hb : g.1.2.1 + 29 ≤ b := hb
    show (rf_M (g.1.1, g.1.2.1 + 29, g.1.2.2) g.1.2.1 rS0 rF0).1 b = none
    rw [rf_out _ _ _ _ (Or.inr hb)]
    exact hw.1 b (by omega)
  · show g.1.2.2.1 ≤ g.1.2.1 + 29
    have := hw.2.1
    omega
  · have hb : b < g.1.2.2.1 := hb
    have := hw.2.1
    show (if g.1.2.1 ≤ b ∧ b < g.1.2.1 + 29 then 1 else g.2 b) = 0
    rw [if_neg (by omega)]
    exact hw.2.2 b hb
theorem R_made {g : pg_G} (hw : pg_Wf g) : ∃ g3 : pg_G, g3.1 = rf_M (g.1.1, g.1.2.1 + 29, g.1.2.2) g.1.2.1 rS0 rF0 ∧ pg_Ext (fun _ => False) g g3 ∧ RR g3 g.1.2.1 rS0 rF0 := ⟨_, rfl, R_made0 hw⟩
theorem lw_enter {b L : Nat} {xs : Nat → Int32} {g : pg_G} (K : LK D cy l p s m c b L xs) (hr : meth.sig.returnType = ret) (hlocks : meth.locks = false) (hH : vg_H D cy s.heap g.1 s.heap) (hw : pg_Wf g) (hC : pg_C g) (h0 : ∀ b, g.2 b = 0) (hl : vg_l ls 7 [(0, .ref b)]) : W p l e room_1 s m #[Value.ref b] below meth c s.heap [] 0 0 (lw_Z below #[Value.ref b] s) (F0 m 0 ls []) := by
  obtain ⟨X, hml, hX, hbl, hNc, hL6, hls⟩ := id K
  have hx := X.1
  have hb := X.2.1
  have hL : ∀ z ∈ ([] : List Loc), s.heap.size ≤ z.base := fun _ h => nomatch h
  refine vy_new X hH fN_L_8 dL_law_0 (by decide) (by decide) (fun H hH => ?_)
  refine lv_dup hx hb dL_law_3 rfl ?_
  have x1 := pg_new_ext (W := fun _ => False) (t := 7) (e := .inr (13, [.null, .null, .null, .null, .int 0])) hw
  have C1 := hC.ext hw x1 (fun h => h)
  have o1 := pg_new_self g 7 (.inr (13, [.null, .null, .null, .null, .int 0]))
  have u1 := pg_new_tag g 7 (.inr (13, [.null, .null, .null, .null, .int 0]))
  have t1 : ∀ b, b < (pg_new g 7 (.inr (13, [.null, .null, .null, .null, .int 0]))).1.2.1 → (pg_new g 7 (.inr (13, [.null, .null, .null, .null, .int 0]))).2 b ≠ 50 := fun b hb => by
    by_cases h : b < g.1.2.1
    · rw [x1.2.2.1 b h, h0]; decide
    · have hb' : b < g.1.2.1 + 1 := hb
      rw [show b = g.1.2.1 by omega, u1]; decide
  have hH : vg_H D cy s.heap (pg_new g 7 (.inr (13, [.null, .null, .null, .null, .int 0]))).1 H := hH
  have w1 := x1.wf
  generalize pg_new g 7 (.inr (13, [.null, .null, .null, .null, .int 0])) = g1 at *
  generalize g.1.2.1 = x at *
  obtain ⟨r, g2, c1, n1, e1, q1, q2, x2, G2⟩ := cG_init w1 C1 o1 u1 t1
  refine vy_cI (rest := [.ref x]) X hml hl hH hL fCI_L_34 [] rfl rfl (Nat.le_of_ble_eq_true rfl) dL_law_4 (by show 0 + 1 + c1 ≤ 601024; omega) (by show 0 + 5 + n1 ≤ 7293033; omega) (h1 := 100) (by decide) (by decide) (by decide) (cX10_init_met e1) (fun H2 locs2 hH2 hL2 => ?_)
  refine vg_astore_n (x := some x) (lv' := [(1, .ref x), (0, .ref b)]) hx hb dL_law_7 rfl hl (by decide) rfl (fun ls hl => ?_)
  refine vy_new X hH2 fN_L_35 dL_law_8 (by show 0 + 1 + c1 + 1 ≤ 601024; omega) (by show 0 + 5 + n1 + 39 ≤ 7293033; omega) (fun H3 hH3 => ?_)
  refine lv_dup hx hb dL_law_11 rfl ?_
  have hH3 : vg_H D cy s.heap (vg_nO g2.1 14 rD) H3 := hH3
  rw [ri_start] at hH3
  have w2 := x2.wf
  have e3 := ri_init (μ := g2.1) (m := g2.1.2.1) w2.2.1
  obtain ⟨g3, hg3, x3, R3⟩ := R_made w2
  refine vy_cI (rest := [.ref g2.1.2.1]) X hml hl hH3 hL2 fCI_L_37 [] rfl rfl (Nat.le_of_ble_eq_true rfl) dL_law_12 (by show 0 + 1 + c1 + 1 + 28 ≤ 601024; omega) (by show 0 + 5 + n1 + 39 + 8127 ≤ 7293033; omega) (h1 := 100) (by decide) (by decide) (by decide) (cX11_init_met e3) (fun H4 locs4 hH4 hL4 => ?_)
  refine vg_astore_n (x := some g2.1.2.1) (lv' := [(2, .ref g2.1.2.1), (1, .ref x), (0, .ref b)]) hx hb dL_law_15 rfl hl (by decide) rfl (fun ls hl => ?_)
  have G3 := G2.ext1 x3 (fun _ h => h.elim)
  have z3 : g3.1.2.1 = g2.1.2.1 + 29 := by rw [hg3]; rfl
  rw [← hg3] at hH4
  clear hg3 e3 hH3
  generalize g2.1.2.1 = mm at *
  refine lv_iconst (v := 1) hx hb dL_law_16 (by decide) ?_
  refine vy_newL X hH4 dL_law_17 (by show 0 + 1 + c1 + 1 + 28 + 1 ≤ 601024; omega) (by show 0 + 5 + n1 + 39 + 8127 + 1 ≤ 7293033; omega) (fun H5 hH5 => ?_)
  have w3 := x3.wf
  have x4 := pg_new_ext (W := fun _ => False) (t := 1) (e := .inl (4, 1, .inr (.inl (fun _ => 0)))) w3
  have G4 := G3.ext1 x4 (fun _ h => h.elim)
  have R4 := R3.ext w3 x4 (fun h => h)
  have o4 := pg_new_self g3 1 (.inl (4, 1, .inr (.inl (fun _ => 0))))
  have u4 := pg_new_tag g3 1 (.inl (4, 1, .inr (.inl (fun _ => 0))))
  have hO : LO (pg_new g3 1 (.inl (4, 1, .inr (.inl (fun _ => 0))))) mm g3.1.2.1 (fun _ => 0) := ⟨o4, u4, Or.inr (by omega), by show g3.1.2.2.1 ≤ g3.1.2.1; exact w3.2.1⟩
  have hI : LI (pg_new g3 1 (.inl (4, 1, .inr (.inl (fun _ => 0))))) x mm g3.1.2.1 1 := ⟨[], T0, fun _ _ => true, [], -1, [], 0, rS0, rF0, _, G4, R4, R0, hO⟩
  refine vg_astore_n (x := some g3.1.2.1) (lv' := [(3, .ref g3.1.2.1), (2, .ref mm), (1, .ref x), (0, .ref b)]) hx hb dL_law_19 rfl hl (by decide) rfl (fun ls hl => ?_)
  refine lv_iconst (v := 0) hx hb dL_law_20 (by decide) ?_
  refine vg_istore (x := 0) (lv' := [(4, .int 0), (3, .ref g3.1.2.1), (2, .ref mm), (1, .ref x), (0, .ref b)]) hx hb dL_law_21 hl (by decide) rfl (fun ls hl => ?_)
  refine W.widen (k := 100 + 310 * 0) (n := 20000 + 8480 * 0) (by omega) (by omega) ?_
  exact law_loop K hr hlocks (L + 1) 0 H5 locs4 ls (Nat.zero_le _) (by omega) ⟨_, hH5, hI, hL4⟩ (hl.sub [4, 3, 2, 1, 0] rfl)
end LWE
