/-! The law's body. -/
def LJ (D : va_G) (cy : Nat → ClassId) (s : State) (x mm out B : Nat) (H : Heap) (locs : List Loc) : Prop := ∃ g : pg_G, vg_H D cy s.heap g.1 H ∧ LI g x mm out B ∧ ∀ z ∈ locs, s.heap.size ≤ z.base
def LK (D : va_G) (cy : Nat → ClassId) (l : Launch) (p : Program) (s : State) (m : MethodId) (c : Code) (b L : Nat) (xs : Nat → Int32) : Prop := vg_X D cy s.heap p s m #[Value.ref b] c cL_law RL ∧ c.maxLocals = 7 ∧ va_X b L xs s s.heap ∧ b < s.heap.size ∧ va_Nc "java/lang/IllegalStateException" "java/lang/IllegalArgumentException" s ∧ L ≤ 1536 ∧ l.stackTraces = false
abbrev lv5 (b x mm out i : Nat) : List (Nat × Value) := [(0, .ref b), (1, .ref x), (2, .ref mm), (3, .ref out), (4, .int (nI i))]
theorem LI.x0 {g : pg_G} {x mm out B : Nat} (h : LI g x mm out B) : ∃ fs, g.1.1 x = some (.inr (13, fs)) := by
  obtain ⟨t, T, fr, qs, plc, an, lk, S, F, fo, hc, -⟩ := h
  exact hc.x0
theorem LI.m0 {g : pg_G} {x mm out B : Nat} (h : LI g x mm out B) : ∃ fs, g.1.1 mm = some (.inr (14, fs)) := by
  obtain ⟨t, T, fr, qs, plc, an, lk, S, F, fo, hc, hR, -⟩ := h
  exact hR.m0
theorem LI.up {g : pg_G} {x mm out B B' : Nat} (h : LI g x mm out B) (hB : B ≤ B') : LI g x mm out B' := by
  obtain ⟨t, T, fr, qs, plc, an, lk, S, F, fo, hc, hR, ⟨f1, f2, f3, f4⟩, hO⟩ := h
  exact ⟨t, T, fr, qs, plc, an, lk, S, F, fo, hc.mono hB, hR, ⟨f1, f2, f3.up hB, f4⟩, hO⟩
theorem lw_char (x : Int32) : ∃ n : Nat, n < 65536 ∧ (x.toUInt32 % 65536).toInt32 = nI n := by
  refine ⟨(x.toUInt32 % 65536).toNat, ?_, ?_⟩
  · rw [UInt32.toNat_mod]
    exact Nat.mod_lt _ (by decide)
  · show (x.toUInt32 % 65536).toInt32 = Int32.ofNat (x.toUInt32 % 65536).toNat
    show _ = (UInt32.ofNat (x.toUInt32 % 65536).toNat).toInt32
    rw [UInt32.ofNat_toNat]
theorem vg_H.wf {D : va_G} {cy : Nat → ClassId} {H0 H : Heap} {g1 : pg_G} {z : Nat} (hw : pg_Wf g1) (h : vg_H D cy H0 (g1.1.1, z, g1.1.2.2) H) : pg_Wf ((g1.1.1, z, g1.1.2.2), g1.2) := by
  obtain ⟨h1, h2, h3, h4, -⟩ := h
  have h1 : H.size = z := h1
  have h2 : g1.1.2.2.1 = H0.size := h2
  refine ⟨fun b hb => ?_, by show g1.1.2.2.1 ≤ z; omega, hw.2.2⟩
  have hb : z ≤ b := hb
  show g1.1.1 b = none
  cases hc : g1.1.1 b with
  | none => rfl
  | some e =>
    have : b < H.size := (h4 b e hc).1.lt
    omega
section LW
variable {p : Program} {l : Launch} {e : Env} {s : State} {m : MethodId} {below : List Frame} {meth : Method} {c : Code} {H : Heap} {locs : List Loc} {cells slots : Nat} {Q : State → Prop}
variable {pc : Nat} {ls : Array Slot} {rest : List Value} {D : va_G} {cy : Nat → ClassId} {μ : vg_M} {lv : List (Nat × Value)} {b L i x mm out B : Nat} {xs : Nat → Int32}
theorem lw_ld (K : LK D cy l p s m c b L xs) (hH : vg_H D cy s.heap μ H) (hL : ∀ z ∈ locs, s.heap.size ≤ z.base) (hl : vg_l ls 7 lv) (j0 j4 : Nat) (h0 : lv[j0]? = some (0, .ref b)) (h4 : lv[j4]? = some (4, .int (nI i))) (hi : i + 2 < L) {k : Nat} {kI : Int} (hk : k ≤ 2) (hkI : Int32.ofInt kI = nI k) (d0 : decode cL_law pc = .ok (.aload_n 0, 1)) (d1 : decode cL_law (pc + 1) = .ok (.iload 4, 2)) (d2 : decode cL_law (pc + 1 + 2) = .ok (.iconst kI, 1)) (d3 : decode cL_law (pc + 1 + 2 + 1) = .ok (.iadd, 1)) (d4 : decode cL_law (pc + 1 + 2 + 1 + 1) = .ok (.iaload, 1))
    (kk : W p l e room_1 s m #[Value.ref b] below meth c H locs cells slots Q (F0 m (pc + 1 + 2 + 1 + 1 + 1) ls (.int (xs (i + k)) :: rest))) : W p l e room_1 s m #[Value.ref b] below meth c H locs cells slots Q (F0 m pc ls rest) := by
  obtain ⟨X, hml, hX, hbl, hNc, hL6, hls⟩ := K
  have hx := X.1
  have hb := X.2.1
  refine lv_aload_n hx hb d0 rfl (lv_at hl.1 j0 h0) ?_
  refine lv_iload hx hb d1 (lv_at hl.1 j4 h4) ?_
  refine lv_iconst (v := nI k) hx hb d2 hkI ?_
  refine lv_iadd hx hb d3 ?_
  rw [nI_add]
  refine va_sld hx hb hX hbl (Nat.not_le.mpr hbl) (hH.S hL) (vp_in_nI (by omega) (by omega)) d4 ?_
  rw [nI_clamp (by omega)]
  exact kk
theorem lw_bool {v : Int32} {o1 o2 : Int} (hx : p.tables.exec = Jvm.exec) (hb : c.code = cL_law) (d0 : decode cL_law pc = .ok (.ifCond .eq 7, 3)) (d1 : decode cL_law (pc + 3) = .ok (.iconst 1, 1)) (d2 : decode cL_law (pc + 3 + 1) = .ok (.goto 4, 3)) (d3 : decode cL_law (pc + 7) = .ok (.iconst 0, 1))
    (kk : W p l e room_1 s m #[Value.ref b] below meth c H locs cells slots Q (F0 m (pc + 8) ls (.int (bI (decide (v ≠ 0))) :: rest))) : W p l e room_1 s m #[Value.ref b] below meth c H locs cells slots Q (F0 m pc ls (.int v :: rest)) := by
  refine lv_if_eq (tgt := pc + 7) hx hb d0 (by omega) (fun h => ?_) (fun h => ?_)
  · refine lv_iconst (v := 0) hx hb d3 (by decide) ?_
    rw [show bI (decide (v ≠ 0)) = 0 from by rw [h]; rfl] at kk
    exact kk
  · refine lv_iconst (v := 1) hx hb d1 (by decide) ?_
    refine lv_goto (tgt := pc + 8) hx hb d2 (by omega) ?_
    rw [show bI (decide (v ≠ 0)) = 1 from by rw [decide_eq_true h]; rfl] at kk
    exact kk
theorem lw_k12 {α : Type} {r : α ⊕ Nat} {k : Nat} {y : α} (hk : k ≤ 2) (hr : r = (if k = 0 then .inl y else .inr k)) {j : Nat} (hj : r = .inr j) : j = 1 ∨ j = 2 := by
  by_cases h : k = 0
  · rw [if_pos h, hj] at hr; cases hr
  · rw [if_neg h, hj] at hr
    have := Sum.inr.inj hr
    omega
theorem lw_k0 {α : Type} {r : α ⊕ Nat} {k : Nat} {y : α} (hr : r = (if k = 0 then .inl y else .inr k)) {v : α} (hv : r = .inl v) : k = 0 ∧ v = y := by
  by_cases h : k = 0
  · rw [if_pos h, hv] at hr; exact ⟨h, Sum.inl.inj hr⟩
  · rw [if_neg h, hv] at hr; cases hr
theorem lw_kx {α : Type} {r : α ⊕ Nat} {k : Nat} {y : α} (hr : r = (if k = 0 then .inl y else .inr k)) {j : Nat} (hj : r = .inr j) : j = k ∧ k ≠ 0 := by
  by_cases h : k = 0
  · rw [if_pos h, hj] at hr; cases hr
  · rw [if_neg h, hj] at hr
    exact ⟨Sum.inr.inj hr, h⟩
theorem lw_c0 (K : LK D cy l p s m c b L xs) (hJ : LJ D cy s x mm out B H locs) (hB : B + 12 < 2 ^ 30) (hB1 : 1 ≤ B) (hi : i + 2 < L) (hl : vg_l ls 7 (lv5 b x mm out i)) (hc : cells + 310 ≤ 601024) (hs : slots + 8480 ≤ 7293033)
    (kk : ∀ (H1 : Heap) (locs1 : List Loc) (ls' : Array Slot), LJ D cy s x mm out (B + 12) H1 locs1 → vg_l ls' 7 (lv5 b x mm out i) → W p l e room_1 s m #[Value.ref b] below meth c H1 locs1 (cells + 310) (slots + 8480) Q (F0 m 503 ls' [])) : W p l e room_1 s m #[Value.ref b] below meth c H locs cells slots Q (F0 m 96 ls []) := by
  obtain ⟨X, hml, hX, hbl, hNc, hL6, hls⟩ := id K
  obtain ⟨g, hH, hI, hL⟩ := hJ
  have hx := X.1
  have hb := X.2.1
  refine lv_aload_n hx hb dL_law_96 rfl (lv_at hl.1 1 rfl) ?_
  obtain ⟨ch, hch, ech⟩ := lw_char (xs (i + 1))
  obtain ⟨r, g1, c1, n1, g3, e1, q1, q2, e2, hI3, hm0⟩ := LI_type (c := ch) hI hch
  refine lw_ld K hH hL hl 0 4 rfl rfl hi (k := 1) (by decide) (by decide) dL_law_97 dL_law_98 dL_law_100 dL_law_101 dL_law_102 ?_
  refine lv_i2c (v := nI ch) hx hb dL_law_103 ech ?_
  refine vy_cVi (ci := 13) (rest := []) X hml hl hH hL fCV_L_38 rfl [.int (nI ch)] rfl rfl (Nat.le_of_ble_eq_true rfl) dL_law_104 hI.x0 (by show cells + c1 ≤ 601024; omega) (by show slots + n1 ≤ 7293033; omega) (h1 := 100) (by decide) (by decide) (by decide) (cX10_type_met e1) (fun H1 locs1 hH1 hL1 => ?_)
  refine lv_aload_n hx hb dL_law_107 rfl (lv_at hl.1 2 rfl) ?_
  refine lw_ld K hH1 hL1 hl 0 4 rfl rfl hi (k := 1) (by decide) (by decide) dL_law_108 dL_law_109 dL_law_111 dL_law_112 dL_law_113 ?_
  refine lv_i2c (v := nI ch) hx hb dL_law_114 ech ?_
  refine vy_cVi (ci := 14) (rest := [.int r]) X hml hl hH1 hL1 fCV_L_42 rfl [.int (nI ch)] rfl rfl (Nat.le_of_ble_eq_true rfl) dL_law_115 hm0 (by show cells + c1 + 0 ≤ 601024; omega) (by show slots + n1 + 0 ≤ 7293033; omega) (h1 := 100) (by decide) (by decide) (by decide) (cX11_type_met e2) (fun H2 locs2 hH2 hL2 => ?_)
  refine lv_icmp_eq (tgt := 503) hx hb dL_law_118 (by decide) (fun _ => ?_) (fun h => absurd rfl h)
  refine W.widen (k := cells + 310) (n := slots + 8480) (by omega) (by omega) ?_
  exact kk H2 locs2 ls ⟨g3, hH2, hI3, hL2⟩ hl
theorem lw_t1 {g2 g3 : pg_G} {c1 n1 k v : Nat} (K : LK D cy l p s m c b L xs) (hH : vg_H D cy s.heap g2.1 H) (hL : ∀ z ∈ locs, s.heap.size ≤ z.base) (hl : vg_l ls 7 (lv5 b x mm out i)) (hc : cells + 310 ≤ 601024) (hs : slots + 8480 ≤ 7293033) (q1 : c1 ≤ 310) (q2 : n1 ≤ 8480) (hk2 : k ≤ 2) (hout : k = 0 → ∃ f : Nat → Int64, g2.1.1 out = some (.inl (4, 1, .inr (.inl f))) ∧ f 0 = (nI v).toInt64)
    (e2 : fX11_file mm g2.1 = some (nI v, g3.1, 0, 0)) (e3 : fX11_thrown mm g3.1 = some (nI k, g3.1, 0, 0)) (hI3 : LI g3 x mm out (B + 12)) (hm0 : ∃ fs, g2.1.1 mm = some (.inr (14, fs))) (ho3 : g3.1.1 out = g2.1.1 out)
    (kk : ∀ (H1 : Heap) (locs1 : List Loc) (ls' : Array Slot), LJ D cy s x mm out (B + 12) H1 locs1 → vg_l ls' 7 (lv5 b x mm out i) → W p l e room_1 s m #[Value.ref b] below meth c H1 locs1 (cells + 310) (slots + 8480) Q (F0 m 503 ls' [])) : W p l e room_1 s m #[Value.ref b] below meth c H locs (cells + c1) (slots + n1) Q (F0 m 128 ls [.int (nI k)]) := by
  obtain ⟨X, hml, hX, hbl, hNc, hL6, hls⟩ := id K
  have hx := X.1
  have hb := X.2.1
  refine vg_istore (x := nI k) (lv' := (5, .int (nI k)) :: lv5 b x mm out i) hx hb dL_law_128 hl (by decide) rfl (fun ls hl => ?_)
  refine lv_aload_n hx hb dL_law_130 rfl (lv_at hl.1 3 rfl) ?_
  refine vy_cVi (ci := 14) (rest := []) X hml hl hH hL fCV_L_48 rfl [] rfl rfl (Nat.le_of_ble_eq_true rfl) dL_law_131 hm0 (by show cells + c1 + 0 ≤ 601024; omega) (by show slots + n1 + 0 ≤ 7293033; omega) (h1 := 100) (by decide) (by decide) (by decide) (cX11_file_met e2) (fun H1 locs1 hH1 hL1 => ?_)
  refine vg_istore (x := nI v) (lv' := (6, .int (nI v)) :: (5, .int (nI k)) :: lv5 b x mm out i) hx hb dL_law_134 hl (by decide) rfl (fun ls hl => ?_)
  refine lv_aload_n hx hb dL_law_136 rfl (lv_at hl.1 4 rfl) ?_
  refine vy_cVi (ci := 14) (rest := []) X hml hl hH1 hL1 fCV_L_49 rfl [] rfl rfl (Nat.le_of_ble_eq_true rfl) dL_law_137 hI3.m0 (by show cells + c1 + 0 + 0 ≤ 601024; omega) (by show slots + n1 + 0 + 0 ≤ 7293033; omega) (h1 := 100) (by decide) (by decide) (by decide) (cX11_thrown_met e3) (fun H2 locs2 hH2 hL2 => ?_)
  refine lv_iload hx hb dL_law_140 (lv_at hl.1 1 rfl) ?_
  refine lv_icmp_eq (tgt := 147) hx hb dL_law_142 (by decide) (fun _ => ?_) (fun h => absurd rfl h)
  refine lv_iload hx hb dL_law_147 (lv_at hl.1 1 rfl) ?_
  have fin : W p l e room_1 s m #[Value.ref b] below meth c H2 locs2 (cells + c1 + 0 + 0) (slots + n1 + 0 + 0) Q (F0 m 164 ls []) := by
    refine lv_goto (tgt := 503) hx hb dL_law_164 (by decide) ?_
    refine W.widen (k := cells + 310) (n := slots + 8480) (by omega) (by omega) ?_
    exact kk H2 locs2 ls ⟨g3, hH2, hI3, hL2⟩ (hl.sub [2, 3, 4, 5, 6] rfl)
  refine lv_if_ne (tgt := 164) hx hb dL_law_149 (by decide) (fun _ => fin) (fun h => ?_)
  obtain ⟨f, hf1, hf2⟩ := hout ((nI_eq (by omega) (by omega)).mp h)
  refine lv_aload_n hx hb dL_law_152 rfl (lv_at hl.1 5 rfl) ?_
  refine lv_iconst (v := 0) hx hb dL_law_153 (by decide) ?_
  refine vy_lald X hH2 (ho3.trans hf1) (by unfold vp_in; decide) dL_law_154 ?_
  rw [show f (0 : Int32).toNatClampNeg = (nI v).toInt64 from hf2]
  refine lv_iload hx hb dL_law_155 (lv_at hl.1 0 rfl) ?_
  refine lv_i2l (v := (nI v).toInt64) hx hb dL_law_157 rfl ?_
  refine lv_lcmpE hx hb dL_law_158 ?_
  exact lv_if_eq (tgt := 164) hx hb dL_law_159 (by decide) (fun _ => fin) (fun h => absurd rfl h)
theorem lw_c1 (K : LK D cy l p s m c b L xs) (hJ : LJ D cy s x mm out B H locs) (hB : B + 12 < 2 ^ 30) (hB1 : 1 ≤ B) (hi : i + 2 < L) (hl : vg_l ls 7 (lv5 b x mm out i)) (hc : cells + 310 ≤ 601024) (hs : slots + 8480 ≤ 7293033)
    (kk : ∀ (H1 : Heap) (locs1 : List Loc) (ls' : Array Slot), LJ D cy s x mm out (B + 12) H1 locs1 → vg_l ls' 7 (lv5 b x mm out i) → W p l e room_1 s m #[Value.ref b] below meth c H1 locs1 (cells + 310) (slots + 8480) Q (F0 m 503 ls' [])) : W p l e room_1 s m #[Value.ref b] below meth c H locs cells slots Q (F0 m 123 ls []) := by
  obtain ⟨X, hml, hX, hbl, hNc, hL6, hls⟩ := id K
  obtain ⟨g, hH, hI, hL⟩ := hJ
  have hx := X.1
  have hb := X.2.1
  obtain ⟨r, g1, c1, n1, k, v, fo, e1, q1, q2, hk2, hr, hO, hw1, hgo⟩ := LI_file hI hB
  refine lv_aload_n hx hb dL_law_123 rfl (lv_at hl.1 1 rfl) ?_
  refine lv_aload_n hx hb dL_law_124 rfl (lv_at hl.1 3 rfl) ?_
  refine vy_callS (n := 2) (rest := []) X hNc hml hl hH hL kLm_file kLs_file kLc_file kLi ⟨by decide +kernel, by decide +kernel, by decide +kernel⟩ (by decide) [.ref x, .ref out] rfl rfl (Nat.le_of_ble_eq_true rfl) dL_law_125 (by show cells + c1 ≤ 601024; omega) (by show slots + n1 ≤ 7293033; omega) (by decide) (by decide) (cL_file_met hls e1 hI.x0 hO.1 hO.2.2.2 (fun j hj => lw_k12 hk2 hr hj)) (fun v' H1 locs1 hrv hH1 hL1 => ?_) (fun k' z H1 locs1 hrk hH1 hL1 => ?_)
  · obtain ⟨rfl, rfl⟩ := lw_k0 hr hrv
    obtain ⟨g3, e2, e3, hI3, hm0, ho3⟩ := hgo _ (Or.inl ⟨_, rfl⟩)
    exact lw_t1 (k := 0) K hH1 hL1 hl hc hs q1 q2 (by decide) (fun _ => ⟨_, pg_put_self _ _ _, rfl⟩) e2 e3 hI3 hm0 ho3 kk
  · obtain ⟨rfl, h0⟩ := lw_kx hr hrk
    obtain ⟨g3, e2, e3, hI3, hm0, ho3⟩ := hgo _ (Or.inr ⟨z, rfl, hH1.wf hw1⟩)
    exact lw_t1 K hH1 hL1 hl hc hs q1 q2 hk2 (fun h => absurd h h0) e2 e3 hI3 hm0 ho3 kk
theorem lw_t2 {g2 g3 : pg_G} {c1 n1 k v : Nat} (K : LK D cy l p s m c b L xs) (hH : vg_H D cy s.heap g2.1 H) (hL : ∀ z ∈ locs, s.heap.size ≤ z.base) (hl : vg_l ls 7 (lv5 b x mm out i)) (hc : cells + 310 ≤ 601024) (hs : slots + 8480 ≤ 7293033) (q1 : c1 ≤ 310) (q2 : n1 ≤ 8480) (hk2 : k ≤ 2) (hout : k = 0 → ∃ f : Nat → Int64, g2.1.1 out = some (.inl (4, 1, .inr (.inl f))) ∧ f 0 = (nI v).toInt64)
    (e2 : fX11_folder mm g2.1 = some (nI v, g3.1, 0, 0)) (e3 : fX11_thrown mm g3.1 = some (nI k, g3.1, 0, 0)) (hI3 : LI g3 x mm out (B + 12)) (hm0 : ∃ fs, g2.1.1 mm = some (.inr (14, fs))) (ho3 : g3.1.1 out = g2.1.1 out)
    (kk : ∀ (H1 : Heap) (locs1 : List Loc) (ls' : Array Slot), LJ D cy s x mm out (B + 12) H1 locs1 → vg_l ls' 7 (lv5 b x mm out i) → W p l e room_1 s m #[Value.ref b] below meth c H1 locs1 (cells + 310) (slots + 8480) Q (F0 m 503 ls' [])) : W p l e room_1 s m #[Value.ref b] below meth c H locs (cells + c1) (slots + n1) Q (F0 m 172 ls [.int (nI k)]) := by
  obtain ⟨X, hml, hX, hbl, hNc, hL6, hls⟩ := id K
  have hx := X.1
  have hb := X.2.1
  refine vg_istore (x := nI k) (lv' := (5, .int (nI k)) :: lv5 b x mm out i) hx hb dL_law_172 hl (by decide) rfl (fun ls hl => ?_)
  refine lv_aload_n hx hb dL_law_174 rfl (lv_at hl.1 3 rfl) ?_
  refine vy_cVi (ci := 14) (rest := []) X hml hl hH hL fCV_L_54 rfl [] rfl rfl (Nat.le_of_ble_eq_true rfl) dL_law_175 hm0 (by show cells + c1 + 0 ≤ 601024; omega) (by show slots + n1 + 0 ≤ 7293033; omega) (h1 := 100) (by decide) (by decide) (by decide) (cX11_folder_met e2) (fun H1 locs1 hH1 hL1 => ?_)
  refine vg_istore (x := nI v) (lv' := (6, .int (nI v)) :: (5, .int (nI k)) :: lv5 b x mm out i) hx hb dL_law_178 hl (by decide) rfl (fun ls hl => ?_)
  refine lv_aload_n hx hb dL_law_180 rfl (lv_at hl.1 4 rfl) ?_
  refine vy_cVi (ci := 14) (rest := []) X hml hl hH1 hL1 fCV_L_49 rfl [] rfl rfl (Nat.le_of_ble_eq_true rfl) dL_law_181 hI3.m0 (by show cells + c1 + 0 + 0 ≤ 601024; omega) (by show slots + n1 + 0 + 0 ≤ 7293033; omega) (h1 := 100) (by decide) (by decide) (by decide) (cX11_thrown_met e3) (fun H2 locs2 hH2 hL2 => ?_)
  refine lv_iload hx hb dL_law_184 (lv_at hl.1 1 rfl) ?_
  refine lv_icmp_eq (tgt := 191) hx hb dL_law_186 (by decide) (fun _ => ?_) (fun h => absurd rfl h)
  refine lv_iload hx hb dL_law_191 (lv_at hl.1 1 rfl) ?_
  have fin : W p l e room_1 s m #[Value.ref b] below meth c H2 locs2 (cells + c1 + 0 + 0) (slots + n1 + 0 + 0) Q (F0 m 208 ls []) := by
    refine lv_goto (tgt := 503) hx hb dL_law_208 (by decide) ?_
    refine W.widen (k := cells + 310) (n := slots + 8480) (by omega) (by omega) ?_
    exact kk H2 locs2 ls ⟨g3, hH2, hI3, hL2⟩ (hl.sub [2, 3, 4, 5, 6] rfl)
  refine lv_if_ne (tgt := 208) hx hb dL_law_193 (by decide) (fun _ => fin) (fun h => ?_)
  obtain ⟨f, hf1, hf2⟩ := hout ((nI_eq (by omega) (by omega)).mp h)
  refine lv_aload_n hx hb dL_law_196 rfl (lv_at hl.1 5 rfl) ?_
  refine lv_iconst (v := 0) hx hb dL_law_197 (by decide) ?_
  refine vy_lald X hH2 (ho3.trans hf1) (by unfold vp_in; decide) dL_law_198 ?_
  rw [show f (0 : Int32).toNatClampNeg = (nI v).toInt64 from hf2]
  refine lv_iload hx hb dL_law_199 (lv_at hl.1 0 rfl) ?_
  refine lv_i2l (v := (nI v).toInt64) hx hb dL_law_201 rfl ?_
  refine lv_lcmpE hx hb dL_law_202 ?_
  exact lv_if_eq (tgt := 208) hx hb dL_law_203 (by decide) (fun _ => fin) (fun h => absurd rfl h)
theorem lw_c2 (K : LK D cy l p s m c b L xs) (hJ : LJ D cy s x mm out B H locs) (hB : B + 12 < 2 ^ 30) (hB1 : 1 ≤ B) (hi : i + 2 < L) (hl : vg_l ls 7 (lv5 b x mm out i)) (hc : cells + 310 ≤ 601024) (hs : slots + 8480 ≤ 7293033)
    (kk : ∀ (H1 : Heap) (locs1 : List Loc) (ls' : Array Slot), LJ D cy s x mm out (B + 12) H1 locs1 → vg_l ls' 7 (lv5 b x mm out i) → W p l e room_1 s m #[Value.ref b] below meth c H1 locs1 (cells + 310) (slots + 8480) Q (F0 m 503 ls' [])) : W p l e room_1 s m #[Value.ref b] below meth c H locs cells slots Q (F0 m 167 ls []) := by
  obtain ⟨X, hml, hX, hbl, hNc, hL6, hls⟩ := id K
  obtain ⟨g, hH, hI, hL⟩ := hJ
  have hx := X.1
  have hb := X.2.1
  obtain ⟨r, g1, c1, n1, k, v, fo, e1, q1, q2, hk2, hr, hO, hw1, hgo⟩ := LI_folder hI hB
  refine lv_aload_n hx hb dL_law_167 rfl (lv_at hl.1 1 rfl) ?_
  refine lv_aload_n hx hb dL_law_168 rfl (lv_at hl.1 3 rfl) ?_
  refine vy_callS (n := 2) (rest := []) X hNc hml hl hH hL kLm_folder kLs_folder kLc_folder kLi ⟨by decide +kernel, by decide +kernel, by decide +kernel⟩ (by decide) [.ref x, .ref out] rfl rfl (Nat.le_of_ble_eq_true rfl) dL_law_169 (by show cells + c1 ≤ 601024; omega) (by show slots + n1 ≤ 7293033; omega) (by decide) (by decide) (cL_folder_met hls e1 hI.x0 hO.1 hO.2.2.2 (fun j hj => lw_k12 hk2 hr hj)) (fun v' H1 locs1 hrv hH1 hL1 => ?_) (fun k' z H1 locs1 hrk hH1 hL1 => ?_)
  · obtain ⟨rfl, rfl⟩ := lw_k0 hr hrv
    obtain ⟨g3, e2, e3, hI3, hm0, ho3⟩ := hgo _ (Or.inl ⟨_, rfl⟩)
    exact lw_t2 (k := 0) K hH1 hL1 hl hc hs q1 q2 (by decide) (fun _ => ⟨_, pg_put_self _ _ _, rfl⟩) e2 e3 hI3 hm0 ho3 kk
  · obtain ⟨rfl, h0⟩ := lw_kx hr hrk
    obtain ⟨g3, e2, e3, hI3, hm0, ho3⟩ := hgo _ (Or.inr ⟨z, rfl, hH1.wf hw1⟩)
    exact lw_t2 K hH1 hL1 hl hc hs q1 q2 hk2 (fun h => absurd h h0) e2 e3 hI3 hm0 ho3 kk
theorem lw_t3 {g2 g3 : pg_G} {c1 n1 k v : Nat} (K : LK D cy l p s m c b L xs) (hH : vg_H D cy s.heap g2.1 H) (hL : ∀ z ∈ locs, s.heap.size ≤ z.base) (hl : vg_l ls 7 (lv5 b x mm out i)) (hc : cells + 310 ≤ 601024) (hs : slots + 8480 ≤ 7293033) (q1 : c1 ≤ 310) (q2 : n1 ≤ 8480) (hk2 : k ≤ 2) (hout : k = 0 → ∃ f : Nat → Int64, g2.1.1 out = some (.inl (4, 1, .inr (.inl f))) ∧ f 0 = (nI v).toInt64)
    (e2 : fX11_remove mm g2.1 = some (nI v, g3.1, 0, 0)) (e3 : fX11_thrown mm g3.1 = some (nI k, g3.1, 0, 0)) (hI3 : LI g3 x mm out (B + 12)) (hm0 : ∃ fs, g2.1.1 mm = some (.inr (14, fs))) (ho3 : g3.1.1 out = g2.1.1 out)
    (kk : ∀ (H1 : Heap) (locs1 : List Loc) (ls' : Array Slot), LJ D cy s x mm out (B + 12) H1 locs1 → vg_l ls' 7 (lv5 b x mm out i) → W p l e room_1 s m #[Value.ref b] below meth c H1 locs1 (cells + 310) (slots + 8480) Q (F0 m 503 ls' [])) : W p l e room_1 s m #[Value.ref b] below meth c H locs (cells + c1) (slots + n1) Q (F0 m 216 ls [.int (nI k)]) := by
  obtain ⟨X, hml, hX, hbl, hNc, hL6, hls⟩ := id K
  have hx := X.1
  have hb := X.2.1
  refine vg_istore (x := nI k) (lv' := (5, .int (nI k)) :: lv5 b x mm out i) hx hb dL_law_216 hl (by decide) rfl (fun ls hl => ?_)
  refine lv_aload_n hx hb dL_law_218 rfl (lv_at hl.1 3 rfl) ?_
  refine vy_cVi (ci := 14) (rest := []) X hml hl hH hL fCV_L_57 rfl [] rfl rfl (Nat.le_of_ble_eq_true rfl) dL_law_219 hm0 (by show cells + c1 + 0 ≤ 601024; omega) (by show slots + n1 + 0 ≤ 7293033; omega) (h1 := 100) (by decide) (by decide) (by decide) (cX11_remove_met e2) (fun H1 locs1 hH1 hL1 => ?_)
  refine vg_istore (x := nI v) (lv' := (6, .int (nI v)) :: (5, .int (nI k)) :: lv5 b x mm out i) hx hb dL_law_222 hl (by decide) rfl (fun ls hl => ?_)
  refine lv_aload_n hx hb dL_law_224 rfl (lv_at hl.1 4 rfl) ?_
  refine vy_cVi (ci := 14) (rest := []) X hml hl hH1 hL1 fCV_L_49 rfl [] rfl rfl (Nat.le_of_ble_eq_true rfl) dL_law_225 hI3.m0 (by show cells + c1 + 0 + 0 ≤ 601024; omega) (by show slots + n1 + 0 + 0 ≤ 7293033; omega) (h1 := 100) (by decide) (by decide) (by decide) (cX11_thrown_met e3) (fun H2 locs2 hH2 hL2 => ?_)
  refine lv_iload hx hb dL_law_228 (lv_at hl.1 1 rfl) ?_
  refine lv_icmp_eq (tgt := 235) hx hb dL_law_230 (by decide) (fun _ => ?_) (fun h => absurd rfl h)
  refine lv_iload hx hb dL_law_235 (lv_at hl.1 1 rfl) ?_
  have fin : W p l e room_1 s m #[Value.ref b] below meth c H2 locs2 (cells + c1 + 0 + 0) (slots + n1 + 0 + 0) Q (F0 m 252 ls []) := by
    refine lv_goto (tgt := 503) hx hb dL_law_252 (by decide) ?_
    refine W.widen (k := cells + 310) (n := slots + 8480) (by omega) (by omega) ?_
    exact kk H2 locs2 ls ⟨g3, hH2, hI3, hL2⟩ (hl.sub [2, 3, 4, 5, 6] rfl)
  refine lv_if_ne (tgt := 252) hx hb dL_law_237 (by decide) (fun _ => fin) (fun h => ?_)
  obtain ⟨f, hf1, hf2⟩ := hout ((nI_eq (by omega) (by omega)).mp h)
  refine lv_aload_n hx hb dL_law_240 rfl (lv_at hl.1 5 rfl) ?_
  refine lv_iconst (v := 0) hx hb dL_law_241 (by decide) ?_
  refine vy_lald X hH2 (ho3.trans hf1) (by unfold vp_in; decide) dL_law_242 ?_
  rw [show f (0 : Int32).toNatClampNeg = (nI v).toInt64 from hf2]
  refine lv_iload hx hb dL_law_243 (lv_at hl.1 0 rfl) ?_
  refine lv_i2l (v := (nI v).toInt64) hx hb dL_law_245 rfl ?_
  refine lv_lcmpE hx hb dL_law_246 ?_
  exact lv_if_eq (tgt := 252) hx hb dL_law_247 (by decide) (fun _ => fin) (fun h => absurd rfl h)
theorem lw_c3 (K : LK D cy l p s m c b L xs) (hJ : LJ D cy s x mm out B H locs) (hB : B + 12 < 2 ^ 30) (hB1 : 1 ≤ B) (hi : i + 2 < L) (hl : vg_l ls 7 (lv5 b x mm out i)) (hc : cells + 310 ≤ 601024) (hs : slots + 8480 ≤ 7293033)
    (kk : ∀ (H1 : Heap) (locs1 : List Loc) (ls' : Array Slot), LJ D cy s x mm out (B + 12) H1 locs1 → vg_l ls' 7 (lv5 b x mm out i) → W p l e room_1 s m #[Value.ref b] below meth c H1 locs1 (cells + 310) (slots + 8480) Q (F0 m 503 ls' [])) : W p l e room_1 s m #[Value.ref b] below meth c H locs cells slots Q (F0 m 211 ls []) := by
  obtain ⟨X, hml, hX, hbl, hNc, hL6, hls⟩ := id K
  obtain ⟨g, hH, hI, hL⟩ := hJ
  have hx := X.1
  have hb := X.2.1
  obtain ⟨r, g1, c1, n1, k, v, fo, e1, q1, q2, hk2, hr, hO, hw1, hgo⟩ := LI_remove hI hB
  refine lv_aload_n hx hb dL_law_211 rfl (lv_at hl.1 1 rfl) ?_
  refine lv_aload_n hx hb dL_law_212 rfl (lv_at hl.1 3 rfl) ?_
  refine vy_callS (n := 2) (rest := []) X hNc hml hl hH hL kLm_remove kLs_remove kLc_remove kLi ⟨by decide +kernel, by decide +kernel, by decide +kernel⟩ (by decide) [.ref x, .ref out] rfl rfl (Nat.le_of_ble_eq_true rfl) dL_law_213 (by show cells + c1 ≤ 601024; omega) (by show slots + n1 ≤ 7293033; omega) (by decide) (by decide) (cL_remove_met hls e1 hI.x0 hO.1 hO.2.2.2 (fun j hj => lw_k12 hk2 hr hj)) (fun v' H1 locs1 hrv hH1 hL1 => ?_) (fun k' z H1 locs1 hrk hH1 hL1 => ?_)
  · obtain ⟨rfl, rfl⟩ := lw_k0 hr hrv
    obtain ⟨g3, e2, e3, hI3, hm0, ho3⟩ := hgo _ (Or.inl ⟨_, rfl⟩)
    exact lw_t3 (k := 0) K hH1 hL1 hl hc hs q1 q2 (by decide) (fun _ => ⟨_, pg_put_self _ _ _, rfl⟩) e2 e3 hI3 hm0 ho3 kk
  · obtain ⟨rfl, h0⟩ := lw_kx hr hrk
    obtain ⟨g3, e2, e3, hI3, hm0, ho3⟩ := hgo _ (Or.inr ⟨z, rfl, hH1.wf hw1⟩)
    exact lw_t3 K hH1 hL1 hl hc hs q1 q2 hk2 (fun h => absurd h h0) e2 e3 hI3 hm0 ho3 kk
theorem lw_t4 {g2 g3 : pg_G} {c1 n1 k : Nat} (K : LK D cy l p s m c b L xs) (hi : i + 2 < L) (hH : vg_H D cy s.heap g2.1 H) (hL : ∀ z ∈ locs, s.heap.size ≤ z.base) (hl : vg_l ls 7 (lv5 b x mm out i)) (hc : cells + 310 ≤ 601024) (hs : slots + 8480 ≤ 7293033) (q1 : c1 ≤ 310) (q2 : n1 ≤ 8480)
    (e2 : fX11_pack mm (bI (decide (xs (i + 1) ≠ 0))) g2.1 = some ((), g3.1, 0, 0)) (e3 : fX11_thrown mm g3.1 = some (nI k, g3.1, 0, 0)) (hI3 : LI g3 x mm out (B + 12)) (hm0 : ∃ fs, g2.1.1 mm = some (.inr (14, fs)))
    (kk : ∀ (H1 : Heap) (locs1 : List Loc) (ls' : Array Slot), LJ D cy s x mm out (B + 12) H1 locs1 → vg_l ls' 7 (lv5 b x mm out i) → W p l e room_1 s m #[Value.ref b] below meth c H1 locs1 (cells + 310) (slots + 8480) Q (F0 m 503 ls' [])) : W p l e room_1 s m #[Value.ref b] below meth c H locs (cells + c1) (slots + n1) Q (F0 m 273 ls [.int (nI k)]) := by
  obtain ⟨X, hml, hX, hbl, hNc, hL6, hls⟩ := id K
  have hx := X.1
  have hb := X.2.1
  refine vg_istore (x := nI k) (lv' := (5, .int (nI k)) :: lv5 b x mm out i) hx hb dL_law_273 hl (by decide) rfl (fun ls hl => ?_)
  refine lv_aload_n hx hb dL_law_275 rfl (lv_at hl.1 3 rfl) ?_
  refine lw_ld K hH hL hl 1 5 rfl rfl hi (k := 1) (by decide) (by decide) dL_law_276 dL_law_277 dL_law_279 dL_law_280 dL_law_281 ?_
  refine lw_bool (o1 := 0) (o2 := 0) hx hb dL_law_282 dL_law_285 dL_law_286 dL_law_289 ?_
  refine vy_cVv (ci := 14) (rest := []) X hml hl hH hL fCV_L_61 rfl [.int (bI (decide (xs (i + 1) ≠ 0)))] rfl rfl (Nat.le_of_ble_eq_true rfl) dL_law_290 hm0 (by show cells + c1 + 0 ≤ 601024; omega) (by show slots + n1 + 0 ≤ 7293033; omega) (h1 := 100) (by decide) (by decide) (by decide) (cX11_pack_met e2) (fun H1 locs1 hH1 hL1 => ?_)
  refine lv_aload_n hx hb dL_law_293 rfl (lv_at hl.1 3 rfl) ?_
  refine vy_cVi (ci := 14) (rest := []) X hml hl hH1 hL1 fCV_L_49 rfl [] rfl rfl (Nat.le_of_ble_eq_true rfl) dL_law_294 hI3.m0 (by show cells + c1 + 0 + 0 ≤ 601024; omega) (by show slots + n1 + 0 + 0 ≤ 7293033; omega) (h1 := 100) (by decide) (by decide) (by decide) (cX11_thrown_met e3) (fun H2 locs2 hH2 hL2 => ?_)
  refine lv_iload hx hb dL_law_297 (lv_at hl.1 0 rfl) ?_
  refine lv_icmp_eq (tgt := 304) hx hb dL_law_299 (by decide) (fun _ => ?_) (fun h => absurd rfl h)
  refine lv_goto (tgt := 503) hx hb dL_law_304 (by decide) ?_
  refine W.widen (k := cells + 310) (n := slots + 8480) (by omega) (by omega) ?_
  exact kk H2 locs2 ls ⟨g3, hH2, hI3, hL2⟩ (hl.sub [1, 2, 3, 4, 5] rfl)
theorem lw_c4 (K : LK D cy l p s m c b L xs) (hJ : LJ D cy s x mm out B H locs) (hB : B + 12 < 2 ^ 30) (hB1 : 1 ≤ B) (hi : i + 2 < L) (hl : vg_l ls 7 (lv5 b x mm out i)) (hc : cells + 310 ≤ 601024) (hs : slots + 8480 ≤ 7293033)
    (kk : ∀ (H1 : Heap) (locs1 : List Loc) (ls' : Array Slot), LJ D cy s x mm out (B + 12) H1 locs1 → vg_l ls' 7 (lv5 b x mm out i) → W p l e room_1 s m #[Value.ref b] below meth c H1 locs1 (cells + 310) (slots + 8480) Q (F0 m 503 ls' [])) : W p l e room_1 s m #[Value.ref b] below meth c H locs cells slots Q (F0 m 255 ls []) := by
  obtain ⟨X, hml, hX, hbl, hNc, hL6, hls⟩ := id K
  obtain ⟨g, hH, hI, hL⟩ := hJ
  have hx := X.1
  have hb := X.2.1
  obtain ⟨r, g1, c1, n1, k, e1, q1, q2, hk2, hr, hw1, hgo⟩ := LI_pack (on := decide (xs (i + 1) ≠ 0)) hI hB
  refine lv_aload_n hx hb dL_law_255 rfl (lv_at hl.1 1 rfl) ?_
  refine lw_ld K hH hL hl 0 4 rfl rfl hi (k := 1) (by decide) (by decide) dL_law_256 dL_law_257 dL_law_259 dL_law_260 dL_law_261 ?_
  refine lw_bool (o1 := 0) (o2 := 0) hx hb dL_law_262 dL_law_265 dL_law_266 dL_law_269 ?_
  refine vy_callS (n := 2) (rest := []) X hNc hml hl hH hL kLm_pack kLs_pack kLc_pack kLi ⟨by decide +kernel, by decide +kernel, by decide +kernel⟩ (by decide) [.ref x, .int (bI (decide (xs (i + 1) ≠ 0)))] rfl rfl (Nat.le_of_ble_eq_true rfl) dL_law_270 (by show cells + c1 ≤ 601024; omega) (by show slots + n1 ≤ 7293033; omega) (by decide) (by decide) (cL_pack_met hls e1 hI.x0 (fun j hj => lw_k12 hk2 hr hj)) (fun v' H1 locs1 hrv hH1 hL1 => ?_) (fun k' z H1 locs1 hrk hH1 hL1 => ?_)
  · obtain ⟨rfl, -⟩ := lw_k0 hr hrv
    obtain ⟨g3, e2, e3, hI3, hm0⟩ := hgo _ (Or.inl rfl)
    exact lw_t4 (k := 0) K hi hH1 hL1 hl hc hs q1 q2 e2 e3 hI3 hm0 kk
  · obtain ⟨rfl, h0⟩ := lw_kx hr hrk
    obtain ⟨g3, e2, e3, hI3, hm0⟩ := hgo _ (Or.inr ⟨z, rfl, hH1.wf hw1⟩)
    exact lw_t4 K hi hH1 hL1 hl hc hs q1 q2 e2 e3 hI3 hm0 kk
theorem lw_t5 {g2 g3 : pg_G} {c1 n1 k v : Nat} (K : LK D cy l p s m c b L xs) (hH : vg_H D cy s.heap g2.1 H) (hL : ∀ z ∈ locs, s.heap.size ≤ z.base) (hl : vg_l ls 7 (lv5 b x mm out i)) (hc : cells + 310 ≤ 601024) (hs : slots + 8480 ≤ 7293033) (q1 : c1 ≤ 310) (q2 : n1 ≤ 8480) (hk2 : k ≤ 2) (hout : k = 0 → ∃ f : Nat → Int64, g2.1.1 out = some (.inl (4, 1, .inr (.inl f))) ∧ f 0 = (nI v).toInt64)
    (e2 : fX11_query mm g2.1 = some (nI v, g3.1, 0, 0)) (e3 : fX11_thrown mm g3.1 = some (nI k, g3.1, 0, 0)) (hI3 : LI g3 x mm out (B + 12)) (hm0 : ∃ fs, g2.1.1 mm = some (.inr (14, fs))) (ho3 : g3.1.1 out = g2.1.1 out)
    (kk : ∀ (H1 : Heap) (locs1 : List Loc) (ls' : Array Slot), LJ D cy s x mm out (B + 12) H1 locs1 → vg_l ls' 7 (lv5 b x mm out i) → W p l e room_1 s m #[Value.ref b] below meth c H1 locs1 (cells + 310) (slots + 8480) Q (F0 m 503 ls' [])) : W p l e room_1 s m #[Value.ref b] below meth c H locs (cells + c1) (slots + n1) Q (F0 m 312 ls [.int (nI k)]) := by
  obtain ⟨X, hml, hX, hbl, hNc, hL6, hls⟩ := id K
  have hx := X.1
  have hb := X.2.1
  refine vg_istore (x := nI k) (lv' := (5, .int (nI k)) :: lv5 b x mm out i) hx hb dL_law_312 hl (by decide) rfl (fun ls hl => ?_)
  refine lv_aload_n hx hb dL_law_314 rfl (lv_at hl.1 3 rfl) ?_
  refine vy_cVi (ci := 14) (rest := []) X hml hl hH hL fCV_L_64 rfl [] rfl rfl (Nat.le_of_ble_eq_true rfl) dL_law_315 hm0 (by show cells + c1 + 0 ≤ 601024; omega) (by show slots + n1 + 0 ≤ 7293033; omega) (h1 := 100) (by decide) (by decide) (by decide) (cX11_query_met e2) (fun H1 locs1 hH1 hL1 => ?_)
  refine vg_istore (x := nI v) (lv' := (6, .int (nI v)) :: (5, .int (nI k)) :: lv5 b x mm out i) hx hb dL_law_318 hl (by decide) rfl (fun ls hl => ?_)
  refine lv_aload_n hx hb dL_law_320 rfl (lv_at hl.1 4 rfl) ?_
  refine vy_cVi (ci := 14) (rest := []) X hml hl hH1 hL1 fCV_L_49 rfl [] rfl rfl (Nat.le_of_ble_eq_true rfl) dL_law_321 hI3.m0 (by show cells + c1 + 0 + 0 ≤ 601024; omega) (by show slots + n1 + 0 + 0 ≤ 7293033; omega) (h1 := 100) (by decide) (by decide) (by decide) (cX11_thrown_met e3) (fun H2 locs2 hH2 hL2 => ?_)
  refine lv_iload hx hb dL_law_324 (lv_at hl.1 1 rfl) ?_
  refine lv_icmp_eq (tgt := 331) hx hb dL_law_326 (by decide) (fun _ => ?_) (fun h => absurd rfl h)
  refine lv_iload hx hb dL_law_331 (lv_at hl.1 1 rfl) ?_
  have fin : W p l e room_1 s m #[Value.ref b] below meth c H2 locs2 (cells + c1 + 0 + 0) (slots + n1 + 0 + 0) Q (F0 m 348 ls []) := by
    refine lv_goto (tgt := 503) hx hb dL_law_348 (by decide) ?_
    refine W.widen (k := cells + 310) (n := slots + 8480) (by omega) (by omega) ?_
    exact kk H2 locs2 ls ⟨g3, hH2, hI3, hL2⟩ (hl.sub [2, 3, 4, 5, 6] rfl)
  refine lv_if_ne (tgt := 348) hx hb dL_law_333 (by decide) (fun _ => fin) (fun h => ?_)
  obtain ⟨f, hf1, hf2⟩ := hout ((nI_eq (by omega) (by omega)).mp h)
  refine lv_aload_n hx hb dL_law_336 rfl (lv_at hl.1 5 rfl) ?_
  refine lv_iconst (v := 0) hx hb dL_law_337 (by decide) ?_
  refine vy_lald X hH2 (ho3.trans hf1) (by unfold vp_in; decide) dL_law_338 ?_
  rw [show f (0 : Int32).toNatClampNeg = (nI v).toInt64 from hf2]
  refine lv_iload hx hb dL_law_339 (lv_at hl.1 0 rfl) ?_
  refine lv_i2l (v := (nI v).toInt64) hx hb dL_law_341 rfl ?_
  refine lv_lcmpE hx hb dL_law_342 ?_
  exact lv_if_eq (tgt := 348) hx hb dL_law_343 (by decide) (fun _ => fin) (fun h => absurd rfl h)
theorem lw_c5 (K : LK D cy l p s m c b L xs) (hJ : LJ D cy s x mm out B H locs) (hB : B + 12 < 2 ^ 30) (hB1 : 1 ≤ B) (hi : i + 2 < L) (hl : vg_l ls 7 (lv5 b x mm out i)) (hc : cells + 310 ≤ 601024) (hs : slots + 8480 ≤ 7293033)
    (kk : ∀ (H1 : Heap) (locs1 : List Loc) (ls' : Array Slot), LJ D cy s x mm out (B + 12) H1 locs1 → vg_l ls' 7 (lv5 b x mm out i) → W p l e room_1 s m #[Value.ref b] below meth c H1 locs1 (cells + 310) (slots + 8480) Q (F0 m 503 ls' [])) : W p l e room_1 s m #[Value.ref b] below meth c H locs cells slots Q (F0 m 307 ls []) := by
  obtain ⟨X, hml, hX, hbl, hNc, hL6, hls⟩ := id K
  obtain ⟨g, hH, hI, hL⟩ := hJ
  have hx := X.1
  have hb := X.2.1
  obtain ⟨r, g1, c1, n1, k, v, fo, e1, q1, q2, hk2, hr, hO, hw1, hgo⟩ := LI_query hI hB hB1
  refine lv_aload_n hx hb dL_law_307 rfl (lv_at hl.1 1 rfl) ?_
  refine lv_aload_n hx hb dL_law_308 rfl (lv_at hl.1 3 rfl) ?_
  refine vy_callS (n := 2) (rest := []) X hNc hml hl hH hL kLm_query kLs_query kLc_query kLi ⟨by decide +kernel, by decide +kernel, by decide +kernel⟩ (by decide) [.ref x, .ref out] rfl rfl (Nat.le_of_ble_eq_true rfl) dL_law_309 (by show cells + c1 ≤ 601024; omega) (by show slots + n1 ≤ 7293033; omega) (by decide) (by decide) (cL_query_met hls e1 hI.x0 hO.1 hO.2.2.2 (fun j hj => lw_k12 hk2 hr hj)) (fun v' H1 locs1 hrv hH1 hL1 => ?_) (fun k' z H1 locs1 hrk hH1 hL1 => ?_)
  · obtain ⟨rfl, rfl⟩ := lw_k0 hr hrv
    obtain ⟨g3, e2, e3, hI3, hm0, ho3⟩ := hgo _ (Or.inl ⟨_, rfl⟩)
    exact lw_t5 (k := 0) K hH1 hL1 hl hc hs q1 q2 (by decide) (fun _ => ⟨_, pg_put_self _ _ _, rfl⟩) e2 e3 hI3 hm0 ho3 kk
  · obtain ⟨rfl, h0⟩ := lw_kx hr hrk
    obtain ⟨g3, e2, e3, hI3, hm0, ho3⟩ := hgo _ (Or.inr ⟨z, rfl, hH1.wf hw1⟩)
    exact lw_t5 K hH1 hL1 hl hc hs q1 q2 hk2 (fun h => absurd h h0) e2 e3 hI3 hm0 ho3 kk
theorem lw_t6 {g2 g3 : pg_G} {c1 n1 k : Nat} (K : LK D cy l p s m c b L xs) (hi : i + 2 < L) (hH : vg_H D cy s.heap g2.1 H) (hL : ∀ z ∈ locs, s.heap.size ≤ z.base) (hl : vg_l ls 7 (lv5 b x mm out i)) (hc : cells + 310 ≤ 601024) (hs : slots + 8480 ≤ 7293033) (q1 : c1 ≤ 310) (q2 : n1 ≤ 8480)
    (e2 : fX11_pattern mm (xs (i + 1)) (bI (decide (xs (i + 2) ≠ 0))) g2.1 = some ((), g3.1, 0, 0)) (e3 : fX11_thrown mm g3.1 = some (nI k, g3.1, 0, 0)) (hI3 : LI g3 x mm out (B + 12)) (hm0 : ∃ fs, g2.1.1 mm = some (.inr (14, fs)))
    (kk : ∀ (H1 : Heap) (locs1 : List Loc) (ls' : Array Slot), LJ D cy s x mm out (B + 12) H1 locs1 → vg_l ls' 7 (lv5 b x mm out i) → W p l e room_1 s m #[Value.ref b] below meth c H1 locs1 (cells + 310) (slots + 8480) Q (F0 m 503 ls' [])) : W p l e room_1 s m #[Value.ref b] below meth c H locs (cells + c1) (slots + n1) Q (F0 m 375 ls [.int (nI k)]) := by
  obtain ⟨X, hml, hX, hbl, hNc, hL6, hls⟩ := id K
  have hx := X.1
  have hb := X.2.1
  refine vg_istore (x := nI k) (lv' := (5, .int (nI k)) :: lv5 b x mm out i) hx hb dL_law_375 hl (by decide) rfl (fun ls hl => ?_)
  refine lv_aload_n hx hb dL_law_377 rfl (lv_at hl.1 3 rfl) ?_
  refine lw_ld K hH hL hl 1 5 rfl rfl hi (k := 1) (by decide) (by decide) dL_law_378 dL_law_379 dL_law_381 dL_law_382 dL_law_383 ?_
  refine lw_ld K hH hL hl 1 5 rfl rfl hi (k := 2) (by decide) (by decide) dL_law_384 dL_law_385 dL_law_387 dL_law_388 dL_law_389 ?_
  refine lw_bool (o1 := 0) (o2 := 0) hx hb dL_law_390 dL_law_393 dL_law_394 dL_law_397 ?_
  refine vy_cVv (ci := 14) (rest := []) X hml hl hH hL fCV_L_68 rfl [.int (xs (i + 1)), .int (bI (decide (xs (i + 2) ≠ 0)))] rfl rfl (Nat.le_of_ble_eq_true rfl) dL_law_398 hm0 (by show cells + c1 + 0 ≤ 601024; omega) (by show slots + n1 + 0 ≤ 7293033; omega) (h1 := 100) (by decide) (by decide) (by decide) (cX11_pattern_met e2) (fun H1 locs1 hH1 hL1 => ?_)
  refine lv_aload_n hx hb dL_law_401 rfl (lv_at hl.1 3 rfl) ?_
  refine vy_cVi (ci := 14) (rest := []) X hml hl hH1 hL1 fCV_L_49 rfl [] rfl rfl (Nat.le_of_ble_eq_true rfl) dL_law_402 hI3.m0 (by show cells + c1 + 0 + 0 ≤ 601024; omega) (by show slots + n1 + 0 + 0 ≤ 7293033; omega) (h1 := 100) (by decide) (by decide) (by decide) (cX11_thrown_met e3) (fun H2 locs2 hH2 hL2 => ?_)
  refine lv_iload hx hb dL_law_405 (lv_at hl.1 0 rfl) ?_
  refine lv_icmp_eq (tgt := 412) hx hb dL_law_407 (by decide) (fun _ => ?_) (fun h => absurd rfl h)
  refine lv_goto (tgt := 503) hx hb dL_law_412 (by decide) ?_
  refine W.widen (k := cells + 310) (n := slots + 8480) (by omega) (by omega) ?_
  exact kk H2 locs2 ls ⟨g3, hH2, hI3, hL2⟩ (hl.sub [1, 2, 3, 4, 5] rfl)
theorem lw_c6 (K : LK D cy l p s m c b L xs) (hJ : LJ D cy s x mm out B H locs) (hB : B + 12 < 2 ^ 30) (hB1 : 1 ≤ B) (hi : i + 2 < L) (hl : vg_l ls 7 (lv5 b x mm out i)) (hc : cells + 310 ≤ 601024) (hs : slots + 8480 ≤ 7293033)
    (kk : ∀ (H1 : Heap) (locs1 : List Loc) (ls' : Array Slot), LJ D cy s x mm out (B + 12) H1 locs1 → vg_l ls' 7 (lv5 b x mm out i) → W p l e room_1 s m #[Value.ref b] below meth c H1 locs1 (cells + 310) (slots + 8480) Q (F0 m 503 ls' [])) : W p l e room_1 s m #[Value.ref b] below meth c H locs cells slots Q (F0 m 351 ls []) := by
  obtain ⟨X, hml, hX, hbl, hNc, hL6, hls⟩ := id K
  obtain ⟨g, hH, hI, hL⟩ := hJ
  have hx := X.1
  have hb := X.2.1
  obtain ⟨r, g1, c1, n1, k, e1, q1, q2, hk2, hr, hw1, hgo⟩ := LI_pattern (q := xs (i + 1)) (o := decide (xs (i + 2) ≠ 0)) hI hB
  refine lv_aload_n hx hb dL_law_351 rfl (lv_at hl.1 1 rfl) ?_
  refine lw_ld K hH hL hl 0 4 rfl rfl hi (k := 1) (by decide) (by decide) dL_law_352 dL_law_353 dL_law_355 dL_law_356 dL_law_357 ?_
  refine lw_ld K hH hL hl 0 4 rfl rfl hi (k := 2) (by decide) (by decide) dL_law_358 dL_law_359 dL_law_361 dL_law_362 dL_law_363 ?_
  refine lw_bool (o1 := 0) (o2 := 0) hx hb dL_law_364 dL_law_367 dL_law_368 dL_law_371 ?_
  refine vy_callS (n := 3) (rest := []) X hNc hml hl hH hL kLm_pattern kLs_pattern kLc_pattern kLi ⟨by decide +kernel, by decide +kernel, by decide +kernel⟩ (by decide) [.ref x, .int (xs (i + 1)), .int (bI (decide (xs (i + 2) ≠ 0)))] rfl rfl (Nat.le_of_ble_eq_true rfl) dL_law_372 (by show cells + c1 ≤ 601024; omega) (by show slots + n1 ≤ 7293033; omega) (by decide) (by decide) (cL_pattern_met hls e1 hI.x0 (fun j hj => lw_k12 hk2 hr hj)) (fun v' H1 locs1 hrv hH1 hL1 => ?_) (fun k' z H1 locs1 hrk hH1 hL1 => ?_)
  · obtain ⟨rfl, -⟩ := lw_k0 hr hrv
    obtain ⟨g3, e2, e3, hI3, hm0⟩ := hgo _ (Or.inl rfl)
    exact lw_t6 (k := 0) K hi hH1 hL1 hl hc hs q1 q2 e2 e3 hI3 hm0 kk
  · obtain ⟨rfl, h0⟩ := lw_kx hr hrk
    obtain ⟨g3, e2, e3, hI3, hm0⟩ := hgo _ (Or.inr ⟨z, rfl, hH1.wf hw1⟩)
    exact lw_t6 K hi hH1 hL1 hl hc hs q1 q2 e2 e3 hI3 hm0 kk
theorem lw_c7 (K : LK D cy l p s m c b L xs) (hJ : LJ D cy s x mm out B H locs) (hB : B + 12 < 2 ^ 30) (hB1 : 1 ≤ B) (hi : i + 2 < L) (hl : vg_l ls 7 (lv5 b x mm out i)) (hc : cells + 310 ≤ 601024) (hs : slots + 8480 ≤ 7293033)
    (kk : ∀ (H1 : Heap) (locs1 : List Loc) (ls' : Array Slot), LJ D cy s x mm out (B + 12) H1 locs1 → vg_l ls' 7 (lv5 b x mm out i) → W p l e room_1 s m #[Value.ref b] below meth c H1 locs1 (cells + 310) (slots + 8480) Q (F0 m 503 ls' [])) : W p l e room_1 s m #[Value.ref b] below meth c H locs cells slots Q (F0 m 415 ls []) := by
  obtain ⟨X, hml, hX, hbl, hNc, hL6, hls⟩ := id K
  obtain ⟨g, hH, hI, hL⟩ := hJ
  have hx := X.1
  have hb := X.2.1
  refine lv_aload_n hx hb dL_law_415 rfl (lv_at hl.1 1 rfl) ?_
  obtain ⟨r, g1, c1, n1, g3, e1, q1, q2, e2, hI3, hm0⟩ := LI_place hI
  refine vy_cVi (ci := 13) (rest := []) X hml hl hH hL fCV_L_69 rfl [] rfl rfl (Nat.le_of_ble_eq_true rfl) dL_law_416 hI.x0 (by show cells + c1 ≤ 601024; omega) (by show slots + n1 ≤ 7293033; omega) (h1 := 100) (by decide) (by decide) (by decide) (cX10_place_met e1) (fun H1 locs1 hH1 hL1 => ?_)
  refine lv_aload_n hx hb dL_law_419 rfl (lv_at hl.1 2 rfl) ?_
  refine vy_cVi (ci := 14) (rest := [.int r]) X hml hl hH1 hL1 fCV_L_72 rfl [] rfl rfl (Nat.le_of_ble_eq_true rfl) dL_law_420 hm0 (by show cells + c1 + 0 ≤ 601024; omega) (by show slots + n1 + 0 ≤ 7293033; omega) (h1 := 100) (by decide) (by decide) (by decide) (cX11_place_met e2) (fun H2 locs2 hH2 hL2 => ?_)
  refine lv_icmp_eq (tgt := 503) hx hb dL_law_423 (by decide) (fun _ => ?_) (fun h => absurd rfl h)
  refine W.widen (k := cells + 310) (n := slots + 8480) (by omega) (by omega) ?_
  exact kk H2 locs2 ls ⟨g3, hH2, hI3, hL2⟩ hl
theorem lw_c8 (K : LK D cy l p s m c b L xs) (hJ : LJ D cy s x mm out B H locs) (hB : B + 12 < 2 ^ 30) (hB1 : 1 ≤ B) (hi : i + 2 < L) (hl : vg_l ls 7 (lv5 b x mm out i)) (hc : cells + 310 ≤ 601024) (hs : slots + 8480 ≤ 7293033)
    (kk : ∀ (H1 : Heap) (locs1 : List Loc) (ls' : Array Slot), LJ D cy s x mm out (B + 12) H1 locs1 → vg_l ls' 7 (lv5 b x mm out i) → W p l e room_1 s m #[Value.ref b] below meth c H1 locs1 (cells + 310) (slots + 8480) Q (F0 m 503 ls' [])) : W p l e room_1 s m #[Value.ref b] below meth c H locs cells slots Q (F0 m 428 ls []) := by
  obtain ⟨X, hml, hX, hbl, hNc, hL6, hls⟩ := id K
  obtain ⟨g, hH, hI, hL⟩ := hJ
  have hx := X.1
  have hb := X.2.1
  refine lv_aload_n hx hb dL_law_428 rfl (lv_at hl.1 1 rfl) ?_
  obtain ⟨r, g1, c1, n1, g3, e1, q1, q2, e2, hI3, hm0⟩ := LI_ask (q := xs (i + 1)) hI hB
  refine lw_ld K hH hL hl 0 4 rfl rfl hi (k := 1) (by decide) (by decide) dL_law_429 dL_law_430 dL_law_432 dL_law_433 dL_law_434 ?_
  refine vy_cVi (ci := 13) (rest := []) X hml hl hH hL fCV_L_73 rfl [.int (xs (i + 1))] rfl rfl (Nat.le_of_ble_eq_true rfl) dL_law_435 hI.x0 (by show cells + c1 ≤ 601024; omega) (by show slots + n1 ≤ 7293033; omega) (h1 := 100) (by decide) (by decide) (by decide) (cX10_ask_met e1) (fun H1 locs1 hH1 hL1 => ?_)
  refine lv_aload_n hx hb dL_law_438 rfl (lv_at hl.1 2 rfl) ?_
  refine lw_ld K hH1 hL1 hl 0 4 rfl rfl hi (k := 1) (by decide) (by decide) dL_law_439 dL_law_440 dL_law_442 dL_law_443 dL_law_444 ?_
  refine vy_cVi (ci := 14) (rest := [.int r]) X hml hl hH1 hL1 fCV_L_77 rfl [.int (xs (i + 1))] rfl rfl (Nat.le_of_ble_eq_true rfl) dL_law_445 hm0 (by show cells + c1 + 0 ≤ 601024; omega) (by show slots + n1 + 0 ≤ 7293033; omega) (h1 := 100) (by decide) (by decide) (by decide) (cX11_ask_met e2) (fun H2 locs2 hH2 hL2 => ?_)
  refine lv_icmp_eq (tgt := 503) hx hb dL_law_448 (by decide) (fun _ => ?_) (fun h => absurd rfl h)
  refine W.widen (k := cells + 310) (n := slots + 8480) (by omega) (by omega) ?_
  exact kk H2 locs2 ls ⟨g3, hH2, hI3, hL2⟩ hl
theorem lw_c9 (K : LK D cy l p s m c b L xs) (hJ : LJ D cy s x mm out B H locs) (hB : B + 12 < 2 ^ 30) (hB1 : 1 ≤ B) (hi : i + 2 < L) (hl : vg_l ls 7 (lv5 b x mm out i)) (hc : cells + 310 ≤ 601024) (hs : slots + 8480 ≤ 7293033)
    (kk : ∀ (H1 : Heap) (locs1 : List Loc) (ls' : Array Slot), LJ D cy s x mm out (B + 12) H1 locs1 → vg_l ls' 7 (lv5 b x mm out i) → W p l e room_1 s m #[Value.ref b] below meth c H1 locs1 (cells + 310) (slots + 8480) Q (F0 m 503 ls' [])) : W p l e room_1 s m #[Value.ref b] below meth c H locs cells slots Q (F0 m 453 ls []) := by
  obtain ⟨X, hml, hX, hbl, hNc, hL6, hls⟩ := id K
  obtain ⟨g, hH, hI, hL⟩ := hJ
  have hx := X.1
  have hb := X.2.1
  refine lv_aload_n hx hb dL_law_453 rfl (lv_at hl.1 1 rfl) ?_
  obtain ⟨r, g1, c1, n1, g3, e1, q1, q2, e2, hI3, hm0⟩ := LI_looked hI
  refine vy_cVi (ci := 13) (rest := []) X hml hl hH hL fCV_L_78 rfl [] rfl rfl (Nat.le_of_ble_eq_true rfl) dL_law_454 hI.x0 (by show cells + c1 ≤ 601024; omega) (by show slots + n1 ≤ 7293033; omega) (h1 := 100) (by decide) (by decide) (by decide) (cX10_looked_met e1) (fun H1 locs1 hH1 hL1 => ?_)
  refine lv_aload_n hx hb dL_law_457 rfl (lv_at hl.1 2 rfl) ?_
  refine vy_cVi (ci := 14) (rest := [.int r]) X hml hl hH1 hL1 fCV_L_81 rfl [] rfl rfl (Nat.le_of_ble_eq_true rfl) dL_law_458 hm0 (by show cells + c1 + 0 ≤ 601024; omega) (by show slots + n1 + 0 ≤ 7293033; omega) (h1 := 100) (by decide) (by decide) (by decide) (cX11_looked_met e2) (fun H2 locs2 hH2 hL2 => ?_)
  refine lv_icmp_eq (tgt := 503) hx hb dL_law_461 (by decide) (fun _ => ?_) (fun h => absurd rfl h)
  refine W.widen (k := cells + 310) (n := slots + 8480) (by omega) (by omega) ?_
  exact kk H2 locs2 ls ⟨g3, hH2, hI3, hL2⟩ hl
theorem lw_c10 (K : LK D cy l p s m c b L xs) (hJ : LJ D cy s x mm out B H locs) (hB : B + 12 < 2 ^ 30) (hB1 : 1 ≤ B) (hi : i + 2 < L) (hl : vg_l ls 7 (lv5 b x mm out i)) (hc : cells + 310 ≤ 601024) (hs : slots + 8480 ≤ 7293033)
    (kk : ∀ (H1 : Heap) (locs1 : List Loc) (ls' : Array Slot), LJ D cy s x mm out (B + 12) H1 locs1 → vg_l ls' 7 (lv5 b x mm out i) → W p l e room_1 s m #[Value.ref b] below meth c H1 locs1 (cells + 310) (slots + 8480) Q (F0 m 503 ls' [])) : W p l e room_1 s m #[Value.ref b] below meth c H locs cells slots Q (F0 m 466 ls []) := by
  obtain ⟨X, hml, hX, hbl, hNc, hL6, hls⟩ := id K
  obtain ⟨g, hH, hI, hL⟩ := hJ
  have hx := X.1
  have hb := X.2.1
  refine lv_aload_n hx hb dL_law_466 rfl (lv_at hl.1 1 rfl) ?_
  obtain ⟨r, g1, c1, n1, g3, e1, q1, q2, e2, hI3, hm0⟩ := LI_answer (k := xs (i + 1)) (i := xs (i + 2)) hI
  refine lw_ld K hH hL hl 0 4 rfl rfl hi (k := 1) (by decide) (by decide) dL_law_467 dL_law_468 dL_law_470 dL_law_471 dL_law_472 ?_
  refine lw_ld K hH hL hl 0 4 rfl rfl hi (k := 2) (by decide) (by decide) dL_law_473 dL_law_474 dL_law_476 dL_law_477 dL_law_478 ?_
  refine vy_cVi (ci := 13) (rest := []) X hml hl hH hL fCV_L_82 rfl [.int (xs (i + 1)), .int (xs (i + 2))] rfl rfl (Nat.le_of_ble_eq_true rfl) dL_law_479 hI.x0 (by show cells + c1 ≤ 601024; omega) (by show slots + n1 ≤ 7293033; omega) (h1 := 100) (by decide) (by decide) (by decide) (cX10_answer_met e1) (fun H1 locs1 hH1 hL1 => ?_)
  refine lv_aload_n hx hb dL_law_482 rfl (lv_at hl.1 2 rfl) ?_
  refine lw_ld K hH1 hL1 hl 0 4 rfl rfl hi (k := 1) (by decide) (by decide) dL_law_483 dL_law_484 dL_law_486 dL_law_487 dL_law_488 ?_
  refine lw_ld K hH1 hL1 hl 0 4 rfl rfl hi (k := 2) (by decide) (by decide) dL_law_489 dL_law_490 dL_law_492 dL_law_493 dL_law_494 ?_
  refine vy_cVi (ci := 14) (rest := [.int r]) X hml hl hH1 hL1 fCV_L_86 rfl [.int (xs (i + 1)), .int (xs (i + 2))] rfl rfl (Nat.le_of_ble_eq_true rfl) dL_law_495 hm0 (by show cells + c1 + 0 ≤ 601024; omega) (by show slots + n1 + 0 ≤ 7293033; omega) (h1 := 100) (by decide) (by decide) (by decide) (cX11_answer_met e2) (fun H2 locs2 hH2 hL2 => ?_)
  refine lv_icmp_eq (tgt := 503) hx hb dL_law_498 (by decide) (fun _ => ?_) (fun h => absurd rfl h)
  refine W.widen (k := cells + 310) (n := slots + 8480) (by omega) (by omega) ?_
  exact kk H2 locs2 ls ⟨g3, hH2, hI3, hL2⟩ hl
end LW
