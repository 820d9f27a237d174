def fX10_takePath (v0 : Nat) (μ : vg_M) : vg_R ((Option Nat) ⊕ Nat) :=
  vg_cv 13 v0 μ (fX10_takeText v0  μ) fun x1 μ2 =>
  vg_b (fX3_read x1 μ2) fun x3 μ4 =>
  vg_m x3 (
   vg_thr 1 μ4
   ) fun a5 => (
   vg_ret (.inl (some a5)) μ4
   )
set_option maxHeartbeats 4000000 in
set_option maxRecDepth 100000 in
theorem cX10_takePath_met {l : Launch} {D : va_G} {cy : Nat → ClassId} {H0 : Heap} (hls : l.stackTraces = false) {r : ((Option Nat) ⊕ Nat)} {μ μ' : vg_M} {cn nn : Nat} {v0 : Nat} (hf : fX10_takePath v0 μ = some (r, μ', cn, nn)) : vg_MetX l D cy H0 yX10_takePath cX10_takePath 2 (some (.object "GlobRows$Path")) 19 μ [.ref v0] (fun x => some (va_rf x)) r μ' cn nn := by
  refine vg_startX hls (by decide +kernel) (List.forall_mem_cons.mpr ⟨rfl, (fun _ h => nomatch h)⟩) (Nat.le_of_ble_eq_true rfl) ?_
  intro p e s m below meth c ls Z hH hl
  have hl : vg_l ls 2 [(0, .ref v0)] := hl
  obtain ⟨X, hml, hr, hlk, hfr, hlo, hRc, hRs, hnm, -, hsz, hnt⟩ := id Z
  have hx := X.1
  have hb := X.2.1
  have hL : ∀ z ∈ ([] : List Loc), H0.size ≤ z.base := fun _ h => nomatch h
  have hC : 0 + cn = cn := Nat.zero_add _
  have hN : 0 + nn = nn := Nat.zero_add _
  delta fX10_takePath at hf
  refine lv_aload_n hx hb dX10_takePath_0 rfl (lv_at hl.1 0 rfl) ?_
  refine vg_callVr (ci := 13) X hml hl hH hL fCV_X10_92 rfl [] rfl rfl (Nat.le_of_ble_eq_true rfl) dX10_takePath_1 hf hC hN hRc hRs hfr hlo (by decide) (fun _ _ _ _ h => cX10_takeText_met h) (fun x1 μ2 cn nn H locs cells slots hf hC hN hH hL => ?_)
  refine vg_callSr X hml hl hH hL fCS_X10_105 [va_rf x1] rfl rfl (Nat.le_of_ble_eq_true rfl) dX10_takePath_4 hf hC hN hRc hRs hfr hlo (by decide) (fun _ _ _ _ h => cX3_read_met h) (fun x3 μ4 cn nn H locs cells slots hf hC hN hH hL => ?_)
  refine vg_astore_n (lv' := [(1, va_rf x3), (0, .ref v0)]) hx hb dX10_takePath_7 rfl hl (by decide) rfl (fun ls hl => ?_)
  refine vg_aload_n hx hb dX10_takePath_8 rfl (lv_at hl.1 0 rfl) ?_
  refine vg_ifnonnull (tgt := 22) hx hb dX10_takePath_9 (by decide) hf (fun a5 h9 hg => ?_) (fun h9 hg => ?_)
  · clear hf
    subst h9
    have hf := hg
    clear hg
    refine lv_aload_n hx hb dX10_takePath_22 rfl (lv_at hl.1 0 rfl) ?_
    exact vg_retaX X (by simp) hr hlk hH hL dX10_takePath_23 hf hC hN
  · clear hf
    subst h9
    have hf := hg
    clear hg
    exact vg_throwX X hls hml hl hH hsz hL fT_X10_109_111 hnt hlk dX10_takePath_12 dX10_takePath_15 dX10_takePath_16 dX10_takePath_18 dX10_takePath_21 (Nat.le_of_ble_eq_true rfl) hf hC hN hRc hRs (Nat.le_trans (by decide) hfr) (Nat.le_trans (by decide) hlo)
def fX8_make_160 (q120 : Nat → Option Nat → Int32 → Option Nat → Int32 → Int32 → vg_M → vg_R (Int32 ⊕ Nat)) (v0 : Nat) (v1 : Option Nat) (v2 : Int32) (v3 : Option Nat) (v6 : Int32) (v7 : Int32) (k0 : Option Nat) (k1 : Option Nat) (k2 : Option Nat) (k3 : Option Nat) (k4 : Int32) (μ : vg_M) : vg_R (Int32 ⊕ Nat) :=
  vg_o k1 fun a22 =>
  vg_b (fX1_init a22 k2 k3 k4 μ) fun _ μ24 =>
  vg_o v3 fun a25 =>
  vg_cv 4 a25 μ24 (fX1_insert a25 k0 μ24) fun _ μ27 =>
  q120 v0 v1 v2 k0 v6 (v7 + 1) μ27
set_option maxHeartbeats 4000000 in
set_option maxRecDepth 100000 in
theorem wX8_make_160 {p : Program} {l : Launch} {e : Env} {R : Room} {s : State} {m : MethodId} {args : Array Value} {below : List Frame} {meth : Method} {c : Code} {D : va_G} {cy : Nat → ClassId} {H0 : Heap} {C0 N0 : Nat} {r : (Int32 ⊕ Nat)} {μ' : vg_M} (Z : vg_ZX D cy H0 l p s m args c cX8_make RX8 meth 9 (some .int) R 18 C0 N0 "make") {q120 : Nat → Option Nat → Int32 → Option Nat → Int32 → Int32 → vg_M → vg_R (Int32 ⊕ Nat)} (hk120 : ∀ (v0 : Nat) (v1 : Option Nat) (v2 : Int32) (v3 : Option Nat) (v6 : Int32) (v7 : Int32) (μ : vg_M), vg_S p l e R s m args below meth c D cy H0 C0 N0 9 (vg_MX below D cy H0 μ' (fun x => some (.int x)) r args s C0 N0) r μ' (q120 v0 v1 v2 v3 v6 v7 μ) μ [(0, .ref v0), (1, va_rf v1), (2, .int v2), (3, va_rf v3), (6, .int v6), (7, .int v7)] [] 120) (v0 : Nat) (v1 : Option Nat) (v2 : Int32) (v3 : Option Nat) (v6 : Int32) (v7 : Int32) (k0 : Option Nat) (k1 : Option Nat) (k2 : Option Nat) (k3 : Option Nat) (k4 : Int32) (μ : vg_M) : vg_S p l e R s m args below meth c D cy H0 C0 N0 9 (vg_MX below D cy H0 μ' (fun x => some (.int x)) r args s C0 N0) r μ' (fX8_make_160 q120 v0 v1 v2 v3 v6 v7 k0 k1 k2 k3 k4 μ) μ [(0, .ref v0), (1, va_rf v1), (2, .int v2), (3, va_rf v3), (6, .int v6), (7, .int v7)] [.int k4, va_rf k3, va_rf k2, va_rf k1, va_rf k0] 160 := by
  intro cn nn H locs cells slots ls hf hH hL hC hN hl
  obtain ⟨X, hml, hr, hlk, hfr, hlo, hRc, hRs, hnm, hls, hsz, hnt⟩ := id Z
  have hx := X.1
  have hb := X.2.1
  delta fX8_make_160 at hf
  obtain ⟨a22, h9, hg⟩ := vg_o_inv hf
  clear hf
  subst h9
  have hf := hg
  clear hg
  refine vg_callIv X hml hl hH hL fCI_X8_13 [va_rf k2, va_rf k3, .int k4] rfl rfl (vg_cs (List.forall_mem_cons.mpr ⟨vg_rfc _, (fun _ h => nomatch h)⟩) (Nat.le_of_ble_eq_true rfl)) dX8_make_160 hf hC hN hRc hRs hfr hlo (by decide) (fun _ _ _ _ h => cX1_init_met h) (fun _ μ24 cn nn H locs cells slots hf hC hN hH hL => ?_)
  refine vg_astore (lv' := [(8, va_rf k0), (0, .ref v0), (1, va_rf v1), (2, .int v2), (3, va_rf v3), (6, .int v6), (7, .int v7)]) hx hb dX8_make_163 hl (by decide) rfl (fun ls hl => ?_)
  refine vg_aload_n hx hb dX8_make_165 rfl (lv_at hl.1 4 rfl) ?_
  refine vg_aload hx hb dX8_make_166 (lv_at hl.1 0 rfl) ?_
  obtain ⟨a25, h9, hg⟩ := vg_o_inv hf
  clear hf
  subst h9
  have hf := hg
  clear hg
  refine vg_callVv (ci := 4) X hml hl hH hL fCV_X8_55 rfl [va_rf k0] rfl rfl (Nat.le_of_ble_eq_true rfl) dX8_make_168 hf hC hN hRc hRs hfr hlo (by decide) (fun _ _ _ _ h => cX1_insert_met h) (fun _ μ27 cn nn H locs cells slots hf hC hN hH hL => ?_)
  refine vg_aload hx hb dX8_make_171 (lv_at hl.1 0 rfl) ?_
  refine vg_astore_n (lv' := [(3, va_rf k0), (8, va_rf k0), (0, .ref v0), (1, va_rf v1), (2, .int v2), (6, .int v6), (7, .int v7)]) hx hb dX8_make_173 rfl hl (by decide) rfl (fun ls hl => ?_)
  refine vg_iinc (v := v7 + 1) (lv' := [(7, .int (v7 + 1)), (3, va_rf k0), (8, va_rf k0), (0, .ref v0), (1, va_rf v1), (2, .int v2), (6, .int v6)]) hx hb dX8_make_174 hl (k := 6) rfl rfl (by decide) rfl (fun ls hl => ?_)
  refine lv_goto (tgt := 120) hx hb dX8_make_177 (by decide) ?_
  exact hk120 v0 v1 v2 k0 v6 (v7 + 1) μ27 _ _ _ _ _ _ _ hf hH hL hC hN (hl.sub [3, 4, 5, 1, 6, 0] rfl)
def fX8_make_155 (q120 : Nat → Option Nat → Int32 → Option Nat → Int32 → Int32 → vg_M → vg_R (Int32 ⊕ Nat)) (v0 : Nat) (v1 : Option Nat) (v2 : Int32) (v3 : Option Nat) (v6 : Int32) (v7 : Int32) (k0 : Option Nat) (k1 : Option Nat) (k2 : Option Nat) (k3 : Option Nat) (μ : vg_M) : vg_R (Int32 ⊕ Nat) :=
  fX8_make_160 q120 v0 v1 v2 v3 v6 v7 k0 k1 k2 k3 1 μ
set_option maxHeartbeats 4000000 in
set_option maxRecDepth 100000 in
theorem wX8_make_155 {p : Program} {l : Launch} {e : Env} {R : Room} {s : State} {m : MethodId} {args : Array Value} {below : List Frame} {meth : Method} {c : Code} {D : va_G} {cy : Nat → ClassId} {H0 : Heap} {C0 N0 : Nat} {r : (Int32 ⊕ Nat)} {μ' : vg_M} (Z : vg_ZX D cy H0 l p s m args c cX8_make RX8 meth 9 (some .int) R 18 C0 N0 "make") {q120 : Nat → Option Nat → Int32 → Option Nat → Int32 → Int32 → vg_M → vg_R (Int32 ⊕ Nat)} (hk120 : ∀ (v0 : Nat) (v1 : Option Nat) (v2 : Int32) (v3 : Option Nat) (v6 : Int32) (v7 : Int32) (μ : vg_M), vg_S p l e R s m args below meth c D cy H0 C0 N0 9 (vg_MX below D cy H0 μ' (fun x => some (.int x)) r args s C0 N0) r μ' (q120 v0 v1 v2 v3 v6 v7 μ) μ [(0, .ref v0), (1, va_rf v1), (2, .int v2), (3, va_rf v3), (6, .int v6), (7, .int v7)] [] 120) (v0 : Nat) (v1 : Option Nat) (v2 : Int32) (v3 : Option Nat) (v6 : Int32) (v7 : Int32) (k0 : Option Nat) (k1 : Option Nat) (k2 : Option Nat) (k3 : Option Nat) (μ : vg_M) : vg_S p l e R s m args below meth c D cy H0 C0 N0 9 (vg_MX below D cy H0 μ' (fun x => some (.int x)) r args s C0 N0) r μ' (fX8_make_155 q120 v0 v1 v2 v3 v6 v7 k0 k1 k2 k3 μ) μ [(0, .ref v0), (1, va_rf v1), (2, .int v2), (3, va_rf v3), (6, .int v6), (7, .int v7)] [va_rf k3, va_rf k2, va_rf k1, va_rf k0] 155 := by
  intro cn nn H locs cells slots ls hf hH hL hC hN hl
  obtain ⟨X, hml, hr, hlk, hfr, hlo, hRc, hRs, hnm, hls, hsz, hnt⟩ := id Z
  have hx := X.1
  have hb := X.2.1
  delta fX8_make_155 at hf
  refine lv_iconst (v := 1) hx hb dX8_make_155 (by decide) ?_
  refine lv_goto (tgt := 160) hx hb dX8_make_156 (by decide) ?_
  exact wX8_make_160 Z hk120 v0 v1 v2 v3 v6 v7 k0 k1 k2 k3 1 μ _ _ _ _ _ _ _ hf hH hL hC hN (hl.sub [0, 1, 2, 3, 4, 5] rfl)
def fX8_make_120  : Nat → Nat → Option Nat → Int32 → Option Nat → Int32 → Int32 → vg_M → vg_R (Int32 ⊕ Nat)
  | 0, _, _, _, _, _, _, _ => none
  | n + 1, v0, v1, v2, v3, v6, v7, μ =>
    vg_o v1 fun a13 =>
    vg_o (vg_gI μ a13 6 3) fun x14 =>
    if x14 ≤ v7 then (
     vg_o (vg_gI μ v0 11 1) fun x15 =>
     vg_o (vg_p μ v0 11 1 (.int (x15 + v6))) fun μ16 =>
     vg_ret (.inl v6) μ16
     ) else (
     vg_nw 6 μ.2.1 (vg_nO μ 4 [.null, .null, .int 0, .null, .null, .int 0]) fun a17 μ18 =>
     vg_cv 6 a13 μ18 (fX3_name a13 v7 μ18) fun x19 μ20 =>
     if v2 = 0 then (
      vg_o (vg_gI μ20 a13 6 3) fun x21 =>
      if (x21 - 1) ≤ v7 then (
       fX8_make_160 (fX8_make_120  n) v0 (some a13) v2 v3 v6 v7 (some a17) (some a17) x19 v3 0 μ20
       ) else (
       fX8_make_155 (fX8_make_120  n) v0 (some a13) v2 v3 v6 v7 (some a17) (some a17) x19 v3 μ20
       )
      ) else (
      fX8_make_155 (fX8_make_120  n) v0 (some a13) v2 v3 v6 v7 (some a17) (some a17) x19 v3 μ20
      )
     )
set_option maxHeartbeats 4000000 in
set_option maxRecDepth 100000 in
theorem wX8_make_120 {p : Program} {l : Launch} {e : Env} {R : Room} {s : State} {m : MethodId} {args : Array Value} {below : List Frame} {meth : Method} {c : Code} {D : va_G} {cy : Nat → ClassId} {H0 : Heap} {C0 N0 : Nat} {r : (Int32 ⊕ Nat)} {μ' : vg_M} (Z : vg_ZX D cy H0 l p s m args c cX8_make RX8 meth 9 (some .int) R 18 C0 N0 "make")   : ∀ (n : Nat) (v0 : Nat) (v1 : Option Nat) (v2 : Int32) (v3 : Option Nat) (v6 : Int32) (v7 : Int32) (μ : vg_M), vg_S p l e R s m args below meth c D cy H0 C0 N0 9 (vg_MX below D cy H0 μ' (fun x => some (.int x)) r args s C0 N0) r μ' (fX8_make_120  n v0 v1 v2 v3 v6 v7 μ) μ [(0, .ref v0), (1, va_rf v1), (2, .int v2), (3, va_rf v3), (6, .int v6), (7, .int v7)] [] 120 := by
  intro n
  induction n with
  | zero =>
    intro v0 v1 v2 v3 v6 v7 μ cn nn H locs cells slots ls hf
    simp [fX8_make_120] at hf
  | succ n hk120 =>
    intro v0 v1 v2 v3 v6 v7 μ
    intro cn nn H locs cells slots ls hf hH hL hC hN hl
    obtain ⟨X, hml, hr, hlk, hfr, hlo, hRc, hRs, hnm, hls, hsz, hnt⟩ := id Z
    have hx := X.1
    have hb := X.2.1
    rw [fX8_make_120] at hf
    refine lv_iload hx hb dX8_make_120 (lv_at hl.1 5 rfl) ?_
    refine vg_aload_n hx hb dX8_make_122 rfl (lv_at hl.1 1 rfl) ?_
    obtain ⟨a13, h9, hg⟩ := vg_o_inv hf
    clear hf
    subst h9
    have hf := hg
    clear hg
    refine vg_getNI (k := 3) (host := "GlobRows") X hH vcl_6 (by decide) (List.mem_of_getElem? (i := 5) (by decide +kernel)) rfl dX8_make_123 hf (fun x14 hf => ?_)
    refine lv_icmp_ge (tgt := 180) hx hb dX8_make_126 (by decide) (fun h8 => ?_) (fun h8 => ?_)
    · have hf := vg_ip h8 hf
      refine lv_aload_n hx hb dX8_make_180 rfl (lv_at hl.1 0 rfl) ?_
      refine lv_dup hx hb dX8_make_181 rfl ?_
      refine vg_getI X hH fF_X8_50 dX8_make_182 hf (fun x15 hf => ?_)
      refine lv_iload hx hb dX8_make_185 (lv_at hl.1 4 rfl) ?_
      refine lv_iadd hx hb dX8_make_187 ?_
      refine vg_putV X hH hL fF_X8_50 rfl rfl dX8_make_188 hf (fun μ16 H locs hf hH hL => ?_)
      refine lv_iload hx hb dX8_make_191 (lv_at hl.1 4 rfl) ?_
      exact vg_retiX X hr hlk hH hL dX8_make_193 hf hC hN
    · have hf := vg_if h8 hf
      refine vg_new X hH fN_X8_9 dX8_make_129 hf hC hN hRc hRs (fun a17 μ18 cn nn H hf hC hN hH => ?_)
      refine lv_dup hx hb dX8_make_132 rfl ?_
      refine lv_aload_n hx hb dX8_make_133 rfl (lv_at hl.1 1 rfl) ?_
      refine lv_iload hx hb dX8_make_134 (lv_at hl.1 5 rfl) ?_
      refine vg_callVr (ci := 6) X hml hl hH hL fCV_X8_32 rfl [.int v7] rfl rfl (Nat.le_of_ble_eq_true rfl) dX8_make_136 hf hC hN hRc hRs hfr hlo (by decide) (fun _ _ _ _ h => cX3_name_met h) (fun x19 μ20 cn nn H locs cells slots hf hC hN hH hL => ?_)
      refine vg_aload_n hx hb dX8_make_139 rfl (lv_at hl.1 3 rfl) ?_
      refine lv_iload_n hx hb dX8_make_140 rfl (lv_at hl.1 2 rfl) ?_
      refine lv_if_ne (tgt := 155) hx hb dX8_make_141 (by decide) (fun h8 => ?_) (fun h8 => ?_)
      · have hf := vg_if h8 hf
        exact wX8_make_155 Z hk120 v0 (some a13) v2 v3 v6 v7 (some a17) (some a17) x19 v3 μ20 _ _ _ _ _ _ _ hf hH hL hC hN (hl.sub [0, 1, 2, 3, 4, 5] rfl)
      · have hf := vg_ip h8 hf
        refine lv_iload hx hb dX8_make_144 (lv_at hl.1 5 rfl) ?_
        refine lv_aload_n hx hb dX8_make_146 rfl (lv_at hl.1 1 rfl) ?_
        refine vg_getNI (k := 3) (host := "GlobRows") X hH vcl_6 (by decide) (List.mem_of_getElem? (i := 5) (by decide +kernel)) rfl dX8_make_147 hf (fun x21 hf => ?_)
        refine lv_iconst (v := 1) hx hb dX8_make_150 (by decide) ?_
        refine lv_isub hx hb dX8_make_151 ?_
        refine lv_icmp_ge (tgt := 159) hx hb dX8_make_152 (by decide) (fun h8 => ?_) (fun h8 => ?_)
        · have hf := vg_ip h8 hf
          refine lv_iconst (v := 0) hx hb dX8_make_159 (by decide) ?_
          exact wX8_make_160 Z hk120 v0 (some a13) v2 v3 v6 v7 (some a17) (some a17) x19 v3 0 μ20 _ _ _ _ _ _ _ hf hH hL hC hN (hl.sub [0, 1, 2, 3, 4, 5] rfl)
        · have hf := vg_if h8 hf
          exact wX8_make_155 Z hk120 v0 (some a13) v2 v3 v6 v7 (some a17) (some a17) x19 v3 μ20 _ _ _ _ _ _ _ hf hH hL hC hN (hl.sub [0, 1, 2, 3, 4, 5] rfl)
def fX8_make_81  (v0 : Nat) (v1 : Option Nat) (v2 : Int32) (v3 : Option Nat) (v4 : Int32) (v6 : Int32) (k0 : Int32) (k1 : Int32) (μ : vg_M) : vg_R (Int32 ⊕ Nat) :=
  if k0 = k1 then (
   vg_o (vg_gI μ v0 11 1) fun x12 =>
   if (x12 + v6) ≤ 60 then (
    fX8_make_120  vg_fuel v0 v1 v2 v3 v6 v4 μ
    ) else (
    vg_thr 2 μ
    )
   ) else (
   vg_thr 2 μ
   )
set_option maxHeartbeats 4000000 in
set_option maxRecDepth 100000 in
theorem wX8_make_81 {p : Program} {l : Launch} {e : Env} {R : Room} {s : State} {m : MethodId} {args : Array Value} {below : List Frame} {meth : Method} {c : Code} {D : va_G} {cy : Nat → ClassId} {H0 : Heap} {C0 N0 : Nat} {r : (Int32 ⊕ Nat)} {μ' : vg_M} (Z : vg_ZX D cy H0 l p s m args c cX8_make RX8 meth 9 (some .int) R 18 C0 N0 "make")   (v0 : Nat) (v1 : Option Nat) (v2 : Int32) (v3 : Option Nat) (v4 : Int32) (v6 : Int32) (k0 : Int32) (k1 : Int32) (μ : vg_M) : vg_S p l e R s m args below meth c D cy H0 C0 N0 9 (vg_MX below D cy H0 μ' (fun x => some (.int x)) r args s C0 N0) r μ' (fX8_make_81  v0 v1 v2 v3 v4 v6 k0 k1 μ) μ [(0, .ref v0), (1, va_rf v1), (2, .int v2), (3, va_rf v3), (4, .int v4), (6, .int v6)] [.int k1, .int k0] 81 := by
  intro cn nn H locs cells slots ls hf hH hL hC hN hl
  obtain ⟨X, hml, hr, hlk, hfr, hlo, hRc, hRs, hnm, hls, hsz, hnt⟩ := id Z
  have hx := X.1
  have hb := X.2.1
  delta fX8_make_81 at hf
  refine lv_icmp_eq (tgt := 94) hx hb dX8_make_81 (by decide) (fun h8 => ?_) (fun h8 => ?_)
  · have hf := vg_ip h8 hf
    refine lv_aload_n hx hb dX8_make_94 rfl (lv_at hl.1 0 rfl) ?_
    refine vg_getI X hH fF_X8_50 dX8_make_95 hf (fun x12 hf => ?_)
    refine lv_iload hx hb dX8_make_98 (lv_at hl.1 5 rfl) ?_
    refine lv_iadd hx hb dX8_make_100 ?_
    refine lv_bipush (v := 60) hx hb dX8_make_101 (by decide) ?_
    refine lv_icmp_le (tgt := 116) hx hb dX8_make_103 (by decide) (fun h8 => ?_) (fun h8 => ?_)
    · have hf := vg_ip h8 hf
      refine lv_iload hx hb dX8_make_116 (lv_at hl.1 4 rfl) ?_
      refine vg_istore (lv' := [(7, .int v4), (0, .ref v0), (1, va_rf v1), (2, .int v2), (3, va_rf v3), (4, .int v4), (6, .int v6)]) hx hb dX8_make_118 hl (by decide) rfl (fun ls hl => ?_)
      exact wX8_make_120 Z  vg_fuel v0 v1 v2 v3 v6 v4 μ _ _ _ _ _ _ _ hf hH hL hC hN (hl.sub [1, 2, 3, 4, 6, 0] rfl)
    · have hf := vg_if h8 hf
      exact vg_throwX X hls hml hl hH hsz hL fT_X8_43_53 hnt hlk dX8_make_106 dX8_make_109 dX8_make_110 dX8_make_112 dX8_make_115 (Nat.le_of_ble_eq_true rfl) hf hC hN hRc hRs (Nat.le_trans (by decide) hfr) (Nat.le_trans (by decide) hlo)
  · have hf := vg_if h8 hf
    exact vg_throwX X hls hml hl hH hsz hL fT_X8_43_45 hnt hlk dX8_make_84 dX8_make_87 dX8_make_88 dX8_make_90 dX8_make_93 (Nat.le_of_ble_eq_true rfl) hf hC hN hRc hRs (Nat.le_trans (by decide) hfr) (Nat.le_trans (by decide) hlo)
def fX8_make_76  (v0 : Nat) (v1 : Option Nat) (v2 : Int32) (v3 : Option Nat) (v4 : Int32) (v6 : Int32) (k0 : Int32) (μ : vg_M) : vg_R (Int32 ⊕ Nat) :=
  fX8_make_81  v0 v1 v2 v3 v4 v6 k0 1 μ
set_option maxHeartbeats 4000000 in
set_option maxRecDepth 100000 in
theorem wX8_make_76 {p : Program} {l : Launch} {e : Env} {R : Room} {s : State} {m : MethodId} {args : Array Value} {below : List Frame} {meth : Method} {c : Code} {D : va_G} {cy : Nat → ClassId} {H0 : Heap} {C0 N0 : Nat} {r : (Int32 ⊕ Nat)} {μ' : vg_M} (Z : vg_ZX D cy H0 l p s m args c cX8_make RX8 meth 9 (some .int) R 18 C0 N0 "make")   (v0 : Nat) (v1 : Option Nat) (v2 : Int32) (v3 : Option Nat) (v4 : Int32) (v6 : Int32) (k0 : Int32) (μ : vg_M) : vg_S p l e R s m args below meth c D cy H0 C0 N0 9 (vg_MX below D cy H0 μ' (fun x => some (.int x)) r args s C0 N0) r μ' (fX8_make_76  v0 v1 v2 v3 v4 v6 k0 μ) μ [(0, .ref v0), (1, va_rf v1), (2, .int v2), (3, va_rf v3), (4, .int v4), (6, .int v6)] [.int k0] 76 := by
  intro cn nn H locs cells slots ls hf hH hL hC hN hl
  obtain ⟨X, hml, hr, hlk, hfr, hlo, hRc, hRs, hnm, hls, hsz, hnt⟩ := id Z
  have hx := X.1
  have hb := X.2.1
  delta fX8_make_76 at hf
  refine lv_iconst (v := 1) hx hb dX8_make_76 (by decide) ?_
  refine lv_goto (tgt := 81) hx hb dX8_make_77 (by decide) ?_
  exact wX8_make_81 Z  v0 v1 v2 v3 v4 v6 k0 1 μ _ _ _ _ _ _ _ hf hH hL hC hN (hl.sub [0, 1, 2, 3, 4, 5] rfl)
def fX8_make_54  (v0 : Nat) (v1 : Option Nat) (v2 : Int32) (v3 : Option Nat) (v4 : Int32) (μ : vg_M) : vg_R (Int32 ⊕ Nat) :=
  vg_o v1 fun a8 =>
  vg_o (vg_gI μ a8 6 3) fun x9 =>
  vg_o v3 fun a10 =>
  vg_o (vg_gI μ a10 4 2) fun x11 =>
  if 0 < (x9 - v4) then (
   fX8_make_76  v0 (some a8) v2 (some a10) v4 (x9 - v4) x11 μ
   ) else (
   if v2 = 0 then (
    fX8_make_81  v0 (some a8) v2 (some a10) v4 (x9 - v4) x11 0 μ
    ) else (
    fX8_make_76  v0 (some a8) v2 (some a10) v4 (x9 - v4) x11 μ
    )
   )
set_option maxHeartbeats 4000000 in
set_option maxRecDepth 100000 in
theorem wX8_make_54 {p : Program} {l : Launch} {e : Env} {R : Room} {s : State} {m : MethodId} {args : Array Value} {below : List Frame} {meth : Method} {c : Code} {D : va_G} {cy : Nat → ClassId} {H0 : Heap} {C0 N0 : Nat} {r : (Int32 ⊕ Nat)} {μ' : vg_M} (Z : vg_ZX D cy H0 l p s m args c cX8_make RX8 meth 9 (some .int) R 18 C0 N0 "make")   (v0 : Nat) (v1 : Option Nat) (v2 : Int32) (v3 : Option Nat) (v4 : Int32) (μ : vg_M) : vg_S p l e R s m args below meth c D cy H0 C0 N0 9 (vg_MX below D cy H0 μ' (fun x => some (.int x)) r args s C0 N0) r μ' (fX8_make_54  v0 v1 v2 v3 v4 μ) μ [(0, .ref v0), (1, va_rf v1), (2, .int v2), (3, va_rf v3), (4, .int v4)] [] 54 := by
  intro cn nn H locs cells slots ls hf hH hL hC hN hl
  obtain ⟨X, hml, hr, hlk, hfr, hlo, hRc, hRs, hnm, hls, hsz, hnt⟩ := id Z
  have hx := X.1
  have hb := X.2.1
  delta fX8_make_54 at hf
  refine vg_aload_n hx hb dX8_make_54 rfl (lv_at hl.1 1 rfl) ?_
  obtain ⟨a8, h9, hg⟩ := vg_o_inv hf
  clear hf
  subst h9
  have hf := hg
  clear hg
  refine vg_getNI (k := 3) (host := "GlobRows") X hH vcl_6 (by decide) (List.mem_of_getElem? (i := 5) (by decide +kernel)) rfl dX8_make_55 hf (fun x9 hf => ?_)
  refine lv_iload hx hb dX8_make_58 (lv_at hl.1 4 rfl) ?_
  refine lv_isub hx hb dX8_make_60 ?_
  refine vg_istore (lv' := [(6, .int (x9 - v4)), (0, .ref v0), (1, .ref a8), (2, .int v2), (3, va_rf v3), (4, .int v4)]) hx hb dX8_make_61 hl (by decide) rfl (fun ls hl => ?_)
  refine vg_aload_n hx hb dX8_make_63 rfl (lv_at hl.1 4 rfl) ?_
  obtain ⟨a10, h9, hg⟩ := vg_o_inv hf
  clear hf
  subst h9
  have hf := hg
  clear hg
  refine vg_getIr X hH fR_X8_40 dX8_make_64 hf (fun x11 hf => ?_)
  refine lv_iload hx hb dX8_make_67 (lv_at hl.1 0 rfl) ?_
  refine lv_if_gt (tgt := 76) hx hb dX8_make_69 (by decide) (fun h8 => ?_) (fun h8 => ?_)
  · have hf := vg_ip h8 hf
    exact wX8_make_76 Z  v0 (some a8) v2 (some a10) v4 (x9 - v4) x11 μ _ _ _ _ _ _ _ hf hH hL hC hN (hl.sub [1, 2, 3, 4, 5, 0] rfl)
  · have hf := vg_if h8 hf
    refine lv_iload_n hx hb dX8_make_72 rfl (lv_at hl.1 3 rfl) ?_
    refine lv_if_eq (tgt := 80) hx hb dX8_make_73 (by decide) (fun h8 => ?_) (fun h8 => ?_)
    · have hf := vg_ip h8 hf
      refine lv_iconst (v := 0) hx hb dX8_make_80 (by decide) ?_
      exact wX8_make_81 Z  v0 (some a8) v2 (some a10) v4 (x9 - v4) x11 0 μ _ _ _ _ _ _ _ hf hH hL hC hN (hl.sub [1, 2, 3, 4, 5, 0] rfl)
    · have hf := vg_if h8 hf
      exact wX8_make_76 Z  v0 (some a8) v2 (some a10) v4 (x9 - v4) x11 μ _ _ _ _ _ _ _ hf hH hL hC hN (hl.sub [1, 2, 3, 4, 5, 0] rfl)
def fX8_make_19  : Nat → Nat → Option Nat → Int32 → Option Nat → Int32 → Option Nat → vg_M → vg_R (Int32 ⊕ Nat)
  | 0, _, _, _, _, _, _, _ => none
  | n + 1, v0, v1, v2, v3, v4, v5, μ =>
    vg_o v1 fun a1 =>
    vg_o (vg_gI μ a1 6 3) fun x2 =>
    if x2 ≤ v4 then (
     fX8_make_54  v0 (some a1) v2 v3 v4 μ
     ) else (
     vg_m v5 (
      fX8_make_54  v0 (some a1) v2 v3 v4 μ
      ) fun a3 => (
      vg_cv 6 a1 μ (fX3_name a1 (v4 + 1) μ) fun x4 μ5 =>
      vg_cv 4 a3 μ5 (fX1_child a3 x4 μ5) fun x6 μ7 =>
      (fX8_make_19  n) v0 (some a1) v2 (some a3) (v4 + 1) x6 μ7
      )
     )
set_option maxHeartbeats 4000000 in
set_option maxRecDepth 100000 in
theorem wX8_make_19 {p : Program} {l : Launch} {e : Env} {R : Room} {s : State} {m : MethodId} {args : Array Value} {below : List Frame} {meth : Method} {c : Code} {D : va_G} {cy : Nat → ClassId} {H0 : Heap} {C0 N0 : Nat} {r : (Int32 ⊕ Nat)} {μ' : vg_M} (Z : vg_ZX D cy H0 l p s m args c cX8_make RX8 meth 9 (some .int) R 18 C0 N0 "make")   : ∀ (n : Nat) (v0 : Nat) (v1 : Option Nat) (v2 : Int32) (v3 : Option Nat) (v4 : Int32) (v5 : Option Nat) (μ : vg_M), vg_S p l e R s m args below meth c D cy H0 C0 N0 9 (vg_MX below D cy H0 μ' (fun x => some (.int x)) r args s C0 N0) r μ' (fX8_make_19  n v0 v1 v2 v3 v4 v5 μ) μ [(0, .ref v0), (1, va_rf v1), (2, .int v2), (3, va_rf v3), (4, .int v4), (5, va_rf v5)] [] 19 := by
  intro n
  induction n with
  | zero =>
    intro v0 v1 v2 v3 v4 v5 μ cn nn H locs cells slots ls hf
    simp [fX8_make_19] at hf
  | succ n hk19 =>
    intro v0 v1 v2 v3 v4 v5 μ
    intro cn nn H locs cells slots ls hf hH hL hC hN hl
    obtain ⟨X, hml, hr, hlk, hfr, hlo, hRc, hRs, hnm, hls, hsz, hnt⟩ := id Z
    have hx := X.1
    have hb := X.2.1
    rw [fX8_make_19] at hf
    refine lv_iload hx hb dX8_make_19 (lv_at hl.1 4 rfl) ?_
    refine vg_aload_n hx hb dX8_make_21 rfl (lv_at hl.1 1 rfl) ?_
    obtain ⟨a1, h9, hg⟩ := vg_o_inv hf
    clear hf
    subst h9
    have hf := hg
    clear hg
    refine vg_getNI (k := 3) (host := "GlobRows") X hH vcl_6 (by decide) (List.mem_of_getElem? (i := 5) (by decide +kernel)) rfl dX8_make_22 hf (fun x2 hf => ?_)
    refine lv_icmp_ge (tgt := 54) hx hb dX8_make_25 (by decide) (fun h8 => ?_) (fun h8 => ?_)
    · have hf := vg_ip h8 hf
      exact wX8_make_54 Z  v0 (some a1) v2 v3 v4 μ _ _ _ _ _ _ _ hf hH hL hC hN (hl.sub [0, 1, 2, 3, 4] rfl)
    · have hf := vg_if h8 hf
      refine vg_aload hx hb dX8_make_28 (lv_at hl.1 5 rfl) ?_
      refine vg_ifnull (tgt := 54) hx hb dX8_make_30 (by decide) hf (fun h9 hg => ?_) (fun a3 h9 hg => ?_)
      · clear hf
        subst h9
        have hf := hg
        clear hg
        exact wX8_make_54 Z  v0 (some a1) v2 v3 v4 μ _ _ _ _ _ _ _ hf hH hL hC hN (hl.sub [0, 1, 2, 3, 4] rfl)
      · clear hf
        subst h9
        have hf := hg
        clear hg
        refine lv_aload hx hb dX8_make_33 (lv_at hl.1 5 rfl) ?_
        refine vg_astore_n (x := some a3) (lv' := [(3, .ref a3), (0, .ref v0), (1, .ref a1), (2, .int v2), (4, .int v4), (5, .ref a3)]) hx hb dX8_make_35 rfl hl (by decide) rfl (fun ls hl => ?_)
        refine vg_iinc (v := v4 + 1) (lv' := [(4, .int (v4 + 1)), (3, .ref a3), (0, .ref v0), (1, .ref a1), (2, .int v2), (5, .ref a3)]) hx hb dX8_make_36 hl (k := 4) rfl rfl (by decide) rfl (fun ls hl => ?_)
        refine lv_aload_n hx hb dX8_make_39 rfl (lv_at hl.1 1 rfl) ?_
        refine lv_aload_n hx hb dX8_make_40 rfl (lv_at hl.1 3 rfl) ?_
        refine lv_iload hx hb dX8_make_41 (lv_at hl.1 0 rfl) ?_
        refine vg_callVr (ci := 6) X hml hl hH hL fCV_X8_32 rfl [.int (v4 + 1)] rfl rfl (Nat.le_of_ble_eq_true rfl) dX8_make_43 hf hC hN hRc hRs hfr hlo (by decide) (fun _ _ _ _ h => cX3_name_met h) (fun x4 μ5 cn nn H locs cells slots hf hC hN hH hL => ?_)
        refine vg_callVr (ci := 4) X hml hl hH hL fCV_X8_36 rfl [va_rf x4] rfl rfl (Nat.le_of_ble_eq_true rfl) dX8_make_46 hf hC hN hRc hRs hfr hlo (by decide) (fun _ _ _ _ h => cX1_child_met h) (fun x6 μ7 cn nn H locs cells slots hf hC hN hH hL => ?_)
        refine vg_astore (lv' := [(5, va_rf x6), (4, .int (v4 + 1)), (3, .ref a3), (0, .ref v0), (1, .ref a1), (2, .int v2)]) hx hb dX8_make_49 hl (by decide) rfl (fun ls hl => ?_)
        refine lv_goto (tgt := 19) hx hb dX8_make_51 (by decide) ?_
        exact hk19 v0 (some a1) v2 (some a3) (v4 + 1) x6 μ7 _ _ _ _ _ _ _ hf hH hL hC hN (hl.sub [3, 4, 5, 2, 1, 0] rfl)
def fX8_make (v0 : Nat) (v1 : Option Nat) (v2 : Int32) (μ : vg_M) : vg_R (Int32 ⊕ Nat) :=
  vg_o (vg_gR μ v0 11 0) fun x28 =>
  vg_o v1 fun a29 =>
  vg_cv 6 a29 μ (fX3_name a29 0 μ) fun x30 μ31 =>
  vg_o x28 fun a32 =>
  vg_cv 4 a32 μ31 (fX1_child a32 x30 μ31) fun x33 μ34 =>
  fX8_make_19  vg_fuel v0 (some a29) v2 (some a32) 0 x33 μ34
set_option maxHeartbeats 4000000 in
set_option maxRecDepth 100000 in
theorem cX8_make_met {l : Launch} {D : va_G} {cy : Nat → ClassId} {H0 : Heap} (hls : l.stackTraces = false) {r : (Int32 ⊕ Nat)} {μ μ' : vg_M} {cn nn : Nat} {v0 : Nat} {v1 : Option Nat} {v2 : Int32} (hf : fX8_make v0 v1 v2 μ = some (r, μ', cn, nn)) : vg_MetX l D cy H0 yX8_make cX8_make 9 (some .int) 18 μ [.ref v0, va_rf v1, .int v2] (fun x => some (.int x)) r μ' cn nn := by
  refine vg_startX hls (by decide +kernel) (List.forall_mem_cons.mpr ⟨rfl, (List.forall_mem_cons.mpr ⟨vg_rfc _, (List.forall_mem_cons.mpr ⟨rfl, (fun _ h => nomatch h)⟩)⟩)⟩) (Nat.le_of_ble_eq_true rfl) ?_
  intro p e s m below meth c ls Z hH hl
  have hl : vg_l ls 9 [(0, .ref v0), (1, va_rf v1), (2, .int v2)] := hl
  obtain ⟨X, hml, hr, hlk, hfr, hlo, hRc, hRs, hnm, -, hsz, hnt⟩ := id Z
  have hx := X.1
  have hb := X.2.1
  have hL : ∀ z ∈ ([] : List Loc), H0.size ≤ z.base := fun _ h => nomatch h
  have hC : 0 + cn = cn := Nat.zero_add _
  have hN : 0 + nn = nn := Nat.zero_add _
  delta fX8_make at hf
  refine lv_aload_n hx hb dX8_make_0 rfl (lv_at hl.1 0 rfl) ?_
  refine vg_getR X hH fF_X8_16 dX8_make_1 hf (fun x28 hf => ?_)
  refine vg_astore_n (lv' := [(3, va_rf x28), (0, .ref v0), (1, va_rf v1), (2, .int v2)]) hx hb dX8_make_4 rfl hl (by decide) rfl (fun ls hl => ?_)
  refine lv_iconst (v := 0) hx hb dX8_make_5 (by decide) ?_
  refine vg_istore (lv' := [(4, .int 0), (3, va_rf x28), (0, .ref v0), (1, va_rf v1), (2, .int v2)]) hx hb dX8_make_6 hl (by decide) rfl (fun ls hl => ?_)
  refine vg_aload_n hx hb dX8_make_8 rfl (lv_at hl.1 1 rfl) ?_
  refine vg_aload_n hx hb dX8_make_9 rfl (lv_at hl.1 3 rfl) ?_
  refine lv_iconst (v := 0) hx hb dX8_make_10 (by decide) ?_
  obtain ⟨a29, h9, hg⟩ := vg_o_inv hf
  clear hf
  subst h9
  have hf := hg
  clear hg
  refine vg_callVr (ci := 6) X hml hl hH hL fCV_X8_32 rfl [.int 0] rfl rfl (vg_cs (List.forall_mem_cons.mpr ⟨vg_rfc _, (fun _ h => nomatch h)⟩) (Nat.le_of_ble_eq_true rfl)) dX8_make_11 hf hC hN hRc hRs hfr hlo (by decide) (fun _ _ _ _ h => cX3_name_met h) (fun x30 μ31 cn nn H locs cells slots hf hC hN hH hL => ?_)
  obtain ⟨a32, h9, hg⟩ := vg_o_inv hf
  clear hf
  subst h9
  have hf := hg
  clear hg
  refine vg_callVr (ci := 4) X hml hl hH hL fCV_X8_36 rfl [va_rf x30] rfl rfl (Nat.le_of_ble_eq_true rfl) dX8_make_14 hf hC hN hRc hRs hfr hlo (by decide) (fun _ _ _ _ h => cX1_child_met h) (fun x33 μ34 cn nn H locs cells slots hf hC hN hH hL => ?_)
  refine vg_astore (lv' := [(5, va_rf x33), (4, .int 0), (3, .ref a32), (0, .ref v0), (1, .ref a29), (2, .int v2)]) hx hb dX8_make_17 hl (by decide) rfl (fun ls hl => ?_)
  exact wX8_make_19 Z  vg_fuel v0 (some a29) v2 (some a32) 0 x33 μ34 _ _ _ _ _ _ _ hf hH hL hC hN (hl.sub [3, 4, 5, 2, 1, 0] rfl)
def fX10_file (v0 : Nat) (μ : vg_M) : vg_R (Int32 ⊕ Nat) :=
  vg_o (vg_gR μ v0 13 1) fun x1 =>
  vg_cx 13 v0 μ (fX10_takePath v0  μ) fun x2 μ3 =>
  vg_o x1 fun a4 =>
  vg_cx 11 a4 μ3 (fX8_make a4 x2 0 μ3) fun x5 μ6 =>
  vg_ret (.inl x5) μ6
set_option maxHeartbeats 4000000 in
set_option maxRecDepth 100000 in
theorem cX10_file_met {l : Launch} {D : va_G} {cy : Nat → ClassId} {H0 : Heap} (hls : l.stackTraces = false) {r : (Int32 ⊕ Nat)} {μ μ' : vg_M} {cn nn : Nat} {v0 : Nat} (hf : fX10_file v0 μ = some (r, μ', cn, nn)) : vg_MetX l D cy H0 yX10_file cX10_file 1 (some .int) 20 μ [.ref v0] (fun x => some (.int x)) r μ' cn nn := by
  refine vg_startX hls (by decide +kernel) (List.forall_mem_cons.mpr ⟨rfl, (fun _ h => nomatch h)⟩) (Nat.le_of_ble_eq_true rfl) ?_
  intro p e s m below meth c ls Z hH hl
  have hl : vg_l ls 1 [(0, .ref v0)] := hl
  obtain ⟨X, hml, hr, hlk, hfr, hlo, hRc, hRs, hnm, -, hsz, hnt⟩ := id Z
  have hx := X.1
  have hb := X.2.1
  have hL : ∀ z ∈ ([] : List Loc), H0.size ≤ z.base := fun _ h => nomatch h
  have hC : 0 + cn = cn := Nat.zero_add _
  have hN : 0 + nn = nn := Nat.zero_add _
  delta fX10_file at hf
  refine lv_aload_n hx hb dX10_file_0 rfl (lv_at hl.1 0 rfl) ?_
  refine vg_getR X hH fF_X10_19 dX10_file_1 hf (fun x1 hf => ?_)
  refine lv_aload_n hx hb dX10_file_4 rfl (lv_at hl.1 0 rfl) ?_
  refine vg_callXr (rest := [va_rf x1]) (ci := 13) X hml hl hH hL fCV_X10_49 rfl hnt hlk [] rfl rfl (vg_cs (List.forall_mem_cons.mpr ⟨vg_rfc _, (fun _ h => nomatch h)⟩) (Nat.le_of_ble_eq_true rfl)) dX10_file_5 hf hC hN hRc hRs hfr hlo (by decide) (fun _ _ _ _ h => cX10_takePath_met hls h) (fun x2 μ3 cn nn H locs cells slots hf hC hN hH hL => ?_)
  refine lv_iconst (v := 0) hx hb dX10_file_8 (by decide) ?_
  obtain ⟨a4, h9, hg⟩ := vg_o_inv hf
  clear hf
  subst h9
  have hf := hg
  clear hg
  refine vg_callXi (rest := []) (ci := 11) X hml hl hH hL fCV_X10_53 rfl hnt hlk [va_rf x2, .int 0] rfl rfl (Nat.le_of_ble_eq_true rfl) dX10_file_9 hf hC hN hRc hRs hfr hlo (by decide) (fun _ _ _ _ h => cX8_make_met hls h) (fun x5 μ6 cn nn H locs cells slots hf hC hN hH hL => ?_)
  exact vg_retiX X hr hlk hH hL dX10_file_12 hf hC hN
def fX10_folder (v0 : Nat) (μ : vg_M) : vg_R (Int32 ⊕ Nat) :=
  vg_o (vg_gR μ v0 13 1) fun x1 =>
  vg_cx 13 v0 μ (fX10_takePath v0  μ) fun x2 μ3 =>
  vg_o x1 fun a4 =>
  vg_cx 11 a4 μ3 (fX8_make a4 x2 1 μ3) fun x5 μ6 =>
  vg_ret (.inl x5) μ6
set_option maxHeartbeats 4000000 in
set_option maxRecDepth 100000 in
theorem cX10_folder_met {l : Launch} {D : va_G} {cy : Nat → ClassId} {H0 : Heap} (hls : l.stackTraces = false) {r : (Int32 ⊕ Nat)} {μ μ' : vg_M} {cn nn : Nat} {v0 : Nat} (hf : fX10_folder v0 μ = some (r, μ', cn, nn)) : vg_MetX l D cy H0 yX10_folder cX10_folder 1 (some .int) 20 μ [.ref v0] (fun x => some (.int x)) r μ' cn nn := by
  refine vg_startX hls (by decide +kernel) (List.forall_mem_cons.mpr ⟨rfl, (fun _ h => nomatch h)⟩) (Nat.le_of_ble_eq_true rfl) ?_
  intro p e s m below meth c ls Z hH hl
  have hl : vg_l ls 1 [(0, .ref v0)] := hl
  obtain ⟨X, hml, hr, hlk, hfr, hlo, hRc, hRs, hnm, -, hsz, hnt⟩ := id Z
  have hx := X.1
  have hb := X.2.1
  have hL : ∀ z ∈ ([] : List Loc), H0.size ≤ z.base := fun _ h => nomatch h
  have hC : 0 + cn = cn := Nat.zero_add _
  have hN : 0 + nn = nn := Nat.zero_add _
  delta fX10_folder at hf
  refine lv_aload_n hx hb dX10_folder_0 rfl (lv_at hl.1 0 rfl) ?_
  refine vg_getR X hH fF_X10_19 dX10_folder_1 hf (fun x1 hf => ?_)
  refine lv_aload_n hx hb dX10_folder_4 rfl (lv_at hl.1 0 rfl) ?_
  refine vg_callXr (rest := [va_rf x1]) (ci := 13) X hml hl hH hL fCV_X10_49 rfl hnt hlk [] rfl rfl (vg_cs (List.forall_mem_cons.mpr ⟨vg_rfc _, (fun _ h => nomatch h)⟩) (Nat.le_of_ble_eq_true rfl)) dX10_folder_5 hf hC hN hRc hRs hfr hlo (by decide) (fun _ _ _ _ h => cX10_takePath_met hls h) (fun x2 μ3 cn nn H locs cells slots hf hC hN hH hL => ?_)
  refine lv_iconst (v := 1) hx hb dX10_folder_8 (by decide) ?_
  obtain ⟨a4, h9, hg⟩ := vg_o_inv hf
  clear hf
  subst h9
  have hf := hg
  clear hg
  refine vg_callXi (rest := []) (ci := 11) X hml hl hH hL fCV_X10_53 rfl hnt hlk [va_rf x2, .int 1] rfl rfl (Nat.le_of_ble_eq_true rfl) dX10_folder_9 hf hC hN hRc hRs hfr hlo (by decide) (fun _ _ _ _ h => cX8_make_met hls h) (fun x5 μ6 cn nn H locs cells slots hf hC hN hH hL => ?_)
  exact vg_retiX X hr hlk hH hL dX10_folder_12 hf hC hN
def fX10_pack_23   (μ : vg_M) : vg_R (Unit ⊕ Nat) :=
  vg_thr 2 μ
set_option maxHeartbeats 4000000 in
set_option maxRecDepth 100000 in
theorem wX10_pack_23 {p : Program} {l : Launch} {e : Env} {R : Room} {s : State} {m : MethodId} {args : Array Value} {below : List Frame} {meth : Method} {c : Code} {D : va_G} {cy : Nat → ClassId} {H0 : Heap} {C0 N0 : Nat} {r : (Unit ⊕ Nat)} {μ' : vg_M} (Z : vg_ZX D cy H0 l p s m args c cX10_pack RX10 meth 3 none R 20 C0 N0 "pack")    (μ : vg_M) : vg_S p l e R s m args below meth c D cy H0 C0 N0 3 (vg_MX below D cy H0 μ' (fun _ => none) r args s C0 N0) r μ' (fX10_pack_23   μ) μ [] [] 23 := by
  intro cn nn H locs cells slots ls hf hH hL hC hN hl
  obtain ⟨X, hml, hr, hlk, hfr, hlo, hRc, hRs, hnm, hls, hsz, hnt⟩ := id Z
  have hx := X.1
  have hb := X.2.1
  delta fX10_pack_23 at hf
  exact vg_throwX X hls hml hl hH hsz hL fT_X10_61_78 hnt hlk dX10_pack_23 dX10_pack_26 dX10_pack_27 dX10_pack_29 dX10_pack_32 (Nat.le_of_ble_eq_true rfl) hf hC hN hRc hRs (Nat.le_trans (by decide) hfr) (Nat.le_trans (by decide) hlo)
def fX10_pack_70   (μ : vg_M) : vg_R (Unit ⊕ Nat) :=
  vg_ret (.inl ()) μ
set_option maxHeartbeats 4000000 in
set_option maxRecDepth 100000 in
theorem wX10_pack_70 {p : Program} {l : Launch} {e : Env} {R : Room} {s : State} {m : MethodId} {args : Array Value} {below : List Frame} {meth : Method} {c : Code} {D : va_G} {cy : Nat → ClassId} {H0 : Heap} {C0 N0 : Nat} {r : (Unit ⊕ Nat)} {μ' : vg_M} (Z : vg_ZX D cy H0 l p s m args c cX10_pack RX10 meth 3 none R 20 C0 N0 "pack")    (μ : vg_M) : vg_S p l e R s m args below meth c D cy H0 C0 N0 3 (vg_MX below D cy H0 μ' (fun _ => none) r args s C0 N0) r μ' (fX10_pack_70   μ) μ [] [] 70 := by
  intro cn nn H locs cells slots ls hf hH hL hC hN hl
  obtain ⟨X, hml, hr, hlk, hfr, hlo, hRc, hRs, hnm, hls, hsz, hnt⟩ := id Z
  have hx := X.1
  have hb := X.2.1
  delta fX10_pack_70 at hf
  exact vg_retvX X hr hlk hH hL dX10_pack_70 hf hC hN
def fX10_pack (v0 : Nat) (v1 : Int32) (μ : vg_M) : vg_R (Unit ⊕ Nat) :=
  vg_o (vg_gR μ v0 13 1) fun x1 =>
  vg_cx 13 v0 μ (fX10_takePath v0  μ) fun x2 μ3 =>
  vg_o x1 fun a4 =>
  vg_cv 11 a4 μ3 (fX8_at a4 x2 μ3) fun x5 μ6 =>
  vg_m x5 (
   fX10_pack_23   μ6
   ) fun a7 => (
   vg_o (vg_gI μ6 a7 4 2) fun x8 =>
   if x8 = 0 then (
    fX10_pack_23   μ6
    ) else (
    vg_o (vg_gI μ6 a7 4 5) fun x9 =>
    if x9 = v1 then (
     vg_thr 2 μ6
     ) else (
     vg_o (vg_z .boolean v1) fun z => vg_o (vg_p μ6 a7 4 5 (.int z)) fun μ10 =>
     vg_o (vg_gR μ10 a7 4 1) fun x11 =>
     vg_m x11 (
      fX10_pack_70   μ10
      ) fun a12 => (
      vg_o (vg_gR μ10 a7 4 1) fun x13 =>
      vg_o x13 fun a14 =>
      vg_cv 4 a14 μ10 (fX1_touch a14  μ10) fun _ μ16 =>
      fX10_pack_70   μ16
      )
     )
    )
   )
set_option maxHeartbeats 4000000 in
set_option maxRecDepth 100000 in
theorem cX10_pack_met {l : Launch} {D : va_G} {cy : Nat → ClassId} {H0 : Heap} (hls : l.stackTraces = false) {r : (Unit ⊕ Nat)} {μ μ' : vg_M} {cn nn : Nat} {v0 : Nat} {v1 : Int32} (hf : fX10_pack v0 v1 μ = some (r, μ', cn, nn)) : vg_MetX l D cy H0 yX10_pack cX10_pack 3 none 20 μ [.ref v0, .int v1] (fun _ => none) r μ' cn nn := by
  refine vg_startX hls (by decide +kernel) (List.forall_mem_cons.mpr ⟨rfl, (List.forall_mem_cons.mpr ⟨rfl, (fun _ h => nomatch h)⟩)⟩) (Nat.le_of_ble_eq_true rfl) ?_
  intro p e s m below meth c ls Z hH hl
  have hl : vg_l ls 3 [(0, .ref v0), (1, .int v1)] := hl
  obtain ⟨X, hml, hr, hlk, hfr, hlo, hRc, hRs, hnm, -, hsz, hnt⟩ := id Z
  have hx := X.1
  have hb := X.2.1
  have hL : ∀ z ∈ ([] : List Loc), H0.size ≤ z.base := fun _ h => nomatch h
  have hC : 0 + cn = cn := Nat.zero_add _
  have hN : 0 + nn = nn := Nat.zero_add _
  delta fX10_pack at hf
  refine lv_aload_n hx hb dX10_pack_0 rfl (lv_at hl.1 0 rfl) ?_
  refine vg_getR X hH fF_X10_19 dX10_pack_1 hf (fun x1 hf => ?_)
  refine lv_aload_n hx hb dX10_pack_4 rfl (lv_at hl.1 0 rfl) ?_
  refine vg_callXr (rest := [va_rf x1]) (ci := 13) X hml hl hH hL fCV_X10_49 rfl hnt hlk [] rfl rfl (vg_cs (List.forall_mem_cons.mpr ⟨vg_rfc _, (fun _ h => nomatch h)⟩) (Nat.le_of_ble_eq_true rfl)) dX10_pack_5 hf hC hN hRc hRs hfr hlo (by decide) (fun _ _ _ _ h => cX10_takePath_met hls h) (fun x2 μ3 cn nn H locs cells slots hf hC hN hH hL => ?_)
  obtain ⟨a4, h9, hg⟩ := vg_o_inv hf
  clear hf
  subst h9
  have hf := hg
  clear hg
  refine vg_callVr (ci := 11) X hml hl hH hL fCV_X10_57 rfl [va_rf x2] rfl rfl (Nat.le_of_ble_eq_true rfl) dX10_pack_8 hf hC hN hRc hRs hfr hlo (by decide) (fun _ _ _ _ h => cX8_at_met h) (fun x5 μ6 cn nn H locs cells slots hf hC hN hH hL => ?_)
  refine vg_astore_n (lv' := [(2, va_rf x5), (0, .ref v0), (1, .int v1)]) hx hb dX10_pack_11 rfl hl (by decide) rfl (fun ls hl => ?_)
  refine vg_aload_n hx hb dX10_pack_12 rfl (lv_at hl.1 0 rfl) ?_
  refine vg_ifnull (tgt := 23) hx hb dX10_pack_13 (by decide) hf (fun h9 hg => ?_) (fun a7 h9 hg => ?_)
  · clear hf
    subst h9
    have hf := hg
    clear hg
    exact wX10_pack_23 Z   μ6 _ _ _ _ _ _ _ hf hH hL hC hN (hl.sub [] rfl)
  · clear hf
    subst h9
    have hf := hg
    clear hg
    refine lv_aload_n hx hb dX10_pack_16 rfl (lv_at hl.1 0 rfl) ?_
    refine vg_getIr X hH fR_X10_72 dX10_pack_17 hf (fun x8 hf => ?_)
    refine lv_if_ne (tgt := 33) hx hb dX10_pack_20 (by decide) (fun h8 => ?_) (fun h8 => ?_)
    · have hf := vg_if h8 hf
      refine lv_aload_n hx hb dX10_pack_33 rfl (lv_at hl.1 0 rfl) ?_
      refine vg_getI X hH fF_X10_80 dX10_pack_34 hf (fun x9 hf => ?_)
      refine lv_iload_n hx hb dX10_pack_37 rfl (lv_at hl.1 2 rfl) ?_
      refine lv_icmp_ne (tgt := 51) hx hb dX10_pack_38 (by decide) (fun h8 => ?_) (fun h8 => ?_)
      · have hf := vg_if h8 hf
        refine lv_aload_n hx hb dX10_pack_51 rfl (lv_at hl.1 0 rfl) ?_
        refine lv_iload_n hx hb dX10_pack_52 rfl (lv_at hl.1 2 rfl) ?_
        refine vg_putZ X hH hL (by simp) fF_X10_80 dX10_pack_53 hf (fun μ10 H locs hf hH hL => ?_)
        refine lv_aload_n hx hb dX10_pack_56 rfl (lv_at hl.1 0 rfl) ?_
        refine vg_getRr X hH fR_X10_85 dX10_pack_57 hf (fun x11 hf => ?_)
        refine vg_ifnull (tgt := 70) hx hb dX10_pack_60 (by decide) hf (fun h9 hg => ?_) (fun a12 h9 hg => ?_)
        · clear hf
          subst h9
          have hf := hg
          clear hg
          exact wX10_pack_70 Z   μ10 _ _ _ _ _ _ _ hf hH hL hC hN (hl.sub [] rfl)
        · clear hf
          subst h9
          have hf := hg
          clear hg
          refine lv_aload_n hx hb dX10_pack_63 rfl (lv_at hl.1 0 rfl) ?_
          refine vg_getRr X hH fR_X10_85 dX10_pack_64 hf (fun x13 hf => ?_)
          obtain ⟨a14, h9, hg⟩ := vg_o_inv hf
          clear hf
          subst h9
          have hf := hg
          clear hg
          refine vg_callVv (ci := 4) X hml hl hH hL fCV_X10_89 rfl [] rfl rfl (Nat.le_of_ble_eq_true rfl) dX10_pack_67 hf hC hN hRc hRs hfr hlo (by decide) (fun _ _ _ _ h => cX1_touch_met h) (fun _ μ16 cn nn H locs cells slots hf hC hN hH hL => ?_)
          exact wX10_pack_70 Z   μ16 _ _ _ _ _ _ _ hf hH hL hC hN (hl.sub [] rfl)
      · have hf := vg_ip h8 hf
        exact vg_throwX X hls hml hl hH hsz hL fT_X10_61_83 hnt hlk dX10_pack_41 dX10_pack_44 dX10_pack_45 dX10_pack_47 dX10_pack_50 (Nat.le_of_ble_eq_true rfl) hf hC hN hRc hRs (Nat.le_trans (by decide) hfr) (Nat.le_trans (by decide) hlo)
    · have hf := vg_ip h8 hf
      exact wX10_pack_23 Z   μ6 _ _ _ _ _ _ _ hf hH hL hC hN (hl.sub [] rfl)
def fX10_pattern (v0 : Nat) (v1 : Int32) (v2 : Int32) (μ : vg_M) : vg_R (Unit ⊕ Nat) :=
  vg_nw 4 μ.2.1 (vg_nO μ 8 [.null, .int 0, .null, .int 0]) fun a1 μ2 =>
  vg_cv 13 v0 μ2 (fX10_takeText v0  μ2) fun x3 μ4 =>
  vg_b (fX5_init a1 x3 v2 μ4) fun _ μ6 =>
  vg_cv 8 a1 μ6 (fX5_read a1  μ6) fun _ μ8 =>
  vg_o (vg_gI μ8 a1 8 1) fun x9 =>
  vg_o (vg_p μ8 v0 13 4 (.int x9)) fun μ10 =>
  vg_cv 13 v0 μ10 (fX10_queryAt v0 v1 μ10) fun x11 μ12 =>
  vg_m x11 (
   vg_thr 1 μ12
   ) fun a13 => (
   vg_o (vg_gI μ12 v0 13 4) fun x14 =>
   if x14 = ((-1)) then (
    vg_cv 10 a13 μ12 (fX7_hasRoomFor a13 v2 μ12) fun x15 μ16 =>
    if x15 = 0 then (
     vg_thr 2 μ16
     ) else (
     vg_o (vg_gR μ16 a1 8 0) fun x17 =>
     vg_cv 10 a13 μ16 (fX7_add a13 x17 μ16) fun _ μ19 =>
     vg_ret (.inl ()) μ19
     )
    ) else (
    vg_thr 1 μ12
    )
   )
set_option maxHeartbeats 4000000 in
set_option maxRecDepth 100000 in
theorem cX10_pattern_met {l : Launch} {D : va_G} {cy : Nat → ClassId} {H0 : Heap} (hls : l.stackTraces = false) {r : (Unit ⊕ Nat)} {μ μ' : vg_M} {cn nn : Nat} {v0 : Nat} {v1 : Int32} {v2 : Int32} (hf : fX10_pattern v0 v1 v2 μ = some (r, μ', cn, nn)) : vg_MetX l D cy H0 yX10_pattern cX10_pattern 5 none 24 μ [.ref v0, .int v1, .int v2] (fun _ => none) r μ' cn nn := by
  refine vg_startX hls (by decide +kernel) (List.forall_mem_cons.mpr ⟨rfl, (List.forall_mem_cons.mpr ⟨rfl, (List.forall_mem_cons.mpr ⟨rfl, (fun _ h => nomatch h)⟩)⟩)⟩) (Nat.le_of_ble_eq_true rfl) ?_
  intro p e s m below meth c ls Z hH hl
  have hl : vg_l ls 5 [(0, .ref v0), (1, .int v1), (2, .int v2)] := hl
  obtain ⟨X, hml, hr, hlk, hfr, hlo, hRc, hRs, hnm, -, hsz, hnt⟩ := id Z
  have hx := X.1
  have hb := X.2.1
  have hL : ∀ z ∈ ([] : List Loc), H0.size ≤ z.base := fun _ h => nomatch h
  have hC : 0 + cn = cn := Nat.zero_add _
  have hN : 0 + nn = nn := Nat.zero_add _
  delta fX10_pattern at hf
  refine vg_new X hH fN_X10_128 dX10_pattern_0 hf hC hN hRc hRs (fun a1 μ2 cn nn H hf hC hN hH => ?_)
  refine lv_dup hx hb dX10_pattern_3 rfl ?_
  refine lv_aload_n hx hb dX10_pattern_4 rfl (lv_at hl.1 0 rfl) ?_
  refine vg_callVr (ci := 13) X hml hl hH hL fCV_X10_92 rfl [] rfl rfl (Nat.le_of_ble_eq_true rfl) dX10_pattern_5 hf hC hN hRc hRs hfr hlo (by decide) (fun _ _ _ _ h => cX10_takeText_met h) (fun x3 μ4 cn nn H locs cells slots hf hC hN hH hL => ?_)
  refine lv_iload_n hx hb dX10_pattern_8 rfl (lv_at hl.1 2 rfl) ?_
  refine vg_callIv X hml hl hH hL fCI_X10_130 [va_rf x3, .int v2] rfl rfl (Nat.le_of_ble_eq_true rfl) dX10_pattern_9 hf hC hN hRc hRs hfr hlo (by decide) (fun _ _ _ _ h => cX5_init_met h) (fun _ μ6 cn nn H locs cells slots hf hC hN hH hL => ?_)
  refine vg_astore_n (x := some a1) (lv' := [(3, .ref a1), (0, .ref v0), (1, .int v1), (2, .int v2)]) hx hb dX10_pattern_12 rfl hl (by decide) rfl (fun ls hl => ?_)
  refine lv_aload_n hx hb dX10_pattern_13 rfl (lv_at hl.1 0 rfl) ?_
  refine vg_callVv (ci := 8) X hml hl hH hL fCV_X10_133 rfl [] rfl rfl (Nat.le_of_ble_eq_true rfl) dX10_pattern_14 hf hC hN hRc hRs hfr hlo (by decide) (fun _ _ _ _ h => cX5_read_met h) (fun _ μ8 cn nn H locs cells slots hf hC hN hH hL => ?_)
  refine lv_aload_n hx hb dX10_pattern_17 rfl (lv_at hl.1 1 rfl) ?_
  refine lv_aload_n hx hb dX10_pattern_18 rfl (lv_at hl.1 0 rfl) ?_
  refine vg_getI X hH fF_X10_135 dX10_pattern_19 hf (fun x9 hf => ?_)
  refine vg_putV X hH hL fF_X10_37 rfl rfl dX10_pattern_22 hf (fun μ10 H locs hf hH hL => ?_)
  refine lv_aload_n hx hb dX10_pattern_25 rfl (lv_at hl.1 1 rfl) ?_
  refine lv_iload_n hx hb dX10_pattern_26 rfl (lv_at hl.1 2 rfl) ?_
  refine vg_callVr (ci := 13) X hml hl hH hL fCV_X10_136 rfl [.int v1] rfl rfl (Nat.le_of_ble_eq_true rfl) dX10_pattern_27 hf hC hN hRc hRs hfr hlo (by decide) (fun _ _ _ _ h => cX10_queryAt_met h) (fun x11 μ12 cn nn H locs cells slots hf hC hN hH hL => ?_)
  refine vg_astore (lv' := [(4, va_rf x11), (3, .ref a1), (0, .ref v0), (1, .int v1), (2, .int v2)]) hx hb dX10_pattern_30 hl (by decide) rfl (fun ls hl => ?_)
  refine vg_aload hx hb dX10_pattern_32 (lv_at hl.1 0 rfl) ?_
  refine vg_ifnonnull (tgt := 47) hx hb dX10_pattern_34 (by decide) hf (fun a13 h9 hg => ?_) (fun h9 hg => ?_)
  · clear hf
    subst h9
    have hf := hg
    clear hg
    refine lv_aload_n hx hb dX10_pattern_47 rfl (lv_at hl.1 2 rfl) ?_
    refine vg_getI X hH fF_X10_37 dX10_pattern_48 hf (fun x14 hf => ?_)
    refine lv_iconst (v := (-1)) hx hb dX10_pattern_51 (by decide) ?_
    refine lv_icmp_eq (tgt := 65) hx hb dX10_pattern_52 (by decide) (fun h8 => ?_) (fun h8 => ?_)
    · have hf := vg_ip h8 hf
      refine lv_aload hx hb dX10_pattern_65 (lv_at hl.1 0 rfl) ?_
      refine lv_iload_n hx hb dX10_pattern_67 rfl (lv_at hl.1 4 rfl) ?_
      refine vg_callVi (ci := 10) X hml hl hH hL fCV_X10_144 rfl [.int v2] rfl rfl (Nat.le_of_ble_eq_true rfl) dX10_pattern_68 hf hC hN hRc hRs hfr hlo (by decide) (fun _ _ _ _ h => cX7_hasRoomFor_met h) (fun x15 μ16 cn nn H locs cells slots hf hC hN hH hL => ?_)
      refine lv_if_ne (tgt := 84) hx hb dX10_pattern_71 (by decide) (fun h8 => ?_) (fun h8 => ?_)
      · have hf := vg_if h8 hf
        refine lv_aload hx hb dX10_pattern_84 (lv_at hl.1 0 rfl) ?_
        refine lv_aload_n hx hb dX10_pattern_86 rfl (lv_at hl.1 1 rfl) ?_
        refine vg_getRr X hH fR_X10_150 dX10_pattern_87 hf (fun x17 hf => ?_)
        refine vg_callVv (ci := 10) X hml hl hH hL fCV_X10_154 rfl [va_rf x17] rfl rfl (Nat.le_of_ble_eq_true rfl) dX10_pattern_90 hf hC hN hRc hRs hfr hlo (by decide) (fun _ _ _ _ h => cX7_add_met h) (fun _ μ19 cn nn H locs cells slots hf hC hN hH hL => ?_)
        exact vg_retvX X hr hlk hH hL dX10_pattern_93 hf hC hN
      · have hf := vg_ip h8 hf
        exact vg_throwX X hls hml hl hH hsz hL fT_X10_61_148 hnt hlk dX10_pattern_74 dX10_pattern_77 dX10_pattern_78 dX10_pattern_80 dX10_pattern_83 (Nat.le_of_ble_eq_true rfl) hf hC hN hRc hRs (Nat.le_trans (by decide) hfr) (Nat.le_trans (by decide) hlo)
    · have hf := vg_if h8 hf
      exact vg_throwX X hls hml hl hH hsz hL fT_X10_109_142 hnt hlk dX10_pattern_55 dX10_pattern_58 dX10_pattern_59 dX10_pattern_61 dX10_pattern_64 (Nat.le_of_ble_eq_true rfl) hf hC hN hRc hRs (Nat.le_trans (by decide) hfr) (Nat.le_trans (by decide) hlo)
  · clear hf
    subst h9
    have hf := hg
    clear hg
    exact vg_throwX X hls hml hl hH hsz hL fT_X10_109_140 hnt hlk dX10_pattern_37 dX10_pattern_40 dX10_pattern_41 dX10_pattern_43 dX10_pattern_46 (Nat.le_of_ble_eq_true rfl) hf hC hN hRc hRs (Nat.le_trans (by decide) hfr) (Nat.le_trans (by decide) hlo)
def fX10_query_27  (v0 : Nat) (k0 : Option Nat) (μ : vg_M) : vg_R (Int32 ⊕ Nat) :=
  vg_m k0 (
   vg_thr 1 μ
   ) fun a1 => (
   vg_o (vg_gR μ v0 13 2) fun x2 =>
   vg_o x2 fun a3 =>
   vg_cv 2 a3 μ (fJx4a65c_size_8abf5 a3  μ) fun x4 μ5 =>
   if x4 < 6 then (
    vg_o (vg_gR μ5 v0 13 2) fun x6 =>
    vg_nw 4 μ5.2.1 (vg_nO μ5 10 [.null, .int 0, .null, .int 0]) fun a7 μ8 =>
    vg_b (fX7_init a7 (some a1) x4 μ8) fun _ μ10 =>
    vg_o x6 fun a11 =>
    vg_cv 2 a11 μ10 (fJx4a65c_add_9ea2d a11 (some a7) μ10) fun x12 μ13 =>
    vg_ret (.inl x4) μ13
    ) else (
    vg_thr 2 μ5
    )
   )
set_option maxHeartbeats 4000000 in
set_option maxRecDepth 100000 in
theorem wX10_query_27 {p : Program} {l : Launch} {e : Env} {R : Room} {s : State} {m : MethodId} {args : Array Value} {below : List Frame} {meth : Method} {c : Code} {D : va_G} {cy : Nat → ClassId} {H0 : Heap} {C0 N0 : Nat} {r : (Int32 ⊕ Nat)} {μ' : vg_M} (Z : vg_ZX D cy H0 l p s m args c cX10_query RX10 meth 4 (some .int) R 19 C0 N0 "query")   (v0 : Nat) (k0 : Option Nat) (μ : vg_M) : vg_S p l e R s m args below meth c D cy H0 C0 N0 4 (vg_MX below D cy H0 μ' (fun x => some (.int x)) r args s C0 N0) r μ' (fX10_query_27  v0 k0 μ) μ [(0, .ref v0)] [va_rf k0] 27 := by
  intro cn nn H locs cells slots ls hf hH hL hC hN hl
  obtain ⟨X, hml, hr, hlk, hfr, hlo, hRc, hRs, hnm, hls, hsz, hnt⟩ := id Z
  have hx := X.1
  have hb := X.2.1
  delta fX10_query_27 at hf
  refine vg_astore_n (lv' := [(2, va_rf k0), (0, .ref v0)]) hx hb dX10_query_27 rfl hl (by decide) rfl (fun ls hl => ?_)
  refine vg_aload_n hx hb dX10_query_28 rfl (lv_at hl.1 0 rfl) ?_
  refine vg_ifnonnull (tgt := 42) hx hb dX10_query_29 (by decide) hf (fun a1 h9 hg => ?_) (fun h9 hg => ?_)
  · clear hf
    subst h9
    have hf := hg
    clear hg
    refine lv_aload_n hx hb dX10_query_42 rfl (lv_at hl.1 1 rfl) ?_
    refine vg_getR X hH fF_X10_26 dX10_query_43 hf (fun x2 hf => ?_)
    obtain ⟨a3, h9, hg⟩ := vg_o_inv hf
    clear hf
    subst h9
    have hf := hg
    clear hg
    refine vg_callVi (ci := 2) X hml hl hH hL fCV_X10_114 rfl [] rfl rfl (Nat.le_of_ble_eq_true rfl) dX10_query_46 hf hC hN hRc hRs hfr hlo (by decide) (fun _ _ _ _ h => cJx4a65c_size_8abf5_met h) (fun x4 μ5 cn nn H locs cells slots hf hC hN hH hL => ?_)
    refine vg_istore_n (lv' := [(3, .int x4), (2, .ref a1), (0, .ref v0)]) hx hb dX10_query_49 rfl hl (by decide) rfl (fun ls hl => ?_)
    refine lv_iload_n hx hb dX10_query_50 rfl (lv_at hl.1 0 rfl) ?_
    refine lv_bipush (v := 6) hx hb dX10_query_51 (by decide) ?_
    refine lv_icmp_lt (tgt := 66) hx hb dX10_query_53 (by decide) (fun h8 => ?_) (fun h8 => ?_)
    · have hf := vg_ip h8 hf
      refine lv_aload_n hx hb dX10_query_66 rfl (lv_at hl.1 2 rfl) ?_
      refine vg_getR X hH fF_X10_26 dX10_query_67 hf (fun x6 hf => ?_)
      refine vg_new X hH fN_X10_119 dX10_query_70 hf hC hN hRc hRs (fun a7 μ8 cn nn H hf hC hN hH => ?_)
      refine lv_dup hx hb dX10_query_73 rfl ?_
      refine lv_aload_n hx hb dX10_query_74 rfl (lv_at hl.1 1 rfl) ?_
      refine lv_iload_n hx hb dX10_query_75 rfl (lv_at hl.1 0 rfl) ?_
      refine vg_callIv X hml hl hH hL fCI_X10_121 [.ref a1, .int x4] rfl rfl (vg_cs (List.forall_mem_cons.mpr ⟨rfl, (List.forall_mem_cons.mpr ⟨vg_rfc _, (fun _ h => nomatch h)⟩)⟩) (Nat.le_of_ble_eq_true rfl)) dX10_query_76 hf hC hN hRc hRs hfr hlo (by decide) (fun _ _ _ _ h => cX7_init_met h) (fun _ μ10 cn nn H locs cells slots hf hC hN hH hL => ?_)
      obtain ⟨a11, h9, hg⟩ := vg_o_inv hf
      clear hf
      subst h9
      have hf := hg
      clear hg
      refine vg_callVi (ci := 2) X hml hl hH hL fCV_X10_124 rfl [.ref a7] rfl rfl (Nat.le_of_ble_eq_true rfl) dX10_query_79 hf hC hN hRc hRs hfr hlo (by decide) (fun _ _ _ _ h => cJx4a65c_add_9ea2d_met h) (fun x12 μ13 cn nn H locs cells slots hf hC hN hH hL => ?_)
      refine lv_pop hx hb dX10_query_82 rfl ?_
      refine lv_iload_n hx hb dX10_query_83 rfl (lv_at hl.1 0 rfl) ?_
      exact vg_retiX X hr hlk hH hL dX10_query_84 hf hC hN
    · have hf := vg_if h8 hf
      exact vg_throwX X hls hml hl hH hsz hL fT_X10_61_117 hnt hlk dX10_query_56 dX10_query_59 dX10_query_60 dX10_query_62 dX10_query_65 (Nat.le_of_ble_eq_true rfl) hf hC hN hRc hRs (Nat.le_trans (by decide) hfr) (Nat.le_trans (by decide) hlo)
  · clear hf
    subst h9
    have hf := hg
    clear hg
    exact vg_throwX X hls hml hl hH hsz hL fT_X10_109_111 hnt hlk dX10_query_32 dX10_query_35 dX10_query_36 dX10_query_38 dX10_query_41 (Nat.le_of_ble_eq_true rfl) hf hC hN hRc hRs (Nat.le_trans (by decide) hfr) (Nat.le_trans (by decide) hlo)
def fX10_query (v0 : Nat) (μ : vg_M) : vg_R (Int32 ⊕ Nat) :=
  vg_cv 13 v0 μ (fX10_takeText v0  μ) fun x14 μ15 =>
  vg_o x14 fun a16 =>
  vg_cv 0 a16 μ15 (fJ0_isEmpty_aae02 a16  μ15) fun x17 μ18 =>
  if x17 = 0 then (
   vg_b (fX3_read (some a16) μ18) fun x19 μ20 =>
   fX10_query_27  v0 x19 μ20
   ) else (
   vg_nw 4 μ18.2.1 (vg_nO μ18 6 [.null, .null, .null, .int 0]) fun a21 μ22 =>
   vg_b (fX3_init a21 (some a16) μ22) fun _ μ24 =>
   fX10_query_27  v0 (some a21) μ24
   )
set_option maxHeartbeats 4000000 in
set_option maxRecDepth 100000 in
theorem cX10_query_met {l : Launch} {D : va_G} {cy : Nat → ClassId} {H0 : Heap} (hls : l.stackTraces = false) {r : (Int32 ⊕ Nat)} {μ μ' : vg_M} {cn nn : Nat} {v0 : Nat} (hf : fX10_query v0 μ = some (r, μ', cn, nn)) : vg_MetX l D cy H0 yX10_query cX10_query 4 (some .int) 19 μ [.ref v0] (fun x => some (.int x)) r μ' cn nn := by
  refine vg_startX hls (by decide +kernel) (List.forall_mem_cons.mpr ⟨rfl, (fun _ h => nomatch h)⟩) (Nat.le_of_ble_eq_true rfl) ?_
  intro p e s m below meth c ls Z hH hl
  have hl : vg_l ls 4 [(0, .ref v0)] := hl
  obtain ⟨X, hml, hr, hlk, hfr, hlo, hRc, hRs, hnm, -, hsz, hnt⟩ := id Z
  have hx := X.1
  have hb := X.2.1
  have hL : ∀ z ∈ ([] : List Loc), H0.size ≤ z.base := fun _ h => nomatch h
  have hC : 0 + cn = cn := Nat.zero_add _
  have hN : 0 + nn = nn := Nat.zero_add _
  delta fX10_query at hf
  refine lv_aload_n hx hb dX10_query_0 rfl (lv_at hl.1 0 rfl) ?_
  refine vg_callVr (ci := 13) X hml hl hH hL fCV_X10_92 rfl [] rfl rfl (Nat.le_of_ble_eq_true rfl) dX10_query_1 hf hC hN hRc hRs hfr hlo (by decide) (fun _ _ _ _ h => cX10_takeText_met h) (fun x14 μ15 cn nn H locs cells slots hf hC hN hH hL => ?_)
  refine vg_astore_n (lv' := [(1, va_rf x14), (0, .ref v0)]) hx hb dX10_query_4 rfl hl (by decide) rfl (fun ls hl => ?_)
  refine vg_aload_n hx hb dX10_query_5 rfl (lv_at hl.1 0 rfl) ?_
  obtain ⟨a16, h9, hg⟩ := vg_o_inv hf
  clear hf
  subst h9
  have hf := hg
  clear hg
  refine vg_callVi (ci := 0) X hml hl hH hL fCV_X10_96 rfl [] rfl rfl (Nat.le_of_ble_eq_true rfl) dX10_query_6 hf hC hN hRc hRs hfr hlo (by decide) (fun _ _ _ _ h => cJ0_isEmpty_aae02_met h) (fun x17 μ18 cn nn H locs cells slots hf hC hN hH hL => ?_)
  refine lv_if_eq (tgt := 23) hx hb dX10_query_9 (by decide) (fun h8 => ?_) (fun h8 => ?_)
  · have hf := vg_ip h8 hf
    refine lv_aload_n hx hb dX10_query_23 rfl (lv_at hl.1 0 rfl) ?_
    refine vg_callSr X hml hl hH hL fCS_X10_105 [.ref a16] rfl rfl (Nat.le_of_ble_eq_true rfl) dX10_query_24 hf hC hN hRc hRs hfr hlo (by decide) (fun _ _ _ _ h => cX3_read_met h) (fun x19 μ20 cn nn H locs cells slots hf hC hN hH hL => ?_)
    exact wX10_query_27 Z  v0 x19 μ20 _ _ _ _ _ _ _ hf hH hL hC hN (hl.sub [1] rfl)
  · have hf := vg_if h8 hf
    refine vg_new X hH fN_X10_102 dX10_query_12 hf hC hN hRc hRs (fun a21 μ22 cn nn H hf hC hN hH => ?_)
    refine lv_dup hx hb dX10_query_15 rfl ?_
    refine lv_aload_n hx hb dX10_query_16 rfl (lv_at hl.1 0 rfl) ?_
    refine vg_callIv X hml hl hH hL fCI_X10_104 [.ref a16] rfl rfl (Nat.le_of_ble_eq_true rfl) dX10_query_17 hf hC hN hRc hRs hfr hlo (by decide) (fun _ _ _ _ h => cX3_init_met h) (fun _ μ24 cn nn H locs cells slots hf hC hN hH hL => ?_)
    refine lv_goto (tgt := 27) hx hb dX10_query_20 (by decide) ?_
    exact wX10_query_27 Z  v0 (some a21) μ24 _ _ _ _ _ _ _ hf hH hL hC hN (hl.sub [1] rfl)
def fX10_remove (v0 : Nat) (μ : vg_M) : vg_R (Int32 ⊕ Nat) :=
  vg_o (vg_gR μ v0 13 1) fun x1 =>
  vg_cx 13 v0 μ (fX10_takePath v0  μ) fun x2 μ3 =>
  vg_o x1 fun a4 =>
  vg_cv 11 a4 μ3 (fX8_at a4 x2 μ3) fun x5 μ6 =>
  vg_m x5 (
   vg_thr 2 μ6
   ) fun a7 => (
   vg_o (vg_gR μ6 v0 13 1) fun x8 =>
   vg_o x8 fun a9 =>
   vg_cv 11 a9 μ6 (fX8_cut a9 (some a7) μ6) fun x10 μ11 =>
   vg_ret (.inl x10) μ11
   )
set_option maxHeartbeats 4000000 in
set_option maxRecDepth 100000 in
theorem cX10_remove_met {l : Launch} {D : va_G} {cy : Nat → ClassId} {H0 : Heap} (hls : l.stackTraces = false) {r : (Int32 ⊕ Nat)} {μ μ' : vg_M} {cn nn : Nat} {v0 : Nat} (hf : fX10_remove v0 μ = some (r, μ', cn, nn)) : vg_MetX l D cy H0 yX10_remove cX10_remove 2 (some .int) 42 μ [.ref v0] (fun x => some (.int x)) r μ' cn nn := by
  refine vg_startX hls (by decide +kernel) (List.forall_mem_cons.mpr ⟨rfl, (fun _ h => nomatch h)⟩) (Nat.le_of_ble_eq_true rfl) ?_
  intro p e s m below meth c ls Z hH hl
  have hl : vg_l ls 2 [(0, .ref v0)] := hl
  obtain ⟨X, hml, hr, hlk, hfr, hlo, hRc, hRs, hnm, -, hsz, hnt⟩ := id Z
  have hx := X.1
  have hb := X.2.1
  have hL : ∀ z ∈ ([] : List Loc), H0.size ≤ z.base := fun _ h => nomatch h
  have hC : 0 + cn = cn := Nat.zero_add _
  have hN : 0 + nn = nn := Nat.zero_add _
  delta fX10_remove at hf
  refine lv_aload_n hx hb dX10_remove_0 rfl (lv_at hl.1 0 rfl) ?_
  refine vg_getR X hH fF_X10_19 dX10_remove_1 hf (fun x1 hf => ?_)
  refine lv_aload_n hx hb dX10_remove_4 rfl (lv_at hl.1 0 rfl) ?_
  refine vg_callXr (rest := [va_rf x1]) (ci := 13) X hml hl hH hL fCV_X10_49 rfl hnt hlk [] rfl rfl (vg_cs (List.forall_mem_cons.mpr ⟨vg_rfc _, (fun _ h => nomatch h)⟩) (Nat.le_of_ble_eq_true rfl)) dX10_remove_5 hf hC hN hRc hRs hfr hlo (by decide) (fun _ _ _ _ h => cX10_takePath_met hls h) (fun x2 μ3 cn nn H locs cells slots hf hC hN hH hL => ?_)
  obtain ⟨a4, h9, hg⟩ := vg_o_inv hf
  clear hf
  subst h9
  have hf := hg
  clear hg
  refine vg_callVr (ci := 11) X hml hl hH hL fCV_X10_57 rfl [va_rf x2] rfl rfl (Nat.le_of_ble_eq_true rfl) dX10_remove_8 hf hC hN hRc hRs hfr hlo (by decide) (fun _ _ _ _ h => cX8_at_met h) (fun x5 μ6 cn nn H locs cells slots hf hC hN hH hL => ?_)
  refine vg_astore_n (lv' := [(1, va_rf x5), (0, .ref v0)]) hx hb dX10_remove_11 rfl hl (by decide) rfl (fun ls hl => ?_)
  refine vg_aload_n hx hb dX10_remove_12 rfl (lv_at hl.1 0 rfl) ?_
  refine vg_ifnonnull (tgt := 26) hx hb dX10_remove_13 (by decide) hf (fun a7 h9 hg => ?_) (fun h9 hg => ?_)
  · clear hf
    subst h9
    have hf := hg
    clear hg
    refine lv_aload_n hx hb dX10_remove_26 rfl (lv_at hl.1 1 rfl) ?_
    refine vg_getR X hH fF_X10_19 dX10_remove_27 hf (fun x8 hf => ?_)
    refine lv_aload_n hx hb dX10_remove_30 rfl (lv_at hl.1 0 rfl) ?_
    obtain ⟨a9, h9, hg⟩ := vg_o_inv hf
    clear hf
    subst h9
    have hf := hg
    clear hg
    refine vg_callVi (ci := 11) X hml hl hH hL fCV_X10_68 rfl [.ref a7] rfl rfl (Nat.le_of_ble_eq_true rfl) dX10_remove_31 hf hC hN hRc hRs hfr hlo (by decide) (fun _ _ _ _ h => cX8_cut_met h) (fun x10 μ11 cn nn H locs cells slots hf hC hN hH hL => ?_)
    exact vg_retiX X hr hlk hH hL dX10_remove_34 hf hC hN
  · clear hf
    subst h9
    have hf := hg
    clear hg
    exact vg_throwX X hls hml hl hH hsz hL fT_X10_61_63 hnt hlk dX10_remove_16 dX10_remove_19 dX10_remove_20 dX10_remove_22 dX10_remove_25 (Nat.le_of_ble_eq_true rfl) hf hC hN hRc hRs (Nat.le_trans (by decide) hfr) (Nat.le_trans (by decide) hlo)
