def fX11_touch (v0 : Nat) (v1 : Int32) (μ : vg_M) : vg_R Unit :=
  vg_o (vg_gI μ v0 14 14) fun x1 =>
  vg_o (vg_p μ v0 14 14 (.int (x1 + 1))) fun μ2 =>
  vg_o (vg_gR μ2 v0 14 9) fun x3 =>
  vg_o (vg_gI μ2 v0 14 14) fun x4 =>
  vg_o x3 fun a5 =>
  vg_o (vg_sI μ2 a5 2 v1 x4) fun μ6 =>
  vg_ret () μ6
set_option maxHeartbeats 4000000 in
set_option maxRecDepth 100000 in
theorem cX11_touch_met {l : Launch} {D : va_G} {cy : Nat → ClassId} {H0 : Heap} {r : Unit} {μ μ' : vg_M} {cn nn : Nat} {v0 : Nat} {v1 : Int32} (hf : fX11_touch v0 v1 μ = some (r, μ', cn, nn)) : vg_Met l D cy H0 yX11_touch cX11_touch 2 none 12 μ [.ref v0, .int v1] none μ' cn nn := by
  refine vg_start (by decide +kernel) (List.forall_mem_cons.mpr ⟨rfl, (List.forall_mem_cons.mpr ⟨rfl, (fun _ h => nomatch h)⟩)⟩) (Nat.le_of_ble_eq_true rfl) ?_
  intro p e s m below meth c ls X hml hr hlk hnm hH hl
  have hl : vg_l ls 2 [(0, .ref v0), (1, .int v1)] := hl
  have Z : vg_Z D cy H0 p s m _ c cX11_touch RX11 meth 2 none (vg_rm 12 cn nn) 12 cn nn _ := ⟨X, hml, hr, hlk, Nat.le_refl _, Nat.le_refl _, Nat.le_refl _, Nat.le_refl _, hnm⟩
  obtain ⟨-, -, -, -, hfr, hlo, hRc, hRs, -⟩ := id Z
  have hx := X.1
  have hb := X.2.1
  have hL : ∀ z ∈ ([] : List Loc), H0.size ≤ z.base := fun _ h => nomatch h
  have hC : 0 + cn = cn := Nat.zero_add _
  have hN : 0 + nn = nn := Nat.zero_add _
  delta fX11_touch at hf
  refine lv_aload_n hx hb dX11_touch_0 rfl (lv_at hl.1 0 rfl) ?_
  refine lv_dup hx hb dX11_touch_1 rfl ?_
  refine vg_getI X hH fF_X11_127 dX11_touch_2 hf (fun x1 hf => ?_)
  refine lv_iconst (v := 1) hx hb dX11_touch_5 (by decide) ?_
  refine lv_iadd hx hb dX11_touch_6 ?_
  refine vg_putV X hH hL fF_X11_127 rfl rfl dX11_touch_7 hf (fun μ2 H locs hf hH hL => ?_)
  refine lv_aload_n hx hb dX11_touch_10 rfl (lv_at hl.1 0 rfl) ?_
  refine vg_getR X hH fF_X11_29 dX11_touch_11 hf (fun x3 hf => ?_)
  refine lv_iload_n hx hb dX11_touch_14 rfl (lv_at hl.1 1 rfl) ?_
  refine lv_aload_n hx hb dX11_touch_15 rfl (lv_at hl.1 0 rfl) ?_
  refine vg_getI X hH fF_X11_127 dX11_touch_16 hf (fun x4 hf => ?_)
  obtain ⟨a5, h9, hg⟩ := vg_o_inv hf
  clear hf
  subst h9
  have hf := hg
  clear hg
  refine vg_iast X hH hL dX11_touch_19 hf (fun μ6 H locs hf hH hL => ?_)
  exact vg_retv X hr hlk hH hL dX11_touch_20 hf hC hN
def fX11_add_51  : Nat → Nat → Int32 → Int32 → Int32 → Int32 → vg_M → vg_R Int32
  | 0, _, _, _, _, _, _ => none
  | n + 1, v0, v1, v2, v4, v5, μ =>
    vg_o (vg_gR μ v0 14 5) fun x16 =>
    vg_o x16 fun a17 =>
    vg_o (vg_aI μ a17 2 v2) fun x18 =>
    if x18 ≤ v5 then (
     vg_o (vg_gI μ v0 14 13) fun x19 =>
     vg_o (vg_p μ v0 14 13 (.int (x19 + 1))) fun μ20 =>
     vg_o (vg_gR μ20 v0 14 10) fun x21 =>
     vg_o (vg_gI μ20 v0 14 13) fun x22 =>
     vg_o x21 fun a23 =>
     vg_o (vg_sI μ20 a23 2 v4 x22) fun μ24 =>
     vg_o (vg_gR μ24 v0 14 11) fun x25 =>
     vg_o x25 fun a26 =>
     vg_o (vg_sI μ24 a26 3 v4 0) fun μ27 =>
     vg_cv 14 v0 μ27 (fX11_touch v0 v1 μ27) fun _ μ29 =>
     vg_ret v4 μ29
     ) else (
     vg_o (vg_gR μ v0 14 12) fun x30 =>
     vg_o (vg_gR μ v0 14 1) fun x31 =>
     vg_o (vg_gR μ v0 14 4) fun x32 =>
     vg_o x32 fun a33 =>
     vg_o (vg_aI μ a33 2 v2) fun x34 =>
     vg_o x31 fun a35 =>
     vg_o (vg_aI μ a35 0 (x34 + v5)) fun x36 =>
     vg_o x30 fun a37 =>
     vg_o (vg_sI μ a37 0 ((8 * v4) + v5) x36) fun μ38 =>
     (fX11_add_51  n) v0 v1 v2 v4 (v5 + 1) μ38
     )
set_option maxHeartbeats 4000000 in
set_option maxRecDepth 100000 in
theorem wX11_add_51 {p : Program} {l : Launch} {e : Env} {R : Room} {s : State} {m : MethodId} {args : Array Value} {below : List Frame} {meth : Method} {c : Code} {D : va_G} {cy : Nat → ClassId} {H0 : Heap} {C0 N0 : Nat} {r : Int32} {μ' : vg_M} (Z : vg_Z D cy H0 p s m args c cX11_add RX11 meth 6 (some .int) R 13 C0 N0 "add")   : ∀ (n : Nat) (v0 : Nat) (v1 : Int32) (v2 : Int32) (v4 : Int32) (v5 : Int32) (μ : vg_M), vg_S p l e R s m args below meth c D cy H0 C0 N0 6 (MQ below (vg_Qc D cy H0 μ' (some (.int r))) args s C0 N0 (vg_fr H0)) r μ' (fX11_add_51  n v0 v1 v2 v4 v5 μ) μ [(0, .ref v0), (1, .int v1), (2, .int v2), (4, .int v4), (5, .int v5)] [] 51 := by
  intro n
  induction n with
  | zero =>
    intro v0 v1 v2 v4 v5 μ cn nn H locs cells slots ls hf
    simp [fX11_add_51] at hf
  | succ n hk51 =>
    intro v0 v1 v2 v4 v5 μ
    intro cn nn H locs cells slots ls hf hH hL hC hN hl
    obtain ⟨X, hml, hr, hlk, hfr, hlo, hRc, hRs, hnm⟩ := id Z
    have hx := X.1
    have hb := X.2.1
    rw [fX11_add_51] at hf
    refine lv_iload hx hb dX11_add_51 (lv_at hl.1 4 rfl) ?_
    refine lv_aload_n hx hb dX11_add_53 rfl (lv_at hl.1 0 rfl) ?_
    refine vg_getR X hH fF_X11_17 dX11_add_54 hf (fun x16 hf => ?_)
    refine lv_iload_n hx hb dX11_add_57 rfl (lv_at hl.1 2 rfl) ?_
    obtain ⟨a17, h9, hg⟩ := vg_o_inv hf
    clear hf
    subst h9
    have hf := hg
    clear hg
    refine vg_iald X hH dX11_add_58 hf (fun x18 hf => ?_)
    refine lv_icmp_ge (tgt := 95) hx hb dX11_add_59 (by decide) (fun h8 => ?_) (fun h8 => ?_)
    · have hf := vg_ip h8 hf
      refine lv_aload_n hx hb dX11_add_95 rfl (lv_at hl.1 0 rfl) ?_
      refine lv_dup hx hb dX11_add_96 rfl ?_
      refine vg_getI X hH fF_X11_100 dX11_add_97 hf (fun x19 hf => ?_)
      refine lv_iconst (v := 1) hx hb dX11_add_100 (by decide) ?_
      refine lv_iadd hx hb dX11_add_101 ?_
      refine vg_putV X hH hL fF_X11_100 rfl rfl dX11_add_102 hf (fun μ20 H locs hf hH hL => ?_)
      refine lv_aload_n hx hb dX11_add_105 rfl (lv_at hl.1 0 rfl) ?_
      refine vg_getR X hH fF_X11_32 dX11_add_106 hf (fun x21 hf => ?_)
      refine lv_iload hx hb dX11_add_109 (lv_at hl.1 3 rfl) ?_
      refine lv_aload_n hx hb dX11_add_111 rfl (lv_at hl.1 0 rfl) ?_
      refine vg_getI X hH fF_X11_100 dX11_add_112 hf (fun x22 hf => ?_)
      obtain ⟨a23, h9, hg⟩ := vg_o_inv hf
      clear hf
      subst h9
      have hf := hg
      clear hg
      refine vg_iast X hH hL dX11_add_115 hf (fun μ24 H locs hf hH hL => ?_)
      refine lv_aload_n hx hb dX11_add_116 rfl (lv_at hl.1 0 rfl) ?_
      refine vg_getR X hH fF_X11_35 dX11_add_117 hf (fun x25 hf => ?_)
      refine lv_iload hx hb dX11_add_120 (lv_at hl.1 3 rfl) ?_
      refine lv_iconst (v := 0) hx hb dX11_add_122 (by decide) ?_
      obtain ⟨a26, h9, hg⟩ := vg_o_inv hf
      clear hf
      subst h9
      have hf := hg
      clear hg
      refine vg_zast X hH hL dX11_add_123 hf (fun μ27 H locs hf hH hL => ?_)
      refine lv_aload_n hx hb dX11_add_124 rfl (lv_at hl.1 0 rfl) ?_
      refine lv_iload_n hx hb dX11_add_125 rfl (lv_at hl.1 1 rfl) ?_
      refine vg_callVv (ci := 14) X hml hl hH hL fCV_X11_130 rfl [.int v1] rfl rfl (Nat.le_of_ble_eq_true rfl) dX11_add_126 hf hC hN hRc hRs hfr hlo (by decide) (fun _ _ _ _ h => cX11_touch_met h) (fun _ μ29 cn nn H locs cells slots hf hC hN hH hL => ?_)
      refine lv_iload hx hb dX11_add_129 (lv_at hl.1 3 rfl) ?_
      exact vg_reti X hr hlk hH hL dX11_add_131 hf hC hN
    · have hf := vg_if h8 hf
      refine lv_aload_n hx hb dX11_add_62 rfl (lv_at hl.1 0 rfl) ?_
      refine vg_getR X hH fF_X11_39 dX11_add_63 hf (fun x30 hf => ?_)
      refine lv_bipush (v := 8) hx hb dX11_add_66 (by decide) ?_
      refine lv_iload hx hb dX11_add_68 (lv_at hl.1 3 rfl) ?_
      refine lv_imul hx hb dX11_add_70 ?_
      refine lv_iload hx hb dX11_add_71 (lv_at hl.1 4 rfl) ?_
      refine lv_iadd hx hb dX11_add_73 ?_
      refine lv_aload_n hx hb dX11_add_74 rfl (lv_at hl.1 0 rfl) ?_
      refine vg_getR X hH fF_X11_7 dX11_add_75 hf (fun x31 hf => ?_)
      refine lv_aload_n hx hb dX11_add_78 rfl (lv_at hl.1 0 rfl) ?_
      refine vg_getR X hH fF_X11_13 dX11_add_79 hf (fun x32 hf => ?_)
      refine lv_iload_n hx hb dX11_add_82 rfl (lv_at hl.1 2 rfl) ?_
      obtain ⟨a33, h9, hg⟩ := vg_o_inv hf
      clear hf
      subst h9
      have hf := hg
      clear hg
      refine vg_iald X hH dX11_add_83 hf (fun x34 hf => ?_)
      refine lv_iload hx hb dX11_add_84 (lv_at hl.1 4 rfl) ?_
      refine lv_iadd hx hb dX11_add_86 ?_
      obtain ⟨a35, h9, hg⟩ := vg_o_inv hf
      clear hf
      subst h9
      have hf := hg
      clear hg
      refine vg_bald X hH dX11_add_87 hf (fun x36 hf => ?_)
      obtain ⟨a37, h9, hg⟩ := vg_o_inv hf
      clear hf
      subst h9
      have hf := hg
      clear hg
      refine vg_bast X hH hL dX11_add_88 hf (fun μ38 H locs hf hH hL => ?_)
      refine vg_iinc (v := v5 + 1) (lv' := [(5, .int (v5 + 1)), (0, .ref v0), (1, .int v1), (2, .int v2), (4, .int v4)]) hx hb dX11_add_89 hl (k := 4) rfl rfl (by decide) rfl (fun ls hl => ?_)
      refine lv_goto (tgt := 51) hx hb dX11_add_92 (by decide) ?_
      exact hk51 v0 v1 v2 v4 (v5 + 1) μ38 _ _ _ _ _ _ _ hf hH hL hC hN (hl.sub [1, 2, 3, 4, 0] rfl)
def fX11_add_3  : Nat → Nat → Int32 → Int32 → Int32 → Int32 → vg_M → vg_R Int32
  | 0, _, _, _, _, _, _ => none
  | n + 1, v0, v1, v2, v3, v4, μ =>
    vg_o (vg_gR μ v0 14 6) fun x1 =>
    vg_o x1 fun a2 =>
    vg_o (vg_aI μ a2 2 v4) fun x3 =>
    if x3 ≤ 0 then (
     vg_o (vg_gR μ v0 14 6) fun x4 =>
     vg_o x4 fun a5 =>
     vg_o (vg_sI μ a5 2 v4 v3) fun μ6 =>
     vg_o (vg_gR μ6 v0 14 7) fun x7 =>
     vg_o x7 fun a8 =>
     vg_o (vg_sI μ6 a8 2 v4 v1) fun μ9 =>
     vg_o (vg_gR μ9 v0 14 8) fun x10 =>
     vg_o (vg_gR μ9 v0 14 5) fun x11 =>
     vg_o x11 fun a12 =>
     vg_o (vg_aI μ9 a12 2 v2) fun x13 =>
     vg_o x10 fun a14 =>
     vg_o (vg_sI μ9 a14 2 v4 x13) fun μ15 =>
     fX11_add_51  vg_fuel v0 v1 v2 v4 0 μ15
     ) else (
     (fX11_add_3  n) v0 v1 v2 v3 (v4 + 1) μ
     )
set_option maxHeartbeats 4000000 in
set_option maxRecDepth 100000 in
theorem wX11_add_3 {p : Program} {l : Launch} {e : Env} {R : Room} {s : State} {m : MethodId} {args : Array Value} {below : List Frame} {meth : Method} {c : Code} {D : va_G} {cy : Nat → ClassId} {H0 : Heap} {C0 N0 : Nat} {r : Int32} {μ' : vg_M} (Z : vg_Z D cy H0 p s m args c cX11_add RX11 meth 6 (some .int) R 13 C0 N0 "add")   : ∀ (n : Nat) (v0 : Nat) (v1 : Int32) (v2 : Int32) (v3 : Int32) (v4 : Int32) (μ : vg_M), vg_S p l e R s m args below meth c D cy H0 C0 N0 6 (MQ below (vg_Qc D cy H0 μ' (some (.int r))) args s C0 N0 (vg_fr H0)) r μ' (fX11_add_3  n v0 v1 v2 v3 v4 μ) μ [(0, .ref v0), (1, .int v1), (2, .int v2), (3, .int v3), (4, .int v4)] [] 3 := by
  intro n
  induction n with
  | zero =>
    intro v0 v1 v2 v3 v4 μ cn nn H locs cells slots ls hf
    simp [fX11_add_3] at hf
  | succ n hk3 =>
    intro v0 v1 v2 v3 v4 μ
    intro cn nn H locs cells slots ls hf hH hL hC hN hl
    obtain ⟨X, hml, hr, hlk, hfr, hlo, hRc, hRs, hnm⟩ := id Z
    have hx := X.1
    have hb := X.2.1
    rw [fX11_add_3] at hf
    refine lv_aload_n hx hb dX11_add_3 rfl (lv_at hl.1 0 rfl) ?_
    refine vg_getR X hH fF_X11_20 dX11_add_4 hf (fun x1 hf => ?_)
    refine lv_iload hx hb dX11_add_7 (lv_at hl.1 4 rfl) ?_
    obtain ⟨a2, h9, hg⟩ := vg_o_inv hf
    clear hf
    subst h9
    have hf := hg
    clear hg
    refine vg_iald X hH dX11_add_9 hf (fun x3 hf => ?_)
    refine lv_if_le (tgt := 19) hx hb dX11_add_10 (by decide) (fun h8 => ?_) (fun h8 => ?_)
    · have hf := vg_ip h8 hf
      refine lv_aload_n hx hb dX11_add_19 rfl (lv_at hl.1 0 rfl) ?_
      refine vg_getR X hH fF_X11_20 dX11_add_20 hf (fun x4 hf => ?_)
      refine lv_iload hx hb dX11_add_23 (lv_at hl.1 4 rfl) ?_
      refine lv_iload_n hx hb dX11_add_25 rfl (lv_at hl.1 3 rfl) ?_
      obtain ⟨a5, h9, hg⟩ := vg_o_inv hf
      clear hf
      subst h9
      have hf := hg
      clear hg
      refine vg_iast X hH hL dX11_add_26 hf (fun μ6 H locs hf hH hL => ?_)
      refine lv_aload_n hx hb dX11_add_27 rfl (lv_at hl.1 0 rfl) ?_
      refine vg_getR X hH fF_X11_23 dX11_add_28 hf (fun x7 hf => ?_)
      refine lv_iload hx hb dX11_add_31 (lv_at hl.1 4 rfl) ?_
      refine lv_iload_n hx hb dX11_add_33 rfl (lv_at hl.1 1 rfl) ?_
      obtain ⟨a8, h9, hg⟩ := vg_o_inv hf
      clear hf
      subst h9
      have hf := hg
      clear hg
      refine vg_iast X hH hL dX11_add_34 hf (fun μ9 H locs hf hH hL => ?_)
      refine lv_aload_n hx hb dX11_add_35 rfl (lv_at hl.1 0 rfl) ?_
      refine vg_getR X hH fF_X11_26 dX11_add_36 hf (fun x10 hf => ?_)
      refine lv_iload hx hb dX11_add_39 (lv_at hl.1 4 rfl) ?_
      refine lv_aload_n hx hb dX11_add_41 rfl (lv_at hl.1 0 rfl) ?_
      refine vg_getR X hH fF_X11_17 dX11_add_42 hf (fun x11 hf => ?_)
      refine lv_iload_n hx hb dX11_add_45 rfl (lv_at hl.1 2 rfl) ?_
      obtain ⟨a12, h9, hg⟩ := vg_o_inv hf
      clear hf
      subst h9
      have hf := hg
      clear hg
      refine vg_iald X hH dX11_add_46 hf (fun x13 hf => ?_)
      obtain ⟨a14, h9, hg⟩ := vg_o_inv hf
      clear hf
      subst h9
      have hf := hg
      clear hg
      refine vg_iast X hH hL dX11_add_47 hf (fun μ15 H locs hf hH hL => ?_)
      refine lv_iconst (v := 0) hx hb dX11_add_48 (by decide) ?_
      refine vg_istore (lv' := [(5, .int 0), (0, .ref v0), (1, .int v1), (2, .int v2), (3, .int v3), (4, .int v4)]) hx hb dX11_add_49 hl (by decide) rfl (fun ls hl => ?_)
      exact wX11_add_51 Z  vg_fuel v0 v1 v2 v4 0 μ15 _ _ _ _ _ _ _ hf hH hL hC hN (hl.sub [1, 2, 3, 5, 0] rfl)
    · have hf := vg_if h8 hf
      refine vg_iinc (v := v4 + 1) (lv' := [(4, .int (v4 + 1)), (0, .ref v0), (1, .int v1), (2, .int v2), (3, .int v3)]) hx hb dX11_add_13 hl (k := 4) rfl rfl (by decide) rfl (fun ls hl => ?_)
      refine lv_goto (tgt := 3) hx hb dX11_add_16 (by decide) ?_
      exact hk3 v0 v1 v2 v3 (v4 + 1) μ _ _ _ _ _ _ _ hf hH hL hC hN (hl.sub [1, 2, 3, 4, 0] rfl)
def fX11_add (v0 : Nat) (v1 : Int32) (v2 : Int32) (v3 : Int32) (μ : vg_M) : vg_R Int32 :=
  fX11_add_3  vg_fuel v0 v1 v2 v3 0 μ
set_option maxHeartbeats 4000000 in
set_option maxRecDepth 100000 in
theorem cX11_add_met {l : Launch} {D : va_G} {cy : Nat → ClassId} {H0 : Heap} {r : Int32} {μ μ' : vg_M} {cn nn : Nat} {v0 : Nat} {v1 : Int32} {v2 : Int32} {v3 : Int32} (hf : fX11_add v0 v1 v2 v3 μ = some (r, μ', cn, nn)) : vg_Met l D cy H0 yX11_add cX11_add 6 (some .int) 13 μ [.ref v0, .int v1, .int v2, .int v3] (some (.int r)) μ' cn nn := by
  refine vg_start (by decide +kernel) (List.forall_mem_cons.mpr ⟨rfl, (List.forall_mem_cons.mpr ⟨rfl, (List.forall_mem_cons.mpr ⟨rfl, (List.forall_mem_cons.mpr ⟨rfl, (fun _ h => nomatch h)⟩)⟩)⟩)⟩) (Nat.le_of_ble_eq_true rfl) ?_
  intro p e s m below meth c ls X hml hr hlk hnm hH hl
  have hl : vg_l ls 6 [(0, .ref v0), (1, .int v1), (2, .int v2), (3, .int v3)] := hl
  have Z : vg_Z D cy H0 p s m _ c cX11_add RX11 meth 6 (some .int) (vg_rm 13 cn nn) 13 cn nn _ := ⟨X, hml, hr, hlk, Nat.le_refl _, Nat.le_refl _, Nat.le_refl _, Nat.le_refl _, hnm⟩
  obtain ⟨-, -, -, -, hfr, hlo, hRc, hRs, -⟩ := id Z
  have hx := X.1
  have hb := X.2.1
  have hL : ∀ z ∈ ([] : List Loc), H0.size ≤ z.base := fun _ h => nomatch h
  have hC : 0 + cn = cn := Nat.zero_add _
  have hN : 0 + nn = nn := Nat.zero_add _
  delta fX11_add at hf
  refine lv_iconst (v := 0) hx hb dX11_add_0 (by decide) ?_
  refine vg_istore (lv' := [(4, .int 0), (0, .ref v0), (1, .int v1), (2, .int v2), (3, .int v3)]) hx hb dX11_add_1 hl (by decide) rfl (fun ls hl => ?_)
  exact wX11_add_3 Z  vg_fuel v0 v1 v2 v3 0 μ _ _ _ _ _ _ _ hf hH hL hC hN (hl.sub [1, 2, 3, 4, 0] rfl)
def fX11_answer_46  (k0 : Int32) (μ : vg_M) : vg_R Int32 :=
  vg_ret k0 μ
set_option maxHeartbeats 4000000 in
set_option maxRecDepth 100000 in
theorem wX11_answer_46 {p : Program} {l : Launch} {e : Env} {R : Room} {s : State} {m : MethodId} {args : Array Value} {below : List Frame} {meth : Method} {c : Code} {D : va_G} {cy : Nat → ClassId} {H0 : Heap} {C0 N0 : Nat} {r : Int32} {μ' : vg_M} (Z : vg_Z D cy H0 p s m args c cX11_answer RX11 meth 3 (some .int) R 12 C0 N0 "answer")   (k0 : Int32) (μ : vg_M) : vg_S p l e R s m args below meth c D cy H0 C0 N0 3 (MQ below (vg_Qc D cy H0 μ' (some (.int r))) args s C0 N0 (vg_fr H0)) r μ' (fX11_answer_46  k0 μ) μ [] [.int k0] 46 := by
  intro cn nn H locs cells slots ls hf hH hL hC hN hl
  obtain ⟨X, hml, hr, hlk, hfr, hlo, hRc, hRs, hnm⟩ := id Z
  have hx := X.1
  have hb := X.2.1
  delta fX11_answer_46 at hf
  exact vg_reti X hr hlk hH hL dX11_answer_46 hf hC hN
def fX11_answer_45   (μ : vg_M) : vg_R Int32 :=
  fX11_answer_46  0 μ
set_option maxHeartbeats 4000000 in
set_option maxRecDepth 100000 in
theorem wX11_answer_45 {p : Program} {l : Launch} {e : Env} {R : Room} {s : State} {m : MethodId} {args : Array Value} {below : List Frame} {meth : Method} {c : Code} {D : va_G} {cy : Nat → ClassId} {H0 : Heap} {C0 N0 : Nat} {r : Int32} {μ' : vg_M} (Z : vg_Z D cy H0 p s m args c cX11_answer RX11 meth 3 (some .int) R 12 C0 N0 "answer")    (μ : vg_M) : vg_S p l e R s m args below meth c D cy H0 C0 N0 3 (MQ below (vg_Qc D cy H0 μ' (some (.int r))) args s C0 N0 (vg_fr H0)) r μ' (fX11_answer_45   μ) μ [] [] 45 := by
  intro cn nn H locs cells slots ls hf hH hL hC hN hl
  obtain ⟨X, hml, hr, hlk, hfr, hlo, hRc, hRs, hnm⟩ := id Z
  have hx := X.1
  have hb := X.2.1
  delta fX11_answer_45 at hf
  refine lv_iconst (v := 0) hx hb dX11_answer_45 (by decide) ?_
  exact wX11_answer_46 Z  0 μ _ _ _ _ _ _ _ hf hH hL hC hN (hl.sub [] rfl)
def fX11_answer (v0 : Nat) (v1 : Int32) (v2 : Int32) (μ : vg_M) : vg_R Int32 :=
  vg_o (vg_p μ v0 14 0 (.int 0)) fun μ1 =>
  if v1 < 0 then (
   fX11_answer_45   μ1
   ) else (
   vg_o (vg_gI μ1 v0 14 27) fun x2 =>
   if x2 ≤ v1 then (
    fX11_answer_45   μ1
    ) else (
    if v2 < 0 then (
     fX11_answer_45   μ1
     ) else (
     vg_o (vg_gR μ1 v0 14 28) fun x3 =>
     vg_o x3 fun a4 =>
     vg_o (vg_aI μ1 a4 2 v1) fun x5 =>
     if x5 ≤ v2 then (
      fX11_answer_45   μ1
      ) else (
      vg_o (vg_gR μ1 v0 14 29) fun x6 =>
      vg_o x6 fun a7 =>
      vg_o (vg_aI μ1 a7 0 ((54 * v1) + v2)) fun x8 =>
      fX11_answer_46  x8 μ1
      )
     )
    )
   )
set_option maxHeartbeats 4000000 in
set_option maxRecDepth 100000 in
theorem cX11_answer_met {l : Launch} {D : va_G} {cy : Nat → ClassId} {H0 : Heap} {r : Int32} {μ μ' : vg_M} {cn nn : Nat} {v0 : Nat} {v1 : Int32} {v2 : Int32} (hf : fX11_answer v0 v1 v2 μ = some (r, μ', cn, nn)) : vg_Met l D cy H0 yX11_answer cX11_answer 3 (some .int) 12 μ [.ref v0, .int v1, .int v2] (some (.int r)) μ' cn nn := by
  refine vg_start (by decide +kernel) (List.forall_mem_cons.mpr ⟨rfl, (List.forall_mem_cons.mpr ⟨rfl, (List.forall_mem_cons.mpr ⟨rfl, (fun _ h => nomatch h)⟩)⟩)⟩) (Nat.le_of_ble_eq_true rfl) ?_
  intro p e s m below meth c ls X hml hr hlk hnm hH hl
  have hl : vg_l ls 3 [(0, .ref v0), (1, .int v1), (2, .int v2)] := hl
  have Z : vg_Z D cy H0 p s m _ c cX11_answer RX11 meth 3 (some .int) (vg_rm 12 cn nn) 12 cn nn _ := ⟨X, hml, hr, hlk, Nat.le_refl _, Nat.le_refl _, Nat.le_refl _, Nat.le_refl _, hnm⟩
  obtain ⟨-, -, -, -, hfr, hlo, hRc, hRs, -⟩ := id Z
  have hx := X.1
  have hb := X.2.1
  have hL : ∀ z ∈ ([] : List Loc), H0.size ≤ z.base := fun _ h => nomatch h
  have hC : 0 + cn = cn := Nat.zero_add _
  have hN : 0 + nn = nn := Nat.zero_add _
  delta fX11_answer at hf
  refine lv_aload_n hx hb dX11_answer_0 rfl (lv_at hl.1 0 rfl) ?_
  refine lv_iconst (v := 0) hx hb dX11_answer_1 (by decide) ?_
  refine vg_putV X hH hL fF_X11_103 rfl rfl dX11_answer_2 hf (fun μ1 H locs hf hH hL => ?_)
  refine lv_iload_n hx hb dX11_answer_5 rfl (lv_at hl.1 1 rfl) ?_
  refine lv_if_lt (tgt := 45) hx hb dX11_answer_6 (by decide) (fun h8 => ?_) (fun h8 => ?_)
  · have hf := vg_ip h8 hf
    exact wX11_answer_45 Z   μ1 _ _ _ _ _ _ _ hf hH hL hC hN (hl.sub [] rfl)
  · have hf := vg_if h8 hf
    refine lv_iload_n hx hb dX11_answer_9 rfl (lv_at hl.1 1 rfl) ?_
    refine lv_aload_n hx hb dX11_answer_10 rfl (lv_at hl.1 0 rfl) ?_
    refine vg_getI X hH fF_X11_219 dX11_answer_11 hf (fun x2 hf => ?_)
    refine lv_icmp_ge (tgt := 45) hx hb dX11_answer_14 (by decide) (fun h8 => ?_) (fun h8 => ?_)
    · have hf := vg_ip h8 hf
      exact wX11_answer_45 Z   μ1 _ _ _ _ _ _ _ hf hH hL hC hN (hl.sub [] rfl)
    · have hf := vg_if h8 hf
      refine lv_iload_n hx hb dX11_answer_17 rfl (lv_at hl.1 2 rfl) ?_
      refine lv_if_lt (tgt := 45) hx hb dX11_answer_18 (by decide) (fun h8 => ?_) (fun h8 => ?_)
      · have hf := vg_ip h8 hf
        exact wX11_answer_45 Z   μ1 _ _ _ _ _ _ _ hf hH hL hC hN (hl.sub [] rfl)
      · have hf := vg_if h8 hf
        refine lv_iload_n hx hb dX11_answer_21 rfl (lv_at hl.1 2 rfl) ?_
        refine lv_aload_n hx hb dX11_answer_22 rfl (lv_at hl.1 0 rfl) ?_
        refine vg_getR X hH fF_X11_73 dX11_answer_23 hf (fun x3 hf => ?_)
        refine lv_iload_n hx hb dX11_answer_26 rfl (lv_at hl.1 1 rfl) ?_
        obtain ⟨a4, h9, hg⟩ := vg_o_inv hf
        clear hf
        subst h9
        have hf := hg
        clear hg
        refine vg_iald X hH dX11_answer_27 hf (fun x5 hf => ?_)
        refine lv_icmp_ge (tgt := 45) hx hb dX11_answer_28 (by decide) (fun h8 => ?_) (fun h8 => ?_)
        · have hf := vg_ip h8 hf
          exact wX11_answer_45 Z   μ1 _ _ _ _ _ _ _ hf hH hL hC hN (hl.sub [] rfl)
        · have hf := vg_if h8 hf
          refine lv_aload_n hx hb dX11_answer_31 rfl (lv_at hl.1 0 rfl) ?_
          refine vg_getR X hH fF_X11_76 dX11_answer_32 hf (fun x6 hf => ?_)
          refine lv_bipush (v := 54) hx hb dX11_answer_35 (by decide) ?_
          refine lv_iload_n hx hb dX11_answer_37 rfl (lv_at hl.1 1 rfl) ?_
          refine lv_imul hx hb dX11_answer_38 ?_
          refine lv_iload_n hx hb dX11_answer_39 rfl (lv_at hl.1 2 rfl) ?_
          refine lv_iadd hx hb dX11_answer_40 ?_
          obtain ⟨a7, h9, hg⟩ := vg_o_inv hf
          clear hf
          subst h9
          have hf := hg
          clear hg
          refine vg_bald X hH dX11_answer_41 hf (fun x8 hf => ?_)
          refine lv_goto (tgt := 46) hx hb dX11_answer_42 (by decide) ?_
          exact wX11_answer_46 Z  x8 μ1 _ _ _ _ _ _ _ hf hH hL hC hN (hl.sub [] rfl)
def fX11_isNamed_19  : Nat → Nat → Int32 → Int32 → Int32 → vg_M → vg_R Int32
  | 0, _, _, _, _, _ => none
  | n + 1, v0, v1, v2, v3, μ =>
    vg_o (vg_gR μ v0 14 8) fun x1 =>
    vg_o x1 fun a2 =>
    vg_o (vg_aI μ a2 2 v1) fun x3 =>
    if x3 ≤ v3 then (
     vg_o (vg_z .boolean 1) fun z => vg_ret z μ
     ) else (
     vg_o (vg_gR μ v0 14 12) fun x4 =>
     vg_o x4 fun a5 =>
     vg_o (vg_aI μ a5 0 ((8 * v1) + v3)) fun x6 =>
     vg_o (vg_gR μ v0 14 1) fun x7 =>
     vg_o (vg_gR μ v0 14 4) fun x8 =>
     vg_o x8 fun a9 =>
     vg_o (vg_aI μ a9 2 v2) fun x10 =>
     vg_o x7 fun a11 =>
     vg_o (vg_aI μ a11 0 (x10 + v3)) fun x12 =>
     if x6 = x12 then (
      (fX11_isNamed_19  n) v0 v1 v2 (v3 + 1) μ
      ) else (
      vg_o (vg_z .boolean 0) fun z => vg_ret z μ
      )
     )
set_option maxHeartbeats 4000000 in
set_option maxRecDepth 100000 in
theorem wX11_isNamed_19 {p : Program} {l : Launch} {e : Env} {R : Room} {s : State} {m : MethodId} {args : Array Value} {below : List Frame} {meth : Method} {c : Code} {D : va_G} {cy : Nat → ClassId} {H0 : Heap} {C0 N0 : Nat} {r : Int32} {μ' : vg_M} (Z : vg_Z D cy H0 p s m args c cX11_isNamed RX11 meth 4 (some .boolean) R 12 C0 N0 "isNamed")   : ∀ (n : Nat) (v0 : Nat) (v1 : Int32) (v2 : Int32) (v3 : Int32) (μ : vg_M), vg_S p l e R s m args below meth c D cy H0 C0 N0 4 (MQ below (vg_Qc D cy H0 μ' (some (.int r))) args s C0 N0 (vg_fr H0)) r μ' (fX11_isNamed_19  n v0 v1 v2 v3 μ) μ [(0, .ref v0), (1, .int v1), (2, .int v2), (3, .int v3)] [] 19 := by
  intro n
  induction n with
  | zero =>
    intro v0 v1 v2 v3 μ cn nn H locs cells slots ls hf
    simp [fX11_isNamed_19] at hf
  | succ n hk19 =>
    intro v0 v1 v2 v3 μ
    intro cn nn H locs cells slots ls hf hH hL hC hN hl
    obtain ⟨X, hml, hr, hlk, hfr, hlo, hRc, hRs, hnm⟩ := id Z
    have hx := X.1
    have hb := X.2.1
    rw [fX11_isNamed_19] at hf
    refine lv_iload_n hx hb dX11_isNamed_19 rfl (lv_at hl.1 3 rfl) ?_
    refine lv_aload_n hx hb dX11_isNamed_20 rfl (lv_at hl.1 0 rfl) ?_
    refine vg_getR X hH fF_X11_26 dX11_isNamed_21 hf (fun x1 hf => ?_)
    refine lv_iload_n hx hb dX11_isNamed_24 rfl (lv_at hl.1 1 rfl) ?_
    obtain ⟨a2, h9, hg⟩ := vg_o_inv hf
    clear hf
    subst h9
    have hf := hg
    clear hg
    refine vg_iald X hH dX11_isNamed_25 hf (fun x3 hf => ?_)
    refine lv_icmp_ge (tgt := 64) hx hb dX11_isNamed_26 (by decide) (fun h8 => ?_) (fun h8 => ?_)
    · have hf := vg_ip h8 hf
      refine lv_iconst (v := 1) hx hb dX11_isNamed_64 (by decide) ?_
      exact vg_retz X (by simp) hr hlk hH hL dX11_isNamed_65 hf hC hN
    · have hf := vg_if h8 hf
      refine lv_aload_n hx hb dX11_isNamed_29 rfl (lv_at hl.1 0 rfl) ?_
      refine vg_getR X hH fF_X11_39 dX11_isNamed_30 hf (fun x4 hf => ?_)
      refine lv_bipush (v := 8) hx hb dX11_isNamed_33 (by decide) ?_
      refine lv_iload_n hx hb dX11_isNamed_35 rfl (lv_at hl.1 1 rfl) ?_
      refine lv_imul hx hb dX11_isNamed_36 ?_
      refine lv_iload_n hx hb dX11_isNamed_37 rfl (lv_at hl.1 3 rfl) ?_
      refine lv_iadd hx hb dX11_isNamed_38 ?_
      obtain ⟨a5, h9, hg⟩ := vg_o_inv hf
      clear hf
      subst h9
      have hf := hg
      clear hg
      refine vg_bald X hH dX11_isNamed_39 hf (fun x6 hf => ?_)
      refine lv_aload_n hx hb dX11_isNamed_40 rfl (lv_at hl.1 0 rfl) ?_
      refine vg_getR X hH fF_X11_7 dX11_isNamed_41 hf (fun x7 hf => ?_)
      refine lv_aload_n hx hb dX11_isNamed_44 rfl (lv_at hl.1 0 rfl) ?_
      refine vg_getR X hH fF_X11_13 dX11_isNamed_45 hf (fun x8 hf => ?_)
      refine lv_iload_n hx hb dX11_isNamed_48 rfl (lv_at hl.1 2 rfl) ?_
      obtain ⟨a9, h9, hg⟩ := vg_o_inv hf
      clear hf
      subst h9
      have hf := hg
      clear hg
      refine vg_iald X hH dX11_isNamed_49 hf (fun x10 hf => ?_)
      refine lv_iload_n hx hb dX11_isNamed_50 rfl (lv_at hl.1 3 rfl) ?_
      refine lv_iadd hx hb dX11_isNamed_51 ?_
      obtain ⟨a11, h9, hg⟩ := vg_o_inv hf
      clear hf
      subst h9
      have hf := hg
      clear hg
      refine vg_bald X hH dX11_isNamed_52 hf (fun x12 hf => ?_)
      refine lv_icmp_eq (tgt := 58) hx hb dX11_isNamed_53 (by decide) (fun h8 => ?_) (fun h8 => ?_)
      · have hf := vg_ip h8 hf
        refine vg_iinc (v := v3 + 1) (lv' := [(3, .int (v3 + 1)), (0, .ref v0), (1, .int v1), (2, .int v2)]) hx hb dX11_isNamed_58 hl (k := 3) rfl rfl (by decide) rfl (fun ls hl => ?_)
        refine lv_goto (tgt := 19) hx hb dX11_isNamed_61 (by decide) ?_
        exact hk19 v0 v1 v2 (v3 + 1) μ _ _ _ _ _ _ _ hf hH hL hC hN (hl.sub [1, 2, 3, 0] rfl)
      · have hf := vg_if h8 hf
        refine lv_iconst (v := 0) hx hb dX11_isNamed_56 (by decide) ?_
        exact vg_retz X (by simp) hr hlk hH hL dX11_isNamed_57 hf hC hN
def fX11_isNamed (v0 : Nat) (v1 : Int32) (v2 : Int32) (μ : vg_M) : vg_R Int32 :=
  vg_o (vg_gR μ v0 14 8) fun x13 =>
  vg_o x13 fun a14 =>
  vg_o (vg_aI μ a14 2 v1) fun x15 =>
  vg_o (vg_gR μ v0 14 5) fun x16 =>
  vg_o x16 fun a17 =>
  vg_o (vg_aI μ a17 2 v2) fun x18 =>
  if x15 = x18 then (
   fX11_isNamed_19  vg_fuel v0 v1 v2 0 μ
   ) else (
   vg_o (vg_z .boolean 0) fun z => vg_ret z μ
   )
set_option maxHeartbeats 4000000 in
set_option maxRecDepth 100000 in
theorem cX11_isNamed_met {l : Launch} {D : va_G} {cy : Nat → ClassId} {H0 : Heap} {r : Int32} {μ μ' : vg_M} {cn nn : Nat} {v0 : Nat} {v1 : Int32} {v2 : Int32} (hf : fX11_isNamed v0 v1 v2 μ = some (r, μ', cn, nn)) : vg_Met l D cy H0 yX11_isNamed cX11_isNamed 4 (some .boolean) 12 μ [.ref v0, .int v1, .int v2] (some (.int r)) μ' cn nn := by
  refine vg_start (by decide +kernel) (List.forall_mem_cons.mpr ⟨rfl, (List.forall_mem_cons.mpr ⟨rfl, (List.forall_mem_cons.mpr ⟨rfl, (fun _ h => nomatch h)⟩)⟩)⟩) (Nat.le_of_ble_eq_true rfl) ?_
  intro p e s m below meth c ls X hml hr hlk hnm hH hl
  have hl : vg_l ls 4 [(0, .ref v0), (1, .int v1), (2, .int v2)] := hl
  have Z : vg_Z D cy H0 p s m _ c cX11_isNamed RX11 meth 4 (some .boolean) (vg_rm 12 cn nn) 12 cn nn _ := ⟨X, hml, hr, hlk, Nat.le_refl _, Nat.le_refl _, Nat.le_refl _, Nat.le_refl _, hnm⟩
  obtain ⟨-, -, -, -, hfr, hlo, hRc, hRs, -⟩ := id Z
  have hx := X.1
  have hb := X.2.1
  have hL : ∀ z ∈ ([] : List Loc), H0.size ≤ z.base := fun _ h => nomatch h
  have hC : 0 + cn = cn := Nat.zero_add _
  have hN : 0 + nn = nn := Nat.zero_add _
  delta fX11_isNamed at hf
  refine lv_aload_n hx hb dX11_isNamed_0 rfl (lv_at hl.1 0 rfl) ?_
  refine vg_getR X hH fF_X11_26 dX11_isNamed_1 hf (fun x13 hf => ?_)
  refine lv_iload_n hx hb dX11_isNamed_4 rfl (lv_at hl.1 1 rfl) ?_
  obtain ⟨a14, h9, hg⟩ := vg_o_inv hf
  clear hf
  subst h9
  have hf := hg
  clear hg
  refine vg_iald X hH dX11_isNamed_5 hf (fun x15 hf => ?_)
  refine lv_aload_n hx hb dX11_isNamed_6 rfl (lv_at hl.1 0 rfl) ?_
  refine vg_getR X hH fF_X11_17 dX11_isNamed_7 hf (fun x16 hf => ?_)
  refine lv_iload_n hx hb dX11_isNamed_10 rfl (lv_at hl.1 2 rfl) ?_
  obtain ⟨a17, h9, hg⟩ := vg_o_inv hf
  clear hf
  subst h9
  have hf := hg
  clear hg
  refine vg_iald X hH dX11_isNamed_11 hf (fun x18 hf => ?_)
  refine lv_icmp_eq (tgt := 17) hx hb dX11_isNamed_12 (by decide) (fun h8 => ?_) (fun h8 => ?_)
  · have hf := vg_ip h8 hf
    refine lv_iconst (v := 0) hx hb dX11_isNamed_17 (by decide) ?_
    refine vg_istore_n (lv' := [(3, .int 0), (0, .ref v0), (1, .int v1), (2, .int v2)]) hx hb dX11_isNamed_18 rfl hl (by decide) rfl (fun ls hl => ?_)
    exact wX11_isNamed_19 Z  vg_fuel v0 v1 v2 0 μ _ _ _ _ _ _ _ hf hH hL hC hN (hl.sub [1, 2, 3, 0] rfl)
  · have hf := vg_if h8 hf
    refine lv_iconst (v := 0) hx hb dX11_isNamed_15 (by decide) ?_
    exact vg_retz X (by simp) hr hlk hH hL dX11_isNamed_16 hf hC hN
def fX11_child_38 (q2 : Nat → Int32 → Int32 → Int32 → vg_M → vg_R Int32) (v0 : Nat) (v1 : Int32) (v2 : Int32) (v3 : Int32) (μ : vg_M) : vg_R Int32 :=
  q2 v0 v1 v2 (v3 + 1) μ
set_option maxHeartbeats 4000000 in
set_option maxRecDepth 100000 in
theorem wX11_child_38 {p : Program} {l : Launch} {e : Env} {R : Room} {s : State} {m : MethodId} {args : Array Value} {below : List Frame} {meth : Method} {c : Code} {D : va_G} {cy : Nat → ClassId} {H0 : Heap} {C0 N0 : Nat} {r : Int32} {μ' : vg_M} (Z : vg_Z D cy H0 p s m args c cX11_child RX11 meth 4 (some .int) R 13 C0 N0 "child") {q2 : Nat → Int32 → Int32 → Int32 → vg_M → vg_R Int32} (hk2 : ∀ (v0 : Nat) (v1 : Int32) (v2 : Int32) (v3 : Int32) (μ : vg_M), vg_S p l e R s m args below meth c D cy H0 C0 N0 4 (MQ below (vg_Qc D cy H0 μ' (some (.int r))) args s C0 N0 (vg_fr H0)) r μ' (q2 v0 v1 v2 v3 μ) μ [(0, .ref v0), (1, .int v1), (2, .int v2), (3, .int v3)] [] 2) (v0 : Nat) (v1 : Int32) (v2 : Int32) (v3 : Int32) (μ : vg_M) : vg_S p l e R s m args below meth c D cy H0 C0 N0 4 (MQ below (vg_Qc D cy H0 μ' (some (.int r))) args s C0 N0 (vg_fr H0)) r μ' (fX11_child_38 q2 v0 v1 v2 v3 μ) μ [(0, .ref v0), (1, .int v1), (2, .int v2), (3, .int v3)] [] 38 := by
  intro cn nn H locs cells slots ls hf hH hL hC hN hl
  obtain ⟨X, hml, hr, hlk, hfr, hlo, hRc, hRs, hnm⟩ := id Z
  have hx := X.1
  have hb := X.2.1
  delta fX11_child_38 at hf
  refine vg_iinc (v := v3 + 1) (lv' := [(3, .int (v3 + 1)), (0, .ref v0), (1, .int v1), (2, .int v2)]) hx hb dX11_child_38 hl (k := 3) rfl rfl (by decide) rfl (fun ls hl => ?_)
  refine lv_goto (tgt := 2) hx hb dX11_child_41 (by decide) ?_
  exact hk2 v0 v1 v2 (v3 + 1) μ _ _ _ _ _ _ _ hf hH hL hC hN (hl.sub [1, 2, 3, 0] rfl)
def fX11_child_2  : Nat → Nat → Int32 → Int32 → Int32 → vg_M → vg_R Int32
  | 0, _, _, _, _, _ => none
  | n + 1, v0, v1, v2, v3, μ =>
    if 60 ≤ v3 then (
     vg_ret ((-1)) μ
     ) else (
     vg_o (vg_gR μ v0 14 6) fun x1 =>
     vg_o x1 fun a2 =>
     vg_o (vg_aI μ a2 2 v3) fun x3 =>
     if x3 ≤ 0 then (
      fX11_child_38 (fX11_child_2  n) v0 v1 v2 v3 μ
      ) else (
      vg_o (vg_gR μ v0 14 7) fun x4 =>
      vg_o x4 fun a5 =>
      vg_o (vg_aI μ a5 2 v3) fun x6 =>
      if x6 = v1 then (
       vg_cv 14 v0 μ (fX11_isNamed v0 v3 v2 μ) fun x7 μ8 =>
       if x7 = 0 then (
        fX11_child_38 (fX11_child_2  n) v0 v1 v2 v3 μ8
        ) else (
        vg_ret v3 μ8
        )
       ) else (
       fX11_child_38 (fX11_child_2  n) v0 v1 v2 v3 μ
       )
      )
     )
set_option maxHeartbeats 4000000 in
set_option maxRecDepth 100000 in
theorem wX11_child_2 {p : Program} {l : Launch} {e : Env} {R : Room} {s : State} {m : MethodId} {args : Array Value} {below : List Frame} {meth : Method} {c : Code} {D : va_G} {cy : Nat → ClassId} {H0 : Heap} {C0 N0 : Nat} {r : Int32} {μ' : vg_M} (Z : vg_Z D cy H0 p s m args c cX11_child RX11 meth 4 (some .int) R 13 C0 N0 "child")   : ∀ (n : Nat) (v0 : Nat) (v1 : Int32) (v2 : Int32) (v3 : Int32) (μ : vg_M), vg_S p l e R s m args below meth c D cy H0 C0 N0 4 (MQ below (vg_Qc D cy H0 μ' (some (.int r))) args s C0 N0 (vg_fr H0)) r μ' (fX11_child_2  n v0 v1 v2 v3 μ) μ [(0, .ref v0), (1, .int v1), (2, .int v2), (3, .int v3)] [] 2 := by
  intro n
  induction n with
  | zero =>
    intro v0 v1 v2 v3 μ cn nn H locs cells slots ls hf
    simp [fX11_child_2] at hf
  | succ n hk2 =>
    intro v0 v1 v2 v3 μ
    intro cn nn H locs cells slots ls hf hH hL hC hN hl
    obtain ⟨X, hml, hr, hlk, hfr, hlo, hRc, hRs, hnm⟩ := id Z
    have hx := X.1
    have hb := X.2.1
    rw [fX11_child_2] at hf
    refine lv_iload_n hx hb dX11_child_2 rfl (lv_at hl.1 3 rfl) ?_
    refine lv_bipush (v := 60) hx hb dX11_child_3 (by decide) ?_
    refine lv_icmp_ge (tgt := 44) hx hb dX11_child_5 (by decide) (fun h8 => ?_) (fun h8 => ?_)
    · have hf := vg_ip h8 hf
      refine lv_iconst (v := (-1)) hx hb dX11_child_44 (by decide) ?_
      exact vg_reti X hr hlk hH hL dX11_child_45 hf hC hN
    · have hf := vg_if h8 hf
      refine lv_aload_n hx hb dX11_child_8 rfl (lv_at hl.1 0 rfl) ?_
      refine vg_getR X hH fF_X11_20 dX11_child_9 hf (fun x1 hf => ?_)
      refine lv_iload_n hx hb dX11_child_12 rfl (lv_at hl.1 3 rfl) ?_
      obtain ⟨a2, h9, hg⟩ := vg_o_inv hf
      clear hf
      subst h9
      have hf := hg
      clear hg
      refine vg_iald X hH dX11_child_13 hf (fun x3 hf => ?_)
      refine lv_if_le (tgt := 38) hx hb dX11_child_14 (by decide) (fun h8 => ?_) (fun h8 => ?_)
      · have hf := vg_ip h8 hf
        exact wX11_child_38 Z hk2 v0 v1 v2 v3 μ _ _ _ _ _ _ _ hf hH hL hC hN (hl.sub [0, 1, 2, 3] rfl)
      · have hf := vg_if h8 hf
        refine lv_aload_n hx hb dX11_child_17 rfl (lv_at hl.1 0 rfl) ?_
        refine vg_getR X hH fF_X11_23 dX11_child_18 hf (fun x4 hf => ?_)
        refine lv_iload_n hx hb dX11_child_21 rfl (lv_at hl.1 3 rfl) ?_
        obtain ⟨a5, h9, hg⟩ := vg_o_inv hf
        clear hf
        subst h9
        have hf := hg
        clear hg
        refine vg_iald X hH dX11_child_22 hf (fun x6 hf => ?_)
        refine lv_iload_n hx hb dX11_child_23 rfl (lv_at hl.1 1 rfl) ?_
        refine lv_icmp_ne (tgt := 38) hx hb dX11_child_24 (by decide) (fun h8 => ?_) (fun h8 => ?_)
        · have hf := vg_if h8 hf
          exact wX11_child_38 Z hk2 v0 v1 v2 v3 μ _ _ _ _ _ _ _ hf hH hL hC hN (hl.sub [0, 1, 2, 3] rfl)
        · have hf := vg_ip h8 hf
          refine lv_aload_n hx hb dX11_child_27 rfl (lv_at hl.1 0 rfl) ?_
          refine lv_iload_n hx hb dX11_child_28 rfl (lv_at hl.1 3 rfl) ?_
          refine lv_iload_n hx hb dX11_child_29 rfl (lv_at hl.1 2 rfl) ?_
          refine vg_callVi (ci := 14) X hml hl hH hL fCV_X11_116 rfl [.int v3, .int v2] rfl rfl (Nat.le_of_ble_eq_true rfl) dX11_child_30 hf hC hN hRc hRs hfr hlo (by decide) (fun _ _ _ _ h => cX11_isNamed_met h) (fun x7 μ8 cn nn H locs cells slots hf hC hN hH hL => ?_)
          refine lv_if_eq (tgt := 38) hx hb dX11_child_33 (by decide) (fun h8 => ?_) (fun h8 => ?_)
          · have hf := vg_ip h8 hf
            exact wX11_child_38 Z hk2 v0 v1 v2 v3 μ8 _ _ _ _ _ _ _ hf hH hL hC hN (hl.sub [0, 1, 2, 3] rfl)
          · have hf := vg_if h8 hf
            refine lv_iload_n hx hb dX11_child_36 rfl (lv_at hl.1 3 rfl) ?_
            exact vg_reti X hr hlk hH hL dX11_child_37 hf hC hN
def fX11_child (v0 : Nat) (v1 : Int32) (v2 : Int32) (μ : vg_M) : vg_R Int32 :=
  fX11_child_2  vg_fuel v0 v1 v2 0 μ
set_option maxHeartbeats 4000000 in
set_option maxRecDepth 100000 in
theorem cX11_child_met {l : Launch} {D : va_G} {cy : Nat → ClassId} {H0 : Heap} {r : Int32} {μ μ' : vg_M} {cn nn : Nat} {v0 : Nat} {v1 : Int32} {v2 : Int32} (hf : fX11_child v0 v1 v2 μ = some (r, μ', cn, nn)) : vg_Met l D cy H0 yX11_child cX11_child 4 (some .int) 13 μ [.ref v0, .int v1, .int v2] (some (.int r)) μ' cn nn := by
  refine vg_start (by decide +kernel) (List.forall_mem_cons.mpr ⟨rfl, (List.forall_mem_cons.mpr ⟨rfl, (List.forall_mem_cons.mpr ⟨rfl, (fun _ h => nomatch h)⟩)⟩)⟩) (Nat.le_of_ble_eq_true rfl) ?_
  intro p e s m below meth c ls X hml hr hlk hnm hH hl
  have hl : vg_l ls 4 [(0, .ref v0), (1, .int v1), (2, .int v2)] := hl
  have Z : vg_Z D cy H0 p s m _ c cX11_child RX11 meth 4 (some .int) (vg_rm 13 cn nn) 13 cn nn _ := ⟨X, hml, hr, hlk, Nat.le_refl _, Nat.le_refl _, Nat.le_refl _, Nat.le_refl _, hnm⟩
  obtain ⟨-, -, -, -, hfr, hlo, hRc, hRs, -⟩ := id Z
  have hx := X.1
  have hb := X.2.1
  have hL : ∀ z ∈ ([] : List Loc), H0.size ≤ z.base := fun _ h => nomatch h
  have hC : 0 + cn = cn := Nat.zero_add _
  have hN : 0 + nn = nn := Nat.zero_add _
  delta fX11_child at hf
  refine lv_iconst (v := 0) hx hb dX11_child_0 (by decide) ?_
  refine vg_istore_n (lv' := [(3, .int 0), (0, .ref v0), (1, .int v1), (2, .int v2)]) hx hb dX11_child_1 rfl hl (by decide) rfl (fun ls hl => ?_)
  exact wX11_child_2 Z  vg_fuel v0 v1 v2 0 μ _ _ _ _ _ _ _ hf hH hL hC hN (hl.sub [1, 2, 3, 0] rfl)
def fX11_go_76 (q10 : Nat → Int32 → Int32 → vg_M → vg_R Int32) (v0 : Nat) (v1 : Int32) (v2 : Int32) (μ : vg_M) : vg_R Int32 :=
  q10 v0 v1 v2 μ
set_option maxHeartbeats 4000000 in
set_option maxRecDepth 100000 in
theorem wX11_go_76 {p : Program} {l : Launch} {e : Env} {R : Room} {s : State} {m : MethodId} {args : Array Value} {below : List Frame} {meth : Method} {c : Code} {D : va_G} {cy : Nat → ClassId} {H0 : Heap} {C0 N0 : Nat} {r : Int32} {μ' : vg_M} (Z : vg_Z D cy H0 p s m args c cX11_go RX11 meth 4 (some .int) R 14 C0 N0 "go") {q10 : Nat → Int32 → Int32 → vg_M → vg_R Int32} (hk10 : ∀ (v0 : Nat) (v1 : Int32) (v2 : Int32) (μ : vg_M), vg_S p l e R s m args below meth c D cy H0 C0 N0 4 (MQ below (vg_Qc D cy H0 μ' (some (.int r))) args s C0 N0 (vg_fr H0)) r μ' (q10 v0 v1 v2 μ) μ [(0, .ref v0), (1, .int v1), (2, .int v2)] [] 10) (v0 : Nat) (v1 : Int32) (v2 : Int32) (μ : vg_M) : vg_S p l e R s m args below meth c D cy H0 C0 N0 4 (MQ below (vg_Qc D cy H0 μ' (some (.int r))) args s C0 N0 (vg_fr H0)) r μ' (fX11_go_76 q10 v0 v1 v2 μ) μ [(0, .ref v0), (1, .int v1), (2, .int v2)] [] 76 := by
  intro cn nn H locs cells slots ls hf hH hL hC hN hl
  obtain ⟨X, hml, hr, hlk, hfr, hlo, hRc, hRs, hnm⟩ := id Z
  have hx := X.1
  have hb := X.2.1
  delta fX11_go_76 at hf
  refine lv_goto (tgt := 10) hx hb dX11_go_76 (by decide) ?_
  exact hk10 v0 v1 v2 μ _ _ _ _ _ _ _ hf hH hL hC hN (hl.sub [0, 1, 2] rfl)
def fX11_go_59 (q10 : Nat → Int32 → Int32 → vg_M → vg_R Int32) (v0 : Nat) (v1 : Int32) (v3 : Int32) (k0 : Int32) (μ : vg_M) : vg_R Int32 :=
  if k0 = 0 then (
   fX11_go_76 q10 v0 v1 k0 μ
   ) else (
   vg_o (vg_gI μ v0 14 36) fun x9 =>
   vg_o (vg_p μ v0 14 36 (.int (x9 + 1))) fun μ10 =>
   fX11_go_76 q10 v0 v3 k0 μ10
   )
set_option maxHeartbeats 4000000 in
set_option maxRecDepth 100000 in
theorem wX11_go_59 {p : Program} {l : Launch} {e : Env} {R : Room} {s : State} {m : MethodId} {args : Array Value} {below : List Frame} {meth : Method} {c : Code} {D : va_G} {cy : Nat → ClassId} {H0 : Heap} {C0 N0 : Nat} {r : Int32} {μ' : vg_M} (Z : vg_Z D cy H0 p s m args c cX11_go RX11 meth 4 (some .int) R 14 C0 N0 "go") {q10 : Nat → Int32 → Int32 → vg_M → vg_R Int32} (hk10 : ∀ (v0 : Nat) (v1 : Int32) (v2 : Int32) (μ : vg_M), vg_S p l e R s m args below meth c D cy H0 C0 N0 4 (MQ below (vg_Qc D cy H0 μ' (some (.int r))) args s C0 N0 (vg_fr H0)) r μ' (q10 v0 v1 v2 μ) μ [(0, .ref v0), (1, .int v1), (2, .int v2)] [] 10) (v0 : Nat) (v1 : Int32) (v3 : Int32) (k0 : Int32) (μ : vg_M) : vg_S p l e R s m args below meth c D cy H0 C0 N0 4 (MQ below (vg_Qc D cy H0 μ' (some (.int r))) args s C0 N0 (vg_fr H0)) r μ' (fX11_go_59 q10 v0 v1 v3 k0 μ) μ [(0, .ref v0), (1, .int v1), (3, .int v3)] [.int k0] 59 := by
  intro cn nn H locs cells slots ls hf hH hL hC hN hl
  obtain ⟨X, hml, hr, hlk, hfr, hlo, hRc, hRs, hnm⟩ := id Z
  have hx := X.1
  have hb := X.2.1
  delta fX11_go_59 at hf
  refine vg_istore_n (lv' := [(2, .int k0), (0, .ref v0), (1, .int v1), (3, .int v3)]) hx hb dX11_go_59 rfl hl (by decide) rfl (fun ls hl => ?_)
  refine lv_iload_n hx hb dX11_go_60 rfl (lv_at hl.1 0 rfl) ?_
  refine lv_if_eq (tgt := 76) hx hb dX11_go_61 (by decide) (fun h8 => ?_) (fun h8 => ?_)
  · have hf := vg_ip h8 hf
    exact wX11_go_76 Z hk10 v0 v1 k0 μ _ _ _ _ _ _ _ hf hH hL hC hN (hl.sub [1, 2, 0] rfl)
  · have hf := vg_if h8 hf
    refine lv_iload_n hx hb dX11_go_64 rfl (lv_at hl.1 3 rfl) ?_
    refine vg_istore_n (lv' := [(1, .int v3), (2, .int k0), (0, .ref v0), (3, .int v3)]) hx hb dX11_go_65 rfl hl (by decide) rfl (fun ls hl => ?_)
    refine lv_aload_n hx hb dX11_go_66 rfl (lv_at hl.1 2 rfl) ?_
    refine lv_dup hx hb dX11_go_67 rfl ?_
    refine vg_getI X hH fF_X11_120 dX11_go_68 hf (fun x9 hf => ?_)
    refine lv_iconst (v := 1) hx hb dX11_go_71 (by decide) ?_
    refine lv_iadd hx hb dX11_go_72 ?_
    refine vg_putV X hH hL fF_X11_120 rfl rfl dX11_go_73 hf (fun μ10 H locs hf hH hL => ?_)
    exact wX11_go_76 Z hk10 v0 v3 k0 μ10 _ _ _ _ _ _ _ hf hH hL hC hN (hl.sub [2, 0, 1] rfl)
def fX11_go_48 (q10 : Nat → Int32 → Int32 → vg_M → vg_R Int32) (v0 : Nat) (v1 : Int32) (k0 : Int32) (μ : vg_M) : vg_R Int32 :=
  if k0 = ((-1)) then (
   fX11_go_59 q10 v0 v1 k0 0 μ
   ) else (
   fX11_go_59 q10 v0 v1 k0 1 μ
   )
set_option maxHeartbeats 4000000 in
set_option maxRecDepth 100000 in
theorem wX11_go_48 {p : Program} {l : Launch} {e : Env} {R : Room} {s : State} {m : MethodId} {args : Array Value} {below : List Frame} {meth : Method} {c : Code} {D : va_G} {cy : Nat → ClassId} {H0 : Heap} {C0 N0 : Nat} {r : Int32} {μ' : vg_M} (Z : vg_Z D cy H0 p s m args c cX11_go RX11 meth 4 (some .int) R 14 C0 N0 "go") {q10 : Nat → Int32 → Int32 → vg_M → vg_R Int32} (hk10 : ∀ (v0 : Nat) (v1 : Int32) (v2 : Int32) (μ : vg_M), vg_S p l e R s m args below meth c D cy H0 C0 N0 4 (MQ below (vg_Qc D cy H0 μ' (some (.int r))) args s C0 N0 (vg_fr H0)) r μ' (q10 v0 v1 v2 μ) μ [(0, .ref v0), (1, .int v1), (2, .int v2)] [] 10) (v0 : Nat) (v1 : Int32) (k0 : Int32) (μ : vg_M) : vg_S p l e R s m args below meth c D cy H0 C0 N0 4 (MQ below (vg_Qc D cy H0 μ' (some (.int r))) args s C0 N0 (vg_fr H0)) r μ' (fX11_go_48 q10 v0 v1 k0 μ) μ [(0, .ref v0), (1, .int v1)] [.int k0] 48 := by
  intro cn nn H locs cells slots ls hf hH hL hC hN hl
  obtain ⟨X, hml, hr, hlk, hfr, hlo, hRc, hRs, hnm⟩ := id Z
  have hx := X.1
  have hb := X.2.1
  delta fX11_go_48 at hf
  refine vg_istore_n (lv' := [(3, .int k0), (0, .ref v0), (1, .int v1)]) hx hb dX11_go_48 rfl hl (by decide) rfl (fun ls hl => ?_)
  refine lv_iload_n hx hb dX11_go_49 rfl (lv_at hl.1 0 rfl) ?_
  refine lv_iconst (v := (-1)) hx hb dX11_go_50 (by decide) ?_
  refine lv_icmp_eq (tgt := 58) hx hb dX11_go_51 (by decide) (fun h8 => ?_) (fun h8 => ?_)
  · have hf := vg_ip h8 hf
    refine lv_iconst (v := 0) hx hb dX11_go_58 (by decide) ?_
    exact wX11_go_59 Z hk10 v0 v1 k0 0 μ _ _ _ _ _ _ _ hf hH hL hC hN (hl.sub [1, 2, 0] rfl)
  · have hf := vg_if h8 hf
    refine lv_iconst (v := 1) hx hb dX11_go_54 (by decide) ?_
    refine lv_goto (tgt := 59) hx hb dX11_go_55 (by decide) ?_
    exact wX11_go_59 Z hk10 v0 v1 k0 1 μ _ _ _ _ _ _ _ hf hH hL hC hN (hl.sub [1, 2, 0] rfl)
def fX11_go_79  (v1 : Int32) (μ : vg_M) : vg_R Int32 :=
  vg_ret v1 μ
set_option maxHeartbeats 4000000 in
set_option maxRecDepth 100000 in
theorem wX11_go_79 {p : Program} {l : Launch} {e : Env} {R : Room} {s : State} {m : MethodId} {args : Array Value} {below : List Frame} {meth : Method} {c : Code} {D : va_G} {cy : Nat → ClassId} {H0 : Heap} {C0 N0 : Nat} {r : Int32} {μ' : vg_M} (Z : vg_Z D cy H0 p s m args c cX11_go RX11 meth 4 (some .int) R 14 C0 N0 "go")   (v1 : Int32) (μ : vg_M) : vg_S p l e R s m args below meth c D cy H0 C0 N0 4 (MQ below (vg_Qc D cy H0 μ' (some (.int r))) args s C0 N0 (vg_fr H0)) r μ' (fX11_go_79  v1 μ) μ [(1, .int v1)] [] 79 := by
  intro cn nn H locs cells slots ls hf hH hL hC hN hl
  obtain ⟨X, hml, hr, hlk, hfr, hlo, hRc, hRs, hnm⟩ := id Z
  have hx := X.1
  have hb := X.2.1
  delta fX11_go_79 at hf
  refine lv_iload_n hx hb dX11_go_79 rfl (lv_at hl.1 0 rfl) ?_
  exact vg_reti X hr hlk hH hL dX11_go_80 hf hC hN
def fX11_go_10  : Nat → Nat → Int32 → Int32 → vg_M → vg_R Int32
  | 0, _, _, _, _ => none
  | n + 1, v0, v1, v2, μ =>
    if v2 = 0 then (
     fX11_go_79  v1 μ
     ) else (
     vg_o (vg_gI μ v0 14 36) fun x1 =>
     vg_o (vg_gI μ v0 14 3) fun x2 =>
     if x2 ≤ x1 then (
      fX11_go_79  v1 μ
      ) else (
      vg_o (vg_gR μ v0 14 6) fun x3 =>
      vg_o x3 fun a4 =>
      vg_o (vg_aI μ a4 2 v1) fun x5 =>
      if x5 = 2 then (
       vg_o (vg_gI μ v0 14 36) fun x6 =>
       vg_cv 14 v0 μ (fX11_child v0 v1 x6 μ) fun x7 μ8 =>
       fX11_go_48 (fX11_go_10  n) v0 v1 x7 μ8
       ) else (
       fX11_go_48 (fX11_go_10  n) v0 v1 ((-1)) μ
       )
      )
     )
set_option maxHeartbeats 4000000 in
set_option maxRecDepth 100000 in
theorem wX11_go_10 {p : Program} {l : Launch} {e : Env} {R : Room} {s : State} {m : MethodId} {args : Array Value} {below : List Frame} {meth : Method} {c : Code} {D : va_G} {cy : Nat → ClassId} {H0 : Heap} {C0 N0 : Nat} {r : Int32} {μ' : vg_M} (Z : vg_Z D cy H0 p s m args c cX11_go RX11 meth 4 (some .int) R 14 C0 N0 "go")   : ∀ (n : Nat) (v0 : Nat) (v1 : Int32) (v2 : Int32) (μ : vg_M), vg_S p l e R s m args below meth c D cy H0 C0 N0 4 (MQ below (vg_Qc D cy H0 μ' (some (.int r))) args s C0 N0 (vg_fr H0)) r μ' (fX11_go_10  n v0 v1 v2 μ) μ [(0, .ref v0), (1, .int v1), (2, .int v2)] [] 10 := by
  intro n
  induction n with
  | zero =>
    intro v0 v1 v2 μ cn nn H locs cells slots ls hf
    simp [fX11_go_10] at hf
  | succ n hk10 =>
    intro v0 v1 v2 μ
    intro cn nn H locs cells slots ls hf hH hL hC hN hl
    obtain ⟨X, hml, hr, hlk, hfr, hlo, hRc, hRs, hnm⟩ := id Z
    have hx := X.1
    have hb := X.2.1
    rw [fX11_go_10] at hf
    refine lv_iload_n hx hb dX11_go_10 rfl (lv_at hl.1 2 rfl) ?_
    refine lv_if_eq (tgt := 79) hx hb dX11_go_11 (by decide) (fun h8 => ?_) (fun h8 => ?_)
    · have hf := vg_ip h8 hf
      exact wX11_go_79 Z  v1 μ _ _ _ _ _ _ _ hf hH hL hC hN (hl.sub [1] rfl)
    · have hf := vg_if h8 hf
      refine lv_aload_n hx hb dX11_go_14 rfl (lv_at hl.1 0 rfl) ?_
      refine vg_getI X hH fF_X11_120 dX11_go_15 hf (fun x1 hf => ?_)
      refine lv_aload_n hx hb dX11_go_18 rfl (lv_at hl.1 0 rfl) ?_
      refine vg_getI X hH fF_X11_109 dX11_go_19 hf (fun x2 hf => ?_)
      refine lv_icmp_ge (tgt := 79) hx hb dX11_go_22 (by decide) (fun h8 => ?_) (fun h8 => ?_)
      · have hf := vg_ip h8 hf
        exact wX11_go_79 Z  v1 μ _ _ _ _ _ _ _ hf hH hL hC hN (hl.sub [1] rfl)
      · have hf := vg_if h8 hf
        refine lv_aload_n hx hb dX11_go_25 rfl (lv_at hl.1 0 rfl) ?_
        refine vg_getR X hH fF_X11_20 dX11_go_26 hf (fun x3 hf => ?_)
        refine lv_iload_n hx hb dX11_go_29 rfl (lv_at hl.1 1 rfl) ?_
        obtain ⟨a4, h9, hg⟩ := vg_o_inv hf
        clear hf
        subst h9
        have hf := hg
        clear hg
        refine vg_iald X hH dX11_go_30 hf (fun x5 hf => ?_)
        refine lv_iconst (v := 2) hx hb dX11_go_31 (by decide) ?_
        refine lv_icmp_ne (tgt := 47) hx hb dX11_go_32 (by decide) (fun h8 => ?_) (fun h8 => ?_)
        · have hf := vg_if h8 hf
          refine lv_iconst (v := (-1)) hx hb dX11_go_47 (by decide) ?_
          exact wX11_go_48 Z hk10 v0 v1 ((-1)) μ _ _ _ _ _ _ _ hf hH hL hC hN (hl.sub [0, 1] rfl)
        · have hf := vg_ip h8 hf
          refine lv_aload_n hx hb dX11_go_35 rfl (lv_at hl.1 0 rfl) ?_
          refine lv_iload_n hx hb dX11_go_36 rfl (lv_at hl.1 1 rfl) ?_
          refine lv_aload_n hx hb dX11_go_37 rfl (lv_at hl.1 0 rfl) ?_
          refine vg_getI X hH fF_X11_120 dX11_go_38 hf (fun x6 hf => ?_)
          refine vg_callVi (ci := 14) X hml hl hH hL fCV_X11_123 rfl [.int v1, .int x6] rfl rfl (Nat.le_of_ble_eq_true rfl) dX11_go_41 hf hC hN hRc hRs hfr hlo (by decide) (fun _ _ _ _ h => cX11_child_met h) (fun x7 μ8 cn nn H locs cells slots hf hC hN hH hL => ?_)
          refine lv_goto (tgt := 48) hx hb dX11_go_44 (by decide) ?_
          exact wX11_go_48 Z hk10 v0 v1 x7 μ8 _ _ _ _ _ _ _ hf hH hL hC hN (hl.sub [0, 1] rfl)
def fX11_go (v0 : Nat) (μ : vg_M) : vg_R Int32 :=
  vg_o (vg_p μ v0 14 36 (.int 0)) fun μ11 =>
  fX11_go_10  vg_fuel v0 60 1 μ11
set_option maxHeartbeats 4000000 in
set_option maxRecDepth 100000 in
theorem cX11_go_met {l : Launch} {D : va_G} {cy : Nat → ClassId} {H0 : Heap} {r : Int32} {μ μ' : vg_M} {cn nn : Nat} {v0 : Nat} (hf : fX11_go v0 μ = some (r, μ', cn, nn)) : vg_Met l D cy H0 yX11_go cX11_go 4 (some .int) 14 μ [.ref v0] (some (.int r)) μ' cn nn := by
  refine vg_start (by decide +kernel) (List.forall_mem_cons.mpr ⟨rfl, (fun _ h => nomatch h)⟩) (Nat.le_of_ble_eq_true rfl) ?_
  intro p e s m below meth c ls X hml hr hlk hnm hH hl
  have hl : vg_l ls 4 [(0, .ref v0)] := hl
  have Z : vg_Z D cy H0 p s m _ c cX11_go RX11 meth 4 (some .int) (vg_rm 14 cn nn) 14 cn nn _ := ⟨X, hml, hr, hlk, Nat.le_refl _, Nat.le_refl _, Nat.le_refl _, Nat.le_refl _, hnm⟩
  obtain ⟨-, -, -, -, hfr, hlo, hRc, hRs, -⟩ := id Z
  have hx := X.1
  have hb := X.2.1
  have hL : ∀ z ∈ ([] : List Loc), H0.size ≤ z.base := fun _ h => nomatch h
  have hC : 0 + cn = cn := Nat.zero_add _
  have hN : 0 + nn = nn := Nat.zero_add _
  delta fX11_go at hf
  refine lv_bipush (v := 60) hx hb dX11_go_0 (by decide) ?_
  refine vg_istore_n (lv' := [(1, .int 60), (0, .ref v0)]) hx hb dX11_go_2 rfl hl (by decide) rfl (fun ls hl => ?_)
  refine lv_aload_n hx hb dX11_go_3 rfl (lv_at hl.1 1 rfl) ?_
  refine lv_iconst (v := 0) hx hb dX11_go_4 (by decide) ?_
  refine vg_putV X hH hL fF_X11_120 rfl rfl dX11_go_5 hf (fun μ11 H locs hf hH hL => ?_)
  refine lv_iconst (v := 1) hx hb dX11_go_8 (by decide) ?_
  refine vg_istore_n (lv' := [(2, .int 1), (1, .int 60), (0, .ref v0)]) hx hb dX11_go_9 rfl hl (by decide) rfl (fun ls hl => ?_)
  exact wX11_go_10 Z  vg_fuel v0 60 1 μ11 _ _ _ _ _ _ _ hf hH hL hC hN (hl.sub [2, 1, 0] rfl)
def fX11_isSign_53  (k0 : Int32) (μ : vg_M) : vg_R Int32 :=
  vg_o (vg_z .boolean k0) fun z => vg_ret z μ
set_option maxHeartbeats 4000000 in
set_option maxRecDepth 100000 in
theorem wX11_isSign_53 {p : Program} {l : Launch} {e : Env} {R : Room} {s : State} {m : MethodId} {args : Array Value} {below : List Frame} {meth : Method} {c : Code} {D : va_G} {cy : Nat → ClassId} {H0 : Heap} {C0 N0 : Nat} {r : Int32} {μ' : vg_M} (Z : vg_Z D cy H0 p s m args c cX11_isSign RX11 meth 1 (some .boolean) R 12 C0 N0 "isSign")   (k0 : Int32) (μ : vg_M) : vg_S p l e R s m args below meth c D cy H0 C0 N0 1 (MQ below (vg_Qc D cy H0 μ' (some (.int r))) args s C0 N0 (vg_fr H0)) r μ' (fX11_isSign_53  k0 μ) μ [] [.int k0] 53 := by
  intro cn nn H locs cells slots ls hf hH hL hC hN hl
  obtain ⟨X, hml, hr, hlk, hfr, hlo, hRc, hRs, hnm⟩ := id Z
  have hx := X.1
  have hb := X.2.1
  delta fX11_isSign_53 at hf
  exact vg_retz X (by simp) hr hlk hH hL dX11_isSign_53 hf hC hN
def fX11_isSign_48   (μ : vg_M) : vg_R Int32 :=
  fX11_isSign_53  1 μ
set_option maxHeartbeats 4000000 in
set_option maxRecDepth 100000 in
theorem wX11_isSign_48 {p : Program} {l : Launch} {e : Env} {R : Room} {s : State} {m : MethodId} {args : Array Value} {below : List Frame} {meth : Method} {c : Code} {D : va_G} {cy : Nat → ClassId} {H0 : Heap} {C0 N0 : Nat} {r : Int32} {μ' : vg_M} (Z : vg_Z D cy H0 p s m args c cX11_isSign RX11 meth 1 (some .boolean) R 12 C0 N0 "isSign")    (μ : vg_M) : vg_S p l e R s m args below meth c D cy H0 C0 N0 1 (MQ below (vg_Qc D cy H0 μ' (some (.int r))) args s C0 N0 (vg_fr H0)) r μ' (fX11_isSign_48   μ) μ [] [] 48 := by
  intro cn nn H locs cells slots ls hf hH hL hC hN hl
  obtain ⟨X, hml, hr, hlk, hfr, hlo, hRc, hRs, hnm⟩ := id Z
  have hx := X.1
  have hb := X.2.1
  delta fX11_isSign_48 at hf
  refine lv_iconst (v := 1) hx hb dX11_isSign_48 (by decide) ?_
  refine lv_goto (tgt := 53) hx hb dX11_isSign_49 (by decide) ?_
  exact wX11_isSign_53 Z  1 μ _ _ _ _ _ _ _ hf hH hL hC hN (hl.sub [] rfl)
def fX11_isSign_36  (v0 : Int32) (μ : vg_M) : vg_R Int32 :=
  if v0 = 46 then (
   fX11_isSign_48   μ
   ) else (
   if v0 = 95 then (
    fX11_isSign_48   μ
    ) else (
    fX11_isSign_53  0 μ
    )
   )
set_option maxHeartbeats 4000000 in
set_option maxRecDepth 100000 in
theorem wX11_isSign_36 {p : Program} {l : Launch} {e : Env} {R : Room} {s : State} {m : MethodId} {args : Array Value} {below : List Frame} {meth : Method} {c : Code} {D : va_G} {cy : Nat → ClassId} {H0 : Heap} {C0 N0 : Nat} {r : Int32} {μ' : vg_M} (Z : vg_Z D cy H0 p s m args c cX11_isSign RX11 meth 1 (some .boolean) R 12 C0 N0 "isSign")   (v0 : Int32) (μ : vg_M) : vg_S p l e R s m args below meth c D cy H0 C0 N0 1 (MQ below (vg_Qc D cy H0 μ' (some (.int r))) args s C0 N0 (vg_fr H0)) r μ' (fX11_isSign_36  v0 μ) μ [(0, .int v0)] [] 36 := by
  intro cn nn H locs cells slots ls hf hH hL hC hN hl
  obtain ⟨X, hml, hr, hlk, hfr, hlo, hRc, hRs, hnm⟩ := id Z
  have hx := X.1
  have hb := X.2.1
  delta fX11_isSign_36 at hf
  refine lv_iload_n hx hb dX11_isSign_36 rfl (lv_at hl.1 0 rfl) ?_
  refine lv_bipush (v := 46) hx hb dX11_isSign_37 (by decide) ?_
  refine lv_icmp_eq (tgt := 48) hx hb dX11_isSign_39 (by decide) (fun h8 => ?_) (fun h8 => ?_)
  · have hf := vg_ip h8 hf
    exact wX11_isSign_48 Z   μ _ _ _ _ _ _ _ hf hH hL hC hN (hl.sub [] rfl)
  · have hf := vg_if h8 hf
    refine lv_iload_n hx hb dX11_isSign_42 rfl (lv_at hl.1 0 rfl) ?_
    refine lv_bipush (v := 95) hx hb dX11_isSign_43 (by decide) ?_
    refine lv_icmp_ne (tgt := 52) hx hb dX11_isSign_45 (by decide) (fun h8 => ?_) (fun h8 => ?_)
    · have hf := vg_if h8 hf
      refine lv_iconst (v := 0) hx hb dX11_isSign_52 (by decide) ?_
      exact wX11_isSign_53 Z  0 μ _ _ _ _ _ _ _ hf hH hL hC hN (hl.sub [] rfl)
    · have hf := vg_ip h8 hf
      exact wX11_isSign_48 Z   μ _ _ _ _ _ _ _ hf hH hL hC hN (hl.sub [] rfl)
def fX11_isSign_24  (v0 : Int32) (μ : vg_M) : vg_R Int32 :=
  if v0 < 48 then (
   fX11_isSign_36  v0 μ
   ) else (
   if v0 ≤ 57 then (
    fX11_isSign_48   μ
    ) else (
    fX11_isSign_36  v0 μ
    )
   )
set_option maxHeartbeats 4000000 in
set_option maxRecDepth 100000 in
theorem wX11_isSign_24 {p : Program} {l : Launch} {e : Env} {R : Room} {s : State} {m : MethodId} {args : Array Value} {below : List Frame} {meth : Method} {c : Code} {D : va_G} {cy : Nat → ClassId} {H0 : Heap} {C0 N0 : Nat} {r : Int32} {μ' : vg_M} (Z : vg_Z D cy H0 p s m args c cX11_isSign RX11 meth 1 (some .boolean) R 12 C0 N0 "isSign")   (v0 : Int32) (μ : vg_M) : vg_S p l e R s m args below meth c D cy H0 C0 N0 1 (MQ below (vg_Qc D cy H0 μ' (some (.int r))) args s C0 N0 (vg_fr H0)) r μ' (fX11_isSign_24  v0 μ) μ [(0, .int v0)] [] 24 := by
  intro cn nn H locs cells slots ls hf hH hL hC hN hl
  obtain ⟨X, hml, hr, hlk, hfr, hlo, hRc, hRs, hnm⟩ := id Z
  have hx := X.1
  have hb := X.2.1
  delta fX11_isSign_24 at hf
  refine lv_iload_n hx hb dX11_isSign_24 rfl (lv_at hl.1 0 rfl) ?_
  refine lv_bipush (v := 48) hx hb dX11_isSign_25 (by decide) ?_
  refine lv_icmp_lt (tgt := 36) hx hb dX11_isSign_27 (by decide) (fun h8 => ?_) (fun h8 => ?_)
  · have hf := vg_ip h8 hf
    exact wX11_isSign_36 Z  v0 μ _ _ _ _ _ _ _ hf hH hL hC hN (hl.sub [0] rfl)
  · have hf := vg_if h8 hf
    refine lv_iload_n hx hb dX11_isSign_30 rfl (lv_at hl.1 0 rfl) ?_
    refine lv_bipush (v := 57) hx hb dX11_isSign_31 (by decide) ?_
    refine lv_icmp_le (tgt := 48) hx hb dX11_isSign_33 (by decide) (fun h8 => ?_) (fun h8 => ?_)
    · have hf := vg_ip h8 hf
      exact wX11_isSign_48 Z   μ _ _ _ _ _ _ _ hf hH hL hC hN (hl.sub [] rfl)
    · have hf := vg_if h8 hf
      exact wX11_isSign_36 Z  v0 μ _ _ _ _ _ _ _ hf hH hL hC hN (hl.sub [0] rfl)
def fX11_isSign_12  (v0 : Int32) (μ : vg_M) : vg_R Int32 :=
  if v0 < 65 then (
   fX11_isSign_24  v0 μ
   ) else (
   if v0 ≤ 90 then (
    fX11_isSign_48   μ
    ) else (
    fX11_isSign_24  v0 μ
    )
   )
set_option maxHeartbeats 4000000 in
set_option maxRecDepth 100000 in
theorem wX11_isSign_12 {p : Program} {l : Launch} {e : Env} {R : Room} {s : State} {m : MethodId} {args : Array Value} {below : List Frame} {meth : Method} {c : Code} {D : va_G} {cy : Nat → ClassId} {H0 : Heap} {C0 N0 : Nat} {r : Int32} {μ' : vg_M} (Z : vg_Z D cy H0 p s m args c cX11_isSign RX11 meth 1 (some .boolean) R 12 C0 N0 "isSign")   (v0 : Int32) (μ : vg_M) : vg_S p l e R s m args below meth c D cy H0 C0 N0 1 (MQ below (vg_Qc D cy H0 μ' (some (.int r))) args s C0 N0 (vg_fr H0)) r μ' (fX11_isSign_12  v0 μ) μ [(0, .int v0)] [] 12 := by
  intro cn nn H locs cells slots ls hf hH hL hC hN hl
  obtain ⟨X, hml, hr, hlk, hfr, hlo, hRc, hRs, hnm⟩ := id Z
  have hx := X.1
  have hb := X.2.1
  delta fX11_isSign_12 at hf
  refine lv_iload_n hx hb dX11_isSign_12 rfl (lv_at hl.1 0 rfl) ?_
  refine lv_bipush (v := 65) hx hb dX11_isSign_13 (by decide) ?_
  refine lv_icmp_lt (tgt := 24) hx hb dX11_isSign_15 (by decide) (fun h8 => ?_) (fun h8 => ?_)
  · have hf := vg_ip h8 hf
    exact wX11_isSign_24 Z  v0 μ _ _ _ _ _ _ _ hf hH hL hC hN (hl.sub [0] rfl)
  · have hf := vg_if h8 hf
    refine lv_iload_n hx hb dX11_isSign_18 rfl (lv_at hl.1 0 rfl) ?_
    refine lv_bipush (v := 90) hx hb dX11_isSign_19 (by decide) ?_
    refine lv_icmp_le (tgt := 48) hx hb dX11_isSign_21 (by decide) (fun h8 => ?_) (fun h8 => ?_)
    · have hf := vg_ip h8 hf
      exact wX11_isSign_48 Z   μ _ _ _ _ _ _ _ hf hH hL hC hN (hl.sub [] rfl)
    · have hf := vg_if h8 hf
      exact wX11_isSign_24 Z  v0 μ _ _ _ _ _ _ _ hf hH hL hC hN (hl.sub [0] rfl)
def fX11_isSign (v0 : Int32) (μ : vg_M) : vg_R Int32 :=
  if v0 < 97 then (
   fX11_isSign_12  v0 μ
   ) else (
   if v0 ≤ 122 then (
    fX11_isSign_48   μ
    ) else (
    fX11_isSign_12  v0 μ
    )
   )
set_option maxHeartbeats 4000000 in
set_option maxRecDepth 100000 in
theorem cX11_isSign_met {l : Launch} {D : va_G} {cy : Nat → ClassId} {H0 : Heap} {r : Int32} {μ μ' : vg_M} {cn nn : Nat} {v0 : Int32} (hf : fX11_isSign v0 μ = some (r, μ', cn, nn)) : vg_Met l D cy H0 yX11_isSign cX11_isSign 1 (some .boolean) 12 μ [.int v0] (some (.int r)) μ' cn nn := by
  refine vg_start (by decide +kernel) (List.forall_mem_cons.mpr ⟨rfl, (fun _ h => nomatch h)⟩) (Nat.le_of_ble_eq_true rfl) ?_
  intro p e s m below meth c ls X hml hr hlk hnm hH hl
  have hl : vg_l ls 1 [(0, .int v0)] := hl
  have Z : vg_Z D cy H0 p s m _ c cX11_isSign RX11 meth 1 (some .boolean) (vg_rm 12 cn nn) 12 cn nn _ := ⟨X, hml, hr, hlk, Nat.le_refl _, Nat.le_refl _, Nat.le_refl _, Nat.le_refl _, hnm⟩
  obtain ⟨-, -, -, -, hfr, hlo, hRc, hRs, -⟩ := id Z
  have hx := X.1
  have hb := X.2.1
  have hL : ∀ z ∈ ([] : List Loc), H0.size ≤ z.base := fun _ h => nomatch h
  have hC : 0 + cn = cn := Nat.zero_add _
  have hN : 0 + nn = nn := Nat.zero_add _
  delta fX11_isSign at hf
  refine lv_iload_n hx hb dX11_isSign_0 rfl (lv_at hl.1 0 rfl) ?_
  refine lv_bipush (v := 97) hx hb dX11_isSign_1 (by decide) ?_
  refine lv_icmp_lt (tgt := 12) hx hb dX11_isSign_3 (by decide) (fun h8 => ?_) (fun h8 => ?_)
  · have hf := vg_ip h8 hf
    exact wX11_isSign_12 Z  v0 μ _ _ _ _ _ _ _ hf hH hL hC hN (hl.sub [0] rfl)
  · have hf := vg_if h8 hf
    refine lv_iload_n hx hb dX11_isSign_6 rfl (lv_at hl.1 0 rfl) ?_
    refine lv_bipush (v := 122) hx hb dX11_isSign_7 (by decide) ?_
    refine lv_icmp_le (tgt := 48) hx hb dX11_isSign_9 (by decide) (fun h8 => ?_) (fun h8 => ?_)
    · have hf := vg_ip h8 hf
      exact wX11_isSign_48 Z   μ _ _ _ _ _ _ _ hf hH hL hC hN (hl.sub [] rfl)
    · have hf := vg_if h8 hf
      exact wX11_isSign_12 Z  v0 μ _ _ _ _ _ _ _ hf hH hL hC hN (hl.sub [0] rfl)
def fX11_isPath_197 (q11 : Nat → Int32 → Int32 → Int32 → vg_M → vg_R Int32) (v0 : Nat) (v1 : Int32) (v2 : Int32) (v3 : Int32) (μ : vg_M) : vg_R Int32 :=
  q11 v0 v1 v2 (v3 + 1) μ
set_option maxHeartbeats 4000000 in
set_option maxRecDepth 100000 in
theorem wX11_isPath_197 {p : Program} {l : Launch} {e : Env} {R : Room} {s : State} {m : MethodId} {args : Array Value} {below : List Frame} {meth : Method} {c : Code} {D : va_G} {cy : Nat → ClassId} {H0 : Heap} {C0 N0 : Nat} {r : Int32} {μ' : vg_M} (Z : vg_Z D cy H0 p s m args c cX11_isPath RX11 meth 7 (some .boolean) R 13 C0 N0 "isPath") {q11 : Nat → Int32 → Int32 → Int32 → vg_M → vg_R Int32} (hk11 : ∀ (v0 : Nat) (v1 : Int32) (v2 : Int32) (v3 : Int32) (μ : vg_M), vg_S p l e R s m args below meth c D cy H0 C0 N0 7 (MQ below (vg_Qc D cy H0 μ' (some (.int r))) args s C0 N0 (vg_fr H0)) r μ' (q11 v0 v1 v2 v3 μ) μ [(0, .ref v0), (1, .int v1), (2, .int v2), (3, .int v3)] [] 11) (v0 : Nat) (v1 : Int32) (v2 : Int32) (v3 : Int32) (μ : vg_M) : vg_S p l e R s m args below meth c D cy H0 C0 N0 7 (MQ below (vg_Qc D cy H0 μ' (some (.int r))) args s C0 N0 (vg_fr H0)) r μ' (fX11_isPath_197 q11 v0 v1 v2 v3 μ) μ [(0, .ref v0), (1, .int v1), (2, .int v2), (3, .int v3)] [] 197 := by
  intro cn nn H locs cells slots ls hf hH hL hC hN hl
  obtain ⟨X, hml, hr, hlk, hfr, hlo, hRc, hRs, hnm⟩ := id Z
  have hx := X.1
  have hb := X.2.1
  delta fX11_isPath_197 at hf
  refine vg_iinc (v := v3 + 1) (lv' := [(3, .int (v3 + 1)), (0, .ref v0), (1, .int v1), (2, .int v2)]) hx hb dX11_isPath_197 hl (k := 3) rfl rfl (by decide) rfl (fun ls hl => ?_)
  refine lv_goto (tgt := 11) hx hb dX11_isPath_200 (by decide) ?_
  exact hk11 v0 v1 v2 (v3 + 1) μ _ _ _ _ _ _ _ hf hH hL hC hN (hl.sub [1, 2, 3, 0] rfl)
def fX11_isPath_180 (q11 : Nat → Int32 → Int32 → Int32 → vg_M → vg_R Int32) (v0 : Nat) (v2 : Int32) (v3 : Int32) (μ : vg_M) : vg_R Int32 :=
  fX11_isPath_197 q11 v0 (v3 + 1) v2 v3 μ
set_option maxHeartbeats 4000000 in
set_option maxRecDepth 100000 in
theorem wX11_isPath_180 {p : Program} {l : Launch} {e : Env} {R : Room} {s : State} {m : MethodId} {args : Array Value} {below : List Frame} {meth : Method} {c : Code} {D : va_G} {cy : Nat → ClassId} {H0 : Heap} {C0 N0 : Nat} {r : Int32} {μ' : vg_M} (Z : vg_Z D cy H0 p s m args c cX11_isPath RX11 meth 7 (some .boolean) R 13 C0 N0 "isPath") {q11 : Nat → Int32 → Int32 → Int32 → vg_M → vg_R Int32} (hk11 : ∀ (v0 : Nat) (v1 : Int32) (v2 : Int32) (v3 : Int32) (μ : vg_M), vg_S p l e R s m args below meth c D cy H0 C0 N0 7 (MQ below (vg_Qc D cy H0 μ' (some (.int r))) args s C0 N0 (vg_fr H0)) r μ' (q11 v0 v1 v2 v3 μ) μ [(0, .ref v0), (1, .int v1), (2, .int v2), (3, .int v3)] [] 11) (v0 : Nat) (v2 : Int32) (v3 : Int32) (μ : vg_M) : vg_S p l e R s m args below meth c D cy H0 C0 N0 7 (MQ below (vg_Qc D cy H0 μ' (some (.int r))) args s C0 N0 (vg_fr H0)) r μ' (fX11_isPath_180 q11 v0 v2 v3 μ) μ [(0, .ref v0), (2, .int v2), (3, .int v3)] [] 180 := by
  intro cn nn H locs cells slots ls hf hH hL hC hN hl
  obtain ⟨X, hml, hr, hlk, hfr, hlo, hRc, hRs, hnm⟩ := id Z
  have hx := X.1
  have hb := X.2.1
  delta fX11_isPath_180 at hf
  refine lv_iload_n hx hb dX11_isPath_180 rfl (lv_at hl.1 2 rfl) ?_
  refine lv_iconst (v := 1) hx hb dX11_isPath_181 (by decide) ?_
  refine lv_iadd hx hb dX11_isPath_182 ?_
  refine vg_istore_n (lv' := [(1, .int (v3 + 1)), (0, .ref v0), (2, .int v2), (3, .int v3)]) hx hb dX11_isPath_183 rfl hl (by decide) rfl (fun ls hl => ?_)
  refine lv_goto (tgt := 197) hx hb dX11_isPath_184 (by decide) ?_
  exact wX11_isPath_197 Z hk11 v0 (v3 + 1) v2 v3 μ _ _ _ _ _ _ _ hf hH hL hC hN (hl.sub [1, 0, 2, 3] rfl)
def fX11_isPath_144 (q11 : Nat → Int32 → Int32 → Int32 → vg_M → vg_R Int32) (v0 : Nat) (v1 : Int32) (v3 : Int32) (v5 : Int32) (k0 : Int32) (μ : vg_M) : vg_R Int32 :=
  if k0 = 0 then (
   fX11_isPath_180 q11 v0 k0 v3 μ
   ) else (
   vg_o (vg_gR μ v0 14 4) fun x21 =>
   vg_o (vg_gI μ v0 14 3) fun x22 =>
   vg_o x21 fun a23 =>
   vg_o (vg_sI μ a23 2 x22 v1) fun μ24 =>
   vg_o (vg_gR μ24 v0 14 5) fun x25 =>
   vg_o (vg_gI μ24 v0 14 3) fun x26 =>
   vg_o x25 fun a27 =>
   vg_o (vg_sI μ24 a27 2 x26 v5) fun μ28 =>
   vg_o (vg_gI μ28 v0 14 3) fun x29 =>
   vg_o (vg_p μ28 v0 14 3 (.int (x29 + 1))) fun μ30 =>
   fX11_isPath_180 q11 v0 k0 v3 μ30
   )
set_option maxHeartbeats 4000000 in
set_option maxRecDepth 100000 in
theorem wX11_isPath_144 {p : Program} {l : Launch} {e : Env} {R : Room} {s : State} {m : MethodId} {args : Array Value} {below : List Frame} {meth : Method} {c : Code} {D : va_G} {cy : Nat → ClassId} {H0 : Heap} {C0 N0 : Nat} {r : Int32} {μ' : vg_M} (Z : vg_Z D cy H0 p s m args c cX11_isPath RX11 meth 7 (some .boolean) R 13 C0 N0 "isPath") {q11 : Nat → Int32 → Int32 → Int32 → vg_M → vg_R Int32} (hk11 : ∀ (v0 : Nat) (v1 : Int32) (v2 : Int32) (v3 : Int32) (μ : vg_M), vg_S p l e R s m args below meth c D cy H0 C0 N0 7 (MQ below (vg_Qc D cy H0 μ' (some (.int r))) args s C0 N0 (vg_fr H0)) r μ' (q11 v0 v1 v2 v3 μ) μ [(0, .ref v0), (1, .int v1), (2, .int v2), (3, .int v3)] [] 11) (v0 : Nat) (v1 : Int32) (v3 : Int32) (v5 : Int32) (k0 : Int32) (μ : vg_M) : vg_S p l e R s m args below meth c D cy H0 C0 N0 7 (MQ below (vg_Qc D cy H0 μ' (some (.int r))) args s C0 N0 (vg_fr H0)) r μ' (fX11_isPath_144 q11 v0 v1 v3 v5 k0 μ) μ [(0, .ref v0), (1, .int v1), (3, .int v3), (5, .int v5)] [.int k0] 144 := by
  intro cn nn H locs cells slots ls hf hH hL hC hN hl
  obtain ⟨X, hml, hr, hlk, hfr, hlo, hRc, hRs, hnm⟩ := id Z
  have hx := X.1
  have hb := X.2.1
  delta fX11_isPath_144 at hf
  refine vg_istore_n (lv' := [(2, .int k0), (0, .ref v0), (1, .int v1), (3, .int v3), (5, .int v5)]) hx hb dX11_isPath_144 rfl hl (by decide) rfl (fun ls hl => ?_)
  refine lv_iload_n hx hb dX11_isPath_145 rfl (lv_at hl.1 0 rfl) ?_
  refine lv_if_eq (tgt := 180) hx hb dX11_isPath_146 (by decide) (fun h8 => ?_) (fun h8 => ?_)
  · have hf := vg_ip h8 hf
    exact wX11_isPath_180 Z hk11 v0 k0 v3 μ _ _ _ _ _ _ _ hf hH hL hC hN (hl.sub [1, 0, 3] rfl)
  · have hf := vg_if h8 hf
    refine lv_aload_n hx hb dX11_isPath_149 rfl (lv_at hl.1 1 rfl) ?_
    refine vg_getR X hH fF_X11_13 dX11_isPath_150 hf (fun x21 hf => ?_)
    refine lv_aload_n hx hb dX11_isPath_153 rfl (lv_at hl.1 1 rfl) ?_
    refine vg_getI X hH fF_X11_109 dX11_isPath_154 hf (fun x22 hf => ?_)
    refine lv_iload_n hx hb dX11_isPath_157 rfl (lv_at hl.1 2 rfl) ?_
    obtain ⟨a23, h9, hg⟩ := vg_o_inv hf
    clear hf
    subst h9
    have hf := hg
    clear hg
    refine vg_iast X hH hL dX11_isPath_158 hf (fun μ24 H locs hf hH hL => ?_)
    refine lv_aload_n hx hb dX11_isPath_159 rfl (lv_at hl.1 1 rfl) ?_
    refine vg_getR X hH fF_X11_17 dX11_isPath_160 hf (fun x25 hf => ?_)
    refine lv_aload_n hx hb dX11_isPath_163 rfl (lv_at hl.1 1 rfl) ?_
    refine vg_getI X hH fF_X11_109 dX11_isPath_164 hf (fun x26 hf => ?_)
    refine lv_iload hx hb dX11_isPath_167 (lv_at hl.1 4 rfl) ?_
    obtain ⟨a27, h9, hg⟩ := vg_o_inv hf
    clear hf
    subst h9
    have hf := hg
    clear hg
    refine vg_iast X hH hL dX11_isPath_169 hf (fun μ28 H locs hf hH hL => ?_)
    refine lv_aload_n hx hb dX11_isPath_170 rfl (lv_at hl.1 1 rfl) ?_
    refine lv_dup hx hb dX11_isPath_171 rfl ?_
    refine vg_getI X hH fF_X11_109 dX11_isPath_172 hf (fun x29 hf => ?_)
    refine lv_iconst (v := 1) hx hb dX11_isPath_175 (by decide) ?_
    refine lv_iadd hx hb dX11_isPath_176 ?_
    refine vg_putV X hH hL fF_X11_109 rfl rfl dX11_isPath_177 hf (fun μ30 H locs hf hH hL => ?_)
    exact wX11_isPath_180 Z hk11 v0 k0 v3 μ30 _ _ _ _ _ _ _ hf hH hL hC hN (hl.sub [1, 0, 3] rfl)
def fX11_isPath_143 (q11 : Nat → Int32 → Int32 → Int32 → vg_M → vg_R Int32) (v0 : Nat) (v1 : Int32) (v3 : Int32) (v5 : Int32) (μ : vg_M) : vg_R Int32 :=
  fX11_isPath_144 q11 v0 v1 v3 v5 0 μ
set_option maxHeartbeats 4000000 in
set_option maxRecDepth 100000 in
theorem wX11_isPath_143 {p : Program} {l : Launch} {e : Env} {R : Room} {s : State} {m : MethodId} {args : Array Value} {below : List Frame} {meth : Method} {c : Code} {D : va_G} {cy : Nat → ClassId} {H0 : Heap} {C0 N0 : Nat} {r : Int32} {μ' : vg_M} (Z : vg_Z D cy H0 p s m args c cX11_isPath RX11 meth 7 (some .boolean) R 13 C0 N0 "isPath") {q11 : Nat → Int32 → Int32 → Int32 → vg_M → vg_R Int32} (hk11 : ∀ (v0 : Nat) (v1 : Int32) (v2 : Int32) (v3 : Int32) (μ : vg_M), vg_S p l e R s m args below meth c D cy H0 C0 N0 7 (MQ below (vg_Qc D cy H0 μ' (some (.int r))) args s C0 N0 (vg_fr H0)) r μ' (q11 v0 v1 v2 v3 μ) μ [(0, .ref v0), (1, .int v1), (2, .int v2), (3, .int v3)] [] 11) (v0 : Nat) (v1 : Int32) (v3 : Int32) (v5 : Int32) (μ : vg_M) : vg_S p l e R s m args below meth c D cy H0 C0 N0 7 (MQ below (vg_Qc D cy H0 μ' (some (.int r))) args s C0 N0 (vg_fr H0)) r μ' (fX11_isPath_143 q11 v0 v1 v3 v5 μ) μ [(0, .ref v0), (1, .int v1), (3, .int v3), (5, .int v5)] [] 143 := by
  intro cn nn H locs cells slots ls hf hH hL hC hN hl
  obtain ⟨X, hml, hr, hlk, hfr, hlo, hRc, hRs, hnm⟩ := id Z
  have hx := X.1
  have hb := X.2.1
  delta fX11_isPath_143 at hf
  refine lv_iconst (v := 0) hx hb dX11_isPath_143 (by decide) ?_
  exact wX11_isPath_144 Z hk11 v0 v1 v3 v5 0 μ _ _ _ _ _ _ _ hf hH hL hC hN (hl.sub [0, 1, 2, 3] rfl)
def fX11_isPath_111 (q11 : Nat → Int32 → Int32 → Int32 → vg_M → vg_R Int32) (v0 : Nat) (v1 : Int32) (v3 : Int32) (v5 : Int32) (k0 : Int32) (μ : vg_M) : vg_R Int32 :=
  if v5 ≤ 0 then (
   fX11_isPath_143 q11 v0 v1 v3 v5 μ
   ) else (
   if 8 < v5 then (
    fX11_isPath_143 q11 v0 v1 v3 v5 μ
    ) else (
    if k0 = 0 then (
     vg_o (vg_gI μ v0 14 3) fun x20 =>
     if 6 ≤ x20 then (
      fX11_isPath_143 q11 v0 v1 v3 v5 μ
      ) else (
      fX11_isPath_144 q11 v0 v1 v3 v5 1 μ
      )
     ) else (
     fX11_isPath_143 q11 v0 v1 v3 v5 μ
     )
    )
   )
set_option maxHeartbeats 4000000 in
set_option maxRecDepth 100000 in
theorem wX11_isPath_111 {p : Program} {l : Launch} {e : Env} {R : Room} {s : State} {m : MethodId} {args : Array Value} {below : List Frame} {meth : Method} {c : Code} {D : va_G} {cy : Nat → ClassId} {H0 : Heap} {C0 N0 : Nat} {r : Int32} {μ' : vg_M} (Z : vg_Z D cy H0 p s m args c cX11_isPath RX11 meth 7 (some .boolean) R 13 C0 N0 "isPath") {q11 : Nat → Int32 → Int32 → Int32 → vg_M → vg_R Int32} (hk11 : ∀ (v0 : Nat) (v1 : Int32) (v2 : Int32) (v3 : Int32) (μ : vg_M), vg_S p l e R s m args below meth c D cy H0 C0 N0 7 (MQ below (vg_Qc D cy H0 μ' (some (.int r))) args s C0 N0 (vg_fr H0)) r μ' (q11 v0 v1 v2 v3 μ) μ [(0, .ref v0), (1, .int v1), (2, .int v2), (3, .int v3)] [] 11) (v0 : Nat) (v1 : Int32) (v3 : Int32) (v5 : Int32) (k0 : Int32) (μ : vg_M) : vg_S p l e R s m args below meth c D cy H0 C0 N0 7 (MQ below (vg_Qc D cy H0 μ' (some (.int r))) args s C0 N0 (vg_fr H0)) r μ' (fX11_isPath_111 q11 v0 v1 v3 v5 k0 μ) μ [(0, .ref v0), (1, .int v1), (3, .int v3), (5, .int v5)] [.int k0] 111 := by
  intro cn nn H locs cells slots ls hf hH hL hC hN hl
  obtain ⟨X, hml, hr, hlk, hfr, hlo, hRc, hRs, hnm⟩ := id Z
  have hx := X.1
  have hb := X.2.1
  delta fX11_isPath_111 at hf
  refine vg_istore (lv' := [(6, .int k0), (0, .ref v0), (1, .int v1), (3, .int v3), (5, .int v5)]) hx hb dX11_isPath_111 hl (by decide) rfl (fun ls hl => ?_)
  refine lv_iload hx hb dX11_isPath_113 (lv_at hl.1 4 rfl) ?_
  refine lv_if_le (tgt := 143) hx hb dX11_isPath_115 (by decide) (fun h8 => ?_) (fun h8 => ?_)
  · have hf := vg_ip h8 hf
    exact wX11_isPath_143 Z hk11 v0 v1 v3 v5 μ _ _ _ _ _ _ _ hf hH hL hC hN (hl.sub [1, 2, 3, 4] rfl)
  · have hf := vg_if h8 hf
    refine lv_iload hx hb dX11_isPath_118 (lv_at hl.1 4 rfl) ?_
    refine lv_bipush (v := 8) hx hb dX11_isPath_120 (by decide) ?_
    refine lv_icmp_gt (tgt := 143) hx hb dX11_isPath_122 (by decide) (fun h8 => ?_) (fun h8 => ?_)
    · have hf := vg_ip h8 hf
      exact wX11_isPath_143 Z hk11 v0 v1 v3 v5 μ _ _ _ _ _ _ _ hf hH hL hC hN (hl.sub [1, 2, 3, 4] rfl)
    · have hf := vg_if h8 hf
      refine lv_iload hx hb dX11_isPath_125 (lv_at hl.1 0 rfl) ?_
      refine lv_if_ne (tgt := 143) hx hb dX11_isPath_127 (by decide) (fun h8 => ?_) (fun h8 => ?_)
      · have hf := vg_if h8 hf
        exact wX11_isPath_143 Z hk11 v0 v1 v3 v5 μ _ _ _ _ _ _ _ hf hH hL hC hN (hl.sub [1, 2, 3, 4] rfl)
      · have hf := vg_ip h8 hf
        refine lv_aload_n hx hb dX11_isPath_130 rfl (lv_at hl.1 1 rfl) ?_
        refine vg_getI X hH fF_X11_109 dX11_isPath_131 hf (fun x20 hf => ?_)
        refine lv_bipush (v := 6) hx hb dX11_isPath_134 (by decide) ?_
        refine lv_icmp_ge (tgt := 143) hx hb dX11_isPath_136 (by decide) (fun h8 => ?_) (fun h8 => ?_)
        · have hf := vg_ip h8 hf
          exact wX11_isPath_143 Z hk11 v0 v1 v3 v5 μ _ _ _ _ _ _ _ hf hH hL hC hN (hl.sub [1, 2, 3, 4] rfl)
        · have hf := vg_if h8 hf
          refine lv_iconst (v := 1) hx hb dX11_isPath_139 (by decide) ?_
          refine lv_goto (tgt := 144) hx hb dX11_isPath_140 (by decide) ?_
          exact wX11_isPath_144 Z hk11 v0 v1 v3 v5 1 μ _ _ _ _ _ _ _ hf hH hL hC hN (hl.sub [1, 2, 3, 4] rfl)
def fX11_isPath_106 (q11 : Nat → Int32 → Int32 → Int32 → vg_M → vg_R Int32) (v0 : Nat) (v1 : Int32) (v3 : Int32) (v5 : Int32) (μ : vg_M) : vg_R Int32 :=
  fX11_isPath_111 q11 v0 v1 v3 v5 1 μ
set_option maxHeartbeats 4000000 in
set_option maxRecDepth 100000 in
theorem wX11_isPath_106 {p : Program} {l : Launch} {e : Env} {R : Room} {s : State} {m : MethodId} {args : Array Value} {below : List Frame} {meth : Method} {c : Code} {D : va_G} {cy : Nat → ClassId} {H0 : Heap} {C0 N0 : Nat} {r : Int32} {μ' : vg_M} (Z : vg_Z D cy H0 p s m args c cX11_isPath RX11 meth 7 (some .boolean) R 13 C0 N0 "isPath") {q11 : Nat → Int32 → Int32 → Int32 → vg_M → vg_R Int32} (hk11 : ∀ (v0 : Nat) (v1 : Int32) (v2 : Int32) (v3 : Int32) (μ : vg_M), vg_S p l e R s m args below meth c D cy H0 C0 N0 7 (MQ below (vg_Qc D cy H0 μ' (some (.int r))) args s C0 N0 (vg_fr H0)) r μ' (q11 v0 v1 v2 v3 μ) μ [(0, .ref v0), (1, .int v1), (2, .int v2), (3, .int v3)] [] 11) (v0 : Nat) (v1 : Int32) (v3 : Int32) (v5 : Int32) (μ : vg_M) : vg_S p l e R s m args below meth c D cy H0 C0 N0 7 (MQ below (vg_Qc D cy H0 μ' (some (.int r))) args s C0 N0 (vg_fr H0)) r μ' (fX11_isPath_106 q11 v0 v1 v3 v5 μ) μ [(0, .ref v0), (1, .int v1), (3, .int v3), (5, .int v5)] [] 106 := by
  intro cn nn H locs cells slots ls hf hH hL hC hN hl
  obtain ⟨X, hml, hr, hlk, hfr, hlo, hRc, hRs, hnm⟩ := id Z
  have hx := X.1
  have hb := X.2.1
  delta fX11_isPath_106 at hf
  refine lv_iconst (v := 1) hx hb dX11_isPath_106 (by decide) ?_
  refine lv_goto (tgt := 111) hx hb dX11_isPath_107 (by decide) ?_
  exact wX11_isPath_111 Z hk11 v0 v1 v3 v5 1 μ _ _ _ _ _ _ _ hf hH hL hC hN (hl.sub [0, 1, 2, 3] rfl)
def fX11_isPath_110 (q11 : Nat → Int32 → Int32 → Int32 → vg_M → vg_R Int32) (v0 : Nat) (v1 : Int32) (v3 : Int32) (v5 : Int32) (μ : vg_M) : vg_R Int32 :=
  fX11_isPath_111 q11 v0 v1 v3 v5 0 μ
set_option maxHeartbeats 4000000 in
set_option maxRecDepth 100000 in
theorem wX11_isPath_110 {p : Program} {l : Launch} {e : Env} {R : Room} {s : State} {m : MethodId} {args : Array Value} {below : List Frame} {meth : Method} {c : Code} {D : va_G} {cy : Nat → ClassId} {H0 : Heap} {C0 N0 : Nat} {r : Int32} {μ' : vg_M} (Z : vg_Z D cy H0 p s m args c cX11_isPath RX11 meth 7 (some .boolean) R 13 C0 N0 "isPath") {q11 : Nat → Int32 → Int32 → Int32 → vg_M → vg_R Int32} (hk11 : ∀ (v0 : Nat) (v1 : Int32) (v2 : Int32) (v3 : Int32) (μ : vg_M), vg_S p l e R s m args below meth c D cy H0 C0 N0 7 (MQ below (vg_Qc D cy H0 μ' (some (.int r))) args s C0 N0 (vg_fr H0)) r μ' (q11 v0 v1 v2 v3 μ) μ [(0, .ref v0), (1, .int v1), (2, .int v2), (3, .int v3)] [] 11) (v0 : Nat) (v1 : Int32) (v3 : Int32) (v5 : Int32) (μ : vg_M) : vg_S p l e R s m args below meth c D cy H0 C0 N0 7 (MQ below (vg_Qc D cy H0 μ' (some (.int r))) args s C0 N0 (vg_fr H0)) r μ' (fX11_isPath_110 q11 v0 v1 v3 v5 μ) μ [(0, .ref v0), (1, .int v1), (3, .int v3), (5, .int v5)] [] 110 := by
  intro cn nn H locs cells slots ls hf hH hL hC hN hl
  obtain ⟨X, hml, hr, hlk, hfr, hlo, hRc, hRs, hnm⟩ := id Z
  have hx := X.1
  have hb := X.2.1
  delta fX11_isPath_110 at hf
  refine lv_iconst (v := 0) hx hb dX11_isPath_110 (by decide) ?_
  exact wX11_isPath_111 Z hk11 v0 v1 v3 v5 0 μ _ _ _ _ _ _ _ hf hH hL hC hN (hl.sub [0, 1, 2, 3] rfl)
def fX11_isPath_76 (q11 : Nat → Int32 → Int32 → Int32 → vg_M → vg_R Int32) (v0 : Nat) (v1 : Int32) (v3 : Int32) (v5 : Int32) (μ : vg_M) : vg_R Int32 :=
  if v5 = 2 then (
   vg_o (vg_gR μ v0 14 1) fun x14 =>
   vg_o x14 fun a15 =>
   vg_o (vg_aI μ a15 0 v1) fun x16 =>
   if x16 = 46 then (
    vg_o (vg_gR μ v0 14 1) fun x17 =>
    vg_o x17 fun a18 =>
    vg_o (vg_aI μ a18 0 (v1 + 1)) fun x19 =>
    if x19 = 46 then (
     fX11_isPath_106 q11 v0 v1 v3 v5 μ
     ) else (
     fX11_isPath_110 q11 v0 v1 v3 v5 μ
     )
    ) else (
    fX11_isPath_110 q11 v0 v1 v3 v5 μ
    )
   ) else (
   fX11_isPath_110 q11 v0 v1 v3 v5 μ
   )
set_option maxHeartbeats 4000000 in
set_option maxRecDepth 100000 in
theorem wX11_isPath_76 {p : Program} {l : Launch} {e : Env} {R : Room} {s : State} {m : MethodId} {args : Array Value} {below : List Frame} {meth : Method} {c : Code} {D : va_G} {cy : Nat → ClassId} {H0 : Heap} {C0 N0 : Nat} {r : Int32} {μ' : vg_M} (Z : vg_Z D cy H0 p s m args c cX11_isPath RX11 meth 7 (some .boolean) R 13 C0 N0 "isPath") {q11 : Nat → Int32 → Int32 → Int32 → vg_M → vg_R Int32} (hk11 : ∀ (v0 : Nat) (v1 : Int32) (v2 : Int32) (v3 : Int32) (μ : vg_M), vg_S p l e R s m args below meth c D cy H0 C0 N0 7 (MQ below (vg_Qc D cy H0 μ' (some (.int r))) args s C0 N0 (vg_fr H0)) r μ' (q11 v0 v1 v2 v3 μ) μ [(0, .ref v0), (1, .int v1), (2, .int v2), (3, .int v3)] [] 11) (v0 : Nat) (v1 : Int32) (v3 : Int32) (v5 : Int32) (μ : vg_M) : vg_S p l e R s m args below meth c D cy H0 C0 N0 7 (MQ below (vg_Qc D cy H0 μ' (some (.int r))) args s C0 N0 (vg_fr H0)) r μ' (fX11_isPath_76 q11 v0 v1 v3 v5 μ) μ [(0, .ref v0), (1, .int v1), (3, .int v3), (5, .int v5)] [] 76 := by
  intro cn nn H locs cells slots ls hf hH hL hC hN hl
  obtain ⟨X, hml, hr, hlk, hfr, hlo, hRc, hRs, hnm⟩ := id Z
  have hx := X.1
  have hb := X.2.1
  delta fX11_isPath_76 at hf
  refine lv_iload hx hb dX11_isPath_76 (lv_at hl.1 3 rfl) ?_
  refine lv_iconst (v := 2) hx hb dX11_isPath_78 (by decide) ?_
  refine lv_icmp_ne (tgt := 110) hx hb dX11_isPath_79 (by decide) (fun h8 => ?_) (fun h8 => ?_)
  · have hf := vg_if h8 hf
    exact wX11_isPath_110 Z hk11 v0 v1 v3 v5 μ _ _ _ _ _ _ _ hf hH hL hC hN (hl.sub [0, 1, 2, 3] rfl)
  · have hf := vg_ip h8 hf
    refine lv_aload_n hx hb dX11_isPath_82 rfl (lv_at hl.1 0 rfl) ?_
    refine vg_getR X hH fF_X11_7 dX11_isPath_83 hf (fun x14 hf => ?_)
    refine lv_iload_n hx hb dX11_isPath_86 rfl (lv_at hl.1 1 rfl) ?_
    obtain ⟨a15, h9, hg⟩ := vg_o_inv hf
    clear hf
    subst h9
    have hf := hg
    clear hg
    refine vg_bald X hH dX11_isPath_87 hf (fun x16 hf => ?_)
    refine lv_bipush (v := 46) hx hb dX11_isPath_88 (by decide) ?_
    refine lv_icmp_ne (tgt := 110) hx hb dX11_isPath_90 (by decide) (fun h8 => ?_) (fun h8 => ?_)
    · have hf := vg_if h8 hf
      exact wX11_isPath_110 Z hk11 v0 v1 v3 v5 μ _ _ _ _ _ _ _ hf hH hL hC hN (hl.sub [0, 1, 2, 3] rfl)
    · have hf := vg_ip h8 hf
      refine lv_aload_n hx hb dX11_isPath_93 rfl (lv_at hl.1 0 rfl) ?_
      refine vg_getR X hH fF_X11_7 dX11_isPath_94 hf (fun x17 hf => ?_)
      refine lv_iload_n hx hb dX11_isPath_97 rfl (lv_at hl.1 1 rfl) ?_
      refine lv_iconst (v := 1) hx hb dX11_isPath_98 (by decide) ?_
      refine lv_iadd hx hb dX11_isPath_99 ?_
      obtain ⟨a18, h9, hg⟩ := vg_o_inv hf
      clear hf
      subst h9
      have hf := hg
      clear hg
      refine vg_bald X hH dX11_isPath_100 hf (fun x19 hf => ?_)
      refine lv_bipush (v := 46) hx hb dX11_isPath_101 (by decide) ?_
      refine lv_icmp_ne (tgt := 110) hx hb dX11_isPath_103 (by decide) (fun h8 => ?_) (fun h8 => ?_)
      · have hf := vg_if h8 hf
        exact wX11_isPath_110 Z hk11 v0 v1 v3 v5 μ _ _ _ _ _ _ _ hf hH hL hC hN (hl.sub [0, 1, 2, 3] rfl)
      · have hf := vg_ip h8 hf
        exact wX11_isPath_106 Z hk11 v0 v1 v3 v5 μ _ _ _ _ _ _ _ hf hH hL hC hN (hl.sub [0, 1, 2, 3] rfl)
def fX11_isPath_47 (q11 : Nat → Int32 → Int32 → Int32 → vg_M → vg_R Int32) (v0 : Nat) (v1 : Int32) (v3 : Int32) (k0 : Int32) (μ : vg_M) : vg_R Int32 :=
  if k0 = 0 then (
   vg_o (vg_gR μ v0 14 1) fun x6 =>
   vg_o x6 fun a7 =>
   vg_o (vg_aI μ a7 0 v3) fun x8 =>
   vg_b (fX11_isSign x8 μ) fun x9 μ10 =>
   fX11_isPath_197 q11 v0 v1 x9 v3 μ10
   ) else (
   if (v3 - v1) = 1 then (
    vg_o (vg_gR μ v0 14 1) fun x11 =>
    vg_o x11 fun a12 =>
    vg_o (vg_aI μ a12 0 v1) fun x13 =>
    if x13 = 46 then (
     fX11_isPath_106 q11 v0 v1 v3 (v3 - v1) μ
     ) else (
     fX11_isPath_76 q11 v0 v1 v3 (v3 - v1) μ
     )
    ) else (
    fX11_isPath_76 q11 v0 v1 v3 (v3 - v1) μ
    )
   )
set_option maxHeartbeats 4000000 in
set_option maxRecDepth 100000 in
theorem wX11_isPath_47 {p : Program} {l : Launch} {e : Env} {R : Room} {s : State} {m : MethodId} {args : Array Value} {below : List Frame} {meth : Method} {c : Code} {D : va_G} {cy : Nat → ClassId} {H0 : Heap} {C0 N0 : Nat} {r : Int32} {μ' : vg_M} (Z : vg_Z D cy H0 p s m args c cX11_isPath RX11 meth 7 (some .boolean) R 13 C0 N0 "isPath") {q11 : Nat → Int32 → Int32 → Int32 → vg_M → vg_R Int32} (hk11 : ∀ (v0 : Nat) (v1 : Int32) (v2 : Int32) (v3 : Int32) (μ : vg_M), vg_S p l e R s m args below meth c D cy H0 C0 N0 7 (MQ below (vg_Qc D cy H0 μ' (some (.int r))) args s C0 N0 (vg_fr H0)) r μ' (q11 v0 v1 v2 v3 μ) μ [(0, .ref v0), (1, .int v1), (2, .int v2), (3, .int v3)] [] 11) (v0 : Nat) (v1 : Int32) (v3 : Int32) (k0 : Int32) (μ : vg_M) : vg_S p l e R s m args below meth c D cy H0 C0 N0 7 (MQ below (vg_Qc D cy H0 μ' (some (.int r))) args s C0 N0 (vg_fr H0)) r μ' (fX11_isPath_47 q11 v0 v1 v3 k0 μ) μ [(0, .ref v0), (1, .int v1), (3, .int v3)] [.int k0] 47 := by
  intro cn nn H locs cells slots ls hf hH hL hC hN hl
  obtain ⟨X, hml, hr, hlk, hfr, hlo, hRc, hRs, hnm⟩ := id Z
  have hx := X.1
  have hb := X.2.1
  delta fX11_isPath_47 at hf
  refine vg_istore (lv' := [(4, .int k0), (0, .ref v0), (1, .int v1), (3, .int v3)]) hx hb dX11_isPath_47 hl (by decide) rfl (fun ls hl => ?_)
  refine lv_iload hx hb dX11_isPath_49 (lv_at hl.1 0 rfl) ?_
  refine lv_if_eq (tgt := 187) hx hb dX11_isPath_51 (by decide) (fun h8 => ?_) (fun h8 => ?_)
  · have hf := vg_ip h8 hf
    refine lv_aload_n hx hb dX11_isPath_187 rfl (lv_at hl.1 1 rfl) ?_
    refine vg_getR X hH fF_X11_7 dX11_isPath_188 hf (fun x6 hf => ?_)
    refine lv_iload_n hx hb dX11_isPath_191 rfl (lv_at hl.1 3 rfl) ?_
    obtain ⟨a7, h9, hg⟩ := vg_o_inv hf
    clear hf
    subst h9
    have hf := hg
    clear hg
    refine vg_bald X hH dX11_isPath_192 hf (fun x8 hf => ?_)
    refine vg_callSi X hml hl hH hL fCS_X11_112 [.int x8] rfl rfl (Nat.le_of_ble_eq_true rfl) dX11_isPath_193 hf hC hN hRc hRs hfr hlo (by decide) (fun _ _ _ _ h => cX11_isSign_met h) (fun x9 μ10 cn nn H locs cells slots hf hC hN hH hL => ?_)
    refine vg_istore_n (lv' := [(2, .int x9), (4, .int k0), (0, .ref v0), (1, .int v1), (3, .int v3)]) hx hb dX11_isPath_196 rfl hl (by decide) rfl (fun ls hl => ?_)
    exact wX11_isPath_197 Z hk11 v0 v1 x9 v3 μ10 _ _ _ _ _ _ _ hf hH hL hC hN (hl.sub [2, 3, 0, 4] rfl)
  · have hf := vg_if h8 hf
    refine lv_iload_n hx hb dX11_isPath_54 rfl (lv_at hl.1 3 rfl) ?_
    refine lv_iload_n hx hb dX11_isPath_55 rfl (lv_at hl.1 2 rfl) ?_
    refine lv_isub hx hb dX11_isPath_56 ?_
    refine vg_istore (lv' := [(5, .int (v3 - v1)), (4, .int k0), (0, .ref v0), (1, .int v1), (3, .int v3)]) hx hb dX11_isPath_57 hl (by decide) rfl (fun ls hl => ?_)
    refine lv_iload hx hb dX11_isPath_59 (lv_at hl.1 0 rfl) ?_
    refine lv_iconst (v := 1) hx hb dX11_isPath_61 (by decide) ?_
    refine lv_icmp_ne (tgt := 76) hx hb dX11_isPath_62 (by decide) (fun h8 => ?_) (fun h8 => ?_)
    · have hf := vg_if h8 hf
      exact wX11_isPath_76 Z hk11 v0 v1 v3 (v3 - v1) μ _ _ _ _ _ _ _ hf hH hL hC hN (hl.sub [2, 3, 4, 0] rfl)
    · have hf := vg_ip h8 hf
      refine lv_aload_n hx hb dX11_isPath_65 rfl (lv_at hl.1 2 rfl) ?_
      refine vg_getR X hH fF_X11_7 dX11_isPath_66 hf (fun x11 hf => ?_)
      refine lv_iload_n hx hb dX11_isPath_69 rfl (lv_at hl.1 3 rfl) ?_
      obtain ⟨a12, h9, hg⟩ := vg_o_inv hf
      clear hf
      subst h9
      have hf := hg
      clear hg
      refine vg_bald X hH dX11_isPath_70 hf (fun x13 hf => ?_)
      refine lv_bipush (v := 46) hx hb dX11_isPath_71 (by decide) ?_
      refine lv_icmp_eq (tgt := 106) hx hb dX11_isPath_73 (by decide) (fun h8 => ?_) (fun h8 => ?_)
      · have hf := vg_ip h8 hf
        exact wX11_isPath_106 Z hk11 v0 v1 v3 (v3 - v1) μ _ _ _ _ _ _ _ hf hH hL hC hN (hl.sub [2, 3, 4, 0] rfl)
      · have hf := vg_if h8 hf
        exact wX11_isPath_76 Z hk11 v0 v1 v3 (v3 - v1) μ _ _ _ _ _ _ _ hf hH hL hC hN (hl.sub [2, 3, 4, 0] rfl)
def fX11_isPath_42 (q11 : Nat → Int32 → Int32 → Int32 → vg_M → vg_R Int32) (v0 : Nat) (v1 : Int32) (v3 : Int32) (μ : vg_M) : vg_R Int32 :=
  fX11_isPath_47 q11 v0 v1 v3 1 μ
set_option maxHeartbeats 4000000 in
set_option maxRecDepth 100000 in
theorem wX11_isPath_42 {p : Program} {l : Launch} {e : Env} {R : Room} {s : State} {m : MethodId} {args : Array Value} {below : List Frame} {meth : Method} {c : Code} {D : va_G} {cy : Nat → ClassId} {H0 : Heap} {C0 N0 : Nat} {r : Int32} {μ' : vg_M} (Z : vg_Z D cy H0 p s m args c cX11_isPath RX11 meth 7 (some .boolean) R 13 C0 N0 "isPath") {q11 : Nat → Int32 → Int32 → Int32 → vg_M → vg_R Int32} (hk11 : ∀ (v0 : Nat) (v1 : Int32) (v2 : Int32) (v3 : Int32) (μ : vg_M), vg_S p l e R s m args below meth c D cy H0 C0 N0 7 (MQ below (vg_Qc D cy H0 μ' (some (.int r))) args s C0 N0 (vg_fr H0)) r μ' (q11 v0 v1 v2 v3 μ) μ [(0, .ref v0), (1, .int v1), (2, .int v2), (3, .int v3)] [] 11) (v0 : Nat) (v1 : Int32) (v3 : Int32) (μ : vg_M) : vg_S p l e R s m args below meth c D cy H0 C0 N0 7 (MQ below (vg_Qc D cy H0 μ' (some (.int r))) args s C0 N0 (vg_fr H0)) r μ' (fX11_isPath_42 q11 v0 v1 v3 μ) μ [(0, .ref v0), (1, .int v1), (3, .int v3)] [] 42 := by
  intro cn nn H locs cells slots ls hf hH hL hC hN hl
  obtain ⟨X, hml, hr, hlk, hfr, hlo, hRc, hRs, hnm⟩ := id Z
  have hx := X.1
  have hb := X.2.1
  delta fX11_isPath_42 at hf
  refine lv_iconst (v := 1) hx hb dX11_isPath_42 (by decide) ?_
  refine lv_goto (tgt := 47) hx hb dX11_isPath_43 (by decide) ?_
  exact wX11_isPath_47 Z hk11 v0 v1 v3 1 μ _ _ _ _ _ _ _ hf hH hL hC hN (hl.sub [0, 1, 2] rfl)
def fX11_isPath_203  (v2 : Int32) (μ : vg_M) : vg_R Int32 :=
  vg_o (vg_z .boolean v2) fun z => vg_ret z μ
set_option maxHeartbeats 4000000 in
set_option maxRecDepth 100000 in
theorem wX11_isPath_203 {p : Program} {l : Launch} {e : Env} {R : Room} {s : State} {m : MethodId} {args : Array Value} {below : List Frame} {meth : Method} {c : Code} {D : va_G} {cy : Nat → ClassId} {H0 : Heap} {C0 N0 : Nat} {r : Int32} {μ' : vg_M} (Z : vg_Z D cy H0 p s m args c cX11_isPath RX11 meth 7 (some .boolean) R 13 C0 N0 "isPath")   (v2 : Int32) (μ : vg_M) : vg_S p l e R s m args below meth c D cy H0 C0 N0 7 (MQ below (vg_Qc D cy H0 μ' (some (.int r))) args s C0 N0 (vg_fr H0)) r μ' (fX11_isPath_203  v2 μ) μ [(2, .int v2)] [] 203 := by
  intro cn nn H locs cells slots ls hf hH hL hC hN hl
  obtain ⟨X, hml, hr, hlk, hfr, hlo, hRc, hRs, hnm⟩ := id Z
  have hx := X.1
  have hb := X.2.1
  delta fX11_isPath_203 at hf
  refine lv_iload_n hx hb dX11_isPath_203 rfl (lv_at hl.1 0 rfl) ?_
  exact vg_retz X (by simp) hr hlk hH hL dX11_isPath_204 hf hC hN
def fX11_isPath_11  : Nat → Nat → Int32 → Int32 → Int32 → vg_M → vg_R Int32
  | 0, _, _, _, _, _ => none
  | n + 1, v0, v1, v2, v3, μ =>
    vg_o (vg_gI μ v0 14 2) fun x1 =>
    if x1 < v3 then (
     fX11_isPath_203  v2 μ
     ) else (
     if v2 = 0 then (
      fX11_isPath_203  v2 μ
      ) else (
      vg_o (vg_gI μ v0 14 2) fun x2 =>
      if v3 = x2 then (
       fX11_isPath_42 (fX11_isPath_11  n) v0 v1 v3 μ
       ) else (
       vg_o (vg_gR μ v0 14 1) fun x3 =>
       vg_o x3 fun a4 =>
       vg_o (vg_aI μ a4 0 v3) fun x5 =>
       if x5 = 47 then (
        fX11_isPath_42 (fX11_isPath_11  n) v0 v1 v3 μ
        ) else (
        fX11_isPath_47 (fX11_isPath_11  n) v0 v1 v3 0 μ
        )
       )
      )
     )
set_option maxHeartbeats 4000000 in
set_option maxRecDepth 100000 in
theorem wX11_isPath_11 {p : Program} {l : Launch} {e : Env} {R : Room} {s : State} {m : MethodId} {args : Array Value} {below : List Frame} {meth : Method} {c : Code} {D : va_G} {cy : Nat → ClassId} {H0 : Heap} {C0 N0 : Nat} {r : Int32} {μ' : vg_M} (Z : vg_Z D cy H0 p s m args c cX11_isPath RX11 meth 7 (some .boolean) R 13 C0 N0 "isPath")   : ∀ (n : Nat) (v0 : Nat) (v1 : Int32) (v2 : Int32) (v3 : Int32) (μ : vg_M), vg_S p l e R s m args below meth c D cy H0 C0 N0 7 (MQ below (vg_Qc D cy H0 μ' (some (.int r))) args s C0 N0 (vg_fr H0)) r μ' (fX11_isPath_11  n v0 v1 v2 v3 μ) μ [(0, .ref v0), (1, .int v1), (2, .int v2), (3, .int v3)] [] 11 := by
  intro n
  induction n with
  | zero =>
    intro v0 v1 v2 v3 μ cn nn H locs cells slots ls hf
    simp [fX11_isPath_11] at hf
  | succ n hk11 =>
    intro v0 v1 v2 v3 μ
    intro cn nn H locs cells slots ls hf hH hL hC hN hl
    obtain ⟨X, hml, hr, hlk, hfr, hlo, hRc, hRs, hnm⟩ := id Z
    have hx := X.1
    have hb := X.2.1
    rw [fX11_isPath_11] at hf
    refine lv_iload_n hx hb dX11_isPath_11 rfl (lv_at hl.1 3 rfl) ?_
    refine lv_aload_n hx hb dX11_isPath_12 rfl (lv_at hl.1 0 rfl) ?_
    refine vg_getI X hH fF_X11_106 dX11_isPath_13 hf (fun x1 hf => ?_)
    refine lv_icmp_gt (tgt := 203) hx hb dX11_isPath_16 (by decide) (fun h8 => ?_) (fun h8 => ?_)
    · have hf := vg_ip h8 hf
      exact wX11_isPath_203 Z  v2 μ _ _ _ _ _ _ _ hf hH hL hC hN (hl.sub [2] rfl)
    · have hf := vg_if h8 hf
      refine lv_iload_n hx hb dX11_isPath_19 rfl (lv_at hl.1 2 rfl) ?_
      refine lv_if_eq (tgt := 203) hx hb dX11_isPath_20 (by decide) (fun h8 => ?_) (fun h8 => ?_)
      · have hf := vg_ip h8 hf
        exact wX11_isPath_203 Z  v2 μ _ _ _ _ _ _ _ hf hH hL hC hN (hl.sub [2] rfl)
      · have hf := vg_if h8 hf
        refine lv_iload_n hx hb dX11_isPath_23 rfl (lv_at hl.1 3 rfl) ?_
        refine lv_aload_n hx hb dX11_isPath_24 rfl (lv_at hl.1 0 rfl) ?_
        refine vg_getI X hH fF_X11_106 dX11_isPath_25 hf (fun x2 hf => ?_)
        refine lv_icmp_eq (tgt := 42) hx hb dX11_isPath_28 (by decide) (fun h8 => ?_) (fun h8 => ?_)
        · have hf := vg_ip h8 hf
          exact wX11_isPath_42 Z hk11 v0 v1 v3 μ _ _ _ _ _ _ _ hf hH hL hC hN (hl.sub [0, 1, 3] rfl)
        · have hf := vg_if h8 hf
          refine lv_aload_n hx hb dX11_isPath_31 rfl (lv_at hl.1 0 rfl) ?_
          refine vg_getR X hH fF_X11_7 dX11_isPath_32 hf (fun x3 hf => ?_)
          refine lv_iload_n hx hb dX11_isPath_35 rfl (lv_at hl.1 3 rfl) ?_
          obtain ⟨a4, h9, hg⟩ := vg_o_inv hf
          clear hf
          subst h9
          have hf := hg
          clear hg
          refine vg_bald X hH dX11_isPath_36 hf (fun x5 hf => ?_)
          refine lv_bipush (v := 47) hx hb dX11_isPath_37 (by decide) ?_
          refine lv_icmp_ne (tgt := 46) hx hb dX11_isPath_39 (by decide) (fun h8 => ?_) (fun h8 => ?_)
          · have hf := vg_if h8 hf
            refine lv_iconst (v := 0) hx hb dX11_isPath_46 (by decide) ?_
            exact wX11_isPath_47 Z hk11 v0 v1 v3 0 μ _ _ _ _ _ _ _ hf hH hL hC hN (hl.sub [0, 1, 3] rfl)
          · have hf := vg_ip h8 hf
            exact wX11_isPath_42 Z hk11 v0 v1 v3 μ _ _ _ _ _ _ _ hf hH hL hC hN (hl.sub [0, 1, 3] rfl)
def fX11_isPath (v0 : Nat) (μ : vg_M) : vg_R Int32 :=
  vg_o (vg_p μ v0 14 3 (.int 0)) fun μ31 =>
  fX11_isPath_11  vg_fuel v0 0 1 0 μ31
set_option maxHeartbeats 4000000 in
set_option maxRecDepth 100000 in
theorem cX11_isPath_met {l : Launch} {D : va_G} {cy : Nat → ClassId} {H0 : Heap} {r : Int32} {μ μ' : vg_M} {cn nn : Nat} {v0 : Nat} (hf : fX11_isPath v0 μ = some (r, μ', cn, nn)) : vg_Met l D cy H0 yX11_isPath cX11_isPath 7 (some .boolean) 13 μ [.ref v0] (some (.int r)) μ' cn nn := by
  refine vg_start (by decide +kernel) (List.forall_mem_cons.mpr ⟨rfl, (fun _ h => nomatch h)⟩) (Nat.le_of_ble_eq_true rfl) ?_
  intro p e s m below meth c ls X hml hr hlk hnm hH hl
  have hl : vg_l ls 7 [(0, .ref v0)] := hl
  have Z : vg_Z D cy H0 p s m _ c cX11_isPath RX11 meth 7 (some .boolean) (vg_rm 13 cn nn) 13 cn nn _ := ⟨X, hml, hr, hlk, Nat.le_refl _, Nat.le_refl _, Nat.le_refl _, Nat.le_refl _, hnm⟩
  obtain ⟨-, -, -, -, hfr, hlo, hRc, hRs, -⟩ := id Z
  have hx := X.1
  have hb := X.2.1
  have hL : ∀ z ∈ ([] : List Loc), H0.size ≤ z.base := fun _ h => nomatch h
  have hC : 0 + cn = cn := Nat.zero_add _
  have hN : 0 + nn = nn := Nat.zero_add _
  delta fX11_isPath at hf
  refine lv_aload_n hx hb dX11_isPath_0 rfl (lv_at hl.1 0 rfl) ?_
  refine lv_iconst (v := 0) hx hb dX11_isPath_1 (by decide) ?_
  refine vg_putV X hH hL fF_X11_109 rfl rfl dX11_isPath_2 hf (fun μ31 H locs hf hH hL => ?_)
  refine lv_iconst (v := 0) hx hb dX11_isPath_5 (by decide) ?_
  refine vg_istore_n (lv' := [(1, .int 0), (0, .ref v0)]) hx hb dX11_isPath_6 rfl hl (by decide) rfl (fun ls hl => ?_)
  refine lv_iconst (v := 1) hx hb dX11_isPath_7 (by decide) ?_
  refine vg_istore_n (lv' := [(2, .int 1), (1, .int 0), (0, .ref v0)]) hx hb dX11_isPath_8 rfl hl (by decide) rfl (fun ls hl => ?_)
  refine lv_iconst (v := 0) hx hb dX11_isPath_9 (by decide) ?_
  refine vg_istore_n (lv' := [(3, .int 0), (2, .int 1), (1, .int 0), (0, .ref v0)]) hx hb dX11_isPath_10 rfl hl (by decide) rfl (fun ls hl => ?_)
  exact wX11_isPath_11 Z  vg_fuel v0 0 1 0 μ31 _ _ _ _ _ _ _ hf hH hL hC hN (hl.sub [3, 2, 1, 0] rfl)
def fX11_packageOf_103  (v0 : Nat) (v2 : Int32) (μ : vg_M) : vg_R Int32 :=
  vg_o (vg_p μ v0 14 2 (.int 0)) fun μ21 =>
  vg_ret v2 μ21
set_option maxHeartbeats 4000000 in
set_option maxRecDepth 100000 in
theorem wX11_packageOf_103 {p : Program} {l : Launch} {e : Env} {R : Room} {s : State} {m : MethodId} {args : Array Value} {below : List Frame} {meth : Method} {c : Code} {D : va_G} {cy : Nat → ClassId} {H0 : Heap} {C0 N0 : Nat} {r : Int32} {μ' : vg_M} (Z : vg_Z D cy H0 p s m args c cX11_packageOf RX11 meth 4 (some .int) R 15 C0 N0 "packageOf")   (v0 : Nat) (v2 : Int32) (μ : vg_M) : vg_S p l e R s m args below meth c D cy H0 C0 N0 4 (MQ below (vg_Qc D cy H0 μ' (some (.int r))) args s C0 N0 (vg_fr H0)) r μ' (fX11_packageOf_103  v0 v2 μ) μ [(0, .ref v0), (2, .int v2)] [] 103 := by
  intro cn nn H locs cells slots ls hf hH hL hC hN hl
  obtain ⟨X, hml, hr, hlk, hfr, hlo, hRc, hRs, hnm⟩ := id Z
  have hx := X.1
  have hb := X.2.1
  delta fX11_packageOf_103 at hf
  refine lv_aload_n hx hb dX11_packageOf_103 rfl (lv_at hl.1 0 rfl) ?_
  refine lv_iconst (v := 0) hx hb dX11_packageOf_104 (by decide) ?_
  refine vg_putV X hH hL fF_X11_106 rfl rfl dX11_packageOf_105 hf (fun μ21 H locs hf hH hL => ?_)
  refine lv_iload_n hx hb dX11_packageOf_108 rfl (lv_at hl.1 1 rfl) ?_
  exact vg_reti X hr hlk hH hL dX11_packageOf_109 hf hC hN
def fX11_packageOf_102  (v0 : Nat) (k0 : Int32) (μ : vg_M) : vg_R Int32 :=
  fX11_packageOf_103  v0 k0 μ
set_option maxHeartbeats 4000000 in
set_option maxRecDepth 100000 in
theorem wX11_packageOf_102 {p : Program} {l : Launch} {e : Env} {R : Room} {s : State} {m : MethodId} {args : Array Value} {below : List Frame} {meth : Method} {c : Code} {D : va_G} {cy : Nat → ClassId} {H0 : Heap} {C0 N0 : Nat} {r : Int32} {μ' : vg_M} (Z : vg_Z D cy H0 p s m args c cX11_packageOf RX11 meth 4 (some .int) R 15 C0 N0 "packageOf")   (v0 : Nat) (k0 : Int32) (μ : vg_M) : vg_S p l e R s m args below meth c D cy H0 C0 N0 4 (MQ below (vg_Qc D cy H0 μ' (some (.int r))) args s C0 N0 (vg_fr H0)) r μ' (fX11_packageOf_102  v0 k0 μ) μ [(0, .ref v0)] [.int k0] 102 := by
  intro cn nn H locs cells slots ls hf hH hL hC hN hl
  obtain ⟨X, hml, hr, hlk, hfr, hlo, hRc, hRs, hnm⟩ := id Z
  have hx := X.1
  have hb := X.2.1
  delta fX11_packageOf_102 at hf
  refine vg_istore_n (lv' := [(2, .int k0), (0, .ref v0)]) hx hb dX11_packageOf_102 rfl hl (by decide) rfl (fun ls hl => ?_)
  exact wX11_packageOf_103 Z  v0 k0 μ _ _ _ _ _ _ _ hf hH hL hC hN (hl.sub [1, 0] rfl)
def fX11_packageOf_101  (v0 : Nat) (μ : vg_M) : vg_R Int32 :=
  fX11_packageOf_102  v0 ((-1)) μ
set_option maxHeartbeats 4000000 in
set_option maxRecDepth 100000 in
theorem wX11_packageOf_101 {p : Program} {l : Launch} {e : Env} {R : Room} {s : State} {m : MethodId} {args : Array Value} {below : List Frame} {meth : Method} {c : Code} {D : va_G} {cy : Nat → ClassId} {H0 : Heap} {C0 N0 : Nat} {r : Int32} {μ' : vg_M} (Z : vg_Z D cy H0 p s m args c cX11_packageOf RX11 meth 4 (some .int) R 15 C0 N0 "packageOf")   (v0 : Nat) (μ : vg_M) : vg_S p l e R s m args below meth c D cy H0 C0 N0 4 (MQ below (vg_Qc D cy H0 μ' (some (.int r))) args s C0 N0 (vg_fr H0)) r μ' (fX11_packageOf_101  v0 μ) μ [(0, .ref v0)] [] 101 := by
  intro cn nn H locs cells slots ls hf hH hL hC hN hl
  obtain ⟨X, hml, hr, hlk, hfr, hlo, hRc, hRs, hnm⟩ := id Z
  have hx := X.1
  have hb := X.2.1
  delta fX11_packageOf_101 at hf
  refine lv_iconst (v := (-1)) hx hb dX11_packageOf_101 (by decide) ?_
  exact wX11_packageOf_102 Z  v0 ((-1)) μ _ _ _ _ _ _ _ hf hH hL hC hN (hl.sub [0] rfl)
def fX11_packageOf_12  : Nat → Nat → Int32 → Int32 → vg_M → vg_R Int32
  | 0, _, _, _, _ => none
  | n + 1, v0, v1, v2, μ =>
    vg_o (vg_gI μ v0 14 2) fun x1 =>
    if x1 ≤ v2 then (
     vg_o (vg_gI μ v0 14 2) fun x2 =>
     if x2 ≤ 0 then (
      fX11_packageOf_103  v0 60 μ
      ) else (
      vg_cv 14 v0 μ (fX11_isPath v0  μ) fun x3 μ4 =>
      vg_cv 14 v0 μ4 (fX11_go v0  μ4) fun x5 μ6 =>
      if x3 = 0 then (
       fX11_packageOf_101  v0 μ6
       ) else (
       vg_o (vg_gI μ6 v0 14 36) fun x7 =>
       vg_o (vg_gI μ6 v0 14 3) fun x8 =>
       if x7 = x8 then (
        vg_o (vg_gR μ6 v0 14 6) fun x9 =>
        vg_o x9 fun a10 =>
        vg_o (vg_aI μ6 a10 2 x5) fun x11 =>
        if x11 = 2 then (
         vg_o (vg_gR μ6 v0 14 11) fun x12 =>
         vg_o x12 fun a13 =>
         vg_o (vg_aI μ6 a13 3 x5) fun x14 =>
         if x14 = 0 then (
          fX11_packageOf_101  v0 μ6
          ) else (
          fX11_packageOf_102  v0 x5 μ6
          )
         ) else (
         fX11_packageOf_101  v0 μ6
         )
        ) else (
        fX11_packageOf_101  v0 μ6
        )
       )
      )
     ) else (
     vg_o (vg_gR μ v0 14 1) fun x15 =>
     vg_o (vg_gR μ v0 14 21) fun x16 =>
     vg_o x16 fun a17 =>
     vg_o (vg_aI μ a17 0 ((60 * v1) + v2)) fun x18 =>
     vg_o x15 fun a19 =>
     vg_o (vg_sI μ a19 0 v2 x18) fun μ20 =>
     (fX11_packageOf_12  n) v0 v1 (v2 + 1) μ20
     )
set_option maxHeartbeats 4000000 in
set_option maxRecDepth 100000 in
theorem wX11_packageOf_12 {p : Program} {l : Launch} {e : Env} {R : Room} {s : State} {m : MethodId} {args : Array Value} {below : List Frame} {meth : Method} {c : Code} {D : va_G} {cy : Nat → ClassId} {H0 : Heap} {C0 N0 : Nat} {r : Int32} {μ' : vg_M} (Z : vg_Z D cy H0 p s m args c cX11_packageOf RX11 meth 4 (some .int) R 15 C0 N0 "packageOf")   : ∀ (n : Nat) (v0 : Nat) (v1 : Int32) (v2 : Int32) (μ : vg_M), vg_S p l e R s m args below meth c D cy H0 C0 N0 4 (MQ below (vg_Qc D cy H0 μ' (some (.int r))) args s C0 N0 (vg_fr H0)) r μ' (fX11_packageOf_12  n v0 v1 v2 μ) μ [(0, .ref v0), (1, .int v1), (2, .int v2)] [] 12 := by
  intro n
  induction n with
  | zero =>
    intro v0 v1 v2 μ cn nn H locs cells slots ls hf
    simp [fX11_packageOf_12] at hf
  | succ n hk12 =>
    intro v0 v1 v2 μ
    intro cn nn H locs cells slots ls hf hH hL hC hN hl
    obtain ⟨X, hml, hr, hlk, hfr, hlo, hRc, hRs, hnm⟩ := id Z
    have hx := X.1
    have hb := X.2.1
    rw [fX11_packageOf_12] at hf
    refine lv_iload_n hx hb dX11_packageOf_12 rfl (lv_at hl.1 2 rfl) ?_
    refine lv_aload_n hx hb dX11_packageOf_13 rfl (lv_at hl.1 0 rfl) ?_
    refine vg_getI X hH fF_X11_106 dX11_packageOf_14 hf (fun x1 hf => ?_)
    refine lv_icmp_ge (tgt := 43) hx hb dX11_packageOf_17 (by decide) (fun h8 => ?_) (fun h8 => ?_)
    · have hf := vg_ip h8 hf
      refine lv_bipush (v := 60) hx hb dX11_packageOf_43 (by decide) ?_
      refine vg_istore_n (lv' := [(2, .int 60), (0, .ref v0), (1, .int v1)]) hx hb dX11_packageOf_45 rfl hl (by decide) rfl (fun ls hl => ?_)
      refine lv_aload_n hx hb dX11_packageOf_46 rfl (lv_at hl.1 1 rfl) ?_
      refine vg_getI X hH fF_X11_106 dX11_packageOf_47 hf (fun x2 hf => ?_)
      refine lv_if_le (tgt := 103) hx hb dX11_packageOf_50 (by decide) (fun h8 => ?_) (fun h8 => ?_)
      · have hf := vg_ip h8 hf
        exact wX11_packageOf_103 Z  v0 60 μ _ _ _ _ _ _ _ hf hH hL hC hN (hl.sub [1, 0] rfl)
      · have hf := vg_if h8 hf
        refine lv_aload_n hx hb dX11_packageOf_53 rfl (lv_at hl.1 1 rfl) ?_
        refine vg_callVi (ci := 14) X hml hl hH hL fCV_X11_134 rfl [] rfl rfl (Nat.le_of_ble_eq_true rfl) dX11_packageOf_54 hf hC hN hRc hRs hfr hlo (by decide) (fun _ _ _ _ h => cX11_isPath_met h) (fun x3 μ4 cn nn H locs cells slots hf hC hN hH hL => ?_)
        refine vg_istore_n (lv' := [(3, .int x3), (2, .int 60), (0, .ref v0), (1, .int v1)]) hx hb dX11_packageOf_57 rfl hl (by decide) rfl (fun ls hl => ?_)
        refine lv_aload_n hx hb dX11_packageOf_58 rfl (lv_at hl.1 2 rfl) ?_
        refine vg_callVi (ci := 14) X hml hl hH hL fCV_X11_141 rfl [] rfl rfl (Nat.le_of_ble_eq_true rfl) dX11_packageOf_59 hf hC hN hRc hRs hfr hlo (by decide) (fun _ _ _ _ h => cX11_go_met h) (fun x5 μ6 cn nn H locs cells slots hf hC hN hH hL => ?_)
        refine vg_istore_n (lv' := [(2, .int x5), (3, .int x3), (0, .ref v0), (1, .int v1)]) hx hb dX11_packageOf_62 rfl hl (by decide) rfl (fun ls hl => ?_)
        refine lv_iload_n hx hb dX11_packageOf_63 rfl (lv_at hl.1 1 rfl) ?_
        refine lv_if_eq (tgt := 101) hx hb dX11_packageOf_64 (by decide) (fun h8 => ?_) (fun h8 => ?_)
        · have hf := vg_ip h8 hf
          exact wX11_packageOf_101 Z  v0 μ6 _ _ _ _ _ _ _ hf hH hL hC hN (hl.sub [2] rfl)
        · have hf := vg_if h8 hf
          refine lv_aload_n hx hb dX11_packageOf_67 rfl (lv_at hl.1 2 rfl) ?_
          refine vg_getI X hH fF_X11_120 dX11_packageOf_68 hf (fun x7 hf => ?_)
          refine lv_aload_n hx hb dX11_packageOf_71 rfl (lv_at hl.1 2 rfl) ?_
          refine vg_getI X hH fF_X11_109 dX11_packageOf_72 hf (fun x8 hf => ?_)
          refine lv_icmp_ne (tgt := 101) hx hb dX11_packageOf_75 (by decide) (fun h8 => ?_) (fun h8 => ?_)
          · have hf := vg_if h8 hf
            exact wX11_packageOf_101 Z  v0 μ6 _ _ _ _ _ _ _ hf hH hL hC hN (hl.sub [2] rfl)
          · have hf := vg_ip h8 hf
            refine lv_aload_n hx hb dX11_packageOf_78 rfl (lv_at hl.1 2 rfl) ?_
            refine vg_getR X hH fF_X11_20 dX11_packageOf_79 hf (fun x9 hf => ?_)
            refine lv_iload_n hx hb dX11_packageOf_82 rfl (lv_at hl.1 0 rfl) ?_
            obtain ⟨a10, h9, hg⟩ := vg_o_inv hf
            clear hf
            subst h9
            have hf := hg
            clear hg
            refine vg_iald X hH dX11_packageOf_83 hf (fun x11 hf => ?_)
            refine lv_iconst (v := 2) hx hb dX11_packageOf_84 (by decide) ?_
            refine lv_icmp_ne (tgt := 101) hx hb dX11_packageOf_85 (by decide) (fun h8 => ?_) (fun h8 => ?_)
            · have hf := vg_if h8 hf
              exact wX11_packageOf_101 Z  v0 μ6 _ _ _ _ _ _ _ hf hH hL hC hN (hl.sub [2] rfl)
            · have hf := vg_ip h8 hf
              refine lv_aload_n hx hb dX11_packageOf_88 rfl (lv_at hl.1 2 rfl) ?_
              refine vg_getR X hH fF_X11_35 dX11_packageOf_89 hf (fun x12 hf => ?_)
              refine lv_iload_n hx hb dX11_packageOf_92 rfl (lv_at hl.1 0 rfl) ?_
              obtain ⟨a13, h9, hg⟩ := vg_o_inv hf
              clear hf
              subst h9
              have hf := hg
              clear hg
              refine vg_zald X hH dX11_packageOf_93 hf (fun x14 hf => ?_)
              refine lv_if_eq (tgt := 101) hx hb dX11_packageOf_94 (by decide) (fun h8 => ?_) (fun h8 => ?_)
              · have hf := vg_ip h8 hf
                exact wX11_packageOf_101 Z  v0 μ6 _ _ _ _ _ _ _ hf hH hL hC hN (hl.sub [2] rfl)
              · have hf := vg_if h8 hf
                refine lv_iload_n hx hb dX11_packageOf_97 rfl (lv_at hl.1 0 rfl) ?_
                refine lv_goto (tgt := 102) hx hb dX11_packageOf_98 (by decide) ?_
                exact wX11_packageOf_102 Z  v0 x5 μ6 _ _ _ _ _ _ _ hf hH hL hC hN (hl.sub [2] rfl)
    · have hf := vg_if h8 hf
      refine lv_aload_n hx hb dX11_packageOf_20 rfl (lv_at hl.1 0 rfl) ?_
      refine vg_getR X hH fF_X11_7 dX11_packageOf_21 hf (fun x15 hf => ?_)
      refine lv_iload_n hx hb dX11_packageOf_24 rfl (lv_at hl.1 2 rfl) ?_
      refine lv_aload_n hx hb dX11_packageOf_25 rfl (lv_at hl.1 0 rfl) ?_
      refine vg_getR X hH fF_X11_57 dX11_packageOf_26 hf (fun x16 hf => ?_)
      refine lv_bipush (v := 60) hx hb dX11_packageOf_29 (by decide) ?_
      refine lv_iload_n hx hb dX11_packageOf_31 rfl (lv_at hl.1 1 rfl) ?_
      refine lv_imul hx hb dX11_packageOf_32 ?_
      refine lv_iload_n hx hb dX11_packageOf_33 rfl (lv_at hl.1 2 rfl) ?_
      refine lv_iadd hx hb dX11_packageOf_34 ?_
      obtain ⟨a17, h9, hg⟩ := vg_o_inv hf
      clear hf
      subst h9
      have hf := hg
      clear hg
      refine vg_bald X hH dX11_packageOf_35 hf (fun x18 hf => ?_)
      obtain ⟨a19, h9, hg⟩ := vg_o_inv hf
      clear hf
      subst h9
      have hf := hg
      clear hg
      refine vg_bast X hH hL dX11_packageOf_36 hf (fun μ20 H locs hf hH hL => ?_)
      refine vg_iinc (v := v2 + 1) (lv' := [(2, .int (v2 + 1)), (0, .ref v0), (1, .int v1)]) hx hb dX11_packageOf_37 hl (k := 2) rfl rfl (by decide) rfl (fun ls hl => ?_)
      refine lv_goto (tgt := 12) hx hb dX11_packageOf_40 (by decide) ?_
      exact hk12 v0 v1 (v2 + 1) μ20 _ _ _ _ _ _ _ hf hH hL hC hN (hl.sub [1, 2, 0] rfl)
def fX11_packageOf (v0 : Nat) (v1 : Int32) (μ : vg_M) : vg_R Int32 :=
  vg_o (vg_gR μ v0 14 16) fun x22 =>
  vg_o x22 fun a23 =>
  vg_o (vg_aI μ a23 2 v1) fun x24 =>
  vg_o (vg_p μ v0 14 2 (.int x24)) fun μ25 =>
  fX11_packageOf_12  vg_fuel v0 v1 0 μ25
set_option maxHeartbeats 4000000 in
set_option maxRecDepth 100000 in
theorem cX11_packageOf_met {l : Launch} {D : va_G} {cy : Nat → ClassId} {H0 : Heap} {r : Int32} {μ μ' : vg_M} {cn nn : Nat} {v0 : Nat} {v1 : Int32} (hf : fX11_packageOf v0 v1 μ = some (r, μ', cn, nn)) : vg_Met l D cy H0 yX11_packageOf cX11_packageOf 4 (some .int) 15 μ [.ref v0, .int v1] (some (.int r)) μ' cn nn := by
  refine vg_start (by decide +kernel) (List.forall_mem_cons.mpr ⟨rfl, (List.forall_mem_cons.mpr ⟨rfl, (fun _ h => nomatch h)⟩)⟩) (Nat.le_of_ble_eq_true rfl) ?_
  intro p e s m below meth c ls X hml hr hlk hnm hH hl
  have hl : vg_l ls 4 [(0, .ref v0), (1, .int v1)] := hl
  have Z : vg_Z D cy H0 p s m _ c cX11_packageOf RX11 meth 4 (some .int) (vg_rm 15 cn nn) 15 cn nn _ := ⟨X, hml, hr, hlk, Nat.le_refl _, Nat.le_refl _, Nat.le_refl _, Nat.le_refl _, hnm⟩
  obtain ⟨-, -, -, -, hfr, hlo, hRc, hRs, -⟩ := id Z
  have hx := X.1
  have hb := X.2.1
  have hL : ∀ z ∈ ([] : List Loc), H0.size ≤ z.base := fun _ h => nomatch h
  have hC : 0 + cn = cn := Nat.zero_add _
  have hN : 0 + nn = nn := Nat.zero_add _
  delta fX11_packageOf at hf
  refine lv_aload_n hx hb dX11_packageOf_0 rfl (lv_at hl.1 0 rfl) ?_
  refine lv_aload_n hx hb dX11_packageOf_1 rfl (lv_at hl.1 0 rfl) ?_
  refine vg_getR X hH fF_X11_42 dX11_packageOf_2 hf (fun x22 hf => ?_)
  refine lv_iload_n hx hb dX11_packageOf_5 rfl (lv_at hl.1 1 rfl) ?_
  obtain ⟨a23, h9, hg⟩ := vg_o_inv hf
  clear hf
  subst h9
  have hf := hg
  clear hg
  refine vg_iald X hH dX11_packageOf_6 hf (fun x24 hf => ?_)
  refine vg_putV X hH hL fF_X11_106 rfl rfl dX11_packageOf_7 hf (fun μ25 H locs hf hH hL => ?_)
  refine lv_iconst (v := 0) hx hb dX11_packageOf_10 (by decide) ?_
  refine vg_istore_n (lv' := [(2, .int 0), (0, .ref v0), (1, .int v1)]) hx hb dX11_packageOf_11 rfl hl (by decide) rfl (fun ls hl => ?_)
  exact wX11_packageOf_12 Z  vg_fuel v0 v1 0 μ25 _ _ _ _ _ _ _ hf hH hL hC hN (hl.sub [1, 2, 0] rfl)
def fX11_enter (v0 : Nat) (v1 : Int32) (v2 : Int32) (μ : vg_M) : vg_R Unit :=
  vg_o (vg_gI μ v0 14 30) fun x1 =>
  vg_o (vg_p μ v0 14 30 (.int (x1 + 1))) fun μ2 =>
  vg_o (vg_gR μ2 v0 14 31) fun x3 =>
  vg_o (vg_gI μ2 v0 14 30) fun x4 =>
  vg_o x3 fun a5 =>
  vg_o (vg_sI μ2 a5 2 x4 v1) fun μ6 =>
  vg_o (vg_gR μ6 v0 14 34) fun x7 =>
  vg_o (vg_gI μ6 v0 14 30) fun x8 =>
  vg_o x7 fun a9 =>
  vg_o (vg_sI μ6 a9 2 x8 v1) fun μ10 =>
  vg_o (vg_gR μ10 v0 14 32) fun x11 =>
  vg_o (vg_gI μ10 v0 14 30) fun x12 =>
  vg_o x11 fun a13 =>
  vg_o (vg_sI μ10 a13 2 x12 ((-1))) fun μ14 =>
  vg_o (vg_gR μ14 v0 14 33) fun x15 =>
  vg_o (vg_gI μ14 v0 14 30) fun x16 =>
  vg_o x15 fun a17 =>
  vg_o (vg_sI μ14 a17 2 x16 v2) fun μ18 =>
  vg_ret () μ18
set_option maxHeartbeats 4000000 in
set_option maxRecDepth 100000 in
theorem cX11_enter_met {l : Launch} {D : va_G} {cy : Nat → ClassId} {H0 : Heap} {r : Unit} {μ μ' : vg_M} {cn nn : Nat} {v0 : Nat} {v1 : Int32} {v2 : Int32} (hf : fX11_enter v0 v1 v2 μ = some (r, μ', cn, nn)) : vg_Met l D cy H0 yX11_enter cX11_enter 3 none 12 μ [.ref v0, .int v1, .int v2] none μ' cn nn := by
  refine vg_start (by decide +kernel) (List.forall_mem_cons.mpr ⟨rfl, (List.forall_mem_cons.mpr ⟨rfl, (List.forall_mem_cons.mpr ⟨rfl, (fun _ h => nomatch h)⟩)⟩)⟩) (Nat.le_of_ble_eq_true rfl) ?_
  intro p e s m below meth c ls X hml hr hlk hnm hH hl
  have hl : vg_l ls 3 [(0, .ref v0), (1, .int v1), (2, .int v2)] := hl
  have Z : vg_Z D cy H0 p s m _ c cX11_enter RX11 meth 3 none (vg_rm 12 cn nn) 12 cn nn _ := ⟨X, hml, hr, hlk, Nat.le_refl _, Nat.le_refl _, Nat.le_refl _, Nat.le_refl _, hnm⟩
  obtain ⟨-, -, -, -, hfr, hlo, hRc, hRs, -⟩ := id Z
  have hx := X.1
  have hb := X.2.1
  have hL : ∀ z ∈ ([] : List Loc), H0.size ≤ z.base := fun _ h => nomatch h
  have hC : 0 + cn = cn := Nat.zero_add _
  have hN : 0 + nn = nn := Nat.zero_add _
  delta fX11_enter at hf
  refine lv_aload_n hx hb dX11_enter_0 rfl (lv_at hl.1 0 rfl) ?_
  refine lv_dup hx hb dX11_enter_1 rfl ?_
  refine vg_getI X hH fF_X11_198 dX11_enter_2 hf (fun x1 hf => ?_)
  refine lv_iconst (v := 1) hx hb dX11_enter_5 (by decide) ?_
  refine lv_iadd hx hb dX11_enter_6 ?_
  refine vg_putV X hH hL fF_X11_198 rfl rfl dX11_enter_7 hf (fun μ2 H locs hf hH hL => ?_)
  refine lv_aload_n hx hb dX11_enter_10 rfl (lv_at hl.1 0 rfl) ?_
  refine vg_getR X hH fF_X11_79 dX11_enter_11 hf (fun x3 hf => ?_)
  refine lv_aload_n hx hb dX11_enter_14 rfl (lv_at hl.1 0 rfl) ?_
  refine vg_getI X hH fF_X11_198 dX11_enter_15 hf (fun x4 hf => ?_)
  refine lv_iload_n hx hb dX11_enter_18 rfl (lv_at hl.1 1 rfl) ?_
  obtain ⟨a5, h9, hg⟩ := vg_o_inv hf
  clear hf
  subst h9
  have hf := hg
  clear hg
  refine vg_iast X hH hL dX11_enter_19 hf (fun μ6 H locs hf hH hL => ?_)
  refine lv_aload_n hx hb dX11_enter_20 rfl (lv_at hl.1 0 rfl) ?_
  refine vg_getR X hH fF_X11_88 dX11_enter_21 hf (fun x7 hf => ?_)
  refine lv_aload_n hx hb dX11_enter_24 rfl (lv_at hl.1 0 rfl) ?_
  refine vg_getI X hH fF_X11_198 dX11_enter_25 hf (fun x8 hf => ?_)
  refine lv_iload_n hx hb dX11_enter_28 rfl (lv_at hl.1 1 rfl) ?_
  obtain ⟨a9, h9, hg⟩ := vg_o_inv hf
  clear hf
  subst h9
  have hf := hg
  clear hg
  refine vg_iast X hH hL dX11_enter_29 hf (fun μ10 H locs hf hH hL => ?_)
  refine lv_aload_n hx hb dX11_enter_30 rfl (lv_at hl.1 0 rfl) ?_
  refine vg_getR X hH fF_X11_82 dX11_enter_31 hf (fun x11 hf => ?_)
  refine lv_aload_n hx hb dX11_enter_34 rfl (lv_at hl.1 0 rfl) ?_
  refine vg_getI X hH fF_X11_198 dX11_enter_35 hf (fun x12 hf => ?_)
  refine lv_iconst (v := (-1)) hx hb dX11_enter_38 (by decide) ?_
  obtain ⟨a13, h9, hg⟩ := vg_o_inv hf
  clear hf
  subst h9
  have hf := hg
  clear hg
  refine vg_iast X hH hL dX11_enter_39 hf (fun μ14 H locs hf hH hL => ?_)
  refine lv_aload_n hx hb dX11_enter_40 rfl (lv_at hl.1 0 rfl) ?_
  refine vg_getR X hH fF_X11_85 dX11_enter_41 hf (fun x15 hf => ?_)
  refine lv_aload_n hx hb dX11_enter_44 rfl (lv_at hl.1 0 rfl) ?_
  refine vg_getI X hH fF_X11_198 dX11_enter_45 hf (fun x16 hf => ?_)
  refine lv_iload_n hx hb dX11_enter_48 rfl (lv_at hl.1 2 rfl) ?_
  obtain ⟨a17, h9, hg⟩ := vg_o_inv hf
  clear hf
  subst h9
  have hf := hg
  clear hg
  refine vg_iast X hH hL dX11_enter_49 hf (fun μ18 H locs hf hH hL => ?_)
  exact vg_retv X hr hlk hH hL dX11_enter_50 hf hC hN
def fX11_compare_34  : Nat → Nat → Int32 → Int32 → Int32 → Int32 → vg_M → vg_R Int32
  | 0, _, _, _, _, _, _ => none
  | n + 1, v0, v1, v2, v3, v4, μ =>
    if v3 ≤ v4 then (
     vg_o (vg_gR μ v0 14 8) fun x1 =>
     vg_o x1 fun a2 =>
     vg_o (vg_aI μ a2 2 v1) fun x3 =>
     vg_o (vg_gR μ v0 14 8) fun x4 =>
     vg_o x4 fun a5 =>
     vg_o (vg_aI μ a5 2 v2) fun x6 =>
     vg_ret (x3 - x6) μ
     ) else (
     vg_o (vg_gR μ v0 14 12) fun x7 =>
     vg_o x7 fun a8 =>
     vg_o (vg_aI μ a8 0 ((8 * v1) + v4)) fun x9 =>
     vg_o (vg_gR μ v0 14 12) fun x10 =>
     vg_o x10 fun a11 =>
     vg_o (vg_aI μ a11 0 ((8 * v2) + v4)) fun x12 =>
     if (x9 - x12) = 0 then (
      (fX11_compare_34  n) v0 v1 v2 v3 (v4 + 1) μ
      ) else (
      vg_ret (x9 - x12) μ
      )
     )
set_option maxHeartbeats 4000000 in
set_option maxRecDepth 100000 in
theorem wX11_compare_34 {p : Program} {l : Launch} {e : Env} {R : Room} {s : State} {m : MethodId} {args : Array Value} {below : List Frame} {meth : Method} {c : Code} {D : va_G} {cy : Nat → ClassId} {H0 : Heap} {C0 N0 : Nat} {r : Int32} {μ' : vg_M} (Z : vg_Z D cy H0 p s m args c cX11_compare RX11 meth 6 (some .int) R 12 C0 N0 "compare")   : ∀ (n : Nat) (v0 : Nat) (v1 : Int32) (v2 : Int32) (v3 : Int32) (v4 : Int32) (μ : vg_M), vg_S p l e R s m args below meth c D cy H0 C0 N0 6 (MQ below (vg_Qc D cy H0 μ' (some (.int r))) args s C0 N0 (vg_fr H0)) r μ' (fX11_compare_34  n v0 v1 v2 v3 v4 μ) μ [(0, .ref v0), (1, .int v1), (2, .int v2), (3, .int v3), (4, .int v4)] [] 34 := by
  intro n
  induction n with
  | zero =>
    intro v0 v1 v2 v3 v4 μ cn nn H locs cells slots ls hf
    simp [fX11_compare_34] at hf
  | succ n hk34 =>
    intro v0 v1 v2 v3 v4 μ
    intro cn nn H locs cells slots ls hf hH hL hC hN hl
    obtain ⟨X, hml, hr, hlk, hfr, hlo, hRc, hRs, hnm⟩ := id Z
    have hx := X.1
    have hb := X.2.1
    rw [fX11_compare_34] at hf
    refine lv_iload hx hb dX11_compare_34 (lv_at hl.1 4 rfl) ?_
    refine lv_iload_n hx hb dX11_compare_36 rfl (lv_at hl.1 3 rfl) ?_
    refine lv_icmp_ge (tgt := 81) hx hb dX11_compare_37 (by decide) (fun h8 => ?_) (fun h8 => ?_)
    · have hf := vg_ip h8 hf
      refine lv_aload_n hx hb dX11_compare_81 rfl (lv_at hl.1 0 rfl) ?_
      refine vg_getR X hH fF_X11_26 dX11_compare_82 hf (fun x1 hf => ?_)
      refine lv_iload_n hx hb dX11_compare_85 rfl (lv_at hl.1 1 rfl) ?_
      obtain ⟨a2, h9, hg⟩ := vg_o_inv hf
      clear hf
      subst h9
      have hf := hg
      clear hg
      refine vg_iald X hH dX11_compare_86 hf (fun x3 hf => ?_)
      refine lv_aload_n hx hb dX11_compare_87 rfl (lv_at hl.1 0 rfl) ?_
      refine vg_getR X hH fF_X11_26 dX11_compare_88 hf (fun x4 hf => ?_)
      refine lv_iload_n hx hb dX11_compare_91 rfl (lv_at hl.1 2 rfl) ?_
      obtain ⟨a5, h9, hg⟩ := vg_o_inv hf
      clear hf
      subst h9
      have hf := hg
      clear hg
      refine vg_iald X hH dX11_compare_92 hf (fun x6 hf => ?_)
      refine lv_isub hx hb dX11_compare_93 ?_
      exact vg_reti X hr hlk hH hL dX11_compare_94 hf hC hN
    · have hf := vg_if h8 hf
      refine lv_aload_n hx hb dX11_compare_40 rfl (lv_at hl.1 0 rfl) ?_
      refine vg_getR X hH fF_X11_39 dX11_compare_41 hf (fun x7 hf => ?_)
      refine lv_bipush (v := 8) hx hb dX11_compare_44 (by decide) ?_
      refine lv_iload_n hx hb dX11_compare_46 rfl (lv_at hl.1 1 rfl) ?_
      refine lv_imul hx hb dX11_compare_47 ?_
      refine lv_iload hx hb dX11_compare_48 (lv_at hl.1 4 rfl) ?_
      refine lv_iadd hx hb dX11_compare_50 ?_
      obtain ⟨a8, h9, hg⟩ := vg_o_inv hf
      clear hf
      subst h9
      have hf := hg
      clear hg
      refine vg_bald X hH dX11_compare_51 hf (fun x9 hf => ?_)
      refine lv_aload_n hx hb dX11_compare_52 rfl (lv_at hl.1 0 rfl) ?_
      refine vg_getR X hH fF_X11_39 dX11_compare_53 hf (fun x10 hf => ?_)
      refine lv_bipush (v := 8) hx hb dX11_compare_56 (by decide) ?_
      refine lv_iload_n hx hb dX11_compare_58 rfl (lv_at hl.1 2 rfl) ?_
      refine lv_imul hx hb dX11_compare_59 ?_
      refine lv_iload hx hb dX11_compare_60 (lv_at hl.1 4 rfl) ?_
      refine lv_iadd hx hb dX11_compare_62 ?_
      obtain ⟨a11, h9, hg⟩ := vg_o_inv hf
      clear hf
      subst h9
      have hf := hg
      clear hg
      refine vg_bald X hH dX11_compare_63 hf (fun x12 hf => ?_)
      refine lv_isub hx hb dX11_compare_64 ?_
      refine vg_istore (lv' := [(5, .int (x9 - x12)), (0, .ref v0), (1, .int v1), (2, .int v2), (3, .int v3), (4, .int v4)]) hx hb dX11_compare_65 hl (by decide) rfl (fun ls hl => ?_)
      refine lv_iload hx hb dX11_compare_67 (lv_at hl.1 0 rfl) ?_
      refine lv_if_eq (tgt := 75) hx hb dX11_compare_69 (by decide) (fun h8 => ?_) (fun h8 => ?_)
      · have hf := vg_ip h8 hf
        refine vg_iinc (v := v4 + 1) (lv' := [(4, .int (v4 + 1)), (5, .int (x9 - x12)), (0, .ref v0), (1, .int v1), (2, .int v2), (3, .int v3)]) hx hb dX11_compare_75 hl (k := 5) rfl rfl (by decide) rfl (fun ls hl => ?_)
        refine lv_goto (tgt := 34) hx hb dX11_compare_78 (by decide) ?_
        exact hk34 v0 v1 v2 v3 (v4 + 1) μ _ _ _ _ _ _ _ hf hH hL hC hN (hl.sub [2, 3, 4, 5, 0] rfl)
      · have hf := vg_if h8 hf
        refine lv_iload hx hb dX11_compare_72 (lv_at hl.1 0 rfl) ?_
        exact vg_reti X hr hlk hH hL dX11_compare_74 hf hC hN
def fX11_compare_30  (v0 : Nat) (v1 : Int32) (v2 : Int32) (k0 : Int32) (μ : vg_M) : vg_R Int32 :=
  fX11_compare_34  vg_fuel v0 v1 v2 k0 0 μ
set_option maxHeartbeats 4000000 in
set_option maxRecDepth 100000 in
theorem wX11_compare_30 {p : Program} {l : Launch} {e : Env} {R : Room} {s : State} {m : MethodId} {args : Array Value} {below : List Frame} {meth : Method} {c : Code} {D : va_G} {cy : Nat → ClassId} {H0 : Heap} {C0 N0 : Nat} {r : Int32} {μ' : vg_M} (Z : vg_Z D cy H0 p s m args c cX11_compare RX11 meth 6 (some .int) R 12 C0 N0 "compare")   (v0 : Nat) (v1 : Int32) (v2 : Int32) (k0 : Int32) (μ : vg_M) : vg_S p l e R s m args below meth c D cy H0 C0 N0 6 (MQ below (vg_Qc D cy H0 μ' (some (.int r))) args s C0 N0 (vg_fr H0)) r μ' (fX11_compare_30  v0 v1 v2 k0 μ) μ [(0, .ref v0), (1, .int v1), (2, .int v2)] [.int k0] 30 := by
  intro cn nn H locs cells slots ls hf hH hL hC hN hl
  obtain ⟨X, hml, hr, hlk, hfr, hlo, hRc, hRs, hnm⟩ := id Z
  have hx := X.1
  have hb := X.2.1
  delta fX11_compare_30 at hf
  refine vg_istore_n (lv' := [(3, .int k0), (0, .ref v0), (1, .int v1), (2, .int v2)]) hx hb dX11_compare_30 rfl hl (by decide) rfl (fun ls hl => ?_)
  refine lv_iconst (v := 0) hx hb dX11_compare_31 (by decide) ?_
  refine vg_istore (lv' := [(4, .int 0), (3, .int k0), (0, .ref v0), (1, .int v1), (2, .int v2)]) hx hb dX11_compare_32 hl (by decide) rfl (fun ls hl => ?_)
  exact wX11_compare_34 Z  vg_fuel v0 v1 v2 k0 0 μ _ _ _ _ _ _ _ hf hH hL hC hN (hl.sub [2, 3, 4, 1, 0] rfl)
def fX11_compare (v0 : Nat) (v1 : Int32) (v2 : Int32) (μ : vg_M) : vg_R Int32 :=
  vg_o (vg_gR μ v0 14 8) fun x13 =>
  vg_o x13 fun a14 =>
  vg_o (vg_aI μ a14 2 v1) fun x15 =>
  vg_o (vg_gR μ v0 14 8) fun x16 =>
  vg_o x16 fun a17 =>
  vg_o (vg_aI μ a17 2 v2) fun x18 =>
  if x18 ≤ x15 then (
   vg_o (vg_gR μ v0 14 8) fun x19 =>
   vg_o x19 fun a20 =>
   vg_o (vg_aI μ a20 2 v2) fun x21 =>
   fX11_compare_30  v0 v1 v2 x21 μ
   ) else (
   vg_o (vg_gR μ v0 14 8) fun x22 =>
   vg_o x22 fun a23 =>
   vg_o (vg_aI μ a23 2 v1) fun x24 =>
   fX11_compare_30  v0 v1 v2 x24 μ
   )
set_option maxHeartbeats 4000000 in
set_option maxRecDepth 100000 in
theorem cX11_compare_met {l : Launch} {D : va_G} {cy : Nat → ClassId} {H0 : Heap} {r : Int32} {μ μ' : vg_M} {cn nn : Nat} {v0 : Nat} {v1 : Int32} {v2 : Int32} (hf : fX11_compare v0 v1 v2 μ = some (r, μ', cn, nn)) : vg_Met l D cy H0 yX11_compare cX11_compare 6 (some .int) 12 μ [.ref v0, .int v1, .int v2] (some (.int r)) μ' cn nn := by
  refine vg_start (by decide +kernel) (List.forall_mem_cons.mpr ⟨rfl, (List.forall_mem_cons.mpr ⟨rfl, (List.forall_mem_cons.mpr ⟨rfl, (fun _ h => nomatch h)⟩)⟩)⟩) (Nat.le_of_ble_eq_true rfl) ?_
  intro p e s m below meth c ls X hml hr hlk hnm hH hl
  have hl : vg_l ls 6 [(0, .ref v0), (1, .int v1), (2, .int v2)] := hl
  have Z : vg_Z D cy H0 p s m _ c cX11_compare RX11 meth 6 (some .int) (vg_rm 12 cn nn) 12 cn nn _ := ⟨X, hml, hr, hlk, Nat.le_refl _, Nat.le_refl _, Nat.le_refl _, Nat.le_refl _, hnm⟩
  obtain ⟨-, -, -, -, hfr, hlo, hRc, hRs, -⟩ := id Z
  have hx := X.1
  have hb := X.2.1
  have hL : ∀ z ∈ ([] : List Loc), H0.size ≤ z.base := fun _ h => nomatch h
  have hC : 0 + cn = cn := Nat.zero_add _
  have hN : 0 + nn = nn := Nat.zero_add _
  delta fX11_compare at hf
  refine lv_aload_n hx hb dX11_compare_0 rfl (lv_at hl.1 0 rfl) ?_
  refine vg_getR X hH fF_X11_26 dX11_compare_1 hf (fun x13 hf => ?_)
  refine lv_iload_n hx hb dX11_compare_4 rfl (lv_at hl.1 1 rfl) ?_
  obtain ⟨a14, h9, hg⟩ := vg_o_inv hf
  clear hf
  subst h9
  have hf := hg
  clear hg
  refine vg_iald X hH dX11_compare_5 hf (fun x15 hf => ?_)
  refine lv_aload_n hx hb dX11_compare_6 rfl (lv_at hl.1 0 rfl) ?_
  refine vg_getR X hH fF_X11_26 dX11_compare_7 hf (fun x16 hf => ?_)
  refine lv_iload_n hx hb dX11_compare_10 rfl (lv_at hl.1 2 rfl) ?_
  obtain ⟨a17, h9, hg⟩ := vg_o_inv hf
  clear hf
  subst h9
  have hf := hg
  clear hg
  refine vg_iald X hH dX11_compare_11 hf (fun x18 hf => ?_)
  refine lv_icmp_ge (tgt := 24) hx hb dX11_compare_12 (by decide) (fun h8 => ?_) (fun h8 => ?_)
  · have hf := vg_ip h8 hf
    refine lv_aload_n hx hb dX11_compare_24 rfl (lv_at hl.1 0 rfl) ?_
    refine vg_getR X hH fF_X11_26 dX11_compare_25 hf (fun x19 hf => ?_)
    refine lv_iload_n hx hb dX11_compare_28 rfl (lv_at hl.1 2 rfl) ?_
    obtain ⟨a20, h9, hg⟩ := vg_o_inv hf
    clear hf
    subst h9
    have hf := hg
    clear hg
    refine vg_iald X hH dX11_compare_29 hf (fun x21 hf => ?_)
    exact wX11_compare_30 Z  v0 v1 v2 x21 μ _ _ _ _ _ _ _ hf hH hL hC hN (hl.sub [0, 1, 2] rfl)
  · have hf := vg_if h8 hf
    refine lv_aload_n hx hb dX11_compare_15 rfl (lv_at hl.1 0 rfl) ?_
    refine vg_getR X hH fF_X11_26 dX11_compare_16 hf (fun x22 hf => ?_)
    refine lv_iload_n hx hb dX11_compare_19 rfl (lv_at hl.1 1 rfl) ?_
    obtain ⟨a23, h9, hg⟩ := vg_o_inv hf
    clear hf
    subst h9
    have hf := hg
    clear hg
    refine vg_iald X hH dX11_compare_20 hf (fun x24 hf => ?_)
    refine lv_goto (tgt := 30) hx hb dX11_compare_21 (by decide) ?_
    exact wX11_compare_30 Z  v0 v1 v2 x24 μ _ _ _ _ _ _ _ hf hH hL hC hN (hl.sub [0, 1, 2] rfl)
def fX11_following_93 (q4 : Nat → Int32 → Int32 → vg_M → vg_R Int32) (v0 : Nat) (v1 : Int32) (v2 : Int32) (μ : vg_M) : vg_R Int32 :=
  q4 v0 v1 (v2 + 1) μ
set_option maxHeartbeats 4000000 in
set_option maxRecDepth 100000 in
theorem wX11_following_93 {p : Program} {l : Launch} {e : Env} {R : Room} {s : State} {m : MethodId} {args : Array Value} {below : List Frame} {meth : Method} {c : Code} {D : va_G} {cy : Nat → ClassId} {H0 : Heap} {C0 N0 : Nat} {r : Int32} {μ' : vg_M} (Z : vg_Z D cy H0 p s m args c cX11_following RX11 meth 4 (some .int) R 13 C0 N0 "following") {q4 : Nat → Int32 → Int32 → vg_M → vg_R Int32} (hk4 : ∀ (v0 : Nat) (v1 : Int32) (v2 : Int32) (μ : vg_M), vg_S p l e R s m args below meth c D cy H0 C0 N0 4 (MQ below (vg_Qc D cy H0 μ' (some (.int r))) args s C0 N0 (vg_fr H0)) r μ' (q4 v0 v1 v2 μ) μ [(0, .ref v0), (1, .int v1), (2, .int v2)] [] 4) (v0 : Nat) (v1 : Int32) (v2 : Int32) (μ : vg_M) : vg_S p l e R s m args below meth c D cy H0 C0 N0 4 (MQ below (vg_Qc D cy H0 μ' (some (.int r))) args s C0 N0 (vg_fr H0)) r μ' (fX11_following_93 q4 v0 v1 v2 μ) μ [(0, .ref v0), (1, .int v1), (2, .int v2)] [] 93 := by
  intro cn nn H locs cells slots ls hf hH hL hC hN hl
  obtain ⟨X, hml, hr, hlk, hfr, hlo, hRc, hRs, hnm⟩ := id Z
  have hx := X.1
  have hb := X.2.1
  delta fX11_following_93 at hf
  refine vg_iinc (v := v2 + 1) (lv' := [(2, .int (v2 + 1)), (0, .ref v0), (1, .int v1)]) hx hb dX11_following_93 hl (k := 2) rfl rfl (by decide) rfl (fun ls hl => ?_)
  refine lv_goto (tgt := 4) hx hb dX11_following_96 (by decide) ?_
  exact hk4 v0 v1 (v2 + 1) μ _ _ _ _ _ _ _ hf hH hL hC hN (hl.sub [1, 2, 0] rfl)
def fX11_following_91 (q4 : Nat → Int32 → Int32 → vg_M → vg_R Int32) (v0 : Nat) (v2 : Int32) (μ : vg_M) : vg_R Int32 :=
  fX11_following_93 q4 v0 v2 v2 μ
set_option maxHeartbeats 4000000 in
set_option maxRecDepth 100000 in
theorem wX11_following_91 {p : Program} {l : Launch} {e : Env} {R : Room} {s : State} {m : MethodId} {args : Array Value} {below : List Frame} {meth : Method} {c : Code} {D : va_G} {cy : Nat → ClassId} {H0 : Heap} {C0 N0 : Nat} {r : Int32} {μ' : vg_M} (Z : vg_Z D cy H0 p s m args c cX11_following RX11 meth 4 (some .int) R 13 C0 N0 "following") {q4 : Nat → Int32 → Int32 → vg_M → vg_R Int32} (hk4 : ∀ (v0 : Nat) (v1 : Int32) (v2 : Int32) (μ : vg_M), vg_S p l e R s m args below meth c D cy H0 C0 N0 4 (MQ below (vg_Qc D cy H0 μ' (some (.int r))) args s C0 N0 (vg_fr H0)) r μ' (q4 v0 v1 v2 μ) μ [(0, .ref v0), (1, .int v1), (2, .int v2)] [] 4) (v0 : Nat) (v2 : Int32) (μ : vg_M) : vg_S p l e R s m args below meth c D cy H0 C0 N0 4 (MQ below (vg_Qc D cy H0 μ' (some (.int r))) args s C0 N0 (vg_fr H0)) r μ' (fX11_following_91 q4 v0 v2 μ) μ [(0, .ref v0), (2, .int v2)] [] 91 := by
  intro cn nn H locs cells slots ls hf hH hL hC hN hl
  obtain ⟨X, hml, hr, hlk, hfr, hlo, hRc, hRs, hnm⟩ := id Z
  have hx := X.1
  have hb := X.2.1
  delta fX11_following_91 at hf
  refine lv_iload_n hx hb dX11_following_91 rfl (lv_at hl.1 1 rfl) ?_
  refine vg_istore_n (lv' := [(1, .int v2), (0, .ref v0), (2, .int v2)]) hx hb dX11_following_92 rfl hl (by decide) rfl (fun ls hl => ?_)
  exact wX11_following_93 Z hk4 v0 v2 v2 μ _ _ _ _ _ _ _ hf hH hL hC hN (hl.sub [1, 0, 2] rfl)
def fX11_following_72 (q4 : Nat → Int32 → Int32 → vg_M → vg_R Int32) (v0 : Nat) (v1 : Int32) (v2 : Int32) (k0 : Int32) (μ : vg_M) : vg_R Int32 :=
  if k0 = 0 then (
   fX11_following_93 q4 v0 v1 v2 μ
   ) else (
   if v1 = ((-1)) then (
    fX11_following_91 q4 v0 v2 μ
    ) else (
    vg_cv 14 v0 μ (fX11_compare v0 v2 v1 μ) fun x21 μ22 =>
    if 0 ≤ x21 then (
     fX11_following_93 q4 v0 v1 v2 μ22
     ) else (
     fX11_following_91 q4 v0 v2 μ22
     )
    )
   )
set_option maxHeartbeats 4000000 in
set_option maxRecDepth 100000 in
theorem wX11_following_72 {p : Program} {l : Launch} {e : Env} {R : Room} {s : State} {m : MethodId} {args : Array Value} {below : List Frame} {meth : Method} {c : Code} {D : va_G} {cy : Nat → ClassId} {H0 : Heap} {C0 N0 : Nat} {r : Int32} {μ' : vg_M} (Z : vg_Z D cy H0 p s m args c cX11_following RX11 meth 4 (some .int) R 13 C0 N0 "following") {q4 : Nat → Int32 → Int32 → vg_M → vg_R Int32} (hk4 : ∀ (v0 : Nat) (v1 : Int32) (v2 : Int32) (μ : vg_M), vg_S p l e R s m args below meth c D cy H0 C0 N0 4 (MQ below (vg_Qc D cy H0 μ' (some (.int r))) args s C0 N0 (vg_fr H0)) r μ' (q4 v0 v1 v2 μ) μ [(0, .ref v0), (1, .int v1), (2, .int v2)] [] 4) (v0 : Nat) (v1 : Int32) (v2 : Int32) (k0 : Int32) (μ : vg_M) : vg_S p l e R s m args below meth c D cy H0 C0 N0 4 (MQ below (vg_Qc D cy H0 μ' (some (.int r))) args s C0 N0 (vg_fr H0)) r μ' (fX11_following_72 q4 v0 v1 v2 k0 μ) μ [(0, .ref v0), (1, .int v1), (2, .int v2)] [.int k0] 72 := by
  intro cn nn H locs cells slots ls hf hH hL hC hN hl
  obtain ⟨X, hml, hr, hlk, hfr, hlo, hRc, hRs, hnm⟩ := id Z
  have hx := X.1
  have hb := X.2.1
  delta fX11_following_72 at hf
  refine vg_istore_n (lv' := [(3, .int k0), (0, .ref v0), (1, .int v1), (2, .int v2)]) hx hb dX11_following_72 rfl hl (by decide) rfl (fun ls hl => ?_)
  refine lv_iload_n hx hb dX11_following_73 rfl (lv_at hl.1 0 rfl) ?_
  refine lv_if_eq (tgt := 93) hx hb dX11_following_74 (by decide) (fun h8 => ?_) (fun h8 => ?_)
  · have hf := vg_ip h8 hf
    exact wX11_following_93 Z hk4 v0 v1 v2 μ _ _ _ _ _ _ _ hf hH hL hC hN (hl.sub [1, 2, 3] rfl)
  · have hf := vg_if h8 hf
    refine lv_iload_n hx hb dX11_following_77 rfl (lv_at hl.1 2 rfl) ?_
    refine lv_iconst (v := (-1)) hx hb dX11_following_78 (by decide) ?_
    refine lv_icmp_eq (tgt := 91) hx hb dX11_following_79 (by decide) (fun h8 => ?_) (fun h8 => ?_)
    · have hf := vg_ip h8 hf
      exact wX11_following_91 Z hk4 v0 v2 μ _ _ _ _ _ _ _ hf hH hL hC hN (hl.sub [1, 3] rfl)
    · have hf := vg_if h8 hf
      refine lv_aload_n hx hb dX11_following_82 rfl (lv_at hl.1 1 rfl) ?_
      refine lv_iload_n hx hb dX11_following_83 rfl (lv_at hl.1 3 rfl) ?_
      refine lv_iload_n hx hb dX11_following_84 rfl (lv_at hl.1 2 rfl) ?_
      refine vg_callVi (ci := 14) X hml hl hH hL fCV_X11_213 rfl [.int v2, .int v1] rfl rfl (Nat.le_of_ble_eq_true rfl) dX11_following_85 hf hC hN hRc hRs hfr hlo (by decide) (fun _ _ _ _ h => cX11_compare_met h) (fun x21 μ22 cn nn H locs cells slots hf hC hN hH hL => ?_)
      refine lv_if_ge (tgt := 93) hx hb dX11_following_88 (by decide) (fun h8 => ?_) (fun h8 => ?_)
      · have hf := vg_ip h8 hf
        exact wX11_following_93 Z hk4 v0 v1 v2 μ22 _ _ _ _ _ _ _ hf hH hL hC hN (hl.sub [1, 2, 3] rfl)
      · have hf := vg_if h8 hf
        exact wX11_following_91 Z hk4 v0 v2 μ22 _ _ _ _ _ _ _ hf hH hL hC hN (hl.sub [1, 3] rfl)
def fX11_following_67 (q4 : Nat → Int32 → Int32 → vg_M → vg_R Int32) (v0 : Nat) (v1 : Int32) (v2 : Int32) (μ : vg_M) : vg_R Int32 :=
  fX11_following_72 q4 v0 v1 v2 1 μ
set_option maxHeartbeats 4000000 in
set_option maxRecDepth 100000 in
theorem wX11_following_67 {p : Program} {l : Launch} {e : Env} {R : Room} {s : State} {m : MethodId} {args : Array Value} {below : List Frame} {meth : Method} {c : Code} {D : va_G} {cy : Nat → ClassId} {H0 : Heap} {C0 N0 : Nat} {r : Int32} {μ' : vg_M} (Z : vg_Z D cy H0 p s m args c cX11_following RX11 meth 4 (some .int) R 13 C0 N0 "following") {q4 : Nat → Int32 → Int32 → vg_M → vg_R Int32} (hk4 : ∀ (v0 : Nat) (v1 : Int32) (v2 : Int32) (μ : vg_M), vg_S p l e R s m args below meth c D cy H0 C0 N0 4 (MQ below (vg_Qc D cy H0 μ' (some (.int r))) args s C0 N0 (vg_fr H0)) r μ' (q4 v0 v1 v2 μ) μ [(0, .ref v0), (1, .int v1), (2, .int v2)] [] 4) (v0 : Nat) (v1 : Int32) (v2 : Int32) (μ : vg_M) : vg_S p l e R s m args below meth c D cy H0 C0 N0 4 (MQ below (vg_Qc D cy H0 μ' (some (.int r))) args s C0 N0 (vg_fr H0)) r μ' (fX11_following_67 q4 v0 v1 v2 μ) μ [(0, .ref v0), (1, .int v1), (2, .int v2)] [] 67 := by
  intro cn nn H locs cells slots ls hf hH hL hC hN hl
  obtain ⟨X, hml, hr, hlk, hfr, hlo, hRc, hRs, hnm⟩ := id Z
  have hx := X.1
  have hb := X.2.1
  delta fX11_following_67 at hf
  refine lv_iconst (v := 1) hx hb dX11_following_67 (by decide) ?_
  refine lv_goto (tgt := 72) hx hb dX11_following_68 (by decide) ?_
  exact wX11_following_72 Z hk4 v0 v1 v2 1 μ _ _ _ _ _ _ _ hf hH hL hC hN (hl.sub [0, 1, 2] rfl)
def fX11_following_71 (q4 : Nat → Int32 → Int32 → vg_M → vg_R Int32) (v0 : Nat) (v1 : Int32) (v2 : Int32) (μ : vg_M) : vg_R Int32 :=
  fX11_following_72 q4 v0 v1 v2 0 μ
set_option maxHeartbeats 4000000 in
set_option maxRecDepth 100000 in
theorem wX11_following_71 {p : Program} {l : Launch} {e : Env} {R : Room} {s : State} {m : MethodId} {args : Array Value} {below : List Frame} {meth : Method} {c : Code} {D : va_G} {cy : Nat → ClassId} {H0 : Heap} {C0 N0 : Nat} {r : Int32} {μ' : vg_M} (Z : vg_Z D cy H0 p s m args c cX11_following RX11 meth 4 (some .int) R 13 C0 N0 "following") {q4 : Nat → Int32 → Int32 → vg_M → vg_R Int32} (hk4 : ∀ (v0 : Nat) (v1 : Int32) (v2 : Int32) (μ : vg_M), vg_S p l e R s m args below meth c D cy H0 C0 N0 4 (MQ below (vg_Qc D cy H0 μ' (some (.int r))) args s C0 N0 (vg_fr H0)) r μ' (q4 v0 v1 v2 μ) μ [(0, .ref v0), (1, .int v1), (2, .int v2)] [] 4) (v0 : Nat) (v1 : Int32) (v2 : Int32) (μ : vg_M) : vg_S p l e R s m args below meth c D cy H0 C0 N0 4 (MQ below (vg_Qc D cy H0 μ' (some (.int r))) args s C0 N0 (vg_fr H0)) r μ' (fX11_following_71 q4 v0 v1 v2 μ) μ [(0, .ref v0), (1, .int v1), (2, .int v2)] [] 71 := by
  intro cn nn H locs cells slots ls hf hH hL hC hN hl
  obtain ⟨X, hml, hr, hlk, hfr, hlo, hRc, hRs, hnm⟩ := id Z
  have hx := X.1
  have hb := X.2.1
  delta fX11_following_71 at hf
  refine lv_iconst (v := 0) hx hb dX11_following_71 (by decide) ?_
  exact wX11_following_72 Z hk4 v0 v1 v2 0 μ _ _ _ _ _ _ _ hf hH hL hC hN (hl.sub [0, 1, 2] rfl)
def fX11_following_4  : Nat → Nat → Int32 → Int32 → vg_M → vg_R Int32
  | 0, _, _, _, _ => none
  | n + 1, v0, v1, v2, μ =>
    if 60 ≤ v2 then (
     vg_ret v1 μ
     ) else (
     vg_o (vg_gR μ v0 14 6) fun x1 =>
     vg_o x1 fun a2 =>
     vg_o (vg_aI μ a2 2 v2) fun x3 =>
     if x3 ≤ 0 then (
      fX11_following_71 (fX11_following_4  n) v0 v1 v2 μ
      ) else (
      vg_o (vg_gR μ v0 14 7) fun x4 =>
      vg_o x4 fun a5 =>
      vg_o (vg_aI μ a5 2 v2) fun x6 =>
      vg_o (vg_gR μ v0 14 31) fun x7 =>
      vg_o (vg_gI μ v0 14 30) fun x8 =>
      vg_o x7 fun a9 =>
      vg_o (vg_aI μ a9 2 x8) fun x10 =>
      if x6 = x10 then (
       vg_o (vg_gR μ v0 14 32) fun x11 =>
       vg_o (vg_gI μ v0 14 30) fun x12 =>
       vg_o x11 fun a13 =>
       vg_o (vg_aI μ a13 2 x12) fun x14 =>
       if x14 = ((-1)) then (
        fX11_following_67 (fX11_following_4  n) v0 v1 v2 μ
        ) else (
        vg_o (vg_gR μ v0 14 32) fun x15 =>
        vg_o (vg_gI μ v0 14 30) fun x16 =>
        vg_o x15 fun a17 =>
        vg_o (vg_aI μ a17 2 x16) fun x18 =>
        vg_cv 14 v0 μ (fX11_compare v0 v2 x18 μ) fun x19 μ20 =>
        if x19 ≤ 0 then (
         fX11_following_71 (fX11_following_4  n) v0 v1 v2 μ20
         ) else (
         fX11_following_67 (fX11_following_4  n) v0 v1 v2 μ20
         )
        )
       ) else (
       fX11_following_71 (fX11_following_4  n) v0 v1 v2 μ
       )
      )
     )
set_option maxHeartbeats 4000000 in
set_option maxRecDepth 100000 in
theorem wX11_following_4 {p : Program} {l : Launch} {e : Env} {R : Room} {s : State} {m : MethodId} {args : Array Value} {below : List Frame} {meth : Method} {c : Code} {D : va_G} {cy : Nat → ClassId} {H0 : Heap} {C0 N0 : Nat} {r : Int32} {μ' : vg_M} (Z : vg_Z D cy H0 p s m args c cX11_following RX11 meth 4 (some .int) R 13 C0 N0 "following")   : ∀ (n : Nat) (v0 : Nat) (v1 : Int32) (v2 : Int32) (μ : vg_M), vg_S p l e R s m args below meth c D cy H0 C0 N0 4 (MQ below (vg_Qc D cy H0 μ' (some (.int r))) args s C0 N0 (vg_fr H0)) r μ' (fX11_following_4  n v0 v1 v2 μ) μ [(0, .ref v0), (1, .int v1), (2, .int v2)] [] 4 := by
  intro n
  induction n with
  | zero =>
    intro v0 v1 v2 μ cn nn H locs cells slots ls hf
    simp [fX11_following_4] at hf
  | succ n hk4 =>
    intro v0 v1 v2 μ
    intro cn nn H locs cells slots ls hf hH hL hC hN hl
    obtain ⟨X, hml, hr, hlk, hfr, hlo, hRc, hRs, hnm⟩ := id Z
    have hx := X.1
    have hb := X.2.1
    rw [fX11_following_4] at hf
    refine lv_iload_n hx hb dX11_following_4 rfl (lv_at hl.1 2 rfl) ?_
    refine lv_bipush (v := 60) hx hb dX11_following_5 (by decide) ?_
    refine lv_icmp_ge (tgt := 99) hx hb dX11_following_7 (by decide) (fun h8 => ?_) (fun h8 => ?_)
    · have hf := vg_ip h8 hf
      refine lv_iload_n hx hb dX11_following_99 rfl (lv_at hl.1 1 rfl) ?_
      exact vg_reti X hr hlk hH hL dX11_following_100 hf hC hN
    · have hf := vg_if h8 hf
      refine lv_aload_n hx hb dX11_following_10 rfl (lv_at hl.1 0 rfl) ?_
      refine vg_getR X hH fF_X11_20 dX11_following_11 hf (fun x1 hf => ?_)
      refine lv_iload_n hx hb dX11_following_14 rfl (lv_at hl.1 2 rfl) ?_
      obtain ⟨a2, h9, hg⟩ := vg_o_inv hf
      clear hf
      subst h9
      have hf := hg
      clear hg
      refine vg_iald X hH dX11_following_15 hf (fun x3 hf => ?_)
      refine lv_if_le (tgt := 71) hx hb dX11_following_16 (by decide) (fun h8 => ?_) (fun h8 => ?_)
      · have hf := vg_ip h8 hf
        exact wX11_following_71 Z hk4 v0 v1 v2 μ _ _ _ _ _ _ _ hf hH hL hC hN (hl.sub [0, 1, 2] rfl)
      · have hf := vg_if h8 hf
        refine lv_aload_n hx hb dX11_following_19 rfl (lv_at hl.1 0 rfl) ?_
        refine vg_getR X hH fF_X11_23 dX11_following_20 hf (fun x4 hf => ?_)
        refine lv_iload_n hx hb dX11_following_23 rfl (lv_at hl.1 2 rfl) ?_
        obtain ⟨a5, h9, hg⟩ := vg_o_inv hf
        clear hf
        subst h9
        have hf := hg
        clear hg
        refine vg_iald X hH dX11_following_24 hf (fun x6 hf => ?_)
        refine lv_aload_n hx hb dX11_following_25 rfl (lv_at hl.1 0 rfl) ?_
        refine vg_getR X hH fF_X11_79 dX11_following_26 hf (fun x7 hf => ?_)
        refine lv_aload_n hx hb dX11_following_29 rfl (lv_at hl.1 0 rfl) ?_
        refine vg_getI X hH fF_X11_198 dX11_following_30 hf (fun x8 hf => ?_)
        obtain ⟨a9, h9, hg⟩ := vg_o_inv hf
        clear hf
        subst h9
        have hf := hg
        clear hg
        refine vg_iald X hH dX11_following_33 hf (fun x10 hf => ?_)
        refine lv_icmp_ne (tgt := 71) hx hb dX11_following_34 (by decide) (fun h8 => ?_) (fun h8 => ?_)
        · have hf := vg_if h8 hf
          exact wX11_following_71 Z hk4 v0 v1 v2 μ _ _ _ _ _ _ _ hf hH hL hC hN (hl.sub [0, 1, 2] rfl)
        · have hf := vg_ip h8 hf
          refine lv_aload_n hx hb dX11_following_37 rfl (lv_at hl.1 0 rfl) ?_
          refine vg_getR X hH fF_X11_82 dX11_following_38 hf (fun x11 hf => ?_)
          refine lv_aload_n hx hb dX11_following_41 rfl (lv_at hl.1 0 rfl) ?_
          refine vg_getI X hH fF_X11_198 dX11_following_42 hf (fun x12 hf => ?_)
          obtain ⟨a13, h9, hg⟩ := vg_o_inv hf
          clear hf
          subst h9
          have hf := hg
          clear hg
          refine vg_iald X hH dX11_following_45 hf (fun x14 hf => ?_)
          refine lv_iconst (v := (-1)) hx hb dX11_following_46 (by decide) ?_
          refine lv_icmp_eq (tgt := 67) hx hb dX11_following_47 (by decide) (fun h8 => ?_) (fun h8 => ?_)
          · have hf := vg_ip h8 hf
            exact wX11_following_67 Z hk4 v0 v1 v2 μ _ _ _ _ _ _ _ hf hH hL hC hN (hl.sub [0, 1, 2] rfl)
          · have hf := vg_if h8 hf
            refine lv_aload_n hx hb dX11_following_50 rfl (lv_at hl.1 0 rfl) ?_
            refine lv_iload_n hx hb dX11_following_51 rfl (lv_at hl.1 2 rfl) ?_
            refine lv_aload_n hx hb dX11_following_52 rfl (lv_at hl.1 0 rfl) ?_
            refine vg_getR X hH fF_X11_82 dX11_following_53 hf (fun x15 hf => ?_)
            refine lv_aload_n hx hb dX11_following_56 rfl (lv_at hl.1 0 rfl) ?_
            refine vg_getI X hH fF_X11_198 dX11_following_57 hf (fun x16 hf => ?_)
            obtain ⟨a17, h9, hg⟩ := vg_o_inv hf
            clear hf
            subst h9
            have hf := hg
            clear hg
            refine vg_iald X hH dX11_following_60 hf (fun x18 hf => ?_)
            refine vg_callVi (ci := 14) X hml hl hH hL fCV_X11_213 rfl [.int v2, .int x18] rfl rfl (Nat.le_of_ble_eq_true rfl) dX11_following_61 hf hC hN hRc hRs hfr hlo (by decide) (fun _ _ _ _ h => cX11_compare_met h) (fun x19 μ20 cn nn H locs cells slots hf hC hN hH hL => ?_)
            refine lv_if_le (tgt := 71) hx hb dX11_following_64 (by decide) (fun h8 => ?_) (fun h8 => ?_)
            · have hf := vg_ip h8 hf
              exact wX11_following_71 Z hk4 v0 v1 v2 μ20 _ _ _ _ _ _ _ hf hH hL hC hN (hl.sub [0, 1, 2] rfl)
            · have hf := vg_if h8 hf
              exact wX11_following_67 Z hk4 v0 v1 v2 μ20 _ _ _ _ _ _ _ hf hH hL hC hN (hl.sub [0, 1, 2] rfl)
def fX11_following (v0 : Nat) (μ : vg_M) : vg_R Int32 :=
  fX11_following_4  vg_fuel v0 ((-1)) 0 μ
set_option maxHeartbeats 4000000 in
set_option maxRecDepth 100000 in
theorem cX11_following_met {l : Launch} {D : va_G} {cy : Nat → ClassId} {H0 : Heap} {r : Int32} {μ μ' : vg_M} {cn nn : Nat} {v0 : Nat} (hf : fX11_following v0 μ = some (r, μ', cn, nn)) : vg_Met l D cy H0 yX11_following cX11_following 4 (some .int) 13 μ [.ref v0] (some (.int r)) μ' cn nn := by
  refine vg_start (by decide +kernel) (List.forall_mem_cons.mpr ⟨rfl, (fun _ h => nomatch h)⟩) (Nat.le_of_ble_eq_true rfl) ?_
  intro p e s m below meth c ls X hml hr hlk hnm hH hl
  have hl : vg_l ls 4 [(0, .ref v0)] := hl
  have Z : vg_Z D cy H0 p s m _ c cX11_following RX11 meth 4 (some .int) (vg_rm 13 cn nn) 13 cn nn _ := ⟨X, hml, hr, hlk, Nat.le_refl _, Nat.le_refl _, Nat.le_refl _, Nat.le_refl _, hnm⟩
  obtain ⟨-, -, -, -, hfr, hlo, hRc, hRs, -⟩ := id Z
  have hx := X.1
  have hb := X.2.1
  have hL : ∀ z ∈ ([] : List Loc), H0.size ≤ z.base := fun _ h => nomatch h
  have hC : 0 + cn = cn := Nat.zero_add _
  have hN : 0 + nn = nn := Nat.zero_add _
  delta fX11_following at hf
  refine lv_iconst (v := (-1)) hx hb dX11_following_0 (by decide) ?_
  refine vg_istore_n (lv' := [(1, .int ((-1))), (0, .ref v0)]) hx hb dX11_following_1 rfl hl (by decide) rfl (fun ls hl => ?_)
  refine lv_iconst (v := 0) hx hb dX11_following_2 (by decide) ?_
  refine vg_istore_n (lv' := [(2, .int 0), (1, .int ((-1))), (0, .ref v0)]) hx hb dX11_following_3 rfl hl (by decide) rfl (fun ls hl => ?_)
  exact wX11_following_4 Z  vg_fuel v0 ((-1)) 0 μ _ _ _ _ _ _ _ hf hH hL hC hN (hl.sub [2, 1, 0] rfl)
def fX11_byteOf_25  (k0 : Int32) (μ : vg_M) : vg_R Int32 :=
  vg_ret k0 μ
set_option maxHeartbeats 4000000 in
set_option maxRecDepth 100000 in
theorem wX11_byteOf_25 {p : Program} {l : Launch} {e : Env} {R : Room} {s : State} {m : MethodId} {args : Array Value} {below : List Frame} {meth : Method} {c : Code} {D : va_G} {cy : Nat → ClassId} {H0 : Heap} {C0 N0 : Nat} {r : Int32} {μ' : vg_M} (Z : vg_Z D cy H0 p s m args c cX11_byteOf RX11 meth 3 (some .int) R 12 C0 N0 "byteOf")   (k0 : Int32) (μ : vg_M) : vg_S p l e R s m args below meth c D cy H0 C0 N0 3 (MQ below (vg_Qc D cy H0 μ' (some (.int r))) args s C0 N0 (vg_fr H0)) r μ' (fX11_byteOf_25  k0 μ) μ [] [.int k0] 25 := by
  intro cn nn H locs cells slots ls hf hH hL hC hN hl
  obtain ⟨X, hml, hr, hlk, hfr, hlo, hRc, hRs, hnm⟩ := id Z
  have hx := X.1
  have hb := X.2.1
  delta fX11_byteOf_25 at hf
  exact vg_reti X hr hlk hH hL dX11_byteOf_25 hf hC hN
def fX11_byteOf (v0 : Nat) (v1 : Int32) (v2 : Int32) (μ : vg_M) : vg_R Int32 :=
  vg_o (vg_gR μ v0 14 20) fun x1 =>
  vg_o x1 fun a2 =>
  vg_o (vg_aI μ a2 2 v1) fun x3 =>
  if x3 ≤ v2 then (
   fX11_byteOf_25  ((-1)) μ
   ) else (
   vg_o (vg_gR μ v0 14 22) fun x4 =>
   vg_o x4 fun a5 =>
   vg_o (vg_aI μ a5 0 ((60 * v1) + v2)) fun x6 =>
   fX11_byteOf_25  x6 μ
   )
set_option maxHeartbeats 4000000 in
set_option maxRecDepth 100000 in
theorem cX11_byteOf_met {l : Launch} {D : va_G} {cy : Nat → ClassId} {H0 : Heap} {r : Int32} {μ μ' : vg_M} {cn nn : Nat} {v0 : Nat} {v1 : Int32} {v2 : Int32} (hf : fX11_byteOf v0 v1 v2 μ = some (r, μ', cn, nn)) : vg_Met l D cy H0 yX11_byteOf cX11_byteOf 3 (some .int) 12 μ [.ref v0, .int v1, .int v2] (some (.int r)) μ' cn nn := by
  refine vg_start (by decide +kernel) (List.forall_mem_cons.mpr ⟨rfl, (List.forall_mem_cons.mpr ⟨rfl, (List.forall_mem_cons.mpr ⟨rfl, (fun _ h => nomatch h)⟩)⟩)⟩) (Nat.le_of_ble_eq_true rfl) ?_
  intro p e s m below meth c ls X hml hr hlk hnm hH hl
  have hl : vg_l ls 3 [(0, .ref v0), (1, .int v1), (2, .int v2)] := hl
  have Z : vg_Z D cy H0 p s m _ c cX11_byteOf RX11 meth 3 (some .int) (vg_rm 12 cn nn) 12 cn nn _ := ⟨X, hml, hr, hlk, Nat.le_refl _, Nat.le_refl _, Nat.le_refl _, Nat.le_refl _, hnm⟩
  obtain ⟨-, -, -, -, hfr, hlo, hRc, hRs, -⟩ := id Z
  have hx := X.1
  have hb := X.2.1
  have hL : ∀ z ∈ ([] : List Loc), H0.size ≤ z.base := fun _ h => nomatch h
  have hC : 0 + cn = cn := Nat.zero_add _
  have hN : 0 + nn = nn := Nat.zero_add _
  delta fX11_byteOf at hf
  refine lv_iload_n hx hb dX11_byteOf_0 rfl (lv_at hl.1 2 rfl) ?_
  refine lv_aload_n hx hb dX11_byteOf_1 rfl (lv_at hl.1 0 rfl) ?_
  refine vg_getR X hH fF_X11_54 dX11_byteOf_2 hf (fun x1 hf => ?_)
  refine lv_iload_n hx hb dX11_byteOf_5 rfl (lv_at hl.1 1 rfl) ?_
  obtain ⟨a2, h9, hg⟩ := vg_o_inv hf
  clear hf
  subst h9
  have hf := hg
  clear hg
  refine vg_iald X hH dX11_byteOf_6 hf (fun x3 hf => ?_)
  refine lv_icmp_ge (tgt := 24) hx hb dX11_byteOf_7 (by decide) (fun h8 => ?_) (fun h8 => ?_)
  · have hf := vg_ip h8 hf
    refine lv_iconst (v := (-1)) hx hb dX11_byteOf_24 (by decide) ?_
    exact wX11_byteOf_25 Z  ((-1)) μ _ _ _ _ _ _ _ hf hH hL hC hN (hl.sub [] rfl)
  · have hf := vg_if h8 hf
    refine lv_aload_n hx hb dX11_byteOf_10 rfl (lv_at hl.1 0 rfl) ?_
    refine vg_getR X hH fF_X11_60 dX11_byteOf_11 hf (fun x4 hf => ?_)
    refine lv_bipush (v := 60) hx hb dX11_byteOf_14 (by decide) ?_
    refine lv_iload_n hx hb dX11_byteOf_16 rfl (lv_at hl.1 1 rfl) ?_
    refine lv_imul hx hb dX11_byteOf_17 ?_
    refine lv_iload_n hx hb dX11_byteOf_18 rfl (lv_at hl.1 2 rfl) ?_
    refine lv_iadd hx hb dX11_byteOf_19 ?_
    obtain ⟨a5, h9, hg⟩ := vg_o_inv hf
    clear hf
    subst h9
    have hf := hg
    clear hg
    refine vg_bald X hH dX11_byteOf_20 hf (fun x6 hf => ?_)
    refine lv_goto (tgt := 25) hx hb dX11_byteOf_21 (by decide) ?_
    exact wX11_byteOf_25 Z  x6 μ _ _ _ _ _ _ _ hf hH hL hC hN (hl.sub [] rfl)
def fX11_isStars_36  (k0 : Int32) (μ : vg_M) : vg_R Int32 :=
  vg_o (vg_z .boolean k0) fun z => vg_ret z μ
set_option maxHeartbeats 4000000 in
set_option maxRecDepth 100000 in
theorem wX11_isStars_36 {p : Program} {l : Launch} {e : Env} {R : Room} {s : State} {m : MethodId} {args : Array Value} {below : List Frame} {meth : Method} {c : Code} {D : va_G} {cy : Nat → ClassId} {H0 : Heap} {C0 N0 : Nat} {r : Int32} {μ' : vg_M} (Z : vg_Z D cy H0 p s m args c cX11_isStars RX11 meth 4 (some .boolean) R 13 C0 N0 "isStars")   (k0 : Int32) (μ : vg_M) : vg_S p l e R s m args below meth c D cy H0 C0 N0 4 (MQ below (vg_Qc D cy H0 μ' (some (.int r))) args s C0 N0 (vg_fr H0)) r μ' (fX11_isStars_36  k0 μ) μ [] [.int k0] 36 := by
  intro cn nn H locs cells slots ls hf hH hL hC hN hl
  obtain ⟨X, hml, hr, hlk, hfr, hlo, hRc, hRs, hnm⟩ := id Z
  have hx := X.1
  have hb := X.2.1
  delta fX11_isStars_36 at hf
  exact vg_retz X (by simp) hr hlk hH hL dX11_isStars_36 hf hC hN
def fX11_isStars_35   (μ : vg_M) : vg_R Int32 :=
  fX11_isStars_36  0 μ
set_option maxHeartbeats 4000000 in
set_option maxRecDepth 100000 in
theorem wX11_isStars_35 {p : Program} {l : Launch} {e : Env} {R : Room} {s : State} {m : MethodId} {args : Array Value} {below : List Frame} {meth : Method} {c : Code} {D : va_G} {cy : Nat → ClassId} {H0 : Heap} {C0 N0 : Nat} {r : Int32} {μ' : vg_M} (Z : vg_Z D cy H0 p s m args c cX11_isStars RX11 meth 4 (some .boolean) R 13 C0 N0 "isStars")    (μ : vg_M) : vg_S p l e R s m args below meth c D cy H0 C0 N0 4 (MQ below (vg_Qc D cy H0 μ' (some (.int r))) args s C0 N0 (vg_fr H0)) r μ' (fX11_isStars_35   μ) μ [] [] 35 := by
  intro cn nn H locs cells slots ls hf hH hL hC hN hl
  obtain ⟨X, hml, hr, hlk, hfr, hlo, hRc, hRs, hnm⟩ := id Z
  have hx := X.1
  have hb := X.2.1
  delta fX11_isStars_35 at hf
  refine lv_iconst (v := 0) hx hb dX11_isStars_35 (by decide) ?_
  exact wX11_isStars_36 Z  0 μ _ _ _ _ _ _ _ hf hH hL hC hN (hl.sub [] rfl)
def fX11_isStars (v0 : Nat) (v1 : Int32) (v2 : Int32) (v3 : Int32) (μ : vg_M) : vg_R Int32 :=
  if v3 = (v2 + 2) then (
   vg_cv 14 v0 μ (fX11_byteOf v0 v1 v2 μ) fun x1 μ2 =>
   if x1 = 42 then (
    vg_cv 14 v0 μ2 (fX11_byteOf v0 v1 (v2 + 1) μ2) fun x3 μ4 =>
    if x3 = 42 then (
     fX11_isStars_36  1 μ4
     ) else (
     fX11_isStars_35   μ4
     )
    ) else (
    fX11_isStars_35   μ2
    )
   ) else (
   fX11_isStars_35   μ
   )
set_option maxHeartbeats 4000000 in
set_option maxRecDepth 100000 in
theorem cX11_isStars_met {l : Launch} {D : va_G} {cy : Nat → ClassId} {H0 : Heap} {r : Int32} {μ μ' : vg_M} {cn nn : Nat} {v0 : Nat} {v1 : Int32} {v2 : Int32} {v3 : Int32} (hf : fX11_isStars v0 v1 v2 v3 μ = some (r, μ', cn, nn)) : vg_Met l D cy H0 yX11_isStars cX11_isStars 4 (some .boolean) 13 μ [.ref v0, .int v1, .int v2, .int v3] (some (.int r)) μ' cn nn := by
  refine vg_start (by decide +kernel) (List.forall_mem_cons.mpr ⟨rfl, (List.forall_mem_cons.mpr ⟨rfl, (List.forall_mem_cons.mpr ⟨rfl, (List.forall_mem_cons.mpr ⟨rfl, (fun _ h => nomatch h)⟩)⟩)⟩)⟩) (Nat.le_of_ble_eq_true rfl) ?_
  intro p e s m below meth c ls X hml hr hlk hnm hH hl
  have hl : vg_l ls 4 [(0, .ref v0), (1, .int v1), (2, .int v2), (3, .int v3)] := hl
  have Z : vg_Z D cy H0 p s m _ c cX11_isStars RX11 meth 4 (some .boolean) (vg_rm 13 cn nn) 13 cn nn _ := ⟨X, hml, hr, hlk, Nat.le_refl _, Nat.le_refl _, Nat.le_refl _, Nat.le_refl _, hnm⟩
  obtain ⟨-, -, -, -, hfr, hlo, hRc, hRs, -⟩ := id Z
  have hx := X.1
  have hb := X.2.1
  have hL : ∀ z ∈ ([] : List Loc), H0.size ≤ z.base := fun _ h => nomatch h
  have hC : 0 + cn = cn := Nat.zero_add _
  have hN : 0 + nn = nn := Nat.zero_add _
  delta fX11_isStars at hf
  refine lv_iload_n hx hb dX11_isStars_0 rfl (lv_at hl.1 3 rfl) ?_
  refine lv_iload_n hx hb dX11_isStars_1 rfl (lv_at hl.1 2 rfl) ?_
  refine lv_iconst (v := 2) hx hb dX11_isStars_2 (by decide) ?_
  refine lv_iadd hx hb dX11_isStars_3 ?_
  refine lv_icmp_ne (tgt := 35) hx hb dX11_isStars_4 (by decide) (fun h8 => ?_) (fun h8 => ?_)
  · have hf := vg_if h8 hf
    exact wX11_isStars_35 Z   μ _ _ _ _ _ _ _ hf hH hL hC hN (hl.sub [] rfl)
  · have hf := vg_ip h8 hf
    refine lv_aload_n hx hb dX11_isStars_7 rfl (lv_at hl.1 0 rfl) ?_
    refine lv_iload_n hx hb dX11_isStars_8 rfl (lv_at hl.1 1 rfl) ?_
    refine lv_iload_n hx hb dX11_isStars_9 rfl (lv_at hl.1 2 rfl) ?_
    refine vg_callVi (ci := 14) X hml hl hH hL fCV_X11_175 rfl [.int v1, .int v2] rfl rfl (Nat.le_of_ble_eq_true rfl) dX11_isStars_10 hf hC hN hRc hRs hfr hlo (by decide) (fun _ _ _ _ h => cX11_byteOf_met h) (fun x1 μ2 cn nn H locs cells slots hf hC hN hH hL => ?_)
    refine lv_bipush (v := 42) hx hb dX11_isStars_13 (by decide) ?_
    refine lv_icmp_ne (tgt := 35) hx hb dX11_isStars_15 (by decide) (fun h8 => ?_) (fun h8 => ?_)
    · have hf := vg_if h8 hf
      exact wX11_isStars_35 Z   μ2 _ _ _ _ _ _ _ hf hH hL hC hN (hl.sub [] rfl)
    · have hf := vg_ip h8 hf
      refine lv_aload_n hx hb dX11_isStars_18 rfl (lv_at hl.1 0 rfl) ?_
      refine lv_iload_n hx hb dX11_isStars_19 rfl (lv_at hl.1 1 rfl) ?_
      refine lv_iload_n hx hb dX11_isStars_20 rfl (lv_at hl.1 2 rfl) ?_
      refine lv_iconst (v := 1) hx hb dX11_isStars_21 (by decide) ?_
      refine lv_iadd hx hb dX11_isStars_22 ?_
      refine vg_callVi (ci := 14) X hml hl hH hL fCV_X11_175 rfl [.int v1, .int (v2 + 1)] rfl rfl (Nat.le_of_ble_eq_true rfl) dX11_isStars_23 hf hC hN hRc hRs hfr hlo (by decide) (fun _ _ _ _ h => cX11_byteOf_met h) (fun x3 μ4 cn nn H locs cells slots hf hC hN hH hL => ?_)
      refine lv_bipush (v := 42) hx hb dX11_isStars_26 (by decide) ?_
      refine lv_icmp_ne (tgt := 35) hx hb dX11_isStars_28 (by decide) (fun h8 => ?_) (fun h8 => ?_)
      · have hf := vg_if h8 hf
        exact wX11_isStars_35 Z   μ4 _ _ _ _ _ _ _ hf hH hL hC hN (hl.sub [] rfl)
      · have hf := vg_ip h8 hf
        refine lv_iconst (v := 1) hx hb dX11_isStars_31 (by decide) ?_
        refine lv_goto (tgt := 36) hx hb dX11_isStars_32 (by decide) ?_
        exact wX11_isStars_36 Z  1 μ4 _ _ _ _ _ _ _ hf hH hL hC hN (hl.sub [] rfl)
def fX11_pieceEnd_29  (v3 : Int32) (μ : vg_M) : vg_R Int32 :=
  vg_ret v3 μ
set_option maxHeartbeats 4000000 in
set_option maxRecDepth 100000 in
theorem wX11_pieceEnd_29 {p : Program} {l : Launch} {e : Env} {R : Room} {s : State} {m : MethodId} {args : Array Value} {below : List Frame} {meth : Method} {c : Code} {D : va_G} {cy : Nat → ClassId} {H0 : Heap} {C0 N0 : Nat} {r : Int32} {μ' : vg_M} (Z : vg_Z D cy H0 p s m args c cX11_pieceEnd RX11 meth 4 (some .int) R 13 C0 N0 "pieceEnd")   (v3 : Int32) (μ : vg_M) : vg_S p l e R s m args below meth c D cy H0 C0 N0 4 (MQ below (vg_Qc D cy H0 μ' (some (.int r))) args s C0 N0 (vg_fr H0)) r μ' (fX11_pieceEnd_29  v3 μ) μ [(3, .int v3)] [] 29 := by
  intro cn nn H locs cells slots ls hf hH hL hC hN hl
  obtain ⟨X, hml, hr, hlk, hfr, hlo, hRc, hRs, hnm⟩ := id Z
  have hx := X.1
  have hb := X.2.1
  delta fX11_pieceEnd_29 at hf
  refine lv_iload_n hx hb dX11_pieceEnd_29 rfl (lv_at hl.1 0 rfl) ?_
  exact vg_reti X hr hlk hH hL dX11_pieceEnd_30 hf hC hN
def fX11_pieceEnd_2  : Nat → Nat → Int32 → Int32 → vg_M → vg_R Int32
  | 0, _, _, _, _ => none
  | n + 1, v0, v1, v3, μ =>
    vg_cv 14 v0 μ (fX11_byteOf v0 v1 v3 μ) fun x1 μ2 =>
    if x1 = ((-1)) then (
     fX11_pieceEnd_29  v3 μ2
     ) else (
     vg_cv 14 v0 μ2 (fX11_byteOf v0 v1 v3 μ2) fun x3 μ4 =>
     if x3 = 47 then (
      fX11_pieceEnd_29  v3 μ4
      ) else (
      (fX11_pieceEnd_2  n) v0 v1 (v3 + 1) μ4
      )
     )
set_option maxHeartbeats 4000000 in
set_option maxRecDepth 100000 in
theorem wX11_pieceEnd_2 {p : Program} {l : Launch} {e : Env} {R : Room} {s : State} {m : MethodId} {args : Array Value} {below : List Frame} {meth : Method} {c : Code} {D : va_G} {cy : Nat → ClassId} {H0 : Heap} {C0 N0 : Nat} {r : Int32} {μ' : vg_M} (Z : vg_Z D cy H0 p s m args c cX11_pieceEnd RX11 meth 4 (some .int) R 13 C0 N0 "pieceEnd")   : ∀ (n : Nat) (v0 : Nat) (v1 : Int32) (v3 : Int32) (μ : vg_M), vg_S p l e R s m args below meth c D cy H0 C0 N0 4 (MQ below (vg_Qc D cy H0 μ' (some (.int r))) args s C0 N0 (vg_fr H0)) r μ' (fX11_pieceEnd_2  n v0 v1 v3 μ) μ [(0, .ref v0), (1, .int v1), (3, .int v3)] [] 2 := by
  intro n
  induction n with
  | zero =>
    intro v0 v1 v3 μ cn nn H locs cells slots ls hf
    simp [fX11_pieceEnd_2] at hf
  | succ n hk2 =>
    intro v0 v1 v3 μ
    intro cn nn H locs cells slots ls hf hH hL hC hN hl
    obtain ⟨X, hml, hr, hlk, hfr, hlo, hRc, hRs, hnm⟩ := id Z
    have hx := X.1
    have hb := X.2.1
    rw [fX11_pieceEnd_2] at hf
    refine lv_aload_n hx hb dX11_pieceEnd_2 rfl (lv_at hl.1 0 rfl) ?_
    refine lv_iload_n hx hb dX11_pieceEnd_3 rfl (lv_at hl.1 1 rfl) ?_
    refine lv_iload_n hx hb dX11_pieceEnd_4 rfl (lv_at hl.1 2 rfl) ?_
    refine vg_callVi (ci := 14) X hml hl hH hL fCV_X11_175 rfl [.int v1, .int v3] rfl rfl (Nat.le_of_ble_eq_true rfl) dX11_pieceEnd_5 hf hC hN hRc hRs hfr hlo (by decide) (fun _ _ _ _ h => cX11_byteOf_met h) (fun x1 μ2 cn nn H locs cells slots hf hC hN hH hL => ?_)
    refine lv_iconst (v := (-1)) hx hb dX11_pieceEnd_8 (by decide) ?_
    refine lv_icmp_eq (tgt := 29) hx hb dX11_pieceEnd_9 (by decide) (fun h8 => ?_) (fun h8 => ?_)
    · have hf := vg_ip h8 hf
      exact wX11_pieceEnd_29 Z  v3 μ2 _ _ _ _ _ _ _ hf hH hL hC hN (hl.sub [2] rfl)
    · have hf := vg_if h8 hf
      refine lv_aload_n hx hb dX11_pieceEnd_12 rfl (lv_at hl.1 0 rfl) ?_
      refine lv_iload_n hx hb dX11_pieceEnd_13 rfl (lv_at hl.1 1 rfl) ?_
      refine lv_iload_n hx hb dX11_pieceEnd_14 rfl (lv_at hl.1 2 rfl) ?_
      refine vg_callVi (ci := 14) X hml hl hH hL fCV_X11_175 rfl [.int v1, .int v3] rfl rfl (Nat.le_of_ble_eq_true rfl) dX11_pieceEnd_15 hf hC hN hRc hRs hfr hlo (by decide) (fun _ _ _ _ h => cX11_byteOf_met h) (fun x3 μ4 cn nn H locs cells slots hf hC hN hH hL => ?_)
      refine lv_bipush (v := 47) hx hb dX11_pieceEnd_18 (by decide) ?_
      refine lv_icmp_eq (tgt := 29) hx hb dX11_pieceEnd_20 (by decide) (fun h8 => ?_) (fun h8 => ?_)
      · have hf := vg_ip h8 hf
        exact wX11_pieceEnd_29 Z  v3 μ4 _ _ _ _ _ _ _ hf hH hL hC hN (hl.sub [2] rfl)
      · have hf := vg_if h8 hf
        refine vg_iinc (v := v3 + 1) (lv' := [(3, .int (v3 + 1)), (0, .ref v0), (1, .int v1)]) hx hb dX11_pieceEnd_23 hl (k := 2) rfl rfl (by decide) rfl (fun ls hl => ?_)
        refine lv_goto (tgt := 2) hx hb dX11_pieceEnd_26 (by decide) ?_
        exact hk2 v0 v1 (v3 + 1) μ4 _ _ _ _ _ _ _ hf hH hL hC hN (hl.sub [1, 2, 0] rfl)
def fX11_pieceEnd (v0 : Nat) (v1 : Int32) (v2 : Int32) (μ : vg_M) : vg_R Int32 :=
  fX11_pieceEnd_2  vg_fuel v0 v1 v2 μ
set_option maxHeartbeats 4000000 in
set_option maxRecDepth 100000 in
theorem cX11_pieceEnd_met {l : Launch} {D : va_G} {cy : Nat → ClassId} {H0 : Heap} {r : Int32} {μ μ' : vg_M} {cn nn : Nat} {v0 : Nat} {v1 : Int32} {v2 : Int32} (hf : fX11_pieceEnd v0 v1 v2 μ = some (r, μ', cn, nn)) : vg_Met l D cy H0 yX11_pieceEnd cX11_pieceEnd 4 (some .int) 13 μ [.ref v0, .int v1, .int v2] (some (.int r)) μ' cn nn := by
  refine vg_start (by decide +kernel) (List.forall_mem_cons.mpr ⟨rfl, (List.forall_mem_cons.mpr ⟨rfl, (List.forall_mem_cons.mpr ⟨rfl, (fun _ h => nomatch h)⟩)⟩)⟩) (Nat.le_of_ble_eq_true rfl) ?_
  intro p e s m below meth c ls X hml hr hlk hnm hH hl
  have hl : vg_l ls 4 [(0, .ref v0), (1, .int v1), (2, .int v2)] := hl
  have Z : vg_Z D cy H0 p s m _ c cX11_pieceEnd RX11 meth 4 (some .int) (vg_rm 13 cn nn) 13 cn nn _ := ⟨X, hml, hr, hlk, Nat.le_refl _, Nat.le_refl _, Nat.le_refl _, Nat.le_refl _, hnm⟩
  obtain ⟨-, -, -, -, hfr, hlo, hRc, hRs, -⟩ := id Z
  have hx := X.1
  have hb := X.2.1
  have hL : ∀ z ∈ ([] : List Loc), H0.size ≤ z.base := fun _ h => nomatch h
  have hC : 0 + cn = cn := Nat.zero_add _
  have hN : 0 + nn = nn := Nat.zero_add _
  delta fX11_pieceEnd at hf
  refine lv_iload_n hx hb dX11_pieceEnd_0 rfl (lv_at hl.1 2 rfl) ?_
  refine vg_istore_n (lv' := [(3, .int v2), (0, .ref v0), (1, .int v1), (2, .int v2)]) hx hb dX11_pieceEnd_1 rfl hl (by decide) rfl (fun ls hl => ?_)
  exact wX11_pieceEnd_2 Z  vg_fuel v0 v1 v2 μ _ _ _ _ _ _ _ hf hH hL hC hN (hl.sub [1, 2, 0] rfl)
def fX11_pieces_33 (q4 : Nat → Int32 → Int32 → Int32 → vg_M → vg_R Int32) (v0 : Nat) (v1 : Int32) (v3 : Int32) (k0 : Int32) (k1 : Int32) (μ : vg_M) : vg_R Int32 :=
  q4 v0 v1 (k0 + k1) (v3 + 1) μ
set_option maxHeartbeats 4000000 in
set_option maxRecDepth 100000 in
theorem wX11_pieces_33 {p : Program} {l : Launch} {e : Env} {R : Room} {s : State} {m : MethodId} {args : Array Value} {below : List Frame} {meth : Method} {c : Code} {D : va_G} {cy : Nat → ClassId} {H0 : Heap} {C0 N0 : Nat} {r : Int32} {μ' : vg_M} (Z : vg_Z D cy H0 p s m args c cX11_pieces RX11 meth 4 (some .int) R 13 C0 N0 "pieces") {q4 : Nat → Int32 → Int32 → Int32 → vg_M → vg_R Int32} (hk4 : ∀ (v0 : Nat) (v1 : Int32) (v2 : Int32) (v3 : Int32) (μ : vg_M), vg_S p l e R s m args below meth c D cy H0 C0 N0 4 (MQ below (vg_Qc D cy H0 μ' (some (.int r))) args s C0 N0 (vg_fr H0)) r μ' (q4 v0 v1 v2 v3 μ) μ [(0, .ref v0), (1, .int v1), (2, .int v2), (3, .int v3)] [] 4) (v0 : Nat) (v1 : Int32) (v3 : Int32) (k0 : Int32) (k1 : Int32) (μ : vg_M) : vg_S p l e R s m args below meth c D cy H0 C0 N0 4 (MQ below (vg_Qc D cy H0 μ' (some (.int r))) args s C0 N0 (vg_fr H0)) r μ' (fX11_pieces_33 q4 v0 v1 v3 k0 k1 μ) μ [(0, .ref v0), (1, .int v1), (3, .int v3)] [.int k1, .int k0] 33 := by
  intro cn nn H locs cells slots ls hf hH hL hC hN hl
  obtain ⟨X, hml, hr, hlk, hfr, hlo, hRc, hRs, hnm⟩ := id Z
  have hx := X.1
  have hb := X.2.1
  delta fX11_pieces_33 at hf
  refine lv_iadd hx hb dX11_pieces_33 ?_
  refine vg_istore_n (lv' := [(2, .int (k0 + k1)), (0, .ref v0), (1, .int v1), (3, .int v3)]) hx hb dX11_pieces_34 rfl hl (by decide) rfl (fun ls hl => ?_)
  refine vg_iinc (v := v3 + 1) (lv' := [(3, .int (v3 + 1)), (2, .int (k0 + k1)), (0, .ref v0), (1, .int v1)]) hx hb dX11_pieces_35 hl (k := 3) rfl rfl (by decide) rfl (fun ls hl => ?_)
  refine lv_goto (tgt := 4) hx hb dX11_pieces_38 (by decide) ?_
  exact hk4 v0 v1 (k0 + k1) (v3 + 1) μ _ _ _ _ _ _ _ hf hH hL hC hN (hl.sub [2, 3, 1, 0] rfl)
def fX11_pieces_4  : Nat → Nat → Int32 → Int32 → Int32 → vg_M → vg_R Int32
  | 0, _, _, _, _, _ => none
  | n + 1, v0, v1, v2, v3, μ =>
    vg_o (vg_gR μ v0 14 20) fun x1 =>
    vg_o x1 fun a2 =>
    vg_o (vg_aI μ a2 2 v1) fun x3 =>
    if x3 ≤ (v3 + 1) then (
     vg_ret v2 μ
     ) else (
     vg_cv 14 v0 μ (fX11_byteOf v0 v1 v3 μ) fun x4 μ5 =>
     if x4 = 47 then (
      fX11_pieces_33 (fX11_pieces_4  n) v0 v1 v3 v2 1 μ5
      ) else (
      fX11_pieces_33 (fX11_pieces_4  n) v0 v1 v3 v2 0 μ5
      )
     )
set_option maxHeartbeats 4000000 in
set_option maxRecDepth 100000 in
theorem wX11_pieces_4 {p : Program} {l : Launch} {e : Env} {R : Room} {s : State} {m : MethodId} {args : Array Value} {below : List Frame} {meth : Method} {c : Code} {D : va_G} {cy : Nat → ClassId} {H0 : Heap} {C0 N0 : Nat} {r : Int32} {μ' : vg_M} (Z : vg_Z D cy H0 p s m args c cX11_pieces RX11 meth 4 (some .int) R 13 C0 N0 "pieces")   : ∀ (n : Nat) (v0 : Nat) (v1 : Int32) (v2 : Int32) (v3 : Int32) (μ : vg_M), vg_S p l e R s m args below meth c D cy H0 C0 N0 4 (MQ below (vg_Qc D cy H0 μ' (some (.int r))) args s C0 N0 (vg_fr H0)) r μ' (fX11_pieces_4  n v0 v1 v2 v3 μ) μ [(0, .ref v0), (1, .int v1), (2, .int v2), (3, .int v3)] [] 4 := by
  intro n
  induction n with
  | zero =>
    intro v0 v1 v2 v3 μ cn nn H locs cells slots ls hf
    simp [fX11_pieces_4] at hf
  | succ n hk4 =>
    intro v0 v1 v2 v3 μ
    intro cn nn H locs cells slots ls hf hH hL hC hN hl
    obtain ⟨X, hml, hr, hlk, hfr, hlo, hRc, hRs, hnm⟩ := id Z
    have hx := X.1
    have hb := X.2.1
    rw [fX11_pieces_4] at hf
    refine lv_iload_n hx hb dX11_pieces_4 rfl (lv_at hl.1 3 rfl) ?_
    refine lv_iconst (v := 1) hx hb dX11_pieces_5 (by decide) ?_
    refine lv_iadd hx hb dX11_pieces_6 ?_
    refine lv_aload_n hx hb dX11_pieces_7 rfl (lv_at hl.1 0 rfl) ?_
    refine vg_getR X hH fF_X11_54 dX11_pieces_8 hf (fun x1 hf => ?_)
    refine lv_iload_n hx hb dX11_pieces_11 rfl (lv_at hl.1 1 rfl) ?_
    obtain ⟨a2, h9, hg⟩ := vg_o_inv hf
    clear hf
    subst h9
    have hf := hg
    clear hg
    refine vg_iald X hH dX11_pieces_12 hf (fun x3 hf => ?_)
    refine lv_icmp_ge (tgt := 41) hx hb dX11_pieces_13 (by decide) (fun h8 => ?_) (fun h8 => ?_)
    · have hf := vg_ip h8 hf
      refine lv_iload_n hx hb dX11_pieces_41 rfl (lv_at hl.1 2 rfl) ?_
      exact vg_reti X hr hlk hH hL dX11_pieces_42 hf hC hN
    · have hf := vg_if h8 hf
      refine lv_iload_n hx hb dX11_pieces_16 rfl (lv_at hl.1 2 rfl) ?_
      refine lv_aload_n hx hb dX11_pieces_17 rfl (lv_at hl.1 0 rfl) ?_
      refine lv_iload_n hx hb dX11_pieces_18 rfl (lv_at hl.1 1 rfl) ?_
      refine lv_iload_n hx hb dX11_pieces_19 rfl (lv_at hl.1 3 rfl) ?_
      refine vg_callVi (ci := 14) X hml hl hH hL fCV_X11_175 rfl [.int v1, .int v3] rfl rfl (Nat.le_of_ble_eq_true rfl) dX11_pieces_20 hf hC hN hRc hRs hfr hlo (by decide) (fun _ _ _ _ h => cX11_byteOf_met h) (fun x4 μ5 cn nn H locs cells slots hf hC hN hH hL => ?_)
      refine lv_bipush (v := 47) hx hb dX11_pieces_23 (by decide) ?_
      refine lv_icmp_ne (tgt := 32) hx hb dX11_pieces_25 (by decide) (fun h8 => ?_) (fun h8 => ?_)
      · have hf := vg_if h8 hf
        refine lv_iconst (v := 0) hx hb dX11_pieces_32 (by decide) ?_
        exact wX11_pieces_33 Z hk4 v0 v1 v3 v2 0 μ5 _ _ _ _ _ _ _ hf hH hL hC hN (hl.sub [0, 1, 3] rfl)
      · have hf := vg_ip h8 hf
        refine lv_iconst (v := 1) hx hb dX11_pieces_28 (by decide) ?_
        refine lv_goto (tgt := 33) hx hb dX11_pieces_29 (by decide) ?_
        exact wX11_pieces_33 Z hk4 v0 v1 v3 v2 1 μ5 _ _ _ _ _ _ _ hf hH hL hC hN (hl.sub [0, 1, 3] rfl)
def fX11_pieces (v0 : Nat) (v1 : Int32) (μ : vg_M) : vg_R Int32 :=
  fX11_pieces_4  vg_fuel v0 v1 1 0 μ
set_option maxHeartbeats 4000000 in
set_option maxRecDepth 100000 in
theorem cX11_pieces_met {l : Launch} {D : va_G} {cy : Nat → ClassId} {H0 : Heap} {r : Int32} {μ μ' : vg_M} {cn nn : Nat} {v0 : Nat} {v1 : Int32} (hf : fX11_pieces v0 v1 μ = some (r, μ', cn, nn)) : vg_Met l D cy H0 yX11_pieces cX11_pieces 4 (some .int) 13 μ [.ref v0, .int v1] (some (.int r)) μ' cn nn := by
  refine vg_start (by decide +kernel) (List.forall_mem_cons.mpr ⟨rfl, (List.forall_mem_cons.mpr ⟨rfl, (fun _ h => nomatch h)⟩)⟩) (Nat.le_of_ble_eq_true rfl) ?_
  intro p e s m below meth c ls X hml hr hlk hnm hH hl
  have hl : vg_l ls 4 [(0, .ref v0), (1, .int v1)] := hl
  have Z : vg_Z D cy H0 p s m _ c cX11_pieces RX11 meth 4 (some .int) (vg_rm 13 cn nn) 13 cn nn _ := ⟨X, hml, hr, hlk, Nat.le_refl _, Nat.le_refl _, Nat.le_refl _, Nat.le_refl _, hnm⟩
  obtain ⟨-, -, -, -, hfr, hlo, hRc, hRs, -⟩ := id Z
  have hx := X.1
  have hb := X.2.1
  have hL : ∀ z ∈ ([] : List Loc), H0.size ≤ z.base := fun _ h => nomatch h
  have hC : 0 + cn = cn := Nat.zero_add _
  have hN : 0 + nn = nn := Nat.zero_add _
  delta fX11_pieces at hf
  refine lv_iconst (v := 1) hx hb dX11_pieces_0 (by decide) ?_
  refine vg_istore_n (lv' := [(2, .int 1), (0, .ref v0), (1, .int v1)]) hx hb dX11_pieces_1 rfl hl (by decide) rfl (fun ls hl => ?_)
  refine lv_iconst (v := 0) hx hb dX11_pieces_2 (by decide) ?_
  refine vg_istore_n (lv' := [(3, .int 0), (2, .int 1), (0, .ref v0), (1, .int v1)]) hx hb dX11_pieces_3 rfl hl (by decide) rfl (fun ls hl => ?_)
  exact wX11_pieces_4 Z  vg_fuel v0 v1 1 0 μ _ _ _ _ _ _ _ hf hH hL hC hN (hl.sub [2, 3, 1, 0] rfl)
def fX11_closed_56 (q8 : Nat → Int32 → Int32 → Int32 → Int32 → vg_M → vg_R Int32) (v0 : Nat) (v1 : Int32) (v3 : Int32) (v5 : Int32) (v6 : Int32) (μ : vg_M) : vg_R Int32 :=
  q8 v0 v1 v3 (v6 + 1) (v5 + 1) μ
set_option maxHeartbeats 4000000 in
set_option maxRecDepth 100000 in
theorem wX11_closed_56 {p : Program} {l : Launch} {e : Env} {R : Room} {s : State} {m : MethodId} {args : Array Value} {below : List Frame} {meth : Method} {c : Code} {D : va_G} {cy : Nat → ClassId} {H0 : Heap} {C0 N0 : Nat} {r : Int32} {μ' : vg_M} (Z : vg_Z D cy H0 p s m args c cX11_closed RX11 meth 7 (some .int) R 14 C0 N0 "closed") {q8 : Nat → Int32 → Int32 → Int32 → Int32 → vg_M → vg_R Int32} (hk8 : ∀ (v0 : Nat) (v1 : Int32) (v3 : Int32) (v4 : Int32) (v5 : Int32) (μ : vg_M), vg_S p l e R s m args below meth c D cy H0 C0 N0 7 (MQ below (vg_Qc D cy H0 μ' (some (.int r))) args s C0 N0 (vg_fr H0)) r μ' (q8 v0 v1 v3 v4 v5 μ) μ [(0, .ref v0), (1, .int v1), (3, .int v3), (4, .int v4), (5, .int v5)] [] 8) (v0 : Nat) (v1 : Int32) (v3 : Int32) (v5 : Int32) (v6 : Int32) (μ : vg_M) : vg_S p l e R s m args below meth c D cy H0 C0 N0 7 (MQ below (vg_Qc D cy H0 μ' (some (.int r))) args s C0 N0 (vg_fr H0)) r μ' (fX11_closed_56 q8 v0 v1 v3 v5 v6 μ) μ [(0, .ref v0), (1, .int v1), (3, .int v3), (5, .int v5), (6, .int v6)] [] 56 := by
  intro cn nn H locs cells slots ls hf hH hL hC hN hl
  obtain ⟨X, hml, hr, hlk, hfr, hlo, hRc, hRs, hnm⟩ := id Z
  have hx := X.1
  have hb := X.2.1
  delta fX11_closed_56 at hf
  refine lv_iload hx hb dX11_closed_56 (lv_at hl.1 4 rfl) ?_
  refine lv_iconst (v := 1) hx hb dX11_closed_58 (by decide) ?_
  refine lv_iadd hx hb dX11_closed_59 ?_
  refine vg_istore (lv' := [(4, .int (v6 + 1)), (0, .ref v0), (1, .int v1), (3, .int v3), (5, .int v5), (6, .int v6)]) hx hb dX11_closed_60 hl (by decide) rfl (fun ls hl => ?_)
  refine vg_iinc (v := v5 + 1) (lv' := [(5, .int (v5 + 1)), (4, .int (v6 + 1)), (0, .ref v0), (1, .int v1), (3, .int v3), (6, .int v6)]) hx hb dX11_closed_62 hl (k := 4) rfl rfl (by decide) rfl (fun ls hl => ?_)
  refine lv_goto (tgt := 8) hx hb dX11_closed_65 (by decide) ?_
  exact hk8 v0 v1 v3 (v6 + 1) (v5 + 1) μ _ _ _ _ _ _ _ hf hH hL hC hN (hl.sub [2, 3, 4, 1, 0] rfl)
def fX11_closed_8  : Nat → Nat → Int32 → Int32 → Int32 → Int32 → vg_M → vg_R Int32
  | 0, _, _, _, _, _, _ => none
  | n + 1, v0, v1, v3, v4, v5, μ =>
    vg_cv 14 v0 μ (fX11_pieces v0 v1 μ) fun x1 μ2 =>
    if x1 ≤ v5 then (
     vg_ret v3 μ2
     ) else (
     vg_cv 14 v0 μ2 (fX11_pieceEnd v0 v1 v4 μ2) fun x3 μ4 =>
     vg_cv 14 v0 μ4 (fX11_isStars v0 v1 v4 x3 μ4) fun x5 μ6 =>
     if x5 = 0 then (
      fX11_closed_56 (fX11_closed_8  n) v0 v1 v3 v5 x3 μ6
      ) else (
      if ((v3 >>> (v5 &&& 31)) &&& 1) = 1 then (
       fX11_closed_56 (fX11_closed_8  n) v0 v1 (v3 ||| (2 <<< (v5 &&& 31))) v5 x3 μ6
       ) else (
       fX11_closed_56 (fX11_closed_8  n) v0 v1 v3 v5 x3 μ6
       )
      )
     )
set_option maxHeartbeats 4000000 in
set_option maxRecDepth 100000 in
theorem wX11_closed_8 {p : Program} {l : Launch} {e : Env} {R : Room} {s : State} {m : MethodId} {args : Array Value} {below : List Frame} {meth : Method} {c : Code} {D : va_G} {cy : Nat → ClassId} {H0 : Heap} {C0 N0 : Nat} {r : Int32} {μ' : vg_M} (Z : vg_Z D cy H0 p s m args c cX11_closed RX11 meth 7 (some .int) R 14 C0 N0 "closed")   : ∀ (n : Nat) (v0 : Nat) (v1 : Int32) (v3 : Int32) (v4 : Int32) (v5 : Int32) (μ : vg_M), vg_S p l e R s m args below meth c D cy H0 C0 N0 7 (MQ below (vg_Qc D cy H0 μ' (some (.int r))) args s C0 N0 (vg_fr H0)) r μ' (fX11_closed_8  n v0 v1 v3 v4 v5 μ) μ [(0, .ref v0), (1, .int v1), (3, .int v3), (4, .int v4), (5, .int v5)] [] 8 := by
  intro n
  induction n with
  | zero =>
    intro v0 v1 v3 v4 v5 μ cn nn H locs cells slots ls hf
    simp [fX11_closed_8] at hf
  | succ n hk8 =>
    intro v0 v1 v3 v4 v5 μ
    intro cn nn H locs cells slots ls hf hH hL hC hN hl
    obtain ⟨X, hml, hr, hlk, hfr, hlo, hRc, hRs, hnm⟩ := id Z
    have hx := X.1
    have hb := X.2.1
    rw [fX11_closed_8] at hf
    refine lv_iload hx hb dX11_closed_8 (lv_at hl.1 4 rfl) ?_
    refine lv_aload_n hx hb dX11_closed_10 rfl (lv_at hl.1 0 rfl) ?_
    refine lv_iload_n hx hb dX11_closed_11 rfl (lv_at hl.1 1 rfl) ?_
    refine vg_callVi (ci := 14) X hml hl hH hL fCV_X11_182 rfl [.int v1] rfl rfl (Nat.le_of_ble_eq_true rfl) dX11_closed_12 hf hC hN hRc hRs hfr hlo (by decide) (fun _ _ _ _ h => cX11_pieces_met h) (fun x1 μ2 cn nn H locs cells slots hf hC hN hH hL => ?_)
    refine lv_icmp_ge (tgt := 68) hx hb dX11_closed_15 (by decide) (fun h8 => ?_) (fun h8 => ?_)
    · have hf := vg_ip h8 hf
      refine lv_iload_n hx hb dX11_closed_68 rfl (lv_at hl.1 2 rfl) ?_
      exact vg_reti X hr hlk hH hL dX11_closed_69 hf hC hN
    · have hf := vg_if h8 hf
      refine lv_aload_n hx hb dX11_closed_18 rfl (lv_at hl.1 0 rfl) ?_
      refine lv_iload_n hx hb dX11_closed_19 rfl (lv_at hl.1 1 rfl) ?_
      refine lv_iload hx hb dX11_closed_20 (lv_at hl.1 3 rfl) ?_
      refine vg_callVi (ci := 14) X hml hl hH hL fCV_X11_185 rfl [.int v1, .int v4] rfl rfl (Nat.le_of_ble_eq_true rfl) dX11_closed_22 hf hC hN hRc hRs hfr hlo (by decide) (fun _ _ _ _ h => cX11_pieceEnd_met h) (fun x3 μ4 cn nn H locs cells slots hf hC hN hH hL => ?_)
      refine vg_istore (lv' := [(6, .int x3), (0, .ref v0), (1, .int v1), (3, .int v3), (4, .int v4), (5, .int v5)]) hx hb dX11_closed_25 hl (by decide) rfl (fun ls hl => ?_)
      refine lv_aload_n hx hb dX11_closed_27 rfl (lv_at hl.1 1 rfl) ?_
      refine lv_iload_n hx hb dX11_closed_28 rfl (lv_at hl.1 2 rfl) ?_
      refine lv_iload hx hb dX11_closed_29 (lv_at hl.1 4 rfl) ?_
      refine lv_iload hx hb dX11_closed_31 (lv_at hl.1 0 rfl) ?_
      refine vg_callVi (ci := 14) X hml hl hH hL fCV_X11_188 rfl [.int v1, .int v4, .int x3] rfl rfl (Nat.le_of_ble_eq_true rfl) dX11_closed_33 hf hC hN hRc hRs hfr hlo (by decide) (fun _ _ _ _ h => cX11_isStars_met h) (fun x5 μ6 cn nn H locs cells slots hf hC hN hH hL => ?_)
      refine lv_if_eq (tgt := 56) hx hb dX11_closed_36 (by decide) (fun h8 => ?_) (fun h8 => ?_)
      · have hf := vg_ip h8 hf
        exact wX11_closed_56 Z hk8 v0 v1 v3 v5 x3 μ6 _ _ _ _ _ _ _ hf hH hL hC hN (hl.sub [1, 2, 3, 5, 0] rfl)
      · have hf := vg_if h8 hf
        refine lv_iload_n hx hb dX11_closed_39 rfl (lv_at hl.1 3 rfl) ?_
        refine lv_iload hx hb dX11_closed_40 (lv_at hl.1 5 rfl) ?_
        refine lv_ishr hx hb dX11_closed_42 ?_
        refine lv_iconst (v := 1) hx hb dX11_closed_43 (by decide) ?_
        refine lv_iand hx hb dX11_closed_44 ?_
        refine lv_iconst (v := 1) hx hb dX11_closed_45 (by decide) ?_
        refine lv_icmp_ne (tgt := 56) hx hb dX11_closed_46 (by decide) (fun h8 => ?_) (fun h8 => ?_)
        · have hf := vg_if h8 hf
          exact wX11_closed_56 Z hk8 v0 v1 v3 v5 x3 μ6 _ _ _ _ _ _ _ hf hH hL hC hN (hl.sub [1, 2, 3, 5, 0] rfl)
        · have hf := vg_ip h8 hf
          refine lv_iload_n hx hb dX11_closed_49 rfl (lv_at hl.1 3 rfl) ?_
          refine lv_iconst (v := 2) hx hb dX11_closed_50 (by decide) ?_
          refine lv_iload hx hb dX11_closed_51 (lv_at hl.1 5 rfl) ?_
          refine lv_ishl hx hb dX11_closed_53 ?_
          refine lv_ior hx hb dX11_closed_54 ?_
          refine vg_istore_n (lv' := [(3, .int (v3 ||| (2 <<< (v5 &&& 31)))), (6, .int x3), (0, .ref v0), (1, .int v1), (4, .int v4), (5, .int v5)]) hx hb dX11_closed_55 rfl hl (by decide) rfl (fun ls hl => ?_)
          exact wX11_closed_56 Z hk8 v0 v1 (v3 ||| (2 <<< (v5 &&& 31))) v5 x3 μ6 _ _ _ _ _ _ _ hf hH hL hC hN (hl.sub [2, 3, 0, 5, 1] rfl)
def fX11_closed (v0 : Nat) (v1 : Int32) (v2 : Int32) (μ : vg_M) : vg_R Int32 :=
  fX11_closed_8  vg_fuel v0 v1 v2 0 0 μ
set_option maxHeartbeats 4000000 in
set_option maxRecDepth 100000 in
theorem cX11_closed_met {l : Launch} {D : va_G} {cy : Nat → ClassId} {H0 : Heap} {r : Int32} {μ μ' : vg_M} {cn nn : Nat} {v0 : Nat} {v1 : Int32} {v2 : Int32} (hf : fX11_closed v0 v1 v2 μ = some (r, μ', cn, nn)) : vg_Met l D cy H0 yX11_closed cX11_closed 7 (some .int) 14 μ [.ref v0, .int v1, .int v2] (some (.int r)) μ' cn nn := by
  refine vg_start (by decide +kernel) (List.forall_mem_cons.mpr ⟨rfl, (List.forall_mem_cons.mpr ⟨rfl, (List.forall_mem_cons.mpr ⟨rfl, (fun _ h => nomatch h)⟩)⟩)⟩) (Nat.le_of_ble_eq_true rfl) ?_
  intro p e s m below meth c ls X hml hr hlk hnm hH hl
  have hl : vg_l ls 7 [(0, .ref v0), (1, .int v1), (2, .int v2)] := hl
  have Z : vg_Z D cy H0 p s m _ c cX11_closed RX11 meth 7 (some .int) (vg_rm 14 cn nn) 14 cn nn _ := ⟨X, hml, hr, hlk, Nat.le_refl _, Nat.le_refl _, Nat.le_refl _, Nat.le_refl _, hnm⟩
  obtain ⟨-, -, -, -, hfr, hlo, hRc, hRs, -⟩ := id Z
  have hx := X.1
  have hb := X.2.1
  have hL : ∀ z ∈ ([] : List Loc), H0.size ≤ z.base := fun _ h => nomatch h
  have hC : 0 + cn = cn := Nat.zero_add _
  have hN : 0 + nn = nn := Nat.zero_add _
  delta fX11_closed at hf
  refine lv_iload_n hx hb dX11_closed_0 rfl (lv_at hl.1 2 rfl) ?_
  refine vg_istore_n (lv' := [(3, .int v2), (0, .ref v0), (1, .int v1), (2, .int v2)]) hx hb dX11_closed_1 rfl hl (by decide) rfl (fun ls hl => ?_)
  refine lv_iconst (v := 0) hx hb dX11_closed_2 (by decide) ?_
  refine vg_istore (lv' := [(4, .int 0), (3, .int v2), (0, .ref v0), (1, .int v1), (2, .int v2)]) hx hb dX11_closed_3 hl (by decide) rfl (fun ls hl => ?_)
  refine lv_iconst (v := 0) hx hb dX11_closed_5 (by decide) ?_
  refine vg_istore (lv' := [(5, .int 0), (4, .int 0), (3, .int v2), (0, .ref v0), (1, .int v1), (2, .int v2)]) hx hb dX11_closed_6 hl (by decide) rfl (fun ls hl => ?_)
  exact wX11_closed_8 Z  vg_fuel v0 v1 v2 0 0 μ _ _ _ _ _ _ _ hf hH hL hC hN (hl.sub [3, 4, 2, 1, 0] rfl)
def fX11_isOne_23  (k0 : Int32) (μ : vg_M) : vg_R Int32 :=
  vg_o (vg_z .boolean k0) fun z => vg_ret z μ
set_option maxHeartbeats 4000000 in
set_option maxRecDepth 100000 in
theorem wX11_isOne_23 {p : Program} {l : Launch} {e : Env} {R : Room} {s : State} {m : MethodId} {args : Array Value} {below : List Frame} {meth : Method} {c : Code} {D : va_G} {cy : Nat → ClassId} {H0 : Heap} {C0 N0 : Nat} {r : Int32} {μ' : vg_M} (Z : vg_Z D cy H0 p s m args c cX11_isOne RX11 meth 7 (some .boolean) R 13 C0 N0 "isOne")   (k0 : Int32) (μ : vg_M) : vg_S p l e R s m args below meth c D cy H0 C0 N0 7 (MQ below (vg_Qc D cy H0 μ' (some (.int r))) args s C0 N0 (vg_fr H0)) r μ' (fX11_isOne_23  k0 μ) μ [] [.int k0] 23 := by
  intro cn nn H locs cells slots ls hf hH hL hC hN hl
  obtain ⟨X, hml, hr, hlk, hfr, hlo, hRc, hRs, hnm⟩ := id Z
  have hx := X.1
  have hb := X.2.1
  delta fX11_isOne_23 at hf
  exact vg_retz X (by simp) hr hlk hH hL dX11_isOne_23 hf hC hN
def fX11_isOne_62 (q32 : Nat → Int32 → Int32 → Int32 → Int32 → Int32 → vg_M → vg_R Int32) (v0 : Nat) (v1 : Int32) (v3 : Int32) (v4 : Int32) (v6 : Int32) (k0 : Int32) (μ : vg_M) : vg_R Int32 :=
  q32 v0 v1 v3 v4 k0 (v6 + 1) μ
set_option maxHeartbeats 4000000 in
set_option maxRecDepth 100000 in
theorem wX11_isOne_62 {p : Program} {l : Launch} {e : Env} {R : Room} {s : State} {m : MethodId} {args : Array Value} {below : List Frame} {meth : Method} {c : Code} {D : va_G} {cy : Nat → ClassId} {H0 : Heap} {C0 N0 : Nat} {r : Int32} {μ' : vg_M} (Z : vg_Z D cy H0 p s m args c cX11_isOne RX11 meth 7 (some .boolean) R 13 C0 N0 "isOne") {q32 : Nat → Int32 → Int32 → Int32 → Int32 → Int32 → vg_M → vg_R Int32} (hk32 : ∀ (v0 : Nat) (v1 : Int32) (v3 : Int32) (v4 : Int32) (v5 : Int32) (v6 : Int32) (μ : vg_M), vg_S p l e R s m args below meth c D cy H0 C0 N0 7 (MQ below (vg_Qc D cy H0 μ' (some (.int r))) args s C0 N0 (vg_fr H0)) r μ' (q32 v0 v1 v3 v4 v5 v6 μ) μ [(0, .ref v0), (1, .int v1), (3, .int v3), (4, .int v4), (5, .int v5), (6, .int v6)] [] 32) (v0 : Nat) (v1 : Int32) (v3 : Int32) (v4 : Int32) (v6 : Int32) (k0 : Int32) (μ : vg_M) : vg_S p l e R s m args below meth c D cy H0 C0 N0 7 (MQ below (vg_Qc D cy H0 μ' (some (.int r))) args s C0 N0 (vg_fr H0)) r μ' (fX11_isOne_62 q32 v0 v1 v3 v4 v6 k0 μ) μ [(0, .ref v0), (1, .int v1), (3, .int v3), (4, .int v4), (6, .int v6)] [.int k0] 62 := by
  intro cn nn H locs cells slots ls hf hH hL hC hN hl
  obtain ⟨X, hml, hr, hlk, hfr, hlo, hRc, hRs, hnm⟩ := id Z
  have hx := X.1
  have hb := X.2.1
  delta fX11_isOne_62 at hf
  refine vg_istore (lv' := [(5, .int k0), (0, .ref v0), (1, .int v1), (3, .int v3), (4, .int v4), (6, .int v6)]) hx hb dX11_isOne_62 hl (by decide) rfl (fun ls hl => ?_)
  refine vg_iinc (v := v6 + 1) (lv' := [(6, .int (v6 + 1)), (5, .int k0), (0, .ref v0), (1, .int v1), (3, .int v3), (4, .int v4)]) hx hb dX11_isOne_64 hl (k := 5) rfl rfl (by decide) rfl (fun ls hl => ?_)
  refine lv_goto (tgt := 32) hx hb dX11_isOne_67 (by decide) ?_
  exact hk32 v0 v1 v3 v4 k0 (v6 + 1) μ _ _ _ _ _ _ _ hf hH hL hC hN (hl.sub [2, 3, 4, 5, 1, 0] rfl)
def fX11_isOne_57 (q32 : Nat → Int32 → Int32 → Int32 → Int32 → Int32 → vg_M → vg_R Int32) (v0 : Nat) (v1 : Int32) (v3 : Int32) (v4 : Int32) (v6 : Int32) (μ : vg_M) : vg_R Int32 :=
  fX11_isOne_62 q32 v0 v1 v3 v4 v6 1 μ
set_option maxHeartbeats 4000000 in
set_option maxRecDepth 100000 in
theorem wX11_isOne_57 {p : Program} {l : Launch} {e : Env} {R : Room} {s : State} {m : MethodId} {args : Array Value} {below : List Frame} {meth : Method} {c : Code} {D : va_G} {cy : Nat → ClassId} {H0 : Heap} {C0 N0 : Nat} {r : Int32} {μ' : vg_M} (Z : vg_Z D cy H0 p s m args c cX11_isOne RX11 meth 7 (some .boolean) R 13 C0 N0 "isOne") {q32 : Nat → Int32 → Int32 → Int32 → Int32 → Int32 → vg_M → vg_R Int32} (hk32 : ∀ (v0 : Nat) (v1 : Int32) (v3 : Int32) (v4 : Int32) (v5 : Int32) (v6 : Int32) (μ : vg_M), vg_S p l e R s m args below meth c D cy H0 C0 N0 7 (MQ below (vg_Qc D cy H0 μ' (some (.int r))) args s C0 N0 (vg_fr H0)) r μ' (q32 v0 v1 v3 v4 v5 v6 μ) μ [(0, .ref v0), (1, .int v1), (3, .int v3), (4, .int v4), (5, .int v5), (6, .int v6)] [] 32) (v0 : Nat) (v1 : Int32) (v3 : Int32) (v4 : Int32) (v6 : Int32) (μ : vg_M) : vg_S p l e R s m args below meth c D cy H0 C0 N0 7 (MQ below (vg_Qc D cy H0 μ' (some (.int r))) args s C0 N0 (vg_fr H0)) r μ' (fX11_isOne_57 q32 v0 v1 v3 v4 v6 μ) μ [(0, .ref v0), (1, .int v1), (3, .int v3), (4, .int v4), (6, .int v6)] [] 57 := by
  intro cn nn H locs cells slots ls hf hH hL hC hN hl
  obtain ⟨X, hml, hr, hlk, hfr, hlo, hRc, hRs, hnm⟩ := id Z
  have hx := X.1
  have hb := X.2.1
  delta fX11_isOne_57 at hf
  refine lv_iconst (v := 1) hx hb dX11_isOne_57 (by decide) ?_
  refine lv_goto (tgt := 62) hx hb dX11_isOne_58 (by decide) ?_
  exact wX11_isOne_62 Z hk32 v0 v1 v3 v4 v6 1 μ _ _ _ _ _ _ _ hf hH hL hC hN (hl.sub [0, 1, 2, 3, 4] rfl)
def fX11_isOne_32  : Nat → Nat → Int32 → Int32 → Int32 → Int32 → Int32 → vg_M → vg_R Int32
  | 0, _, _, _, _, _, _, _ => none
  | n + 1, v0, v1, v3, v4, v5, v6, μ =>
    if (v3 - 1) ≤ v6 then (
     vg_o (vg_z .boolean v5) fun z => vg_ret z μ
     ) else (
     if v5 = 0 then (
      vg_cv 14 v0 μ (fX11_byteOf v0 v1 v6 μ) fun x1 μ2 =>
      if x1 = v4 then (
       fX11_isOne_57 (fX11_isOne_32  n) v0 v1 v3 v4 v6 μ2
       ) else (
       fX11_isOne_62 (fX11_isOne_32  n) v0 v1 v3 v4 v6 0 μ2
       )
      ) else (
      fX11_isOne_57 (fX11_isOne_32  n) v0 v1 v3 v4 v6 μ
      )
     )
set_option maxHeartbeats 4000000 in
set_option maxRecDepth 100000 in
theorem wX11_isOne_32 {p : Program} {l : Launch} {e : Env} {R : Room} {s : State} {m : MethodId} {args : Array Value} {below : List Frame} {meth : Method} {c : Code} {D : va_G} {cy : Nat → ClassId} {H0 : Heap} {C0 N0 : Nat} {r : Int32} {μ' : vg_M} (Z : vg_Z D cy H0 p s m args c cX11_isOne RX11 meth 7 (some .boolean) R 13 C0 N0 "isOne")   : ∀ (n : Nat) (v0 : Nat) (v1 : Int32) (v3 : Int32) (v4 : Int32) (v5 : Int32) (v6 : Int32) (μ : vg_M), vg_S p l e R s m args below meth c D cy H0 C0 N0 7 (MQ below (vg_Qc D cy H0 μ' (some (.int r))) args s C0 N0 (vg_fr H0)) r μ' (fX11_isOne_32  n v0 v1 v3 v4 v5 v6 μ) μ [(0, .ref v0), (1, .int v1), (3, .int v3), (4, .int v4), (5, .int v5), (6, .int v6)] [] 32 := by
  intro n
  induction n with
  | zero =>
    intro v0 v1 v3 v4 v5 v6 μ cn nn H locs cells slots ls hf
    simp [fX11_isOne_32] at hf
  | succ n hk32 =>
    intro v0 v1 v3 v4 v5 v6 μ
    intro cn nn H locs cells slots ls hf hH hL hC hN hl
    obtain ⟨X, hml, hr, hlk, hfr, hlo, hRc, hRs, hnm⟩ := id Z
    have hx := X.1
    have hb := X.2.1
    rw [fX11_isOne_32] at hf
    refine lv_iload hx hb dX11_isOne_32 (lv_at hl.1 5 rfl) ?_
    refine lv_iload_n hx hb dX11_isOne_34 rfl (lv_at hl.1 2 rfl) ?_
    refine lv_iconst (v := 1) hx hb dX11_isOne_35 (by decide) ?_
    refine lv_isub hx hb dX11_isOne_36 ?_
    refine lv_icmp_ge (tgt := 70) hx hb dX11_isOne_37 (by decide) (fun h8 => ?_) (fun h8 => ?_)
    · have hf := vg_ip h8 hf
      refine lv_iload hx hb dX11_isOne_70 (lv_at hl.1 4 rfl) ?_
      exact vg_retz X (by simp) hr hlk hH hL dX11_isOne_72 hf hC hN
    · have hf := vg_if h8 hf
      refine lv_iload hx hb dX11_isOne_40 (lv_at hl.1 4 rfl) ?_
      refine lv_if_ne (tgt := 57) hx hb dX11_isOne_42 (by decide) (fun h8 => ?_) (fun h8 => ?_)
      · have hf := vg_if h8 hf
        exact wX11_isOne_57 Z hk32 v0 v1 v3 v4 v6 μ _ _ _ _ _ _ _ hf hH hL hC hN (hl.sub [0, 1, 2, 3, 5] rfl)
      · have hf := vg_ip h8 hf
        refine lv_aload_n hx hb dX11_isOne_45 rfl (lv_at hl.1 0 rfl) ?_
        refine lv_iload_n hx hb dX11_isOne_46 rfl (lv_at hl.1 1 rfl) ?_
        refine lv_iload hx hb dX11_isOne_47 (lv_at hl.1 5 rfl) ?_
        refine vg_callVi (ci := 14) X hml hl hH hL fCV_X11_175 rfl [.int v1, .int v6] rfl rfl (Nat.le_of_ble_eq_true rfl) dX11_isOne_49 hf hC hN hRc hRs hfr hlo (by decide) (fun _ _ _ _ h => cX11_byteOf_met h) (fun x1 μ2 cn nn H locs cells slots hf hC hN hH hL => ?_)
        refine lv_iload hx hb dX11_isOne_52 (lv_at hl.1 3 rfl) ?_
        refine lv_icmp_ne (tgt := 61) hx hb dX11_isOne_54 (by decide) (fun h8 => ?_) (fun h8 => ?_)
        · have hf := vg_if h8 hf
          refine lv_iconst (v := 0) hx hb dX11_isOne_61 (by decide) ?_
          exact wX11_isOne_62 Z hk32 v0 v1 v3 v4 v6 0 μ2 _ _ _ _ _ _ _ hf hH hL hC hN (hl.sub [0, 1, 2, 3, 5] rfl)
        · have hf := vg_ip h8 hf
          exact wX11_isOne_57 Z hk32 v0 v1 v3 v4 v6 μ2 _ _ _ _ _ _ _ hf hH hL hC hN (hl.sub [0, 1, 2, 3, 5] rfl)
def fX11_isOne (v0 : Nat) (v1 : Int32) (v2 : Int32) (v3 : Int32) (v4 : Int32) (μ : vg_M) : vg_R Int32 :=
  if v3 = (v2 + 1) then (
   vg_cv 14 v0 μ (fX11_byteOf v0 v1 v2 μ) fun x3 μ4 =>
   if x3 = v4 then (
    fX11_isOne_23  1 μ4
    ) else (
    fX11_isOne_23  0 μ4
    )
   ) else (
   fX11_isOne_32  vg_fuel v0 v1 v3 v4 0 (v2 + 1) μ
   )
set_option maxHeartbeats 4000000 in
set_option maxRecDepth 100000 in
theorem cX11_isOne_met {l : Launch} {D : va_G} {cy : Nat → ClassId} {H0 : Heap} {r : Int32} {μ μ' : vg_M} {cn nn : Nat} {v0 : Nat} {v1 : Int32} {v2 : Int32} {v3 : Int32} {v4 : Int32} (hf : fX11_isOne v0 v1 v2 v3 v4 μ = some (r, μ', cn, nn)) : vg_Met l D cy H0 yX11_isOne cX11_isOne 7 (some .boolean) 13 μ [.ref v0, .int v1, .int v2, .int v3, .int v4] (some (.int r)) μ' cn nn := by
  refine vg_start (by decide +kernel) (List.forall_mem_cons.mpr ⟨rfl, (List.forall_mem_cons.mpr ⟨rfl, (List.forall_mem_cons.mpr ⟨rfl, (List.forall_mem_cons.mpr ⟨rfl, (List.forall_mem_cons.mpr ⟨rfl, (fun _ h => nomatch h)⟩)⟩)⟩)⟩)⟩) (Nat.le_of_ble_eq_true rfl) ?_
  intro p e s m below meth c ls X hml hr hlk hnm hH hl
  have hl : vg_l ls 7 [(0, .ref v0), (1, .int v1), (2, .int v2), (3, .int v3), (4, .int v4)] := hl
  have Z : vg_Z D cy H0 p s m _ c cX11_isOne RX11 meth 7 (some .boolean) (vg_rm 13 cn nn) 13 cn nn _ := ⟨X, hml, hr, hlk, Nat.le_refl _, Nat.le_refl _, Nat.le_refl _, Nat.le_refl _, hnm⟩
  obtain ⟨-, -, -, -, hfr, hlo, hRc, hRs, -⟩ := id Z
  have hx := X.1
  have hb := X.2.1
  have hL : ∀ z ∈ ([] : List Loc), H0.size ≤ z.base := fun _ h => nomatch h
  have hC : 0 + cn = cn := Nat.zero_add _
  have hN : 0 + nn = nn := Nat.zero_add _
  delta fX11_isOne at hf
  refine lv_iload_n hx hb dX11_isOne_0 rfl (lv_at hl.1 3 rfl) ?_
  refine lv_iload_n hx hb dX11_isOne_1 rfl (lv_at hl.1 2 rfl) ?_
  refine lv_iconst (v := 1) hx hb dX11_isOne_2 (by decide) ?_
  refine lv_iadd hx hb dX11_isOne_3 ?_
  refine lv_icmp_ne (tgt := 24) hx hb dX11_isOne_4 (by decide) (fun h8 => ?_) (fun h8 => ?_)
  · have hf := vg_if h8 hf
    refine lv_iconst (v := 0) hx hb dX11_isOne_24 (by decide) ?_
    refine vg_istore (lv' := [(5, .int 0), (0, .ref v0), (1, .int v1), (2, .int v2), (3, .int v3), (4, .int v4)]) hx hb dX11_isOne_25 hl (by decide) rfl (fun ls hl => ?_)
    refine lv_iload_n hx hb dX11_isOne_27 rfl (lv_at hl.1 3 rfl) ?_
    refine lv_iconst (v := 1) hx hb dX11_isOne_28 (by decide) ?_
    refine lv_iadd hx hb dX11_isOne_29 ?_
    refine vg_istore (lv' := [(6, .int (v2 + 1)), (5, .int 0), (0, .ref v0), (1, .int v1), (2, .int v2), (3, .int v3), (4, .int v4)]) hx hb dX11_isOne_30 hl (by decide) rfl (fun ls hl => ?_)
    exact wX11_isOne_32 Z  vg_fuel v0 v1 v3 v4 0 (v2 + 1) μ _ _ _ _ _ _ _ hf hH hL hC hN (hl.sub [2, 3, 5, 6, 1, 0] rfl)
  · have hf := vg_ip h8 hf
    refine lv_aload_n hx hb dX11_isOne_7 rfl (lv_at hl.1 0 rfl) ?_
    refine lv_iload_n hx hb dX11_isOne_8 rfl (lv_at hl.1 1 rfl) ?_
    refine lv_iload_n hx hb dX11_isOne_9 rfl (lv_at hl.1 2 rfl) ?_
    refine vg_callVi (ci := 14) X hml hl hH hL fCV_X11_175 rfl [.int v1, .int v2] rfl rfl (Nat.le_of_ble_eq_true rfl) dX11_isOne_10 hf hC hN hRc hRs hfr hlo (by decide) (fun _ _ _ _ h => cX11_byteOf_met h) (fun x3 μ4 cn nn H locs cells slots hf hC hN hH hL => ?_)
    refine lv_iload hx hb dX11_isOne_13 (lv_at hl.1 4 rfl) ?_
    refine lv_icmp_ne (tgt := 22) hx hb dX11_isOne_15 (by decide) (fun h8 => ?_) (fun h8 => ?_)
    · have hf := vg_if h8 hf
      refine lv_iconst (v := 0) hx hb dX11_isOne_22 (by decide) ?_
      exact wX11_isOne_23 Z  0 μ4 _ _ _ _ _ _ _ hf hH hL hC hN (hl.sub [] rfl)
    · have hf := vg_ip h8 hf
      refine lv_iconst (v := 1) hx hb dX11_isOne_18 (by decide) ?_
      refine lv_goto (tgt := 23) hx hb dX11_isOne_19 (by decide) ?_
      exact wX11_isOne_23 Z  1 μ4 _ _ _ _ _ _ _ hf hH hL hC hN (hl.sub [] rfl)
def fX11_fitsName_181 (q15 : Nat → Int32 → Int32 → Int32 → Int32 → Int32 → Int32 → vg_M → vg_R Int32) (q69 : Nat → Int32 → Int32 → Int32 → Int32 → Int32 → Int32 → Int32 → Int32 → Int32 → Int32 → vg_M → vg_R Int32) (v0 : Nat) (v1 : Int32) (v3 : Int32) (v4 : Int32) (v5 : Int32) (v6 : Int32) (v7 : Int32) (v8 : Int32) (v9 : Int32) (v11 : Int32) (k0 : Int32) (k1 : Int32) (μ : vg_M) : vg_R Int32 :=
  q69 v0 v1 v3 v4 v5 v6 v7 v8 v9 (k0 ||| k1) (v11 + 1) μ
set_option maxHeartbeats 4000000 in
set_option maxRecDepth 100000 in
theorem wX11_fitsName_181 {p : Program} {l : Launch} {e : Env} {R : Room} {s : State} {m : MethodId} {args : Array Value} {below : List Frame} {meth : Method} {c : Code} {D : va_G} {cy : Nat → ClassId} {H0 : Heap} {C0 N0 : Nat} {r : Int32} {μ' : vg_M} (Z : vg_Z D cy H0 p s m args c cX11_fitsName RX11 meth 14 (some .boolean) R 14 C0 N0 "fitsName") {q15 : Nat → Int32 → Int32 → Int32 → Int32 → Int32 → Int32 → vg_M → vg_R Int32} {q69 : Nat → Int32 → Int32 → Int32 → Int32 → Int32 → Int32 → Int32 → Int32 → Int32 → Int32 → vg_M → vg_R Int32} (hk15 : ∀ (v0 : Nat) (v1 : Int32) (v3 : Int32) (v4 : Int32) (v5 : Int32) (v6 : Int32) (v7 : Int32) (μ : vg_M), vg_S p l e R s m args below meth c D cy H0 C0 N0 14 (MQ below (vg_Qc D cy H0 μ' (some (.int r))) args s C0 N0 (vg_fr H0)) r μ' (q15 v0 v1 v3 v4 v5 v6 v7 μ) μ [(0, .ref v0), (1, .int v1), (3, .int v3), (4, .int v4), (5, .int v5), (6, .int v6), (7, .int v7)] [] 15) (hk69 : ∀ (v0 : Nat) (v1 : Int32) (v3 : Int32) (v4 : Int32) (v5 : Int32) (v6 : Int32) (v7 : Int32) (v8 : Int32) (v9 : Int32) (v10 : Int32) (v11 : Int32) (μ : vg_M), vg_S p l e R s m args below meth c D cy H0 C0 N0 14 (MQ below (vg_Qc D cy H0 μ' (some (.int r))) args s C0 N0 (vg_fr H0)) r μ' (q69 v0 v1 v3 v4 v5 v6 v7 v8 v9 v10 v11 μ) μ [(0, .ref v0), (1, .int v1), (3, .int v3), (4, .int v4), (5, .int v5), (6, .int v6), (7, .int v7), (8, .int v8), (9, .int v9), (10, .int v10), (11, .int v11)] [] 69) (v0 : Nat) (v1 : Int32) (v3 : Int32) (v4 : Int32) (v5 : Int32) (v6 : Int32) (v7 : Int32) (v8 : Int32) (v9 : Int32) (v11 : Int32) (k0 : Int32) (k1 : Int32) (μ : vg_M) : vg_S p l e R s m args below meth c D cy H0 C0 N0 14 (MQ below (vg_Qc D cy H0 μ' (some (.int r))) args s C0 N0 (vg_fr H0)) r μ' (fX11_fitsName_181 q15 q69 v0 v1 v3 v4 v5 v6 v7 v8 v9 v11 k0 k1 μ) μ [(0, .ref v0), (1, .int v1), (3, .int v3), (4, .int v4), (5, .int v5), (6, .int v6), (7, .int v7), (8, .int v8), (9, .int v9), (11, .int v11)] [.int k1, .int k0] 181 := by
  intro cn nn H locs cells slots ls hf hH hL hC hN hl
  obtain ⟨X, hml, hr, hlk, hfr, hlo, hRc, hRs, hnm⟩ := id Z
  have hx := X.1
  have hb := X.2.1
  delta fX11_fitsName_181 at hf
  refine lv_ior hx hb dX11_fitsName_181 ?_
  refine vg_istore (lv' := [(10, .int (k0 ||| k1)), (0, .ref v0), (1, .int v1), (3, .int v3), (4, .int v4), (5, .int v5), (6, .int v6), (7, .int v7), (8, .int v8), (9, .int v9), (11, .int v11)]) hx hb dX11_fitsName_182 hl (by decide) rfl (fun ls hl => ?_)
  refine vg_iinc (v := v11 + 1) (lv' := [(11, .int (v11 + 1)), (10, .int (k0 ||| k1)), (0, .ref v0), (1, .int v1), (3, .int v3), (4, .int v4), (5, .int v5), (6, .int v6), (7, .int v7), (8, .int v8), (9, .int v9)]) hx hb dX11_fitsName_184 hl (k := 10) rfl rfl (by decide) rfl (fun ls hl => ?_)
  refine lv_goto (tgt := 69) hx hb dX11_fitsName_187 (by decide) ?_
  exact hk69 v0 v1 v3 v4 v5 v6 v7 v8 v9 (k0 ||| k1) (v11 + 1) μ _ _ _ _ _ _ _ hf hH hL hC hN (hl.sub [2, 3, 4, 5, 6, 7, 8, 9, 10, 1, 0] rfl)
def fX11_fitsName_173 (q15 : Nat → Int32 → Int32 → Int32 → Int32 → Int32 → Int32 → vg_M → vg_R Int32) (q69 : Nat → Int32 → Int32 → Int32 → Int32 → Int32 → Int32 → Int32 → Int32 → Int32 → Int32 → vg_M → vg_R Int32) (v0 : Nat) (v1 : Int32) (v3 : Int32) (v4 : Int32) (v5 : Int32) (v6 : Int32) (v7 : Int32) (v8 : Int32) (v9 : Int32) (v11 : Int32) (k0 : Int32) (μ : vg_M) : vg_R Int32 :=
  fX11_fitsName_181 q15 q69 v0 v1 v3 v4 v5 v6 v7 v8 v9 v11 k0 (1 <<< (v11 &&& 31)) μ
set_option maxHeartbeats 4000000 in
set_option maxRecDepth 100000 in
theorem wX11_fitsName_173 {p : Program} {l : Launch} {e : Env} {R : Room} {s : State} {m : MethodId} {args : Array Value} {below : List Frame} {meth : Method} {c : Code} {D : va_G} {cy : Nat → ClassId} {H0 : Heap} {C0 N0 : Nat} {r : Int32} {μ' : vg_M} (Z : vg_Z D cy H0 p s m args c cX11_fitsName RX11 meth 14 (some .boolean) R 14 C0 N0 "fitsName") {q15 : Nat → Int32 → Int32 → Int32 → Int32 → Int32 → Int32 → vg_M → vg_R Int32} {q69 : Nat → Int32 → Int32 → Int32 → Int32 → Int32 → Int32 → Int32 → Int32 → Int32 → Int32 → vg_M → vg_R Int32} (hk15 : ∀ (v0 : Nat) (v1 : Int32) (v3 : Int32) (v4 : Int32) (v5 : Int32) (v6 : Int32) (v7 : Int32) (μ : vg_M), vg_S p l e R s m args below meth c D cy H0 C0 N0 14 (MQ below (vg_Qc D cy H0 μ' (some (.int r))) args s C0 N0 (vg_fr H0)) r μ' (q15 v0 v1 v3 v4 v5 v6 v7 μ) μ [(0, .ref v0), (1, .int v1), (3, .int v3), (4, .int v4), (5, .int v5), (6, .int v6), (7, .int v7)] [] 15) (hk69 : ∀ (v0 : Nat) (v1 : Int32) (v3 : Int32) (v4 : Int32) (v5 : Int32) (v6 : Int32) (v7 : Int32) (v8 : Int32) (v9 : Int32) (v10 : Int32) (v11 : Int32) (μ : vg_M), vg_S p l e R s m args below meth c D cy H0 C0 N0 14 (MQ below (vg_Qc D cy H0 μ' (some (.int r))) args s C0 N0 (vg_fr H0)) r μ' (q69 v0 v1 v3 v4 v5 v6 v7 v8 v9 v10 v11 μ) μ [(0, .ref v0), (1, .int v1), (3, .int v3), (4, .int v4), (5, .int v5), (6, .int v6), (7, .int v7), (8, .int v8), (9, .int v9), (10, .int v10), (11, .int v11)] [] 69) (v0 : Nat) (v1 : Int32) (v3 : Int32) (v4 : Int32) (v5 : Int32) (v6 : Int32) (v7 : Int32) (v8 : Int32) (v9 : Int32) (v11 : Int32) (k0 : Int32) (μ : vg_M) : vg_S p l e R s m args below meth c D cy H0 C0 N0 14 (MQ below (vg_Qc D cy H0 μ' (some (.int r))) args s C0 N0 (vg_fr H0)) r μ' (fX11_fitsName_173 q15 q69 v0 v1 v3 v4 v5 v6 v7 v8 v9 v11 k0 μ) μ [(0, .ref v0), (1, .int v1), (3, .int v3), (4, .int v4), (5, .int v5), (6, .int v6), (7, .int v7), (8, .int v8), (9, .int v9), (11, .int v11)] [.int k0] 173 := by
  intro cn nn H locs cells slots ls hf hH hL hC hN hl
  obtain ⟨X, hml, hr, hlk, hfr, hlo, hRc, hRs, hnm⟩ := id Z
  have hx := X.1
  have hb := X.2.1
  delta fX11_fitsName_173 at hf
  refine lv_iconst (v := 1) hx hb dX11_fitsName_173 (by decide) ?_
  refine lv_iload hx hb dX11_fitsName_174 (lv_at hl.1 9 rfl) ?_
  refine lv_ishl hx hb dX11_fitsName_176 ?_
  refine lv_goto (tgt := 181) hx hb dX11_fitsName_177 (by decide) ?_
  exact wX11_fitsName_181 Z hk15 hk69 v0 v1 v3 v4 v5 v6 v7 v8 v9 v11 k0 (1 <<< (v11 &&& 31)) μ _ _ _ _ _ _ _ hf hH hL hC hN (hl.sub [0, 1, 2, 3, 4, 5, 6, 7, 8, 9] rfl)
def fX11_fitsName_159 (q15 : Nat → Int32 → Int32 → Int32 → Int32 → Int32 → Int32 → vg_M → vg_R Int32) (q69 : Nat → Int32 → Int32 → Int32 → Int32 → Int32 → Int32 → Int32 → Int32 → Int32 → Int32 → vg_M → vg_R Int32) (v0 : Nat) (v1 : Int32) (v3 : Int32) (v4 : Int32) (v5 : Int32) (v6 : Int32) (v7 : Int32) (v8 : Int32) (v9 : Int32) (v10 : Int32) (v11 : Int32) (v12 : Int32) (k0 : Int32) (μ : vg_M) : vg_R Int32 :=
  if v12 = 0 then (
   if k0 = 0 then (
    fX11_fitsName_181 q15 q69 v0 v1 v3 v4 v5 v6 v7 v8 v9 v11 v10 0 μ
    ) else (
    fX11_fitsName_173 q15 q69 v0 v1 v3 v4 v5 v6 v7 v8 v9 v11 v10 μ
    )
   ) else (
   fX11_fitsName_173 q15 q69 v0 v1 v3 v4 v5 v6 v7 v8 v9 v11 v10 μ
   )
set_option maxHeartbeats 4000000 in
set_option maxRecDepth 100000 in
theorem wX11_fitsName_159 {p : Program} {l : Launch} {e : Env} {R : Room} {s : State} {m : MethodId} {args : Array Value} {below : List Frame} {meth : Method} {c : Code} {D : va_G} {cy : Nat → ClassId} {H0 : Heap} {C0 N0 : Nat} {r : Int32} {μ' : vg_M} (Z : vg_Z D cy H0 p s m args c cX11_fitsName RX11 meth 14 (some .boolean) R 14 C0 N0 "fitsName") {q15 : Nat → Int32 → Int32 → Int32 → Int32 → Int32 → Int32 → vg_M → vg_R Int32} {q69 : Nat → Int32 → Int32 → Int32 → Int32 → Int32 → Int32 → Int32 → Int32 → Int32 → Int32 → vg_M → vg_R Int32} (hk15 : ∀ (v0 : Nat) (v1 : Int32) (v3 : Int32) (v4 : Int32) (v5 : Int32) (v6 : Int32) (v7 : Int32) (μ : vg_M), vg_S p l e R s m args below meth c D cy H0 C0 N0 14 (MQ below (vg_Qc D cy H0 μ' (some (.int r))) args s C0 N0 (vg_fr H0)) r μ' (q15 v0 v1 v3 v4 v5 v6 v7 μ) μ [(0, .ref v0), (1, .int v1), (3, .int v3), (4, .int v4), (5, .int v5), (6, .int v6), (7, .int v7)] [] 15) (hk69 : ∀ (v0 : Nat) (v1 : Int32) (v3 : Int32) (v4 : Int32) (v5 : Int32) (v6 : Int32) (v7 : Int32) (v8 : Int32) (v9 : Int32) (v10 : Int32) (v11 : Int32) (μ : vg_M), vg_S p l e R s m args below meth c D cy H0 C0 N0 14 (MQ below (vg_Qc D cy H0 μ' (some (.int r))) args s C0 N0 (vg_fr H0)) r μ' (q69 v0 v1 v3 v4 v5 v6 v7 v8 v9 v10 v11 μ) μ [(0, .ref v0), (1, .int v1), (3, .int v3), (4, .int v4), (5, .int v5), (6, .int v6), (7, .int v7), (8, .int v8), (9, .int v9), (10, .int v10), (11, .int v11)] [] 69) (v0 : Nat) (v1 : Int32) (v3 : Int32) (v4 : Int32) (v5 : Int32) (v6 : Int32) (v7 : Int32) (v8 : Int32) (v9 : Int32) (v10 : Int32) (v11 : Int32) (v12 : Int32) (k0 : Int32) (μ : vg_M) : vg_S p l e R s m args below meth c D cy H0 C0 N0 14 (MQ below (vg_Qc D cy H0 μ' (some (.int r))) args s C0 N0 (vg_fr H0)) r μ' (fX11_fitsName_159 q15 q69 v0 v1 v3 v4 v5 v6 v7 v8 v9 v10 v11 v12 k0 μ) μ [(0, .ref v0), (1, .int v1), (3, .int v3), (4, .int v4), (5, .int v5), (6, .int v6), (7, .int v7), (8, .int v8), (9, .int v9), (10, .int v10), (11, .int v11), (12, .int v12)] [.int k0] 159 := by
  intro cn nn H locs cells slots ls hf hH hL hC hN hl
  obtain ⟨X, hml, hr, hlk, hfr, hlo, hRc, hRs, hnm⟩ := id Z
  have hx := X.1
  have hb := X.2.1
  delta fX11_fitsName_159 at hf
  refine vg_istore (lv' := [(13, .int k0), (0, .ref v0), (1, .int v1), (3, .int v3), (4, .int v4), (5, .int v5), (6, .int v6), (7, .int v7), (8, .int v8), (9, .int v9), (10, .int v10), (11, .int v11), (12, .int v12)]) hx hb dX11_fitsName_159 hl (by decide) rfl (fun ls hl => ?_)
  refine lv_iload hx hb dX11_fitsName_161 (lv_at hl.1 10 rfl) ?_
  refine lv_iload hx hb dX11_fitsName_163 (lv_at hl.1 12 rfl) ?_
  refine lv_if_ne (tgt := 173) hx hb dX11_fitsName_165 (by decide) (fun h8 => ?_) (fun h8 => ?_)
  · have hf := vg_if h8 hf
    exact wX11_fitsName_173 Z hk15 hk69 v0 v1 v3 v4 v5 v6 v7 v8 v9 v11 v10 μ _ _ _ _ _ _ _ hf hH hL hC hN (hl.sub [1, 2, 3, 4, 5, 6, 7, 8, 9, 11] rfl)
  · have hf := vg_ip h8 hf
    refine lv_iload hx hb dX11_fitsName_168 (lv_at hl.1 0 rfl) ?_
    refine lv_if_eq (tgt := 180) hx hb dX11_fitsName_170 (by decide) (fun h8 => ?_) (fun h8 => ?_)
    · have hf := vg_ip h8 hf
      refine lv_iconst (v := 0) hx hb dX11_fitsName_180 (by decide) ?_
      exact wX11_fitsName_181 Z hk15 hk69 v0 v1 v3 v4 v5 v6 v7 v8 v9 v11 v10 0 μ _ _ _ _ _ _ _ hf hH hL hC hN (hl.sub [1, 2, 3, 4, 5, 6, 7, 8, 9, 11] rfl)
    · have hf := vg_if h8 hf
      exact wX11_fitsName_173 Z hk15 hk69 v0 v1 v3 v4 v5 v6 v7 v8 v9 v11 v10 μ _ _ _ _ _ _ _ hf hH hL hC hN (hl.sub [1, 2, 3, 4, 5, 6, 7, 8, 9, 11] rfl)
def fX11_fitsName_158 (q15 : Nat → Int32 → Int32 → Int32 → Int32 → Int32 → Int32 → vg_M → vg_R Int32) (q69 : Nat → Int32 → Int32 → Int32 → Int32 → Int32 → Int32 → Int32 → Int32 → Int32 → Int32 → vg_M → vg_R Int32) (v0 : Nat) (v1 : Int32) (v3 : Int32) (v4 : Int32) (v5 : Int32) (v6 : Int32) (v7 : Int32) (v8 : Int32) (v9 : Int32) (v10 : Int32) (v11 : Int32) (v12 : Int32) (μ : vg_M) : vg_R Int32 :=
  fX11_fitsName_159 q15 q69 v0 v1 v3 v4 v5 v6 v7 v8 v9 v10 v11 v12 0 μ
set_option maxHeartbeats 4000000 in
set_option maxRecDepth 100000 in
theorem wX11_fitsName_158 {p : Program} {l : Launch} {e : Env} {R : Room} {s : State} {m : MethodId} {args : Array Value} {below : List Frame} {meth : Method} {c : Code} {D : va_G} {cy : Nat → ClassId} {H0 : Heap} {C0 N0 : Nat} {r : Int32} {μ' : vg_M} (Z : vg_Z D cy H0 p s m args c cX11_fitsName RX11 meth 14 (some .boolean) R 14 C0 N0 "fitsName") {q15 : Nat → Int32 → Int32 → Int32 → Int32 → Int32 → Int32 → vg_M → vg_R Int32} {q69 : Nat → Int32 → Int32 → Int32 → Int32 → Int32 → Int32 → Int32 → Int32 → Int32 → Int32 → vg_M → vg_R Int32} (hk15 : ∀ (v0 : Nat) (v1 : Int32) (v3 : Int32) (v4 : Int32) (v5 : Int32) (v6 : Int32) (v7 : Int32) (μ : vg_M), vg_S p l e R s m args below meth c D cy H0 C0 N0 14 (MQ below (vg_Qc D cy H0 μ' (some (.int r))) args s C0 N0 (vg_fr H0)) r μ' (q15 v0 v1 v3 v4 v5 v6 v7 μ) μ [(0, .ref v0), (1, .int v1), (3, .int v3), (4, .int v4), (5, .int v5), (6, .int v6), (7, .int v7)] [] 15) (hk69 : ∀ (v0 : Nat) (v1 : Int32) (v3 : Int32) (v4 : Int32) (v5 : Int32) (v6 : Int32) (v7 : Int32) (v8 : Int32) (v9 : Int32) (v10 : Int32) (v11 : Int32) (μ : vg_M), vg_S p l e R s m args below meth c D cy H0 C0 N0 14 (MQ below (vg_Qc D cy H0 μ' (some (.int r))) args s C0 N0 (vg_fr H0)) r μ' (q69 v0 v1 v3 v4 v5 v6 v7 v8 v9 v10 v11 μ) μ [(0, .ref v0), (1, .int v1), (3, .int v3), (4, .int v4), (5, .int v5), (6, .int v6), (7, .int v7), (8, .int v8), (9, .int v9), (10, .int v10), (11, .int v11)] [] 69) (v0 : Nat) (v1 : Int32) (v3 : Int32) (v4 : Int32) (v5 : Int32) (v6 : Int32) (v7 : Int32) (v8 : Int32) (v9 : Int32) (v10 : Int32) (v11 : Int32) (v12 : Int32) (μ : vg_M) : vg_S p l e R s m args below meth c D cy H0 C0 N0 14 (MQ below (vg_Qc D cy H0 μ' (some (.int r))) args s C0 N0 (vg_fr H0)) r μ' (fX11_fitsName_158 q15 q69 v0 v1 v3 v4 v5 v6 v7 v8 v9 v10 v11 v12 μ) μ [(0, .ref v0), (1, .int v1), (3, .int v3), (4, .int v4), (5, .int v5), (6, .int v6), (7, .int v7), (8, .int v8), (9, .int v9), (10, .int v10), (11, .int v11), (12, .int v12)] [] 158 := by
  intro cn nn H locs cells slots ls hf hH hL hC hN hl
  obtain ⟨X, hml, hr, hlk, hfr, hlo, hRc, hRs, hnm⟩ := id Z
  have hx := X.1
  have hb := X.2.1
  delta fX11_fitsName_158 at hf
  refine lv_iconst (v := 0) hx hb dX11_fitsName_158 (by decide) ?_
  exact wX11_fitsName_159 Z hk15 hk69 v0 v1 v3 v4 v5 v6 v7 v8 v9 v10 v11 v12 0 μ _ _ _ _ _ _ _ hf hH hL hC hN (hl.sub [0, 1, 2, 3, 4, 5, 6, 7, 8, 9, 10, 11] rfl)
def fX11_fitsName_100 (q15 : Nat → Int32 → Int32 → Int32 → Int32 → Int32 → Int32 → vg_M → vg_R Int32) (q69 : Nat → Int32 → Int32 → Int32 → Int32 → Int32 → Int32 → Int32 → Int32 → Int32 → Int32 → vg_M → vg_R Int32) (v0 : Nat) (v1 : Int32) (v3 : Int32) (v4 : Int32) (v5 : Int32) (v6 : Int32) (v7 : Int32) (v8 : Int32) (v9 : Int32) (v10 : Int32) (v11 : Int32) (k0 : Int32) (μ : vg_M) : vg_R Int32 :=
  if v8 = 42 then (
   fX11_fitsName_158 q15 q69 v0 v1 v3 v4 v5 v6 v7 v8 v9 v10 v11 k0 μ
   ) else (
   if v11 ≤ 0 then (
    fX11_fitsName_158 q15 q69 v0 v1 v3 v4 v5 v6 v7 v8 v9 v10 v11 k0 μ
    ) else (
    if ((v6 >>> ((v11 - 1) &&& 31)) &&& 1) = 1 then (
     vg_o (vg_gR μ v0 14 12) fun x5 =>
     vg_o x5 fun a6 =>
     vg_o (vg_aI μ a6 0 (((8 * v4) + v11) - 1)) fun x7 =>
     vg_cv 14 v0 μ (fX11_isOne v0 v1 v7 v9 x7 μ) fun x8 μ9 =>
     if x8 = 0 then (
      fX11_fitsName_158 q15 q69 v0 v1 v3 v4 v5 v6 v7 v8 v9 v10 v11 k0 μ9
      ) else (
      fX11_fitsName_159 q15 q69 v0 v1 v3 v4 v5 v6 v7 v8 v9 v10 v11 k0 1 μ9
      )
     ) else (
     fX11_fitsName_158 q15 q69 v0 v1 v3 v4 v5 v6 v7 v8 v9 v10 v11 k0 μ
     )
    )
   )
set_option maxHeartbeats 4000000 in
set_option maxRecDepth 100000 in
theorem wX11_fitsName_100 {p : Program} {l : Launch} {e : Env} {R : Room} {s : State} {m : MethodId} {args : Array Value} {below : List Frame} {meth : Method} {c : Code} {D : va_G} {cy : Nat → ClassId} {H0 : Heap} {C0 N0 : Nat} {r : Int32} {μ' : vg_M} (Z : vg_Z D cy H0 p s m args c cX11_fitsName RX11 meth 14 (some .boolean) R 14 C0 N0 "fitsName") {q15 : Nat → Int32 → Int32 → Int32 → Int32 → Int32 → Int32 → vg_M → vg_R Int32} {q69 : Nat → Int32 → Int32 → Int32 → Int32 → Int32 → Int32 → Int32 → Int32 → Int32 → Int32 → vg_M → vg_R Int32} (hk15 : ∀ (v0 : Nat) (v1 : Int32) (v3 : Int32) (v4 : Int32) (v5 : Int32) (v6 : Int32) (v7 : Int32) (μ : vg_M), vg_S p l e R s m args below meth c D cy H0 C0 N0 14 (MQ below (vg_Qc D cy H0 μ' (some (.int r))) args s C0 N0 (vg_fr H0)) r μ' (q15 v0 v1 v3 v4 v5 v6 v7 μ) μ [(0, .ref v0), (1, .int v1), (3, .int v3), (4, .int v4), (5, .int v5), (6, .int v6), (7, .int v7)] [] 15) (hk69 : ∀ (v0 : Nat) (v1 : Int32) (v3 : Int32) (v4 : Int32) (v5 : Int32) (v6 : Int32) (v7 : Int32) (v8 : Int32) (v9 : Int32) (v10 : Int32) (v11 : Int32) (μ : vg_M), vg_S p l e R s m args below meth c D cy H0 C0 N0 14 (MQ below (vg_Qc D cy H0 μ' (some (.int r))) args s C0 N0 (vg_fr H0)) r μ' (q69 v0 v1 v3 v4 v5 v6 v7 v8 v9 v10 v11 μ) μ [(0, .ref v0), (1, .int v1), (3, .int v3), (4, .int v4), (5, .int v5), (6, .int v6), (7, .int v7), (8, .int v8), (9, .int v9), (10, .int v10), (11, .int v11)] [] 69) (v0 : Nat) (v1 : Int32) (v3 : Int32) (v4 : Int32) (v5 : Int32) (v6 : Int32) (v7 : Int32) (v8 : Int32) (v9 : Int32) (v10 : Int32) (v11 : Int32) (k0 : Int32) (μ : vg_M) : vg_S p l e R s m args below meth c D cy H0 C0 N0 14 (MQ below (vg_Qc D cy H0 μ' (some (.int r))) args s C0 N0 (vg_fr H0)) r μ' (fX11_fitsName_100 q15 q69 v0 v1 v3 v4 v5 v6 v7 v8 v9 v10 v11 k0 μ) μ [(0, .ref v0), (1, .int v1), (3, .int v3), (4, .int v4), (5, .int v5), (6, .int v6), (7, .int v7), (8, .int v8), (9, .int v9), (10, .int v10), (11, .int v11)] [.int k0] 100 := by
  intro cn nn H locs cells slots ls hf hH hL hC hN hl
  obtain ⟨X, hml, hr, hlk, hfr, hlo, hRc, hRs, hnm⟩ := id Z
  have hx := X.1
  have hb := X.2.1
  delta fX11_fitsName_100 at hf
  refine vg_istore (lv' := [(12, .int k0), (0, .ref v0), (1, .int v1), (3, .int v3), (4, .int v4), (5, .int v5), (6, .int v6), (7, .int v7), (8, .int v8), (9, .int v9), (10, .int v10), (11, .int v11)]) hx hb dX11_fitsName_100 hl (by decide) rfl (fun ls hl => ?_)
  refine lv_iload hx hb dX11_fitsName_102 (lv_at hl.1 8 rfl) ?_
  refine lv_bipush (v := 42) hx hb dX11_fitsName_104 (by decide) ?_
  refine lv_icmp_eq (tgt := 158) hx hb dX11_fitsName_106 (by decide) (fun h8 => ?_) (fun h8 => ?_)
  · have hf := vg_ip h8 hf
    exact wX11_fitsName_158 Z hk15 hk69 v0 v1 v3 v4 v5 v6 v7 v8 v9 v10 v11 k0 μ _ _ _ _ _ _ _ hf hH hL hC hN (hl.sub [1, 2, 3, 4, 5, 6, 7, 8, 9, 10, 11, 0] rfl)
  · have hf := vg_if h8 hf
    refine lv_iload hx hb dX11_fitsName_109 (lv_at hl.1 11 rfl) ?_
    refine lv_if_le (tgt := 158) hx hb dX11_fitsName_111 (by decide) (fun h8 => ?_) (fun h8 => ?_)
    · have hf := vg_ip h8 hf
      exact wX11_fitsName_158 Z hk15 hk69 v0 v1 v3 v4 v5 v6 v7 v8 v9 v10 v11 k0 μ _ _ _ _ _ _ _ hf hH hL hC hN (hl.sub [1, 2, 3, 4, 5, 6, 7, 8, 9, 10, 11, 0] rfl)
    · have hf := vg_if h8 hf
      refine lv_iload hx hb dX11_fitsName_114 (lv_at hl.1 6 rfl) ?_
      refine lv_iload hx hb dX11_fitsName_116 (lv_at hl.1 11 rfl) ?_
      refine lv_iconst (v := 1) hx hb dX11_fitsName_118 (by decide) ?_
      refine lv_isub hx hb dX11_fitsName_119 ?_
      refine lv_ishr hx hb dX11_fitsName_120 ?_
      refine lv_iconst (v := 1) hx hb dX11_fitsName_121 (by decide) ?_
      refine lv_iand hx hb dX11_fitsName_122 ?_
      refine lv_iconst (v := 1) hx hb dX11_fitsName_123 (by decide) ?_
      refine lv_icmp_ne (tgt := 158) hx hb dX11_fitsName_124 (by decide) (fun h8 => ?_) (fun h8 => ?_)
      · have hf := vg_if h8 hf
        exact wX11_fitsName_158 Z hk15 hk69 v0 v1 v3 v4 v5 v6 v7 v8 v9 v10 v11 k0 μ _ _ _ _ _ _ _ hf hH hL hC hN (hl.sub [1, 2, 3, 4, 5, 6, 7, 8, 9, 10, 11, 0] rfl)
      · have hf := vg_ip h8 hf
        refine lv_aload_n hx hb dX11_fitsName_127 rfl (lv_at hl.1 1 rfl) ?_
        refine lv_iload_n hx hb dX11_fitsName_128 rfl (lv_at hl.1 2 rfl) ?_
        refine lv_iload hx hb dX11_fitsName_129 (lv_at hl.1 7 rfl) ?_
        refine lv_iload hx hb dX11_fitsName_131 (lv_at hl.1 9 rfl) ?_
        refine lv_aload_n hx hb dX11_fitsName_133 rfl (lv_at hl.1 1 rfl) ?_
        refine vg_getR X hH fF_X11_39 dX11_fitsName_134 hf (fun x5 hf => ?_)
        refine lv_bipush (v := 8) hx hb dX11_fitsName_137 (by decide) ?_
        refine lv_iload hx hb dX11_fitsName_139 (lv_at hl.1 4 rfl) ?_
        refine lv_imul hx hb dX11_fitsName_141 ?_
        refine lv_iload hx hb dX11_fitsName_142 (lv_at hl.1 11 rfl) ?_
        refine lv_iadd hx hb dX11_fitsName_144 ?_
        refine lv_iconst (v := 1) hx hb dX11_fitsName_145 (by decide) ?_
        refine lv_isub hx hb dX11_fitsName_146 ?_
        obtain ⟨a6, h9, hg⟩ := vg_o_inv hf
        clear hf
        subst h9
        have hf := hg
        clear hg
        refine vg_bald X hH dX11_fitsName_147 hf (fun x7 hf => ?_)
        refine vg_callVi (ci := 14) X hml hl hH hL fCV_X11_178 rfl [.int v1, .int v7, .int v9, .int x7] rfl rfl (Nat.le_of_ble_eq_true rfl) dX11_fitsName_148 hf hC hN hRc hRs hfr hlo (by decide) (fun _ _ _ _ h => cX11_isOne_met h) (fun x8 μ9 cn nn H locs cells slots hf hC hN hH hL => ?_)
        refine lv_if_eq (tgt := 158) hx hb dX11_fitsName_151 (by decide) (fun h8 => ?_) (fun h8 => ?_)
        · have hf := vg_ip h8 hf
          exact wX11_fitsName_158 Z hk15 hk69 v0 v1 v3 v4 v5 v6 v7 v8 v9 v10 v11 k0 μ9 _ _ _ _ _ _ _ hf hH hL hC hN (hl.sub [1, 2, 3, 4, 5, 6, 7, 8, 9, 10, 11, 0] rfl)
        · have hf := vg_if h8 hf
          refine lv_iconst (v := 1) hx hb dX11_fitsName_154 (by decide) ?_
          refine lv_goto (tgt := 159) hx hb dX11_fitsName_155 (by decide) ?_
          exact wX11_fitsName_159 Z hk15 hk69 v0 v1 v3 v4 v5 v6 v7 v8 v9 v10 v11 k0 1 μ9 _ _ _ _ _ _ _ hf hH hL hC hN (hl.sub [1, 2, 3, 4, 5, 6, 7, 8, 9, 10, 11, 0] rfl)
def fX11_fitsName_99 (q15 : Nat → Int32 → Int32 → Int32 → Int32 → Int32 → Int32 → vg_M → vg_R Int32) (q69 : Nat → Int32 → Int32 → Int32 → Int32 → Int32 → Int32 → Int32 → Int32 → Int32 → Int32 → vg_M → vg_R Int32) (v0 : Nat) (v1 : Int32) (v3 : Int32) (v4 : Int32) (v5 : Int32) (v6 : Int32) (v7 : Int32) (v8 : Int32) (v9 : Int32) (v10 : Int32) (v11 : Int32) (μ : vg_M) : vg_R Int32 :=
  fX11_fitsName_100 q15 q69 v0 v1 v3 v4 v5 v6 v7 v8 v9 v10 v11 0 μ
set_option maxHeartbeats 4000000 in
set_option maxRecDepth 100000 in
theorem wX11_fitsName_99 {p : Program} {l : Launch} {e : Env} {R : Room} {s : State} {m : MethodId} {args : Array Value} {below : List Frame} {meth : Method} {c : Code} {D : va_G} {cy : Nat → ClassId} {H0 : Heap} {C0 N0 : Nat} {r : Int32} {μ' : vg_M} (Z : vg_Z D cy H0 p s m args c cX11_fitsName RX11 meth 14 (some .boolean) R 14 C0 N0 "fitsName") {q15 : Nat → Int32 → Int32 → Int32 → Int32 → Int32 → Int32 → vg_M → vg_R Int32} {q69 : Nat → Int32 → Int32 → Int32 → Int32 → Int32 → Int32 → Int32 → Int32 → Int32 → Int32 → vg_M → vg_R Int32} (hk15 : ∀ (v0 : Nat) (v1 : Int32) (v3 : Int32) (v4 : Int32) (v5 : Int32) (v6 : Int32) (v7 : Int32) (μ : vg_M), vg_S p l e R s m args below meth c D cy H0 C0 N0 14 (MQ below (vg_Qc D cy H0 μ' (some (.int r))) args s C0 N0 (vg_fr H0)) r μ' (q15 v0 v1 v3 v4 v5 v6 v7 μ) μ [(0, .ref v0), (1, .int v1), (3, .int v3), (4, .int v4), (5, .int v5), (6, .int v6), (7, .int v7)] [] 15) (hk69 : ∀ (v0 : Nat) (v1 : Int32) (v3 : Int32) (v4 : Int32) (v5 : Int32) (v6 : Int32) (v7 : Int32) (v8 : Int32) (v9 : Int32) (v10 : Int32) (v11 : Int32) (μ : vg_M), vg_S p l e R s m args below meth c D cy H0 C0 N0 14 (MQ below (vg_Qc D cy H0 μ' (some (.int r))) args s C0 N0 (vg_fr H0)) r μ' (q69 v0 v1 v3 v4 v5 v6 v7 v8 v9 v10 v11 μ) μ [(0, .ref v0), (1, .int v1), (3, .int v3), (4, .int v4), (5, .int v5), (6, .int v6), (7, .int v7), (8, .int v8), (9, .int v9), (10, .int v10), (11, .int v11)] [] 69) (v0 : Nat) (v1 : Int32) (v3 : Int32) (v4 : Int32) (v5 : Int32) (v6 : Int32) (v7 : Int32) (v8 : Int32) (v9 : Int32) (v10 : Int32) (v11 : Int32) (μ : vg_M) : vg_S p l e R s m args below meth c D cy H0 C0 N0 14 (MQ below (vg_Qc D cy H0 μ' (some (.int r))) args s C0 N0 (vg_fr H0)) r μ' (fX11_fitsName_99 q15 q69 v0 v1 v3 v4 v5 v6 v7 v8 v9 v10 v11 μ) μ [(0, .ref v0), (1, .int v1), (3, .int v3), (4, .int v4), (5, .int v5), (6, .int v6), (7, .int v7), (8, .int v8), (9, .int v9), (10, .int v10), (11, .int v11)] [] 99 := by
  intro cn nn H locs cells slots ls hf hH hL hC hN hl
  obtain ⟨X, hml, hr, hlk, hfr, hlo, hRc, hRs, hnm⟩ := id Z
  have hx := X.1
  have hb := X.2.1
  delta fX11_fitsName_99 at hf
  refine lv_iconst (v := 0) hx hb dX11_fitsName_99 (by decide) ?_
  exact wX11_fitsName_100 Z hk15 hk69 v0 v1 v3 v4 v5 v6 v7 v8 v9 v10 v11 0 μ _ _ _ _ _ _ _ hf hH hL hC hN (hl.sub [0, 1, 2, 3, 4, 5, 6, 7, 8, 9, 10] rfl)
def fX11_fitsName_69 (q15 : Nat → Int32 → Int32 → Int32 → Int32 → Int32 → Int32 → vg_M → vg_R Int32) : Nat → Nat → Int32 → Int32 → Int32 → Int32 → Int32 → Int32 → Int32 → Int32 → Int32 → Int32 → vg_M → vg_R Int32
  | 0, _, _, _, _, _, _, _, _, _, _, _, _ => none
  | n + 1, v0, v1, v3, v4, v5, v6, v7, v8, v9, v10, v11, μ =>
    if v5 < v11 then (
     q15 v0 v1 v3 v4 v5 v10 v9 μ
     ) else (
     if v8 = 42 then (
      if (v6 &&& ((2 <<< (v11 &&& 31)) - 1)) = 0 then (
       fX11_fitsName_99 q15 (fX11_fitsName_69 q15 n) v0 v1 v3 v4 v5 v6 v7 v8 v9 v10 v11 μ
       ) else (
       fX11_fitsName_100 q15 (fX11_fitsName_69 q15 n) v0 v1 v3 v4 v5 v6 v7 v8 v9 v10 v11 1 μ
       )
      ) else (
      fX11_fitsName_99 q15 (fX11_fitsName_69 q15 n) v0 v1 v3 v4 v5 v6 v7 v8 v9 v10 v11 μ
      )
     )
set_option maxHeartbeats 4000000 in
set_option maxRecDepth 100000 in
theorem wX11_fitsName_69 {p : Program} {l : Launch} {e : Env} {R : Room} {s : State} {m : MethodId} {args : Array Value} {below : List Frame} {meth : Method} {c : Code} {D : va_G} {cy : Nat → ClassId} {H0 : Heap} {C0 N0 : Nat} {r : Int32} {μ' : vg_M} (Z : vg_Z D cy H0 p s m args c cX11_fitsName RX11 meth 14 (some .boolean) R 14 C0 N0 "fitsName") {q15 : Nat → Int32 → Int32 → Int32 → Int32 → Int32 → Int32 → vg_M → vg_R Int32} (hk15 : ∀ (v0 : Nat) (v1 : Int32) (v3 : Int32) (v4 : Int32) (v5 : Int32) (v6 : Int32) (v7 : Int32) (μ : vg_M), vg_S p l e R s m args below meth c D cy H0 C0 N0 14 (MQ below (vg_Qc D cy H0 μ' (some (.int r))) args s C0 N0 (vg_fr H0)) r μ' (q15 v0 v1 v3 v4 v5 v6 v7 μ) μ [(0, .ref v0), (1, .int v1), (3, .int v3), (4, .int v4), (5, .int v5), (6, .int v6), (7, .int v7)] [] 15) : ∀ (n : Nat) (v0 : Nat) (v1 : Int32) (v3 : Int32) (v4 : Int32) (v5 : Int32) (v6 : Int32) (v7 : Int32) (v8 : Int32) (v9 : Int32) (v10 : Int32) (v11 : Int32) (μ : vg_M), vg_S p l e R s m args below meth c D cy H0 C0 N0 14 (MQ below (vg_Qc D cy H0 μ' (some (.int r))) args s C0 N0 (vg_fr H0)) r μ' (fX11_fitsName_69 q15 n v0 v1 v3 v4 v5 v6 v7 v8 v9 v10 v11 μ) μ [(0, .ref v0), (1, .int v1), (3, .int v3), (4, .int v4), (5, .int v5), (6, .int v6), (7, .int v7), (8, .int v8), (9, .int v9), (10, .int v10), (11, .int v11)] [] 69 := by
  intro n
  induction n with
  | zero =>
    intro v0 v1 v3 v4 v5 v6 v7 v8 v9 v10 v11 μ cn nn H locs cells slots ls hf
    simp [fX11_fitsName_69] at hf
  | succ n hk69 =>
    intro v0 v1 v3 v4 v5 v6 v7 v8 v9 v10 v11 μ
    intro cn nn H locs cells slots ls hf hH hL hC hN hl
    obtain ⟨X, hml, hr, hlk, hfr, hlo, hRc, hRs, hnm⟩ := id Z
    have hx := X.1
    have hb := X.2.1
    rw [fX11_fitsName_69] at hf
    refine lv_iload hx hb dX11_fitsName_69 (lv_at hl.1 10 rfl) ?_
    refine lv_iload hx hb dX11_fitsName_71 (lv_at hl.1 4 rfl) ?_
    refine lv_icmp_gt (tgt := 190) hx hb dX11_fitsName_73 (by decide) (fun h8 => ?_) (fun h8 => ?_)
    · have hf := vg_ip h8 hf
      refine lv_iload hx hb dX11_fitsName_190 (lv_at hl.1 9 rfl) ?_
      refine vg_istore (lv' := [(6, .int v10), (0, .ref v0), (1, .int v1), (3, .int v3), (4, .int v4), (5, .int v5), (7, .int v7), (8, .int v8), (9, .int v9), (10, .int v10), (11, .int v11)]) hx hb dX11_fitsName_192 hl (by decide) rfl (fun ls hl => ?_)
      refine lv_iload hx hb dX11_fitsName_194 (lv_at hl.1 8 rfl) ?_
      refine vg_istore (lv' := [(7, .int v9), (6, .int v10), (0, .ref v0), (1, .int v1), (3, .int v3), (4, .int v4), (5, .int v5), (8, .int v8), (9, .int v9), (10, .int v10), (11, .int v11)]) hx hb dX11_fitsName_196 hl (by decide) rfl (fun ls hl => ?_)
      refine lv_goto (tgt := 15) hx hb dX11_fitsName_198 (by decide) ?_
      exact hk15 v0 v1 v3 v4 v5 v10 v9 μ _ _ _ _ _ _ _ hf hH hL hC hN (hl.sub [2, 3, 4, 5, 6, 1, 0] rfl)
    · have hf := vg_if h8 hf
      refine lv_iload hx hb dX11_fitsName_76 (lv_at hl.1 7 rfl) ?_
      refine lv_bipush (v := 42) hx hb dX11_fitsName_78 (by decide) ?_
      refine lv_icmp_ne (tgt := 99) hx hb dX11_fitsName_80 (by decide) (fun h8 => ?_) (fun h8 => ?_)
      · have hf := vg_if h8 hf
        exact wX11_fitsName_99 Z hk15 hk69 v0 v1 v3 v4 v5 v6 v7 v8 v9 v10 v11 μ _ _ _ _ _ _ _ hf hH hL hC hN (hl.sub [0, 1, 2, 3, 4, 5, 6, 7, 8, 9, 10] rfl)
      · have hf := vg_ip h8 hf
        refine lv_iload hx hb dX11_fitsName_83 (lv_at hl.1 5 rfl) ?_
        refine lv_iconst (v := 2) hx hb dX11_fitsName_85 (by decide) ?_
        refine lv_iload hx hb dX11_fitsName_86 (lv_at hl.1 10 rfl) ?_
        refine lv_ishl hx hb dX11_fitsName_88 ?_
        refine lv_iconst (v := 1) hx hb dX11_fitsName_89 (by decide) ?_
        refine lv_isub hx hb dX11_fitsName_90 ?_
        refine lv_iand hx hb dX11_fitsName_91 ?_
        refine lv_if_eq (tgt := 99) hx hb dX11_fitsName_92 (by decide) (fun h8 => ?_) (fun h8 => ?_)
        · have hf := vg_ip h8 hf
          exact wX11_fitsName_99 Z hk15 hk69 v0 v1 v3 v4 v5 v6 v7 v8 v9 v10 v11 μ _ _ _ _ _ _ _ hf hH hL hC hN (hl.sub [0, 1, 2, 3, 4, 5, 6, 7, 8, 9, 10] rfl)
        · have hf := vg_if h8 hf
          refine lv_iconst (v := 1) hx hb dX11_fitsName_95 (by decide) ?_
          refine lv_goto (tgt := 100) hx hb dX11_fitsName_96 (by decide) ?_
          exact wX11_fitsName_100 Z hk15 hk69 v0 v1 v3 v4 v5 v6 v7 v8 v9 v10 v11 1 μ _ _ _ _ _ _ _ hf hH hL hC hN (hl.sub [0, 1, 2, 3, 4, 5, 6, 7, 8, 9, 10] rfl)
def fX11_fitsName_63 (q15 : Nat → Int32 → Int32 → Int32 → Int32 → Int32 → Int32 → vg_M → vg_R Int32) (v0 : Nat) (v1 : Int32) (v3 : Int32) (v4 : Int32) (v5 : Int32) (v6 : Int32) (v7 : Int32) (v8 : Int32) (v9 : Int32) (μ : vg_M) : vg_R Int32 :=
  fX11_fitsName_69 q15 vg_fuel v0 v1 v3 v4 v5 v6 v7 v8 v9 0 0 μ
set_option maxHeartbeats 4000000 in
set_option maxRecDepth 100000 in
theorem wX11_fitsName_63 {p : Program} {l : Launch} {e : Env} {R : Room} {s : State} {m : MethodId} {args : Array Value} {below : List Frame} {meth : Method} {c : Code} {D : va_G} {cy : Nat → ClassId} {H0 : Heap} {C0 N0 : Nat} {r : Int32} {μ' : vg_M} (Z : vg_Z D cy H0 p s m args c cX11_fitsName RX11 meth 14 (some .boolean) R 14 C0 N0 "fitsName") {q15 : Nat → Int32 → Int32 → Int32 → Int32 → Int32 → Int32 → vg_M → vg_R Int32} (hk15 : ∀ (v0 : Nat) (v1 : Int32) (v3 : Int32) (v4 : Int32) (v5 : Int32) (v6 : Int32) (v7 : Int32) (μ : vg_M), vg_S p l e R s m args below meth c D cy H0 C0 N0 14 (MQ below (vg_Qc D cy H0 μ' (some (.int r))) args s C0 N0 (vg_fr H0)) r μ' (q15 v0 v1 v3 v4 v5 v6 v7 μ) μ [(0, .ref v0), (1, .int v1), (3, .int v3), (4, .int v4), (5, .int v5), (6, .int v6), (7, .int v7)] [] 15) (v0 : Nat) (v1 : Int32) (v3 : Int32) (v4 : Int32) (v5 : Int32) (v6 : Int32) (v7 : Int32) (v8 : Int32) (v9 : Int32) (μ : vg_M) : vg_S p l e R s m args below meth c D cy H0 C0 N0 14 (MQ below (vg_Qc D cy H0 μ' (some (.int r))) args s C0 N0 (vg_fr H0)) r μ' (fX11_fitsName_63 q15 v0 v1 v3 v4 v5 v6 v7 v8 v9 μ) μ [(0, .ref v0), (1, .int v1), (3, .int v3), (4, .int v4), (5, .int v5), (6, .int v6), (7, .int v7), (8, .int v8), (9, .int v9)] [] 63 := by
  intro cn nn H locs cells slots ls hf hH hL hC hN hl
  obtain ⟨X, hml, hr, hlk, hfr, hlo, hRc, hRs, hnm⟩ := id Z
  have hx := X.1
  have hb := X.2.1
  delta fX11_fitsName_63 at hf
  refine lv_iconst (v := 0) hx hb dX11_fitsName_63 (by decide) ?_
  refine vg_istore (lv' := [(10, .int 0), (0, .ref v0), (1, .int v1), (3, .int v3), (4, .int v4), (5, .int v5), (6, .int v6), (7, .int v7), (8, .int v8), (9, .int v9)]) hx hb dX11_fitsName_64 hl (by decide) rfl (fun ls hl => ?_)
  refine lv_iconst (v := 0) hx hb dX11_fitsName_66 (by decide) ?_
  refine vg_istore (lv' := [(11, .int 0), (10, .int 0), (0, .ref v0), (1, .int v1), (3, .int v3), (4, .int v4), (5, .int v5), (6, .int v6), (7, .int v7), (8, .int v8), (9, .int v9)]) hx hb dX11_fitsName_67 hl (by decide) rfl (fun ls hl => ?_)
  exact wX11_fitsName_69 Z hk15 vg_fuel v0 v1 v3 v4 v5 v6 v7 v8 v9 0 0 μ _ _ _ _ _ _ _ hf hH hL hC hN (hl.sub [2, 3, 4, 5, 6, 7, 8, 9, 10, 1, 0] rfl)
def fX11_fitsName_36 (q15 : Nat → Int32 → Int32 → Int32 → Int32 → Int32 → Int32 → vg_M → vg_R Int32) : Nat → Nat → Int32 → Int32 → Int32 → Int32 → Int32 → Int32 → Int32 → Int32 → vg_M → vg_R Int32
  | 0, _, _, _, _, _, _, _, _, _, _ => none
  | n + 1, v0, v1, v3, v4, v5, v6, v7, v8, v9, μ =>
    if v8 = 91 then (
     vg_cv 14 v0 μ (fX11_byteOf v0 v1 (v9 - 1) μ) fun x3 μ4 =>
     if x3 = 93 then (
      fX11_fitsName_63 q15 v0 v1 v3 v4 v5 v6 v7 v8 v9 μ4
      ) else (
      (fX11_fitsName_36 q15 n) v0 v1 v3 v4 v5 v6 v7 v8 (v9 + 1) μ4
      )
     ) else (
     fX11_fitsName_63 q15 v0 v1 v3 v4 v5 v6 v7 v8 v9 μ
     )
set_option maxHeartbeats 4000000 in
set_option maxRecDepth 100000 in
theorem wX11_fitsName_36 {p : Program} {l : Launch} {e : Env} {R : Room} {s : State} {m : MethodId} {args : Array Value} {below : List Frame} {meth : Method} {c : Code} {D : va_G} {cy : Nat → ClassId} {H0 : Heap} {C0 N0 : Nat} {r : Int32} {μ' : vg_M} (Z : vg_Z D cy H0 p s m args c cX11_fitsName RX11 meth 14 (some .boolean) R 14 C0 N0 "fitsName") {q15 : Nat → Int32 → Int32 → Int32 → Int32 → Int32 → Int32 → vg_M → vg_R Int32} (hk15 : ∀ (v0 : Nat) (v1 : Int32) (v3 : Int32) (v4 : Int32) (v5 : Int32) (v6 : Int32) (v7 : Int32) (μ : vg_M), vg_S p l e R s m args below meth c D cy H0 C0 N0 14 (MQ below (vg_Qc D cy H0 μ' (some (.int r))) args s C0 N0 (vg_fr H0)) r μ' (q15 v0 v1 v3 v4 v5 v6 v7 μ) μ [(0, .ref v0), (1, .int v1), (3, .int v3), (4, .int v4), (5, .int v5), (6, .int v6), (7, .int v7)] [] 15) : ∀ (n : Nat) (v0 : Nat) (v1 : Int32) (v3 : Int32) (v4 : Int32) (v5 : Int32) (v6 : Int32) (v7 : Int32) (v8 : Int32) (v9 : Int32) (μ : vg_M), vg_S p l e R s m args below meth c D cy H0 C0 N0 14 (MQ below (vg_Qc D cy H0 μ' (some (.int r))) args s C0 N0 (vg_fr H0)) r μ' (fX11_fitsName_36 q15 n v0 v1 v3 v4 v5 v6 v7 v8 v9 μ) μ [(0, .ref v0), (1, .int v1), (3, .int v3), (4, .int v4), (5, .int v5), (6, .int v6), (7, .int v7), (8, .int v8), (9, .int v9)] [] 36 := by
  intro n
  induction n with
  | zero =>
    intro v0 v1 v3 v4 v5 v6 v7 v8 v9 μ cn nn H locs cells slots ls hf
    simp [fX11_fitsName_36] at hf
  | succ n hk36 =>
    intro v0 v1 v3 v4 v5 v6 v7 v8 v9 μ
    intro cn nn H locs cells slots ls hf hH hL hC hN hl
    obtain ⟨X, hml, hr, hlk, hfr, hlo, hRc, hRs, hnm⟩ := id Z
    have hx := X.1
    have hb := X.2.1
    rw [fX11_fitsName_36] at hf
    refine lv_iload hx hb dX11_fitsName_36 (lv_at hl.1 7 rfl) ?_
    refine lv_bipush (v := 91) hx hb dX11_fitsName_38 (by decide) ?_
    refine lv_icmp_ne (tgt := 63) hx hb dX11_fitsName_40 (by decide) (fun h8 => ?_) (fun h8 => ?_)
    · have hf := vg_if h8 hf
      exact wX11_fitsName_63 Z hk15 v0 v1 v3 v4 v5 v6 v7 v8 v9 μ _ _ _ _ _ _ _ hf hH hL hC hN (hl.sub [0, 1, 2, 3, 4, 5, 6, 7, 8] rfl)
    · have hf := vg_ip h8 hf
      refine lv_aload_n hx hb dX11_fitsName_43 rfl (lv_at hl.1 0 rfl) ?_
      refine lv_iload_n hx hb dX11_fitsName_44 rfl (lv_at hl.1 1 rfl) ?_
      refine lv_iload hx hb dX11_fitsName_45 (lv_at hl.1 8 rfl) ?_
      refine lv_iconst (v := 1) hx hb dX11_fitsName_47 (by decide) ?_
      refine lv_isub hx hb dX11_fitsName_48 ?_
      refine vg_callVi (ci := 14) X hml hl hH hL fCV_X11_175 rfl [.int v1, .int (v9 - 1)] rfl rfl (Nat.le_of_ble_eq_true rfl) dX11_fitsName_49 hf hC hN hRc hRs hfr hlo (by decide) (fun _ _ _ _ h => cX11_byteOf_met h) (fun x3 μ4 cn nn H locs cells slots hf hC hN hH hL => ?_)
      refine lv_bipush (v := 93) hx hb dX11_fitsName_52 (by decide) ?_
      refine lv_icmp_eq (tgt := 63) hx hb dX11_fitsName_54 (by decide) (fun h8 => ?_) (fun h8 => ?_)
      · have hf := vg_ip h8 hf
        exact wX11_fitsName_63 Z hk15 v0 v1 v3 v4 v5 v6 v7 v8 v9 μ4 _ _ _ _ _ _ _ hf hH hL hC hN (hl.sub [0, 1, 2, 3, 4, 5, 6, 7, 8] rfl)
      · have hf := vg_if h8 hf
        refine vg_iinc (v := v9 + 1) (lv' := [(9, .int (v9 + 1)), (0, .ref v0), (1, .int v1), (3, .int v3), (4, .int v4), (5, .int v5), (6, .int v6), (7, .int v7), (8, .int v8)]) hx hb dX11_fitsName_57 hl (k := 8) rfl rfl (by decide) rfl (fun ls hl => ?_)
        refine lv_goto (tgt := 36) hx hb dX11_fitsName_60 (by decide) ?_
        exact hk36 v0 v1 v3 v4 v5 v6 v7 v8 (v9 + 1) μ4 _ _ _ _ _ _ _ hf hH hL hC hN (hl.sub [1, 2, 3, 4, 5, 6, 7, 8, 0] rfl)
def fX11_fitsName_217  (k0 : Int32) (μ : vg_M) : vg_R Int32 :=
  vg_o (vg_z .boolean k0) fun z => vg_ret z μ
set_option maxHeartbeats 4000000 in
set_option maxRecDepth 100000 in
theorem wX11_fitsName_217 {p : Program} {l : Launch} {e : Env} {R : Room} {s : State} {m : MethodId} {args : Array Value} {below : List Frame} {meth : Method} {c : Code} {D : va_G} {cy : Nat → ClassId} {H0 : Heap} {C0 N0 : Nat} {r : Int32} {μ' : vg_M} (Z : vg_Z D cy H0 p s m args c cX11_fitsName RX11 meth 14 (some .boolean) R 14 C0 N0 "fitsName")   (k0 : Int32) (μ : vg_M) : vg_S p l e R s m args below meth c D cy H0 C0 N0 14 (MQ below (vg_Qc D cy H0 μ' (some (.int r))) args s C0 N0 (vg_fr H0)) r μ' (fX11_fitsName_217  k0 μ) μ [] [.int k0] 217 := by
  intro cn nn H locs cells slots ls hf hH hL hC hN hl
  obtain ⟨X, hml, hr, hlk, hfr, hlo, hRc, hRs, hnm⟩ := id Z
  have hx := X.1
  have hb := X.2.1
  delta fX11_fitsName_217 at hf
  exact vg_retz X (by simp) hr hlk hH hL dX11_fitsName_217 hf hC hN
def fX11_fitsName_15  : Nat → Nat → Int32 → Int32 → Int32 → Int32 → Int32 → Int32 → vg_M → vg_R Int32
  | 0, _, _, _, _, _, _, _, _ => none
  | n + 1, v0, v1, v3, v4, v5, v6, v7, μ =>
    if v3 ≤ v7 then (
     if ((v6 >>> (v5 &&& 31)) &&& 1) = 1 then (
      fX11_fitsName_217  1 μ
      ) else (
      fX11_fitsName_217  0 μ
      )
     ) else (
     vg_cv 14 v0 μ (fX11_byteOf v0 v1 v7 μ) fun x1 μ2 =>
     fX11_fitsName_36 (fX11_fitsName_15  n) vg_fuel v0 v1 v3 v4 v5 v6 v7 x1 (v7 + 1) μ2
     )
set_option maxHeartbeats 4000000 in
set_option maxRecDepth 100000 in
theorem wX11_fitsName_15 {p : Program} {l : Launch} {e : Env} {R : Room} {s : State} {m : MethodId} {args : Array Value} {below : List Frame} {meth : Method} {c : Code} {D : va_G} {cy : Nat → ClassId} {H0 : Heap} {C0 N0 : Nat} {r : Int32} {μ' : vg_M} (Z : vg_Z D cy H0 p s m args c cX11_fitsName RX11 meth 14 (some .boolean) R 14 C0 N0 "fitsName")   : ∀ (n : Nat) (v0 : Nat) (v1 : Int32) (v3 : Int32) (v4 : Int32) (v5 : Int32) (v6 : Int32) (v7 : Int32) (μ : vg_M), vg_S p l e R s m args below meth c D cy H0 C0 N0 14 (MQ below (vg_Qc D cy H0 μ' (some (.int r))) args s C0 N0 (vg_fr H0)) r μ' (fX11_fitsName_15  n v0 v1 v3 v4 v5 v6 v7 μ) μ [(0, .ref v0), (1, .int v1), (3, .int v3), (4, .int v4), (5, .int v5), (6, .int v6), (7, .int v7)] [] 15 := by
  intro n
  induction n with
  | zero =>
    intro v0 v1 v3 v4 v5 v6 v7 μ cn nn H locs cells slots ls hf
    simp [fX11_fitsName_15] at hf
  | succ n hk15 =>
    intro v0 v1 v3 v4 v5 v6 v7 μ
    intro cn nn H locs cells slots ls hf hH hL hC hN hl
    obtain ⟨X, hml, hr, hlk, hfr, hlo, hRc, hRs, hnm⟩ := id Z
    have hx := X.1
    have hb := X.2.1
    rw [fX11_fitsName_15] at hf
    refine lv_iload hx hb dX11_fitsName_15 (lv_at hl.1 6 rfl) ?_
    refine lv_iload_n hx hb dX11_fitsName_17 rfl (lv_at hl.1 2 rfl) ?_
    refine lv_icmp_ge (tgt := 201) hx hb dX11_fitsName_18 (by decide) (fun h8 => ?_) (fun h8 => ?_)
    · have hf := vg_ip h8 hf
      refine lv_iload hx hb dX11_fitsName_201 (lv_at hl.1 5 rfl) ?_
      refine lv_iload hx hb dX11_fitsName_203 (lv_at hl.1 4 rfl) ?_
      refine lv_ishr hx hb dX11_fitsName_205 ?_
      refine lv_iconst (v := 1) hx hb dX11_fitsName_206 (by decide) ?_
      refine lv_iand hx hb dX11_fitsName_207 ?_
      refine lv_iconst (v := 1) hx hb dX11_fitsName_208 (by decide) ?_
      refine lv_icmp_ne (tgt := 216) hx hb dX11_fitsName_209 (by decide) (fun h8 => ?_) (fun h8 => ?_)
      · have hf := vg_if h8 hf
        refine lv_iconst (v := 0) hx hb dX11_fitsName_216 (by decide) ?_
        exact wX11_fitsName_217 Z  0 μ _ _ _ _ _ _ _ hf hH hL hC hN (hl.sub [] rfl)
      · have hf := vg_ip h8 hf
        refine lv_iconst (v := 1) hx hb dX11_fitsName_212 (by decide) ?_
        refine lv_goto (tgt := 217) hx hb dX11_fitsName_213 (by decide) ?_
        exact wX11_fitsName_217 Z  1 μ _ _ _ _ _ _ _ hf hH hL hC hN (hl.sub [] rfl)
    · have hf := vg_if h8 hf
      refine lv_aload_n hx hb dX11_fitsName_21 rfl (lv_at hl.1 0 rfl) ?_
      refine lv_iload_n hx hb dX11_fitsName_22 rfl (lv_at hl.1 1 rfl) ?_
      refine lv_iload hx hb dX11_fitsName_23 (lv_at hl.1 6 rfl) ?_
      refine vg_callVi (ci := 14) X hml hl hH hL fCV_X11_175 rfl [.int v1, .int v7] rfl rfl (Nat.le_of_ble_eq_true rfl) dX11_fitsName_25 hf hC hN hRc hRs hfr hlo (by decide) (fun _ _ _ _ h => cX11_byteOf_met h) (fun x1 μ2 cn nn H locs cells slots hf hC hN hH hL => ?_)
      refine vg_istore (lv' := [(8, .int x1), (0, .ref v0), (1, .int v1), (3, .int v3), (4, .int v4), (5, .int v5), (6, .int v6), (7, .int v7)]) hx hb dX11_fitsName_28 hl (by decide) rfl (fun ls hl => ?_)
      refine lv_iload hx hb dX11_fitsName_30 (lv_at hl.1 7 rfl) ?_
      refine lv_iconst (v := 1) hx hb dX11_fitsName_32 (by decide) ?_
      refine lv_iadd hx hb dX11_fitsName_33 ?_
      refine vg_istore (lv' := [(9, .int (v7 + 1)), (8, .int x1), (0, .ref v0), (1, .int v1), (3, .int v3), (4, .int v4), (5, .int v5), (6, .int v6), (7, .int v7)]) hx hb dX11_fitsName_34 hl (by decide) rfl (fun ls hl => ?_)
      exact wX11_fitsName_36 Z hk15 vg_fuel v0 v1 v3 v4 v5 v6 v7 x1 (v7 + 1) μ2 _ _ _ _ _ _ _ hf hH hL hC hN (hl.sub [2, 3, 4, 5, 6, 7, 8, 1, 0] rfl)
def fX11_fitsName (v0 : Nat) (v1 : Int32) (v2 : Int32) (v3 : Int32) (v4 : Int32) (μ : vg_M) : vg_R Int32 :=
  vg_o (vg_gR μ v0 14 8) fun x10 =>
  vg_o x10 fun a11 =>
  vg_o (vg_aI μ a11 2 v4) fun x12 =>
  fX11_fitsName_15  vg_fuel v0 v1 v3 v4 x12 1 v2 μ
set_option maxHeartbeats 4000000 in
set_option maxRecDepth 100000 in
theorem cX11_fitsName_met {l : Launch} {D : va_G} {cy : Nat → ClassId} {H0 : Heap} {r : Int32} {μ μ' : vg_M} {cn nn : Nat} {v0 : Nat} {v1 : Int32} {v2 : Int32} {v3 : Int32} {v4 : Int32} (hf : fX11_fitsName v0 v1 v2 v3 v4 μ = some (r, μ', cn, nn)) : vg_Met l D cy H0 yX11_fitsName cX11_fitsName 14 (some .boolean) 14 μ [.ref v0, .int v1, .int v2, .int v3, .int v4] (some (.int r)) μ' cn nn := by
  refine vg_start (by decide +kernel) (List.forall_mem_cons.mpr ⟨rfl, (List.forall_mem_cons.mpr ⟨rfl, (List.forall_mem_cons.mpr ⟨rfl, (List.forall_mem_cons.mpr ⟨rfl, (List.forall_mem_cons.mpr ⟨rfl, (fun _ h => nomatch h)⟩)⟩)⟩)⟩)⟩) (Nat.le_of_ble_eq_true rfl) ?_
  intro p e s m below meth c ls X hml hr hlk hnm hH hl
  have hl : vg_l ls 14 [(0, .ref v0), (1, .int v1), (2, .int v2), (3, .int v3), (4, .int v4)] := hl
  have Z : vg_Z D cy H0 p s m _ c cX11_fitsName RX11 meth 14 (some .boolean) (vg_rm 14 cn nn) 14 cn nn _ := ⟨X, hml, hr, hlk, Nat.le_refl _, Nat.le_refl _, Nat.le_refl _, Nat.le_refl _, hnm⟩
  obtain ⟨-, -, -, -, hfr, hlo, hRc, hRs, -⟩ := id Z
  have hx := X.1
  have hb := X.2.1
  have hL : ∀ z ∈ ([] : List Loc), H0.size ≤ z.base := fun _ h => nomatch h
  have hC : 0 + cn = cn := Nat.zero_add _
  have hN : 0 + nn = nn := Nat.zero_add _
  delta fX11_fitsName at hf
  refine lv_aload_n hx hb dX11_fitsName_0 rfl (lv_at hl.1 0 rfl) ?_
  refine vg_getR X hH fF_X11_26 dX11_fitsName_1 hf (fun x10 hf => ?_)
  refine lv_iload hx hb dX11_fitsName_4 (lv_at hl.1 4 rfl) ?_
  obtain ⟨a11, h9, hg⟩ := vg_o_inv hf
  clear hf
  subst h9
  have hf := hg
  clear hg
  refine vg_iald X hH dX11_fitsName_6 hf (fun x12 hf => ?_)
  refine vg_istore (lv' := [(5, .int x12), (0, .ref v0), (1, .int v1), (2, .int v2), (3, .int v3), (4, .int v4)]) hx hb dX11_fitsName_7 hl (by decide) rfl (fun ls hl => ?_)
  refine lv_iconst (v := 1) hx hb dX11_fitsName_9 (by decide) ?_
  refine vg_istore (lv' := [(6, .int 1), (5, .int x12), (0, .ref v0), (1, .int v1), (2, .int v2), (3, .int v3), (4, .int v4)]) hx hb dX11_fitsName_10 hl (by decide) rfl (fun ls hl => ?_)
  refine lv_iload_n hx hb dX11_fitsName_12 rfl (lv_at hl.1 4 rfl) ?_
  refine vg_istore (lv' := [(7, .int v2), (6, .int 1), (5, .int x12), (0, .ref v0), (1, .int v1), (2, .int v2), (3, .int v3), (4, .int v4)]) hx hb dX11_fitsName_13 hl (by decide) rfl (fun ls hl => ?_)
  exact wX11_fitsName_15 Z  vg_fuel v0 v1 v3 v4 x12 1 v2 μ _ _ _ _ _ _ _ hf hH hL hC hN (hl.sub [3, 4, 6, 7, 2, 1, 0] rfl)
def fX11_on_87 (q9 : Nat → Int32 → Int32 → Int32 → Int32 → Int32 → Int32 → vg_M → vg_R Int32) (v0 : Nat) (v1 : Int32) (v2 : Int32) (v3 : Int32) (v4 : Int32) (v6 : Int32) (v7 : Int32) (μ : vg_M) : vg_R Int32 :=
  q9 v0 v1 v2 v3 v4 (v7 + 1) (v6 + 1) μ
set_option maxHeartbeats 4000000 in
set_option maxRecDepth 100000 in
theorem wX11_on_87 {p : Program} {l : Launch} {e : Env} {R : Room} {s : State} {m : MethodId} {args : Array Value} {below : List Frame} {meth : Method} {c : Code} {D : va_G} {cy : Nat → ClassId} {H0 : Heap} {C0 N0 : Nat} {r : Int32} {μ' : vg_M} (Z : vg_Z D cy H0 p s m args c cX11_on RX11 meth 9 (some .int) R 15 C0 N0 "on") {q9 : Nat → Int32 → Int32 → Int32 → Int32 → Int32 → Int32 → vg_M → vg_R Int32} (hk9 : ∀ (v0 : Nat) (v1 : Int32) (v2 : Int32) (v3 : Int32) (v4 : Int32) (v5 : Int32) (v6 : Int32) (μ : vg_M), vg_S p l e R s m args below meth c D cy H0 C0 N0 9 (MQ below (vg_Qc D cy H0 μ' (some (.int r))) args s C0 N0 (vg_fr H0)) r μ' (q9 v0 v1 v2 v3 v4 v5 v6 μ) μ [(0, .ref v0), (1, .int v1), (2, .int v2), (3, .int v3), (4, .int v4), (5, .int v5), (6, .int v6)] [] 9) (v0 : Nat) (v1 : Int32) (v2 : Int32) (v3 : Int32) (v4 : Int32) (v6 : Int32) (v7 : Int32) (μ : vg_M) : vg_S p l e R s m args below meth c D cy H0 C0 N0 9 (MQ below (vg_Qc D cy H0 μ' (some (.int r))) args s C0 N0 (vg_fr H0)) r μ' (fX11_on_87 q9 v0 v1 v2 v3 v4 v6 v7 μ) μ [(0, .ref v0), (1, .int v1), (2, .int v2), (3, .int v3), (4, .int v4), (6, .int v6), (7, .int v7)] [] 87 := by
  intro cn nn H locs cells slots ls hf hH hL hC hN hl
  obtain ⟨X, hml, hr, hlk, hfr, hlo, hRc, hRs, hnm⟩ := id Z
  have hx := X.1
  have hb := X.2.1
  delta fX11_on_87 at hf
  refine lv_iload hx hb dX11_on_87 (lv_at hl.1 6 rfl) ?_
  refine lv_iconst (v := 1) hx hb dX11_on_89 (by decide) ?_
  refine lv_iadd hx hb dX11_on_90 ?_
  refine vg_istore (lv' := [(5, .int (v7 + 1)), (0, .ref v0), (1, .int v1), (2, .int v2), (3, .int v3), (4, .int v4), (6, .int v6), (7, .int v7)]) hx hb dX11_on_91 hl (by decide) rfl (fun ls hl => ?_)
  refine vg_iinc (v := v6 + 1) (lv' := [(6, .int (v6 + 1)), (5, .int (v7 + 1)), (0, .ref v0), (1, .int v1), (2, .int v2), (3, .int v3), (4, .int v4), (7, .int v7)]) hx hb dX11_on_93 hl (k := 6) rfl rfl (by decide) rfl (fun ls hl => ?_)
  refine lv_goto (tgt := 9) hx hb dX11_on_96 (by decide) ?_
  exact hk9 v0 v1 v2 v3 v4 (v7 + 1) (v6 + 1) μ _ _ _ _ _ _ _ hf hH hL hC hN (hl.sub [2, 3, 4, 5, 6, 1, 0] rfl)
def fX11_on_84 (q9 : Nat → Int32 → Int32 → Int32 → Int32 → Int32 → Int32 → vg_M → vg_R Int32) (v0 : Nat) (v1 : Int32) (v2 : Int32) (v3 : Int32) (v6 : Int32) (v7 : Int32) (k0 : Int32) (k1 : Int32) (μ : vg_M) : vg_R Int32 :=
  fX11_on_87 q9 v0 v1 v2 v3 (k0 ||| k1) v6 v7 μ
set_option maxHeartbeats 4000000 in
set_option maxRecDepth 100000 in
theorem wX11_on_84 {p : Program} {l : Launch} {e : Env} {R : Room} {s : State} {m : MethodId} {args : Array Value} {below : List Frame} {meth : Method} {c : Code} {D : va_G} {cy : Nat → ClassId} {H0 : Heap} {C0 N0 : Nat} {r : Int32} {μ' : vg_M} (Z : vg_Z D cy H0 p s m args c cX11_on RX11 meth 9 (some .int) R 15 C0 N0 "on") {q9 : Nat → Int32 → Int32 → Int32 → Int32 → Int32 → Int32 → vg_M → vg_R Int32} (hk9 : ∀ (v0 : Nat) (v1 : Int32) (v2 : Int32) (v3 : Int32) (v4 : Int32) (v5 : Int32) (v6 : Int32) (μ : vg_M), vg_S p l e R s m args below meth c D cy H0 C0 N0 9 (MQ below (vg_Qc D cy H0 μ' (some (.int r))) args s C0 N0 (vg_fr H0)) r μ' (q9 v0 v1 v2 v3 v4 v5 v6 μ) μ [(0, .ref v0), (1, .int v1), (2, .int v2), (3, .int v3), (4, .int v4), (5, .int v5), (6, .int v6)] [] 9) (v0 : Nat) (v1 : Int32) (v2 : Int32) (v3 : Int32) (v6 : Int32) (v7 : Int32) (k0 : Int32) (k1 : Int32) (μ : vg_M) : vg_S p l e R s m args below meth c D cy H0 C0 N0 9 (MQ below (vg_Qc D cy H0 μ' (some (.int r))) args s C0 N0 (vg_fr H0)) r μ' (fX11_on_84 q9 v0 v1 v2 v3 v6 v7 k0 k1 μ) μ [(0, .ref v0), (1, .int v1), (2, .int v2), (3, .int v3), (6, .int v6), (7, .int v7)] [.int k1, .int k0] 84 := by
  intro cn nn H locs cells slots ls hf hH hL hC hN hl
  obtain ⟨X, hml, hr, hlk, hfr, hlo, hRc, hRs, hnm⟩ := id Z
  have hx := X.1
  have hb := X.2.1
  delta fX11_on_84 at hf
  refine lv_ior hx hb dX11_on_84 ?_
  refine vg_istore (lv' := [(4, .int (k0 ||| k1)), (0, .ref v0), (1, .int v1), (2, .int v2), (3, .int v3), (6, .int v6), (7, .int v7)]) hx hb dX11_on_85 hl (by decide) rfl (fun ls hl => ?_)
  exact wX11_on_87 Z hk9 v0 v1 v2 v3 (k0 ||| k1) v6 v7 μ _ _ _ _ _ _ _ hf hH hL hC hN (hl.sub [1, 2, 3, 4, 0, 5, 6] rfl)
def fX11_on_9  : Nat → Nat → Int32 → Int32 → Int32 → Int32 → Int32 → Int32 → vg_M → vg_R Int32
  | 0, _, _, _, _, _, _, _, _ => none
  | n + 1, v0, v1, v2, v3, v4, v5, v6, μ =>
    vg_cv 14 v0 μ (fX11_pieces v0 v1 μ) fun x1 μ2 =>
    if x1 ≤ v6 then (
     vg_cv 14 v0 μ2 (fX11_closed v0 v1 v4 μ2) fun x3 μ4 =>
     vg_ret x3 μ4
     ) else (
     vg_cv 14 v0 μ2 (fX11_pieceEnd v0 v1 v5 μ2) fun x5 μ6 =>
     if ((v2 >>> (v6 &&& 31)) &&& 1) = 1 then (
      vg_cv 14 v0 μ6 (fX11_isStars v0 v1 v5 x5 μ6) fun x7 μ8 =>
      if x7 = 0 then (
       vg_cv 14 v0 μ8 (fX11_fitsName v0 v1 v5 x5 v3 μ8) fun x9 μ10 =>
       if x9 = 0 then (
        fX11_on_84 (fX11_on_9  n) v0 v1 v2 v3 v6 x5 v4 0 μ10
        ) else (
        fX11_on_84 (fX11_on_9  n) v0 v1 v2 v3 v6 x5 v4 (2 <<< (v6 &&& 31)) μ10
        )
       ) else (
       fX11_on_84 (fX11_on_9  n) v0 v1 v2 v3 v6 x5 v4 (1 <<< (v6 &&& 31)) μ8
       )
      ) else (
      fX11_on_87 (fX11_on_9  n) v0 v1 v2 v3 v4 v6 x5 μ6
      )
     )
set_option maxHeartbeats 4000000 in
set_option maxRecDepth 100000 in
theorem wX11_on_9 {p : Program} {l : Launch} {e : Env} {R : Room} {s : State} {m : MethodId} {args : Array Value} {below : List Frame} {meth : Method} {c : Code} {D : va_G} {cy : Nat → ClassId} {H0 : Heap} {C0 N0 : Nat} {r : Int32} {μ' : vg_M} (Z : vg_Z D cy H0 p s m args c cX11_on RX11 meth 9 (some .int) R 15 C0 N0 "on")   : ∀ (n : Nat) (v0 : Nat) (v1 : Int32) (v2 : Int32) (v3 : Int32) (v4 : Int32) (v5 : Int32) (v6 : Int32) (μ : vg_M), vg_S p l e R s m args below meth c D cy H0 C0 N0 9 (MQ below (vg_Qc D cy H0 μ' (some (.int r))) args s C0 N0 (vg_fr H0)) r μ' (fX11_on_9  n v0 v1 v2 v3 v4 v5 v6 μ) μ [(0, .ref v0), (1, .int v1), (2, .int v2), (3, .int v3), (4, .int v4), (5, .int v5), (6, .int v6)] [] 9 := by
  intro n
  induction n with
  | zero =>
    intro v0 v1 v2 v3 v4 v5 v6 μ cn nn H locs cells slots ls hf
    simp [fX11_on_9] at hf
  | succ n hk9 =>
    intro v0 v1 v2 v3 v4 v5 v6 μ
    intro cn nn H locs cells slots ls hf hH hL hC hN hl
    obtain ⟨X, hml, hr, hlk, hfr, hlo, hRc, hRs, hnm⟩ := id Z
    have hx := X.1
    have hb := X.2.1
    rw [fX11_on_9] at hf
    refine lv_iload hx hb dX11_on_9 (lv_at hl.1 6 rfl) ?_
    refine lv_aload_n hx hb dX11_on_11 rfl (lv_at hl.1 0 rfl) ?_
    refine lv_iload_n hx hb dX11_on_12 rfl (lv_at hl.1 1 rfl) ?_
    refine vg_callVi (ci := 14) X hml hl hH hL fCV_X11_182 rfl [.int v1] rfl rfl (Nat.le_of_ble_eq_true rfl) dX11_on_13 hf hC hN hRc hRs hfr hlo (by decide) (fun _ _ _ _ h => cX11_pieces_met h) (fun x1 μ2 cn nn H locs cells slots hf hC hN hH hL => ?_)
    refine lv_icmp_ge (tgt := 99) hx hb dX11_on_16 (by decide) (fun h8 => ?_) (fun h8 => ?_)
    · have hf := vg_ip h8 hf
      refine lv_aload_n hx hb dX11_on_99 rfl (lv_at hl.1 0 rfl) ?_
      refine lv_iload_n hx hb dX11_on_100 rfl (lv_at hl.1 1 rfl) ?_
      refine lv_iload hx hb dX11_on_101 (lv_at hl.1 4 rfl) ?_
      refine vg_callVi (ci := 14) X hml hl hH hL fCV_X11_195 rfl [.int v1, .int v4] rfl rfl (Nat.le_of_ble_eq_true rfl) dX11_on_103 hf hC hN hRc hRs hfr hlo (by decide) (fun _ _ _ _ h => cX11_closed_met h) (fun x3 μ4 cn nn H locs cells slots hf hC hN hH hL => ?_)
      exact vg_reti X hr hlk hH hL dX11_on_106 hf hC hN
    · have hf := vg_if h8 hf
      refine lv_aload_n hx hb dX11_on_19 rfl (lv_at hl.1 0 rfl) ?_
      refine lv_iload_n hx hb dX11_on_20 rfl (lv_at hl.1 1 rfl) ?_
      refine lv_iload hx hb dX11_on_21 (lv_at hl.1 5 rfl) ?_
      refine vg_callVi (ci := 14) X hml hl hH hL fCV_X11_185 rfl [.int v1, .int v5] rfl rfl (Nat.le_of_ble_eq_true rfl) dX11_on_23 hf hC hN hRc hRs hfr hlo (by decide) (fun _ _ _ _ h => cX11_pieceEnd_met h) (fun x5 μ6 cn nn H locs cells slots hf hC hN hH hL => ?_)
      refine vg_istore (lv' := [(7, .int x5), (0, .ref v0), (1, .int v1), (2, .int v2), (3, .int v3), (4, .int v4), (5, .int v5), (6, .int v6)]) hx hb dX11_on_26 hl (by decide) rfl (fun ls hl => ?_)
      refine lv_iload_n hx hb dX11_on_28 rfl (lv_at hl.1 3 rfl) ?_
      refine lv_iload hx hb dX11_on_29 (lv_at hl.1 7 rfl) ?_
      refine lv_ishr hx hb dX11_on_31 ?_
      refine lv_iconst (v := 1) hx hb dX11_on_32 (by decide) ?_
      refine lv_iand hx hb dX11_on_33 ?_
      refine lv_iconst (v := 1) hx hb dX11_on_34 (by decide) ?_
      refine lv_icmp_ne (tgt := 87) hx hb dX11_on_35 (by decide) (fun h8 => ?_) (fun h8 => ?_)
      · have hf := vg_if h8 hf
        exact wX11_on_87 Z hk9 v0 v1 v2 v3 v4 v6 x5 μ6 _ _ _ _ _ _ _ hf hH hL hC hN (hl.sub [1, 2, 3, 4, 5, 7, 0] rfl)
      · have hf := vg_ip h8 hf
        refine lv_aload_n hx hb dX11_on_38 rfl (lv_at hl.1 1 rfl) ?_
        refine lv_iload_n hx hb dX11_on_39 rfl (lv_at hl.1 2 rfl) ?_
        refine lv_iload hx hb dX11_on_40 (lv_at hl.1 6 rfl) ?_
        refine lv_iload hx hb dX11_on_42 (lv_at hl.1 0 rfl) ?_
        refine vg_callVi (ci := 14) X hml hl hH hL fCV_X11_188 rfl [.int v1, .int v5, .int x5] rfl rfl (Nat.le_of_ble_eq_true rfl) dX11_on_44 hf hC hN hRc hRs hfr hlo (by decide) (fun _ _ _ _ h => cX11_isStars_met h) (fun x7 μ8 cn nn H locs cells slots hf hC hN hH hL => ?_)
        refine vg_istore (lv' := [(8, .int x7), (7, .int x5), (0, .ref v0), (1, .int v1), (2, .int v2), (3, .int v3), (4, .int v4), (5, .int v5), (6, .int v6)]) hx hb dX11_on_47 hl (by decide) rfl (fun ls hl => ?_)
        refine lv_iload hx hb dX11_on_49 (lv_at hl.1 6 rfl) ?_
        refine lv_iload hx hb dX11_on_51 (lv_at hl.1 0 rfl) ?_
        refine lv_if_eq (tgt := 63) hx hb dX11_on_53 (by decide) (fun h8 => ?_) (fun h8 => ?_)
        · have hf := vg_ip h8 hf
          refine lv_aload_n hx hb dX11_on_63 rfl (lv_at hl.1 2 rfl) ?_
          refine lv_iload_n hx hb dX11_on_64 rfl (lv_at hl.1 3 rfl) ?_
          refine lv_iload hx hb dX11_on_65 (lv_at hl.1 7 rfl) ?_
          refine lv_iload hx hb dX11_on_67 (lv_at hl.1 1 rfl) ?_
          refine lv_iload_n hx hb dX11_on_69 rfl (lv_at hl.1 5 rfl) ?_
          refine vg_callVi (ci := 14) X hml hl hH hL fCV_X11_192 rfl [.int v1, .int v5, .int x5, .int v3] rfl rfl (Nat.le_of_ble_eq_true rfl) dX11_on_70 hf hC hN hRc hRs hfr hlo (by decide) (fun _ _ _ _ h => cX11_fitsName_met h) (fun x9 μ10 cn nn H locs cells slots hf hC hN hH hL => ?_)
          refine lv_if_eq (tgt := 83) hx hb dX11_on_73 (by decide) (fun h8 => ?_) (fun h8 => ?_)
          · have hf := vg_ip h8 hf
            refine lv_iconst (v := 0) hx hb dX11_on_83 (by decide) ?_
            exact wX11_on_84 Z hk9 v0 v1 v2 v3 v6 x5 v4 0 μ10 _ _ _ _ _ _ _ hf hH hL hC hN (hl.sub [2, 3, 4, 5, 8, 1] rfl)
          · have hf := vg_if h8 hf
            refine lv_iconst (v := 2) hx hb dX11_on_76 (by decide) ?_
            refine lv_iload hx hb dX11_on_77 (lv_at hl.1 8 rfl) ?_
            refine lv_ishl hx hb dX11_on_79 ?_
            refine lv_goto (tgt := 84) hx hb dX11_on_80 (by decide) ?_
            exact wX11_on_84 Z hk9 v0 v1 v2 v3 v6 x5 v4 (2 <<< (v6 &&& 31)) μ10 _ _ _ _ _ _ _ hf hH hL hC hN (hl.sub [2, 3, 4, 5, 8, 1] rfl)
        · have hf := vg_if h8 hf
          refine lv_iconst (v := 1) hx hb dX11_on_56 (by decide) ?_
          refine lv_iload hx hb dX11_on_57 (lv_at hl.1 8 rfl) ?_
          refine lv_ishl hx hb dX11_on_59 ?_
          refine lv_goto (tgt := 84) hx hb dX11_on_60 (by decide) ?_
          exact wX11_on_84 Z hk9 v0 v1 v2 v3 v6 x5 v4 (1 <<< (v6 &&& 31)) μ8 _ _ _ _ _ _ _ hf hH hL hC hN (hl.sub [2, 3, 4, 5, 8, 1] rfl)
def fX11_on (v0 : Nat) (v1 : Int32) (v2 : Int32) (v3 : Int32) (μ : vg_M) : vg_R Int32 :=
  fX11_on_9  vg_fuel v0 v1 v2 v3 0 0 0 μ
set_option maxHeartbeats 4000000 in
set_option maxRecDepth 100000 in
theorem cX11_on_met {l : Launch} {D : va_G} {cy : Nat → ClassId} {H0 : Heap} {r : Int32} {μ μ' : vg_M} {cn nn : Nat} {v0 : Nat} {v1 : Int32} {v2 : Int32} {v3 : Int32} (hf : fX11_on v0 v1 v2 v3 μ = some (r, μ', cn, nn)) : vg_Met l D cy H0 yX11_on cX11_on 9 (some .int) 15 μ [.ref v0, .int v1, .int v2, .int v3] (some (.int r)) μ' cn nn := by
  refine vg_start (by decide +kernel) (List.forall_mem_cons.mpr ⟨rfl, (List.forall_mem_cons.mpr ⟨rfl, (List.forall_mem_cons.mpr ⟨rfl, (List.forall_mem_cons.mpr ⟨rfl, (fun _ h => nomatch h)⟩)⟩)⟩)⟩) (Nat.le_of_ble_eq_true rfl) ?_
  intro p e s m below meth c ls X hml hr hlk hnm hH hl
  have hl : vg_l ls 9 [(0, .ref v0), (1, .int v1), (2, .int v2), (3, .int v3)] := hl
  have Z : vg_Z D cy H0 p s m _ c cX11_on RX11 meth 9 (some .int) (vg_rm 15 cn nn) 15 cn nn _ := ⟨X, hml, hr, hlk, Nat.le_refl _, Nat.le_refl _, Nat.le_refl _, Nat.le_refl _, hnm⟩
  obtain ⟨-, -, -, -, hfr, hlo, hRc, hRs, -⟩ := id Z
  have hx := X.1
  have hb := X.2.1
  have hL : ∀ z ∈ ([] : List Loc), H0.size ≤ z.base := fun _ h => nomatch h
  have hC : 0 + cn = cn := Nat.zero_add _
  have hN : 0 + nn = nn := Nat.zero_add _
  delta fX11_on at hf
  refine lv_iconst (v := 0) hx hb dX11_on_0 (by decide) ?_
  refine vg_istore (lv' := [(4, .int 0), (0, .ref v0), (1, .int v1), (2, .int v2), (3, .int v3)]) hx hb dX11_on_1 hl (by decide) rfl (fun ls hl => ?_)
  refine lv_iconst (v := 0) hx hb dX11_on_3 (by decide) ?_
  refine vg_istore (lv' := [(5, .int 0), (4, .int 0), (0, .ref v0), (1, .int v1), (2, .int v2), (3, .int v3)]) hx hb dX11_on_4 hl (by decide) rfl (fun ls hl => ?_)
  refine lv_iconst (v := 0) hx hb dX11_on_6 (by decide) ?_
  refine vg_istore (lv' := [(6, .int 0), (5, .int 0), (4, .int 0), (0, .ref v0), (1, .int v1), (2, .int v2), (3, .int v3)]) hx hb dX11_on_7 hl (by decide) rfl (fun ls hl => ?_)
  exact wX11_on_9 Z  vg_fuel v0 v1 v2 v3 0 0 0 μ _ _ _ _ _ _ _ hf hH hL hC hN (hl.sub [3, 4, 5, 6, 2, 1, 0] rfl)
def fX11_bitsOf_55  (k0 : Int32) (μ : vg_M) : vg_R Int32 :=
  vg_ret k0 μ
set_option maxHeartbeats 4000000 in
set_option maxRecDepth 100000 in
theorem wX11_bitsOf_55 {p : Program} {l : Launch} {e : Env} {R : Room} {s : State} {m : MethodId} {args : Array Value} {below : List Frame} {meth : Method} {c : Code} {D : va_G} {cy : Nat → ClassId} {H0 : Heap} {C0 N0 : Nat} {r : Int32} {μ' : vg_M} (Z : vg_Z D cy H0 p s m args c cX11_bitsOf RX11 meth 5 (some .int) R 16 C0 N0 "bitsOf")   (k0 : Int32) (μ : vg_M) : vg_S p l e R s m args below meth c D cy H0 C0 N0 5 (MQ below (vg_Qc D cy H0 μ' (some (.int r))) args s C0 N0 (vg_fr H0)) r μ' (fX11_bitsOf_55  k0 μ) μ [] [.int k0] 55 := by
  intro cn nn H locs cells slots ls hf hH hL hC hN hl
  obtain ⟨X, hml, hr, hlk, hfr, hlo, hRc, hRs, hnm⟩ := id Z
  have hx := X.1
  have hb := X.2.1
  delta fX11_bitsOf_55 at hf
  exact vg_reti X hr hlk hH hL dX11_bitsOf_55 hf hC hN
def fX11_bitsOf_10  : Nat → Nat → Int32 → Int32 → Int32 → Int32 → vg_M → vg_R Int32
  | 0, _, _, _, _, _, _ => none
  | n + 1, v0, v1, v2, v3, v4, μ =>
    vg_o (vg_gI μ v0 14 30) fun x1 =>
    if x1 < v4 then (
     if v2 = ((-1)) then (
      fX11_bitsOf_55  v3 μ
      ) else (
      vg_cv 14 v0 μ (fX11_on v0 v1 v3 v2 μ) fun x2 μ3 =>
      fX11_bitsOf_55  x2 μ3
      )
     ) else (
     vg_o (vg_gR μ v0 14 34) fun x4 =>
     vg_o x4 fun a5 =>
     vg_o (vg_aI μ a5 2 v4) fun x6 =>
     vg_cv 14 v0 μ (fX11_on v0 v1 v3 x6 μ) fun x7 μ8 =>
     (fX11_bitsOf_10  n) v0 v1 v2 x7 (v4 + 1) μ8
     )
set_option maxHeartbeats 4000000 in
set_option maxRecDepth 100000 in
theorem wX11_bitsOf_10 {p : Program} {l : Launch} {e : Env} {R : Room} {s : State} {m : MethodId} {args : Array Value} {below : List Frame} {meth : Method} {c : Code} {D : va_G} {cy : Nat → ClassId} {H0 : Heap} {C0 N0 : Nat} {r : Int32} {μ' : vg_M} (Z : vg_Z D cy H0 p s m args c cX11_bitsOf RX11 meth 5 (some .int) R 16 C0 N0 "bitsOf")   : ∀ (n : Nat) (v0 : Nat) (v1 : Int32) (v2 : Int32) (v3 : Int32) (v4 : Int32) (μ : vg_M), vg_S p l e R s m args below meth c D cy H0 C0 N0 5 (MQ below (vg_Qc D cy H0 μ' (some (.int r))) args s C0 N0 (vg_fr H0)) r μ' (fX11_bitsOf_10  n v0 v1 v2 v3 v4 μ) μ [(0, .ref v0), (1, .int v1), (2, .int v2), (3, .int v3), (4, .int v4)] [] 10 := by
  intro n
  induction n with
  | zero =>
    intro v0 v1 v2 v3 v4 μ cn nn H locs cells slots ls hf
    simp [fX11_bitsOf_10] at hf
  | succ n hk10 =>
    intro v0 v1 v2 v3 v4 μ
    intro cn nn H locs cells slots ls hf hH hL hC hN hl
    obtain ⟨X, hml, hr, hlk, hfr, hlo, hRc, hRs, hnm⟩ := id Z
    have hx := X.1
    have hb := X.2.1
    rw [fX11_bitsOf_10] at hf
    refine lv_iload hx hb dX11_bitsOf_10 (lv_at hl.1 4 rfl) ?_
    refine lv_aload_n hx hb dX11_bitsOf_12 rfl (lv_at hl.1 0 rfl) ?_
    refine vg_getI X hH fF_X11_198 dX11_bitsOf_13 hf (fun x1 hf => ?_)
    refine lv_icmp_gt (tgt := 39) hx hb dX11_bitsOf_16 (by decide) (fun h8 => ?_) (fun h8 => ?_)
    · have hf := vg_ip h8 hf
      refine lv_iload_n hx hb dX11_bitsOf_39 rfl (lv_at hl.1 2 rfl) ?_
      refine lv_iconst (v := (-1)) hx hb dX11_bitsOf_40 (by decide) ?_
      refine lv_icmp_ne (tgt := 48) hx hb dX11_bitsOf_41 (by decide) (fun h8 => ?_) (fun h8 => ?_)
      · have hf := vg_if h8 hf
        refine lv_aload_n hx hb dX11_bitsOf_48 rfl (lv_at hl.1 0 rfl) ?_
        refine lv_iload_n hx hb dX11_bitsOf_49 rfl (lv_at hl.1 1 rfl) ?_
        refine lv_iload_n hx hb dX11_bitsOf_50 rfl (lv_at hl.1 3 rfl) ?_
        refine lv_iload_n hx hb dX11_bitsOf_51 rfl (lv_at hl.1 2 rfl) ?_
        refine vg_callVi (ci := 14) X hml hl hH hL fCV_X11_201 rfl [.int v1, .int v3, .int v2] rfl rfl (Nat.le_of_ble_eq_true rfl) dX11_bitsOf_52 hf hC hN hRc hRs hfr hlo (by decide) (fun _ _ _ _ h => cX11_on_met h) (fun x2 μ3 cn nn H locs cells slots hf hC hN hH hL => ?_)
        exact wX11_bitsOf_55 Z  x2 μ3 _ _ _ _ _ _ _ hf hH hL hC hN (hl.sub [] rfl)
      · have hf := vg_ip h8 hf
        refine lv_iload_n hx hb dX11_bitsOf_44 rfl (lv_at hl.1 3 rfl) ?_
        refine lv_goto (tgt := 55) hx hb dX11_bitsOf_45 (by decide) ?_
        exact wX11_bitsOf_55 Z  v3 μ _ _ _ _ _ _ _ hf hH hL hC hN (hl.sub [] rfl)
    · have hf := vg_if h8 hf
      refine lv_aload_n hx hb dX11_bitsOf_19 rfl (lv_at hl.1 0 rfl) ?_
      refine lv_iload_n hx hb dX11_bitsOf_20 rfl (lv_at hl.1 1 rfl) ?_
      refine lv_iload_n hx hb dX11_bitsOf_21 rfl (lv_at hl.1 3 rfl) ?_
      refine lv_aload_n hx hb dX11_bitsOf_22 rfl (lv_at hl.1 0 rfl) ?_
      refine vg_getR X hH fF_X11_88 dX11_bitsOf_23 hf (fun x4 hf => ?_)
      refine lv_iload hx hb dX11_bitsOf_26 (lv_at hl.1 4 rfl) ?_
      obtain ⟨a5, h9, hg⟩ := vg_o_inv hf
      clear hf
      subst h9
      have hf := hg
      clear hg
      refine vg_iald X hH dX11_bitsOf_28 hf (fun x6 hf => ?_)
      refine vg_callVi (ci := 14) X hml hl hH hL fCV_X11_201 rfl [.int v1, .int v3, .int x6] rfl rfl (Nat.le_of_ble_eq_true rfl) dX11_bitsOf_29 hf hC hN hRc hRs hfr hlo (by decide) (fun _ _ _ _ h => cX11_on_met h) (fun x7 μ8 cn nn H locs cells slots hf hC hN hH hL => ?_)
      refine vg_istore_n (lv' := [(3, .int x7), (0, .ref v0), (1, .int v1), (2, .int v2), (4, .int v4)]) hx hb dX11_bitsOf_32 rfl hl (by decide) rfl (fun ls hl => ?_)
      refine vg_iinc (v := v4 + 1) (lv' := [(4, .int (v4 + 1)), (3, .int x7), (0, .ref v0), (1, .int v1), (2, .int v2)]) hx hb dX11_bitsOf_33 hl (k := 4) rfl rfl (by decide) rfl (fun ls hl => ?_)
      refine lv_goto (tgt := 10) hx hb dX11_bitsOf_36 (by decide) ?_
      exact hk10 v0 v1 v2 x7 (v4 + 1) μ8 _ _ _ _ _ _ _ hf hH hL hC hN (hl.sub [2, 3, 4, 1, 0] rfl)
def fX11_bitsOf (v0 : Nat) (v1 : Int32) (v2 : Int32) (μ : vg_M) : vg_R Int32 :=
  vg_cv 14 v0 μ (fX11_closed v0 v1 1 μ) fun x9 μ10 =>
  fX11_bitsOf_10  vg_fuel v0 v1 v2 x9 1 μ10
set_option maxHeartbeats 4000000 in
set_option maxRecDepth 100000 in
theorem cX11_bitsOf_met {l : Launch} {D : va_G} {cy : Nat → ClassId} {H0 : Heap} {r : Int32} {μ μ' : vg_M} {cn nn : Nat} {v0 : Nat} {v1 : Int32} {v2 : Int32} (hf : fX11_bitsOf v0 v1 v2 μ = some (r, μ', cn, nn)) : vg_Met l D cy H0 yX11_bitsOf cX11_bitsOf 5 (some .int) 16 μ [.ref v0, .int v1, .int v2] (some (.int r)) μ' cn nn := by
  refine vg_start (by decide +kernel) (List.forall_mem_cons.mpr ⟨rfl, (List.forall_mem_cons.mpr ⟨rfl, (List.forall_mem_cons.mpr ⟨rfl, (fun _ h => nomatch h)⟩)⟩)⟩) (Nat.le_of_ble_eq_true rfl) ?_
  intro p e s m below meth c ls X hml hr hlk hnm hH hl
  have hl : vg_l ls 5 [(0, .ref v0), (1, .int v1), (2, .int v2)] := hl
  have Z : vg_Z D cy H0 p s m _ c cX11_bitsOf RX11 meth 5 (some .int) (vg_rm 16 cn nn) 16 cn nn _ := ⟨X, hml, hr, hlk, Nat.le_refl _, Nat.le_refl _, Nat.le_refl _, Nat.le_refl _, hnm⟩
  obtain ⟨-, -, -, -, hfr, hlo, hRc, hRs, -⟩ := id Z
  have hx := X.1
  have hb := X.2.1
  have hL : ∀ z ∈ ([] : List Loc), H0.size ≤ z.base := fun _ h => nomatch h
  have hC : 0 + cn = cn := Nat.zero_add _
  have hN : 0 + nn = nn := Nat.zero_add _
  delta fX11_bitsOf at hf
  refine lv_aload_n hx hb dX11_bitsOf_0 rfl (lv_at hl.1 0 rfl) ?_
  refine lv_iload_n hx hb dX11_bitsOf_1 rfl (lv_at hl.1 1 rfl) ?_
  refine lv_iconst (v := 1) hx hb dX11_bitsOf_2 (by decide) ?_
  refine vg_callVi (ci := 14) X hml hl hH hL fCV_X11_195 rfl [.int v1, .int 1] rfl rfl (Nat.le_of_ble_eq_true rfl) dX11_bitsOf_3 hf hC hN hRc hRs hfr hlo (by decide) (fun _ _ _ _ h => cX11_closed_met h) (fun x9 μ10 cn nn H locs cells slots hf hC hN hH hL => ?_)
  refine vg_istore_n (lv' := [(3, .int x9), (0, .ref v0), (1, .int v1), (2, .int v2)]) hx hb dX11_bitsOf_6 rfl hl (by decide) rfl (fun ls hl => ?_)
  refine lv_iconst (v := 1) hx hb dX11_bitsOf_7 (by decide) ?_
  refine vg_istore (lv' := [(4, .int 1), (3, .int x9), (0, .ref v0), (1, .int v1), (2, .int v2)]) hx hb dX11_bitsOf_8 hl (by decide) rfl (fun ls hl => ?_)
  exact wX11_bitsOf_10 Z  vg_fuel v0 v1 v2 x9 1 μ10 _ _ _ _ _ _ _ hf hH hL hC hN (hl.sub [2, 3, 4, 1, 0] rfl)
def fX11_isForFolders_23  (k0 : Int32) (μ : vg_M) : vg_R Int32 :=
  vg_o (vg_z .boolean k0) fun z => vg_ret z μ
set_option maxHeartbeats 4000000 in
set_option maxRecDepth 100000 in
theorem wX11_isForFolders_23 {p : Program} {l : Launch} {e : Env} {R : Room} {s : State} {m : MethodId} {args : Array Value} {below : List Frame} {meth : Method} {c : Code} {D : va_G} {cy : Nat → ClassId} {H0 : Heap} {C0 N0 : Nat} {r : Int32} {μ' : vg_M} (Z : vg_Z D cy H0 p s m args c cX11_isForFolders RX11 meth 2 (some .boolean) R 13 C0 N0 "isForFolders")   (k0 : Int32) (μ : vg_M) : vg_S p l e R s m args below meth c D cy H0 C0 N0 2 (MQ below (vg_Qc D cy H0 μ' (some (.int r))) args s C0 N0 (vg_fr H0)) r μ' (fX11_isForFolders_23  k0 μ) μ [] [.int k0] 23 := by
  intro cn nn H locs cells slots ls hf hH hL hC hN hl
  obtain ⟨X, hml, hr, hlk, hfr, hlo, hRc, hRs, hnm⟩ := id Z
  have hx := X.1
  have hb := X.2.1
  delta fX11_isForFolders_23 at hf
  exact vg_retz X (by simp) hr hlk hH hL dX11_isForFolders_23 hf hC hN
def fX11_isForFolders (v0 : Nat) (v1 : Int32) (μ : vg_M) : vg_R Int32 :=
  vg_o (vg_gR μ v0 14 20) fun x1 =>
  vg_o x1 fun a2 =>
  vg_o (vg_aI μ a2 2 v1) fun x3 =>
  vg_cv 14 v0 μ (fX11_byteOf v0 v1 (x3 - 1) μ) fun x4 μ5 =>
  if x4 = 47 then (
   fX11_isForFolders_23  1 μ5
   ) else (
   fX11_isForFolders_23  0 μ5
   )
set_option maxHeartbeats 4000000 in
set_option maxRecDepth 100000 in
theorem cX11_isForFolders_met {l : Launch} {D : va_G} {cy : Nat → ClassId} {H0 : Heap} {r : Int32} {μ μ' : vg_M} {cn nn : Nat} {v0 : Nat} {v1 : Int32} (hf : fX11_isForFolders v0 v1 μ = some (r, μ', cn, nn)) : vg_Met l D cy H0 yX11_isForFolders cX11_isForFolders 2 (some .boolean) 13 μ [.ref v0, .int v1] (some (.int r)) μ' cn nn := by
  refine vg_start (by decide +kernel) (List.forall_mem_cons.mpr ⟨rfl, (List.forall_mem_cons.mpr ⟨rfl, (fun _ h => nomatch h)⟩)⟩) (Nat.le_of_ble_eq_true rfl) ?_
  intro p e s m below meth c ls X hml hr hlk hnm hH hl
  have hl : vg_l ls 2 [(0, .ref v0), (1, .int v1)] := hl
  have Z : vg_Z D cy H0 p s m _ c cX11_isForFolders RX11 meth 2 (some .boolean) (vg_rm 13 cn nn) 13 cn nn _ := ⟨X, hml, hr, hlk, Nat.le_refl _, Nat.le_refl _, Nat.le_refl _, Nat.le_refl _, hnm⟩
  obtain ⟨-, -, -, -, hfr, hlo, hRc, hRs, -⟩ := id Z
  have hx := X.1
  have hb := X.2.1
  have hL : ∀ z ∈ ([] : List Loc), H0.size ≤ z.base := fun _ h => nomatch h
  have hC : 0 + cn = cn := Nat.zero_add _
  have hN : 0 + nn = nn := Nat.zero_add _
  delta fX11_isForFolders at hf
  refine lv_aload_n hx hb dX11_isForFolders_0 rfl (lv_at hl.1 0 rfl) ?_
  refine lv_iload_n hx hb dX11_isForFolders_1 rfl (lv_at hl.1 1 rfl) ?_
  refine lv_aload_n hx hb dX11_isForFolders_2 rfl (lv_at hl.1 0 rfl) ?_
  refine vg_getR X hH fF_X11_54 dX11_isForFolders_3 hf (fun x1 hf => ?_)
  refine lv_iload_n hx hb dX11_isForFolders_6 rfl (lv_at hl.1 1 rfl) ?_
  obtain ⟨a2, h9, hg⟩ := vg_o_inv hf
  clear hf
  subst h9
  have hf := hg
  clear hg
  refine vg_iald X hH dX11_isForFolders_7 hf (fun x3 hf => ?_)
  refine lv_iconst (v := 1) hx hb dX11_isForFolders_8 (by decide) ?_
  refine lv_isub hx hb dX11_isForFolders_9 ?_
  refine vg_callVi (ci := 14) X hml hl hH hL fCV_X11_175 rfl [.int v1, .int (x3 - 1)] rfl rfl (Nat.le_of_ble_eq_true rfl) dX11_isForFolders_10 hf hC hN hRc hRs hfr hlo (by decide) (fun _ _ _ _ h => cX11_byteOf_met h) (fun x4 μ5 cn nn H locs cells slots hf hC hN hH hL => ?_)
  refine lv_bipush (v := 47) hx hb dX11_isForFolders_13 (by decide) ?_
  refine lv_icmp_ne (tgt := 22) hx hb dX11_isForFolders_15 (by decide) (fun h8 => ?_) (fun h8 => ?_)
  · have hf := vg_if h8 hf
    refine lv_iconst (v := 0) hx hb dX11_isForFolders_22 (by decide) ?_
    exact wX11_isForFolders_23 Z  0 μ5 _ _ _ _ _ _ _ hf hH hL hC hN (hl.sub [] rfl)
  · have hf := vg_ip h8 hf
    refine lv_iconst (v := 1) hx hb dX11_isForFolders_18 (by decide) ?_
    refine lv_goto (tgt := 23) hx hb dX11_isForFolders_19 (by decide) ?_
    exact wX11_isForFolders_23 Z  1 μ5 _ _ _ _ _ _ _ hf hH hL hC hN (hl.sub [] rfl)
def fX11_fits_46  (k0 : Int32) (μ : vg_M) : vg_R Int32 :=
  vg_o (vg_z .boolean k0) fun z => vg_ret z μ
set_option maxHeartbeats 4000000 in
set_option maxRecDepth 100000 in
theorem wX11_fits_46 {p : Program} {l : Launch} {e : Env} {R : Room} {s : State} {m : MethodId} {args : Array Value} {below : List Frame} {meth : Method} {c : Code} {D : va_G} {cy : Nat → ClassId} {H0 : Heap} {C0 N0 : Nat} {r : Int32} {μ' : vg_M} (Z : vg_Z D cy H0 p s m args c cX11_fits RX11 meth 3 (some .boolean) R 17 C0 N0 "fits")   (k0 : Int32) (μ : vg_M) : vg_S p l e R s m args below meth c D cy H0 C0 N0 3 (MQ below (vg_Qc D cy H0 μ' (some (.int r))) args s C0 N0 (vg_fr H0)) r μ' (fX11_fits_46  k0 μ) μ [] [.int k0] 46 := by
  intro cn nn H locs cells slots ls hf hH hL hC hN hl
  obtain ⟨X, hml, hr, hlk, hfr, hlo, hRc, hRs, hnm⟩ := id Z
  have hx := X.1
  have hb := X.2.1
  delta fX11_fits_46 at hf
  exact vg_retz X (by simp) hr hlk hH hL dX11_fits_46 hf hC hN
def fX11_fits_45   (μ : vg_M) : vg_R Int32 :=
  fX11_fits_46  0 μ
set_option maxHeartbeats 4000000 in
set_option maxRecDepth 100000 in
theorem wX11_fits_45 {p : Program} {l : Launch} {e : Env} {R : Room} {s : State} {m : MethodId} {args : Array Value} {below : List Frame} {meth : Method} {c : Code} {D : va_G} {cy : Nat → ClassId} {H0 : Heap} {C0 N0 : Nat} {r : Int32} {μ' : vg_M} (Z : vg_Z D cy H0 p s m args c cX11_fits RX11 meth 3 (some .boolean) R 17 C0 N0 "fits")    (μ : vg_M) : vg_S p l e R s m args below meth c D cy H0 C0 N0 3 (MQ below (vg_Qc D cy H0 μ' (some (.int r))) args s C0 N0 (vg_fr H0)) r μ' (fX11_fits_45   μ) μ [] [] 45 := by
  intro cn nn H locs cells slots ls hf hH hL hC hN hl
  obtain ⟨X, hml, hr, hlk, hfr, hlo, hRc, hRs, hnm⟩ := id Z
  have hx := X.1
  have hb := X.2.1
  delta fX11_fits_45 at hf
  refine lv_iconst (v := 0) hx hb dX11_fits_45 (by decide) ?_
  exact wX11_fits_46 Z  0 μ _ _ _ _ _ _ _ hf hH hL hC hN (hl.sub [] rfl)
def fX11_fits_20  (v0 : Nat) (v1 : Int32) (v2 : Int32) (k0 : Int32) (k1 : Int32) (μ : vg_M) : vg_R Int32 :=
  if k0 = k1 then (
   vg_cv 14 v0 μ (fX11_bitsOf v0 v1 v2 μ) fun x1 μ2 =>
   vg_cv 14 v0 μ2 (fX11_pieces v0 v1 μ2) fun x3 μ4 =>
   if ((x1 >>> (x3 &&& 31)) &&& 1) = 1 then (
    fX11_fits_46  1 μ4
    ) else (
    fX11_fits_45   μ4
    )
   ) else (
   fX11_fits_45   μ
   )
set_option maxHeartbeats 4000000 in
set_option maxRecDepth 100000 in
theorem wX11_fits_20 {p : Program} {l : Launch} {e : Env} {R : Room} {s : State} {m : MethodId} {args : Array Value} {below : List Frame} {meth : Method} {c : Code} {D : va_G} {cy : Nat → ClassId} {H0 : Heap} {C0 N0 : Nat} {r : Int32} {μ' : vg_M} (Z : vg_Z D cy H0 p s m args c cX11_fits RX11 meth 3 (some .boolean) R 17 C0 N0 "fits")   (v0 : Nat) (v1 : Int32) (v2 : Int32) (k0 : Int32) (k1 : Int32) (μ : vg_M) : vg_S p l e R s m args below meth c D cy H0 C0 N0 3 (MQ below (vg_Qc D cy H0 μ' (some (.int r))) args s C0 N0 (vg_fr H0)) r μ' (fX11_fits_20  v0 v1 v2 k0 k1 μ) μ [(0, .ref v0), (1, .int v1), (2, .int v2)] [.int k1, .int k0] 20 := by
  intro cn nn H locs cells slots ls hf hH hL hC hN hl
  obtain ⟨X, hml, hr, hlk, hfr, hlo, hRc, hRs, hnm⟩ := id Z
  have hx := X.1
  have hb := X.2.1
  delta fX11_fits_20 at hf
  refine lv_icmp_ne (tgt := 45) hx hb dX11_fits_20 (by decide) (fun h8 => ?_) (fun h8 => ?_)
  · have hf := vg_if h8 hf
    exact wX11_fits_45 Z   μ _ _ _ _ _ _ _ hf hH hL hC hN (hl.sub [] rfl)
  · have hf := vg_ip h8 hf
    refine lv_aload_n hx hb dX11_fits_23 rfl (lv_at hl.1 0 rfl) ?_
    refine lv_iload_n hx hb dX11_fits_24 rfl (lv_at hl.1 1 rfl) ?_
    refine lv_iload_n hx hb dX11_fits_25 rfl (lv_at hl.1 2 rfl) ?_
    refine vg_callVi (ci := 14) X hml hl hH hL fCV_X11_207 rfl [.int v1, .int v2] rfl rfl (Nat.le_of_ble_eq_true rfl) dX11_fits_26 hf hC hN hRc hRs hfr hlo (by decide) (fun _ _ _ _ h => cX11_bitsOf_met h) (fun x1 μ2 cn nn H locs cells slots hf hC hN hH hL => ?_)
    refine lv_aload_n hx hb dX11_fits_29 rfl (lv_at hl.1 0 rfl) ?_
    refine lv_iload_n hx hb dX11_fits_30 rfl (lv_at hl.1 1 rfl) ?_
    refine vg_callVi (ci := 14) X hml hl hH hL fCV_X11_182 rfl [.int v1] rfl rfl (Nat.le_of_ble_eq_true rfl) dX11_fits_31 hf hC hN hRc hRs hfr hlo (by decide) (fun _ _ _ _ h => cX11_pieces_met h) (fun x3 μ4 cn nn H locs cells slots hf hC hN hH hL => ?_)
    refine lv_ishr hx hb dX11_fits_34 ?_
    refine lv_iconst (v := 1) hx hb dX11_fits_35 (by decide) ?_
    refine lv_iand hx hb dX11_fits_36 ?_
    refine lv_iconst (v := 1) hx hb dX11_fits_37 (by decide) ?_
    refine lv_icmp_ne (tgt := 45) hx hb dX11_fits_38 (by decide) (fun h8 => ?_) (fun h8 => ?_)
    · have hf := vg_if h8 hf
      exact wX11_fits_45 Z   μ4 _ _ _ _ _ _ _ hf hH hL hC hN (hl.sub [] rfl)
    · have hf := vg_ip h8 hf
      refine lv_iconst (v := 1) hx hb dX11_fits_41 (by decide) ?_
      refine lv_goto (tgt := 46) hx hb dX11_fits_42 (by decide) ?_
      exact wX11_fits_46 Z  1 μ4 _ _ _ _ _ _ _ hf hH hL hC hN (hl.sub [] rfl)
def fX11_fits (v0 : Nat) (v1 : Int32) (v2 : Int32) (μ : vg_M) : vg_R Int32 :=
  vg_cv 14 v0 μ (fX11_isForFolders v0 v1 μ) fun x5 μ6 =>
  vg_o (vg_gR μ6 v0 14 6) fun x7 =>
  vg_o x7 fun a8 =>
  vg_o (vg_aI μ6 a8 2 v2) fun x9 =>
  if x9 = 2 then (
   fX11_fits_20  v0 v1 v2 x5 1 μ6
   ) else (
   fX11_fits_20  v0 v1 v2 x5 0 μ6
   )
set_option maxHeartbeats 4000000 in
set_option maxRecDepth 100000 in
theorem cX11_fits_met {l : Launch} {D : va_G} {cy : Nat → ClassId} {H0 : Heap} {r : Int32} {μ μ' : vg_M} {cn nn : Nat} {v0 : Nat} {v1 : Int32} {v2 : Int32} (hf : fX11_fits v0 v1 v2 μ = some (r, μ', cn, nn)) : vg_Met l D cy H0 yX11_fits cX11_fits 3 (some .boolean) 17 μ [.ref v0, .int v1, .int v2] (some (.int r)) μ' cn nn := by
  refine vg_start (by decide +kernel) (List.forall_mem_cons.mpr ⟨rfl, (List.forall_mem_cons.mpr ⟨rfl, (List.forall_mem_cons.mpr ⟨rfl, (fun _ h => nomatch h)⟩)⟩)⟩) (Nat.le_of_ble_eq_true rfl) ?_
  intro p e s m below meth c ls X hml hr hlk hnm hH hl
  have hl : vg_l ls 3 [(0, .ref v0), (1, .int v1), (2, .int v2)] := hl
  have Z : vg_Z D cy H0 p s m _ c cX11_fits RX11 meth 3 (some .boolean) (vg_rm 17 cn nn) 17 cn nn _ := ⟨X, hml, hr, hlk, Nat.le_refl _, Nat.le_refl _, Nat.le_refl _, Nat.le_refl _, hnm⟩
  obtain ⟨-, -, -, -, hfr, hlo, hRc, hRs, -⟩ := id Z
  have hx := X.1
  have hb := X.2.1
  have hL : ∀ z ∈ ([] : List Loc), H0.size ≤ z.base := fun _ h => nomatch h
  have hC : 0 + cn = cn := Nat.zero_add _
  have hN : 0 + nn = nn := Nat.zero_add _
  delta fX11_fits at hf
  refine lv_aload_n hx hb dX11_fits_0 rfl (lv_at hl.1 0 rfl) ?_
  refine lv_iload_n hx hb dX11_fits_1 rfl (lv_at hl.1 1 rfl) ?_
  refine vg_callVi (ci := 14) X hml hl hH hL fCV_X11_204 rfl [.int v1] rfl rfl (Nat.le_of_ble_eq_true rfl) dX11_fits_2 hf hC hN hRc hRs hfr hlo (by decide) (fun _ _ _ _ h => cX11_isForFolders_met h) (fun x5 μ6 cn nn H locs cells slots hf hC hN hH hL => ?_)
  refine lv_aload_n hx hb dX11_fits_5 rfl (lv_at hl.1 0 rfl) ?_
  refine vg_getR X hH fF_X11_20 dX11_fits_6 hf (fun x7 hf => ?_)
  refine lv_iload_n hx hb dX11_fits_9 rfl (lv_at hl.1 2 rfl) ?_
  obtain ⟨a8, h9, hg⟩ := vg_o_inv hf
  clear hf
  subst h9
  have hf := hg
  clear hg
  refine vg_iald X hH dX11_fits_10 hf (fun x9 hf => ?_)
  refine lv_iconst (v := 2) hx hb dX11_fits_11 (by decide) ?_
  refine lv_icmp_ne (tgt := 19) hx hb dX11_fits_12 (by decide) (fun h8 => ?_) (fun h8 => ?_)
  · have hf := vg_if h8 hf
    refine lv_iconst (v := 0) hx hb dX11_fits_19 (by decide) ?_
    exact wX11_fits_20 Z  v0 v1 v2 x5 0 μ6 _ _ _ _ _ _ _ hf hH hL hC hN (hl.sub [0, 1, 2] rfl)
  · have hf := vg_ip h8 hf
    refine lv_iconst (v := 1) hx hb dX11_fits_15 (by decide) ?_
    refine lv_goto (tgt := 20) hx hb dX11_fits_16 (by decide) ?_
    exact wX11_fits_20 Z  v0 v1 v2 x5 1 μ6 _ _ _ _ _ _ _ hf hH hL hC hN (hl.sub [0, 1, 2] rfl)
def fX11_isAnswer_43 (q8 : Nat → Int32 → Int32 → Int32 → Int32 → Int32 → vg_M → vg_R Int32) (v0 : Nat) (v1 : Int32) (v2 : Int32) (v4 : Int32) (v5 : Int32) (k0 : Int32) (μ : vg_M) : vg_R Int32 :=
  q8 v0 v1 v2 k0 v4 (v5 + 1) μ
set_option maxHeartbeats 4000000 in
set_option maxRecDepth 100000 in
theorem wX11_isAnswer_43 {p : Program} {l : Launch} {e : Env} {R : Room} {s : State} {m : MethodId} {args : Array Value} {below : List Frame} {meth : Method} {c : Code} {D : va_G} {cy : Nat → ClassId} {H0 : Heap} {C0 N0 : Nat} {r : Int32} {μ' : vg_M} (Z : vg_Z D cy H0 p s m args c cX11_isAnswer RX11 meth 6 (some .boolean) R 18 C0 N0 "isAnswer") {q8 : Nat → Int32 → Int32 → Int32 → Int32 → Int32 → vg_M → vg_R Int32} (hk8 : ∀ (v0 : Nat) (v1 : Int32) (v2 : Int32) (v3 : Int32) (v4 : Int32) (v5 : Int32) (μ : vg_M), vg_S p l e R s m args below meth c D cy H0 C0 N0 6 (MQ below (vg_Qc D cy H0 μ' (some (.int r))) args s C0 N0 (vg_fr H0)) r μ' (q8 v0 v1 v2 v3 v4 v5 μ) μ [(0, .ref v0), (1, .int v1), (2, .int v2), (3, .int v3), (4, .int v4), (5, .int v5)] [] 8) (v0 : Nat) (v1 : Int32) (v2 : Int32) (v4 : Int32) (v5 : Int32) (k0 : Int32) (μ : vg_M) : vg_S p l e R s m args below meth c D cy H0 C0 N0 6 (MQ below (vg_Qc D cy H0 μ' (some (.int r))) args s C0 N0 (vg_fr H0)) r μ' (fX11_isAnswer_43 q8 v0 v1 v2 v4 v5 k0 μ) μ [(0, .ref v0), (1, .int v1), (2, .int v2), (4, .int v4), (5, .int v5)] [.int k0] 43 := by
  intro cn nn H locs cells slots ls hf hH hL hC hN hl
  obtain ⟨X, hml, hr, hlk, hfr, hlo, hRc, hRs, hnm⟩ := id Z
  have hx := X.1
  have hb := X.2.1
  delta fX11_isAnswer_43 at hf
  refine vg_istore_n (lv' := [(3, .int k0), (0, .ref v0), (1, .int v1), (2, .int v2), (4, .int v4), (5, .int v5)]) hx hb dX11_isAnswer_43 rfl hl (by decide) rfl (fun ls hl => ?_)
  refine vg_iinc (v := v5 + 1) (lv' := [(5, .int (v5 + 1)), (3, .int k0), (0, .ref v0), (1, .int v1), (2, .int v2), (4, .int v4)]) hx hb dX11_isAnswer_44 hl (k := 5) rfl rfl (by decide) rfl (fun ls hl => ?_)
  refine lv_goto (tgt := 8) hx hb dX11_isAnswer_47 (by decide) ?_
  exact hk8 v0 v1 v2 k0 v4 (v5 + 1) μ _ _ _ _ _ _ _ hf hH hL hC hN (hl.sub [2, 3, 4, 1, 5, 0] rfl)
def fX11_isAnswer_38 (q8 : Nat → Int32 → Int32 → Int32 → Int32 → Int32 → vg_M → vg_R Int32) (v0 : Nat) (v1 : Int32) (v2 : Int32) (v4 : Int32) (v5 : Int32) (μ : vg_M) : vg_R Int32 :=
  fX11_isAnswer_43 q8 v0 v1 v2 v4 v5 1 μ
set_option maxHeartbeats 4000000 in
set_option maxRecDepth 100000 in
theorem wX11_isAnswer_38 {p : Program} {l : Launch} {e : Env} {R : Room} {s : State} {m : MethodId} {args : Array Value} {below : List Frame} {meth : Method} {c : Code} {D : va_G} {cy : Nat → ClassId} {H0 : Heap} {C0 N0 : Nat} {r : Int32} {μ' : vg_M} (Z : vg_Z D cy H0 p s m args c cX11_isAnswer RX11 meth 6 (some .boolean) R 18 C0 N0 "isAnswer") {q8 : Nat → Int32 → Int32 → Int32 → Int32 → Int32 → vg_M → vg_R Int32} (hk8 : ∀ (v0 : Nat) (v1 : Int32) (v2 : Int32) (v3 : Int32) (v4 : Int32) (v5 : Int32) (μ : vg_M), vg_S p l e R s m args below meth c D cy H0 C0 N0 6 (MQ below (vg_Qc D cy H0 μ' (some (.int r))) args s C0 N0 (vg_fr H0)) r μ' (q8 v0 v1 v2 v3 v4 v5 μ) μ [(0, .ref v0), (1, .int v1), (2, .int v2), (3, .int v3), (4, .int v4), (5, .int v5)] [] 8) (v0 : Nat) (v1 : Int32) (v2 : Int32) (v4 : Int32) (v5 : Int32) (μ : vg_M) : vg_S p l e R s m args below meth c D cy H0 C0 N0 6 (MQ below (vg_Qc D cy H0 μ' (some (.int r))) args s C0 N0 (vg_fr H0)) r μ' (fX11_isAnswer_38 q8 v0 v1 v2 v4 v5 μ) μ [(0, .ref v0), (1, .int v1), (2, .int v2), (4, .int v4), (5, .int v5)] [] 38 := by
  intro cn nn H locs cells slots ls hf hH hL hC hN hl
  obtain ⟨X, hml, hr, hlk, hfr, hlo, hRc, hRs, hnm⟩ := id Z
  have hx := X.1
  have hb := X.2.1
  delta fX11_isAnswer_38 at hf
  refine lv_iconst (v := 1) hx hb dX11_isAnswer_38 (by decide) ?_
  refine lv_goto (tgt := 43) hx hb dX11_isAnswer_39 (by decide) ?_
  exact wX11_isAnswer_43 Z hk8 v0 v1 v2 v4 v5 1 μ _ _ _ _ _ _ _ hf hH hL hC hN (hl.sub [0, 1, 2, 3, 4] rfl)
def fX11_isAnswer_91 (q53 : Nat → Int32 → Int32 → Int32 → Int32 → Int32 → vg_M → vg_R Int32) (v0 : Nat) (v1 : Int32) (v2 : Int32) (v3 : Int32) (v5 : Int32) (k0 : Int32) (μ : vg_M) : vg_R Int32 :=
  q53 v0 v1 v2 v3 k0 (v5 + 1) μ
set_option maxHeartbeats 4000000 in
set_option maxRecDepth 100000 in
theorem wX11_isAnswer_91 {p : Program} {l : Launch} {e : Env} {R : Room} {s : State} {m : MethodId} {args : Array Value} {below : List Frame} {meth : Method} {c : Code} {D : va_G} {cy : Nat → ClassId} {H0 : Heap} {C0 N0 : Nat} {r : Int32} {μ' : vg_M} (Z : vg_Z D cy H0 p s m args c cX11_isAnswer RX11 meth 6 (some .boolean) R 18 C0 N0 "isAnswer") {q53 : Nat → Int32 → Int32 → Int32 → Int32 → Int32 → vg_M → vg_R Int32} (hk53 : ∀ (v0 : Nat) (v1 : Int32) (v2 : Int32) (v3 : Int32) (v4 : Int32) (v5 : Int32) (μ : vg_M), vg_S p l e R s m args below meth c D cy H0 C0 N0 6 (MQ below (vg_Qc D cy H0 μ' (some (.int r))) args s C0 N0 (vg_fr H0)) r μ' (q53 v0 v1 v2 v3 v4 v5 μ) μ [(0, .ref v0), (1, .int v1), (2, .int v2), (3, .int v3), (4, .int v4), (5, .int v5)] [] 53) (v0 : Nat) (v1 : Int32) (v2 : Int32) (v3 : Int32) (v5 : Int32) (k0 : Int32) (μ : vg_M) : vg_S p l e R s m args below meth c D cy H0 C0 N0 6 (MQ below (vg_Qc D cy H0 μ' (some (.int r))) args s C0 N0 (vg_fr H0)) r μ' (fX11_isAnswer_91 q53 v0 v1 v2 v3 v5 k0 μ) μ [(0, .ref v0), (1, .int v1), (2, .int v2), (3, .int v3), (5, .int v5)] [.int k0] 91 := by
  intro cn nn H locs cells slots ls hf hH hL hC hN hl
  obtain ⟨X, hml, hr, hlk, hfr, hlo, hRc, hRs, hnm⟩ := id Z
  have hx := X.1
  have hb := X.2.1
  delta fX11_isAnswer_91 at hf
  refine vg_istore (lv' := [(4, .int k0), (0, .ref v0), (1, .int v1), (2, .int v2), (3, .int v3), (5, .int v5)]) hx hb dX11_isAnswer_91 hl (by decide) rfl (fun ls hl => ?_)
  refine vg_iinc (v := v5 + 1) (lv' := [(5, .int (v5 + 1)), (4, .int k0), (0, .ref v0), (1, .int v1), (2, .int v2), (3, .int v3)]) hx hb dX11_isAnswer_93 hl (k := 5) rfl rfl (by decide) rfl (fun ls hl => ?_)
  refine lv_goto (tgt := 53) hx hb dX11_isAnswer_96 (by decide) ?_
  exact hk53 v0 v1 v2 v3 k0 (v5 + 1) μ _ _ _ _ _ _ _ hf hH hL hC hN (hl.sub [2, 3, 4, 5, 1, 0] rfl)
def fX11_isAnswer_86 (q53 : Nat → Int32 → Int32 → Int32 → Int32 → Int32 → vg_M → vg_R Int32) (v0 : Nat) (v1 : Int32) (v2 : Int32) (v3 : Int32) (v5 : Int32) (μ : vg_M) : vg_R Int32 :=
  fX11_isAnswer_91 q53 v0 v1 v2 v3 v5 1 μ
set_option maxHeartbeats 4000000 in
set_option maxRecDepth 100000 in
theorem wX11_isAnswer_86 {p : Program} {l : Launch} {e : Env} {R : Room} {s : State} {m : MethodId} {args : Array Value} {below : List Frame} {meth : Method} {c : Code} {D : va_G} {cy : Nat → ClassId} {H0 : Heap} {C0 N0 : Nat} {r : Int32} {μ' : vg_M} (Z : vg_Z D cy H0 p s m args c cX11_isAnswer RX11 meth 6 (some .boolean) R 18 C0 N0 "isAnswer") {q53 : Nat → Int32 → Int32 → Int32 → Int32 → Int32 → vg_M → vg_R Int32} (hk53 : ∀ (v0 : Nat) (v1 : Int32) (v2 : Int32) (v3 : Int32) (v4 : Int32) (v5 : Int32) (μ : vg_M), vg_S p l e R s m args below meth c D cy H0 C0 N0 6 (MQ below (vg_Qc D cy H0 μ' (some (.int r))) args s C0 N0 (vg_fr H0)) r μ' (q53 v0 v1 v2 v3 v4 v5 μ) μ [(0, .ref v0), (1, .int v1), (2, .int v2), (3, .int v3), (4, .int v4), (5, .int v5)] [] 53) (v0 : Nat) (v1 : Int32) (v2 : Int32) (v3 : Int32) (v5 : Int32) (μ : vg_M) : vg_S p l e R s m args below meth c D cy H0 C0 N0 6 (MQ below (vg_Qc D cy H0 μ' (some (.int r))) args s C0 N0 (vg_fr H0)) r μ' (fX11_isAnswer_86 q53 v0 v1 v2 v3 v5 μ) μ [(0, .ref v0), (1, .int v1), (2, .int v2), (3, .int v3), (5, .int v5)] [] 86 := by
  intro cn nn H locs cells slots ls hf hH hL hC hN hl
  obtain ⟨X, hml, hr, hlk, hfr, hlo, hRc, hRs, hnm⟩ := id Z
  have hx := X.1
  have hb := X.2.1
  delta fX11_isAnswer_86 at hf
  refine lv_iconst (v := 1) hx hb dX11_isAnswer_86 (by decide) ?_
  refine lv_goto (tgt := 91) hx hb dX11_isAnswer_87 (by decide) ?_
  exact wX11_isAnswer_91 Z hk53 v0 v1 v2 v3 v5 1 μ _ _ _ _ _ _ _ hf hH hL hC hN (hl.sub [0, 1, 2, 3, 4] rfl)
def fX11_isAnswer_113  (k0 : Int32) (μ : vg_M) : vg_R Int32 :=
  vg_o (vg_z .boolean k0) fun z => vg_ret z μ
set_option maxHeartbeats 4000000 in
set_option maxRecDepth 100000 in
theorem wX11_isAnswer_113 {p : Program} {l : Launch} {e : Env} {R : Room} {s : State} {m : MethodId} {args : Array Value} {below : List Frame} {meth : Method} {c : Code} {D : va_G} {cy : Nat → ClassId} {H0 : Heap} {C0 N0 : Nat} {r : Int32} {μ' : vg_M} (Z : vg_Z D cy H0 p s m args c cX11_isAnswer RX11 meth 6 (some .boolean) R 18 C0 N0 "isAnswer")   (k0 : Int32) (μ : vg_M) : vg_S p l e R s m args below meth c D cy H0 C0 N0 6 (MQ below (vg_Qc D cy H0 μ' (some (.int r))) args s C0 N0 (vg_fr H0)) r μ' (fX11_isAnswer_113  k0 μ) μ [] [.int k0] 113 := by
  intro cn nn H locs cells slots ls hf hH hL hC hN hl
  obtain ⟨X, hml, hr, hlk, hfr, hlo, hRc, hRs, hnm⟩ := id Z
  have hx := X.1
  have hb := X.2.1
  delta fX11_isAnswer_113 at hf
  exact vg_retz X (by simp) hr hlk hH hL dX11_isAnswer_113 hf hC hN
def fX11_isAnswer_112   (μ : vg_M) : vg_R Int32 :=
  fX11_isAnswer_113  0 μ
set_option maxHeartbeats 4000000 in
set_option maxRecDepth 100000 in
theorem wX11_isAnswer_112 {p : Program} {l : Launch} {e : Env} {R : Room} {s : State} {m : MethodId} {args : Array Value} {below : List Frame} {meth : Method} {c : Code} {D : va_G} {cy : Nat → ClassId} {H0 : Heap} {C0 N0 : Nat} {r : Int32} {μ' : vg_M} (Z : vg_Z D cy H0 p s m args c cX11_isAnswer RX11 meth 6 (some .boolean) R 18 C0 N0 "isAnswer")    (μ : vg_M) : vg_S p l e R s m args below meth c D cy H0 C0 N0 6 (MQ below (vg_Qc D cy H0 μ' (some (.int r))) args s C0 N0 (vg_fr H0)) r μ' (fX11_isAnswer_112   μ) μ [] [] 112 := by
  intro cn nn H locs cells slots ls hf hH hL hC hN hl
  obtain ⟨X, hml, hr, hlk, hfr, hlo, hRc, hRs, hnm⟩ := id Z
  have hx := X.1
  have hb := X.2.1
  delta fX11_isAnswer_112 at hf
  refine lv_iconst (v := 0) hx hb dX11_isAnswer_112 (by decide) ?_
  exact wX11_isAnswer_113 Z  0 μ _ _ _ _ _ _ _ hf hH hL hC hN (hl.sub [] rfl)
def fX11_isAnswer_53  : Nat → Nat → Int32 → Int32 → Int32 → Int32 → Int32 → vg_M → vg_R Int32
  | 0, _, _, _, _, _, _, _ => none
  | n + 1, v0, v1, v2, v3, v4, v5, μ =>
    vg_o (vg_gR μ v0 14 18) fun x6 =>
    vg_o x6 fun a7 =>
    vg_o (vg_aI μ a7 2 v1) fun x8 =>
    if x8 ≤ v5 then (
     if v3 = 0 then (
      fX11_isAnswer_112   μ
      ) else (
      if v4 = 0 then (
       fX11_isAnswer_113  1 μ
       ) else (
       fX11_isAnswer_112   μ
       )
      )
     ) else (
     if v4 = 0 then (
      vg_cv 14 v0 μ (fX11_fits v0 (((8 * v1) + 4) + v5) v2 μ) fun x9 μ10 =>
      if x9 = 0 then (
       fX11_isAnswer_91 (fX11_isAnswer_53  n) v0 v1 v2 v3 v5 0 μ10
       ) else (
       fX11_isAnswer_86 (fX11_isAnswer_53  n) v0 v1 v2 v3 v5 μ10
       )
      ) else (
      fX11_isAnswer_86 (fX11_isAnswer_53  n) v0 v1 v2 v3 v5 μ
      )
     )
set_option maxHeartbeats 4000000 in
set_option maxRecDepth 100000 in
theorem wX11_isAnswer_53 {p : Program} {l : Launch} {e : Env} {R : Room} {s : State} {m : MethodId} {args : Array Value} {below : List Frame} {meth : Method} {c : Code} {D : va_G} {cy : Nat → ClassId} {H0 : Heap} {C0 N0 : Nat} {r : Int32} {μ' : vg_M} (Z : vg_Z D cy H0 p s m args c cX11_isAnswer RX11 meth 6 (some .boolean) R 18 C0 N0 "isAnswer")   : ∀ (n : Nat) (v0 : Nat) (v1 : Int32) (v2 : Int32) (v3 : Int32) (v4 : Int32) (v5 : Int32) (μ : vg_M), vg_S p l e R s m args below meth c D cy H0 C0 N0 6 (MQ below (vg_Qc D cy H0 μ' (some (.int r))) args s C0 N0 (vg_fr H0)) r μ' (fX11_isAnswer_53  n v0 v1 v2 v3 v4 v5 μ) μ [(0, .ref v0), (1, .int v1), (2, .int v2), (3, .int v3), (4, .int v4), (5, .int v5)] [] 53 := by
  intro n
  induction n with
  | zero =>
    intro v0 v1 v2 v3 v4 v5 μ cn nn H locs cells slots ls hf
    simp [fX11_isAnswer_53] at hf
  | succ n hk53 =>
    intro v0 v1 v2 v3 v4 v5 μ
    intro cn nn H locs cells slots ls hf hH hL hC hN hl
    obtain ⟨X, hml, hr, hlk, hfr, hlo, hRc, hRs, hnm⟩ := id Z
    have hx := X.1
    have hb := X.2.1
    rw [fX11_isAnswer_53] at hf
    refine lv_iload hx hb dX11_isAnswer_53 (lv_at hl.1 5 rfl) ?_
    refine lv_aload_n hx hb dX11_isAnswer_55 rfl (lv_at hl.1 0 rfl) ?_
    refine vg_getR X hH fF_X11_48 dX11_isAnswer_56 hf (fun x6 hf => ?_)
    refine lv_iload_n hx hb dX11_isAnswer_59 rfl (lv_at hl.1 1 rfl) ?_
    obtain ⟨a7, h9, hg⟩ := vg_o_inv hf
    clear hf
    subst h9
    have hf := hg
    clear hg
    refine vg_iald X hH dX11_isAnswer_60 hf (fun x8 hf => ?_)
    refine lv_icmp_ge (tgt := 99) hx hb dX11_isAnswer_61 (by decide) (fun h8 => ?_) (fun h8 => ?_)
    · have hf := vg_ip h8 hf
      refine lv_iload_n hx hb dX11_isAnswer_99 rfl (lv_at hl.1 3 rfl) ?_
      refine lv_if_eq (tgt := 112) hx hb dX11_isAnswer_100 (by decide) (fun h8 => ?_) (fun h8 => ?_)
      · have hf := vg_ip h8 hf
        exact wX11_isAnswer_112 Z   μ _ _ _ _ _ _ _ hf hH hL hC hN (hl.sub [] rfl)
      · have hf := vg_if h8 hf
        refine lv_iload hx hb dX11_isAnswer_103 (lv_at hl.1 4 rfl) ?_
        refine lv_if_ne (tgt := 112) hx hb dX11_isAnswer_105 (by decide) (fun h8 => ?_) (fun h8 => ?_)
        · have hf := vg_if h8 hf
          exact wX11_isAnswer_112 Z   μ _ _ _ _ _ _ _ hf hH hL hC hN (hl.sub [] rfl)
        · have hf := vg_ip h8 hf
          refine lv_iconst (v := 1) hx hb dX11_isAnswer_108 (by decide) ?_
          refine lv_goto (tgt := 113) hx hb dX11_isAnswer_109 (by decide) ?_
          exact wX11_isAnswer_113 Z  1 μ _ _ _ _ _ _ _ hf hH hL hC hN (hl.sub [] rfl)
    · have hf := vg_if h8 hf
      refine lv_iload hx hb dX11_isAnswer_64 (lv_at hl.1 4 rfl) ?_
      refine lv_if_ne (tgt := 86) hx hb dX11_isAnswer_66 (by decide) (fun h8 => ?_) (fun h8 => ?_)
      · have hf := vg_if h8 hf
        exact wX11_isAnswer_86 Z hk53 v0 v1 v2 v3 v5 μ _ _ _ _ _ _ _ hf hH hL hC hN (hl.sub [0, 1, 2, 3, 5] rfl)
      · have hf := vg_ip h8 hf
        refine lv_aload_n hx hb dX11_isAnswer_69 rfl (lv_at hl.1 0 rfl) ?_
        refine lv_bipush (v := 8) hx hb dX11_isAnswer_70 (by decide) ?_
        refine lv_iload_n hx hb dX11_isAnswer_72 rfl (lv_at hl.1 1 rfl) ?_
        refine lv_imul hx hb dX11_isAnswer_73 ?_
        refine lv_iconst (v := 4) hx hb dX11_isAnswer_74 (by decide) ?_
        refine lv_iadd hx hb dX11_isAnswer_75 ?_
        refine lv_iload hx hb dX11_isAnswer_76 (lv_at hl.1 5 rfl) ?_
        refine lv_iadd hx hb dX11_isAnswer_78 ?_
        refine lv_iload_n hx hb dX11_isAnswer_79 rfl (lv_at hl.1 2 rfl) ?_
        refine vg_callVi (ci := 14) X hml hl hH hL fCV_X11_210 rfl [.int (((8 * v1) + 4) + v5), .int v2] rfl rfl (Nat.le_of_ble_eq_true rfl) dX11_isAnswer_80 hf hC hN hRc hRs hfr hlo (by decide) (fun _ _ _ _ h => cX11_fits_met h) (fun x9 μ10 cn nn H locs cells slots hf hC hN hH hL => ?_)
        refine lv_if_eq (tgt := 90) hx hb dX11_isAnswer_83 (by decide) (fun h8 => ?_) (fun h8 => ?_)
        · have hf := vg_ip h8 hf
          refine lv_iconst (v := 0) hx hb dX11_isAnswer_90 (by decide) ?_
          exact wX11_isAnswer_91 Z hk53 v0 v1 v2 v3 v5 0 μ10 _ _ _ _ _ _ _ hf hH hL hC hN (hl.sub [0, 1, 2, 3, 5] rfl)
        · have hf := vg_if h8 hf
          exact wX11_isAnswer_86 Z hk53 v0 v1 v2 v3 v5 μ10 _ _ _ _ _ _ _ hf hH hL hC hN (hl.sub [0, 1, 2, 3, 5] rfl)
def fX11_isAnswer_8  : Nat → Nat → Int32 → Int32 → Int32 → Int32 → Int32 → vg_M → vg_R Int32
  | 0, _, _, _, _, _, _, _ => none
  | n + 1, v0, v1, v2, v3, v4, v5, μ =>
    vg_o (vg_gR μ v0 14 17) fun x1 =>
    vg_o x1 fun a2 =>
    vg_o (vg_aI μ a2 2 v1) fun x3 =>
    if x3 ≤ v5 then (
     fX11_isAnswer_53  vg_fuel v0 v1 v2 v3 v4 0 μ
     ) else (
     if v3 = 0 then (
      vg_cv 14 v0 μ (fX11_fits v0 ((8 * v1) + v5) v2 μ) fun x4 μ5 =>
      if x4 = 0 then (
       fX11_isAnswer_43 (fX11_isAnswer_8  n) v0 v1 v2 v4 v5 0 μ5
       ) else (
       fX11_isAnswer_38 (fX11_isAnswer_8  n) v0 v1 v2 v4 v5 μ5
       )
      ) else (
      fX11_isAnswer_38 (fX11_isAnswer_8  n) v0 v1 v2 v4 v5 μ
      )
     )
set_option maxHeartbeats 4000000 in
set_option maxRecDepth 100000 in
theorem wX11_isAnswer_8 {p : Program} {l : Launch} {e : Env} {R : Room} {s : State} {m : MethodId} {args : Array Value} {below : List Frame} {meth : Method} {c : Code} {D : va_G} {cy : Nat → ClassId} {H0 : Heap} {C0 N0 : Nat} {r : Int32} {μ' : vg_M} (Z : vg_Z D cy H0 p s m args c cX11_isAnswer RX11 meth 6 (some .boolean) R 18 C0 N0 "isAnswer")   : ∀ (n : Nat) (v0 : Nat) (v1 : Int32) (v2 : Int32) (v3 : Int32) (v4 : Int32) (v5 : Int32) (μ : vg_M), vg_S p l e R s m args below meth c D cy H0 C0 N0 6 (MQ below (vg_Qc D cy H0 μ' (some (.int r))) args s C0 N0 (vg_fr H0)) r μ' (fX11_isAnswer_8  n v0 v1 v2 v3 v4 v5 μ) μ [(0, .ref v0), (1, .int v1), (2, .int v2), (3, .int v3), (4, .int v4), (5, .int v5)] [] 8 := by
  intro n
  induction n with
  | zero =>
    intro v0 v1 v2 v3 v4 v5 μ cn nn H locs cells slots ls hf
    simp [fX11_isAnswer_8] at hf
  | succ n hk8 =>
    intro v0 v1 v2 v3 v4 v5 μ
    intro cn nn H locs cells slots ls hf hH hL hC hN hl
    obtain ⟨X, hml, hr, hlk, hfr, hlo, hRc, hRs, hnm⟩ := id Z
    have hx := X.1
    have hb := X.2.1
    rw [fX11_isAnswer_8] at hf
    refine lv_iload hx hb dX11_isAnswer_8 (lv_at hl.1 5 rfl) ?_
    refine lv_aload_n hx hb dX11_isAnswer_10 rfl (lv_at hl.1 0 rfl) ?_
    refine vg_getR X hH fF_X11_45 dX11_isAnswer_11 hf (fun x1 hf => ?_)
    refine lv_iload_n hx hb dX11_isAnswer_14 rfl (lv_at hl.1 1 rfl) ?_
    obtain ⟨a2, h9, hg⟩ := vg_o_inv hf
    clear hf
    subst h9
    have hf := hg
    clear hg
    refine vg_iald X hH dX11_isAnswer_15 hf (fun x3 hf => ?_)
    refine lv_icmp_ge (tgt := 50) hx hb dX11_isAnswer_16 (by decide) (fun h8 => ?_) (fun h8 => ?_)
    · have hf := vg_ip h8 hf
      refine lv_iconst (v := 0) hx hb dX11_isAnswer_50 (by decide) ?_
      refine vg_istore (lv' := [(5, .int 0), (0, .ref v0), (1, .int v1), (2, .int v2), (3, .int v3), (4, .int v4)]) hx hb dX11_isAnswer_51 hl (by decide) rfl (fun ls hl => ?_)
      exact wX11_isAnswer_53 Z  vg_fuel v0 v1 v2 v3 v4 0 μ _ _ _ _ _ _ _ hf hH hL hC hN (hl.sub [1, 2, 3, 4, 5, 0] rfl)
    · have hf := vg_if h8 hf
      refine lv_iload_n hx hb dX11_isAnswer_19 rfl (lv_at hl.1 3 rfl) ?_
      refine lv_if_ne (tgt := 38) hx hb dX11_isAnswer_20 (by decide) (fun h8 => ?_) (fun h8 => ?_)
      · have hf := vg_if h8 hf
        exact wX11_isAnswer_38 Z hk8 v0 v1 v2 v4 v5 μ _ _ _ _ _ _ _ hf hH hL hC hN (hl.sub [0, 1, 2, 4, 5] rfl)
      · have hf := vg_ip h8 hf
        refine lv_aload_n hx hb dX11_isAnswer_23 rfl (lv_at hl.1 0 rfl) ?_
        refine lv_bipush (v := 8) hx hb dX11_isAnswer_24 (by decide) ?_
        refine lv_iload_n hx hb dX11_isAnswer_26 rfl (lv_at hl.1 1 rfl) ?_
        refine lv_imul hx hb dX11_isAnswer_27 ?_
        refine lv_iload hx hb dX11_isAnswer_28 (lv_at hl.1 5 rfl) ?_
        refine lv_iadd hx hb dX11_isAnswer_30 ?_
        refine lv_iload_n hx hb dX11_isAnswer_31 rfl (lv_at hl.1 2 rfl) ?_
        refine vg_callVi (ci := 14) X hml hl hH hL fCV_X11_210 rfl [.int ((8 * v1) + v5), .int v2] rfl rfl (Nat.le_of_ble_eq_true rfl) dX11_isAnswer_32 hf hC hN hRc hRs hfr hlo (by decide) (fun _ _ _ _ h => cX11_fits_met h) (fun x4 μ5 cn nn H locs cells slots hf hC hN hH hL => ?_)
        refine lv_if_eq (tgt := 42) hx hb dX11_isAnswer_35 (by decide) (fun h8 => ?_) (fun h8 => ?_)
        · have hf := vg_ip h8 hf
          refine lv_iconst (v := 0) hx hb dX11_isAnswer_42 (by decide) ?_
          exact wX11_isAnswer_43 Z hk8 v0 v1 v2 v4 v5 0 μ5 _ _ _ _ _ _ _ hf hH hL hC hN (hl.sub [0, 1, 2, 4, 5] rfl)
        · have hf := vg_if h8 hf
          exact wX11_isAnswer_38 Z hk8 v0 v1 v2 v4 v5 μ5 _ _ _ _ _ _ _ hf hH hL hC hN (hl.sub [0, 1, 2, 4, 5] rfl)
def fX11_isAnswer (v0 : Nat) (v1 : Int32) (v2 : Int32) (μ : vg_M) : vg_R Int32 :=
  fX11_isAnswer_8  vg_fuel v0 v1 v2 0 0 0 μ
set_option maxHeartbeats 4000000 in
set_option maxRecDepth 100000 in
theorem cX11_isAnswer_met {l : Launch} {D : va_G} {cy : Nat → ClassId} {H0 : Heap} {r : Int32} {μ μ' : vg_M} {cn nn : Nat} {v0 : Nat} {v1 : Int32} {v2 : Int32} (hf : fX11_isAnswer v0 v1 v2 μ = some (r, μ', cn, nn)) : vg_Met l D cy H0 yX11_isAnswer cX11_isAnswer 6 (some .boolean) 18 μ [.ref v0, .int v1, .int v2] (some (.int r)) μ' cn nn := by
  refine vg_start (by decide +kernel) (List.forall_mem_cons.mpr ⟨rfl, (List.forall_mem_cons.mpr ⟨rfl, (List.forall_mem_cons.mpr ⟨rfl, (fun _ h => nomatch h)⟩)⟩)⟩) (Nat.le_of_ble_eq_true rfl) ?_
  intro p e s m below meth c ls X hml hr hlk hnm hH hl
  have hl : vg_l ls 6 [(0, .ref v0), (1, .int v1), (2, .int v2)] := hl
  have Z : vg_Z D cy H0 p s m _ c cX11_isAnswer RX11 meth 6 (some .boolean) (vg_rm 18 cn nn) 18 cn nn _ := ⟨X, hml, hr, hlk, Nat.le_refl _, Nat.le_refl _, Nat.le_refl _, Nat.le_refl _, hnm⟩
  obtain ⟨-, -, -, -, hfr, hlo, hRc, hRs, -⟩ := id Z
  have hx := X.1
  have hb := X.2.1
  have hL : ∀ z ∈ ([] : List Loc), H0.size ≤ z.base := fun _ h => nomatch h
  have hC : 0 + cn = cn := Nat.zero_add _
  have hN : 0 + nn = nn := Nat.zero_add _
  delta fX11_isAnswer at hf
  refine lv_iconst (v := 0) hx hb dX11_isAnswer_0 (by decide) ?_
  refine vg_istore_n (lv' := [(3, .int 0), (0, .ref v0), (1, .int v1), (2, .int v2)]) hx hb dX11_isAnswer_1 rfl hl (by decide) rfl (fun ls hl => ?_)
  refine lv_iconst (v := 0) hx hb dX11_isAnswer_2 (by decide) ?_
  refine vg_istore (lv' := [(4, .int 0), (3, .int 0), (0, .ref v0), (1, .int v1), (2, .int v2)]) hx hb dX11_isAnswer_3 hl (by decide) rfl (fun ls hl => ?_)
  refine lv_iconst (v := 0) hx hb dX11_isAnswer_5 (by decide) ?_
  refine vg_istore (lv' := [(5, .int 0), (4, .int 0), (3, .int 0), (0, .ref v0), (1, .int v1), (2, .int v2)]) hx hb dX11_isAnswer_6 hl (by decide) rfl (fun ls hl => ?_)
  exact wX11_isAnswer_8 Z  vg_fuel v0 v1 v2 0 0 0 μ _ _ _ _ _ _ _ hf hH hL hC hN (hl.sub [3, 4, 5, 2, 1, 0] rfl)
def fX11_counts_49  (k0 : Int32) (μ : vg_M) : vg_R Int32 :=
  vg_o (vg_z .boolean k0) fun z => vg_ret z μ
set_option maxHeartbeats 4000000 in
set_option maxRecDepth 100000 in
theorem wX11_counts_49 {p : Program} {l : Launch} {e : Env} {R : Room} {s : State} {m : MethodId} {args : Array Value} {below : List Frame} {meth : Method} {c : Code} {D : va_G} {cy : Nat → ClassId} {H0 : Heap} {C0 N0 : Nat} {r : Int32} {μ' : vg_M} (Z : vg_Z D cy H0 p s m args c cX11_counts RX11 meth 3 (some .boolean) R 12 C0 N0 "counts")   (k0 : Int32) (μ : vg_M) : vg_S p l e R s m args below meth c D cy H0 C0 N0 3 (MQ below (vg_Qc D cy H0 μ' (some (.int r))) args s C0 N0 (vg_fr H0)) r μ' (fX11_counts_49  k0 μ) μ [] [.int k0] 49 := by
  intro cn nn H locs cells slots ls hf hH hL hC hN hl
  obtain ⟨X, hml, hr, hlk, hfr, hlo, hRc, hRs, hnm⟩ := id Z
  have hx := X.1
  have hb := X.2.1
  delta fX11_counts_49 at hf
  exact vg_retz X (by simp) hr hlk hH hL dX11_counts_49 hf hC hN
def fX11_counts_44   (μ : vg_M) : vg_R Int32 :=
  fX11_counts_49  1 μ
set_option maxHeartbeats 4000000 in
set_option maxRecDepth 100000 in
theorem wX11_counts_44 {p : Program} {l : Launch} {e : Env} {R : Room} {s : State} {m : MethodId} {args : Array Value} {below : List Frame} {meth : Method} {c : Code} {D : va_G} {cy : Nat → ClassId} {H0 : Heap} {C0 N0 : Nat} {r : Int32} {μ' : vg_M} (Z : vg_Z D cy H0 p s m args c cX11_counts RX11 meth 3 (some .boolean) R 12 C0 N0 "counts")    (μ : vg_M) : vg_S p l e R s m args below meth c D cy H0 C0 N0 3 (MQ below (vg_Qc D cy H0 μ' (some (.int r))) args s C0 N0 (vg_fr H0)) r μ' (fX11_counts_44   μ) μ [] [] 44 := by
  intro cn nn H locs cells slots ls hf hH hL hC hN hl
  obtain ⟨X, hml, hr, hlk, hfr, hlo, hRc, hRs, hnm⟩ := id Z
  have hx := X.1
  have hb := X.2.1
  delta fX11_counts_44 at hf
  refine lv_iconst (v := 1) hx hb dX11_counts_44 (by decide) ?_
  refine lv_goto (tgt := 49) hx hb dX11_counts_45 (by decide) ?_
  exact wX11_counts_49 Z  1 μ _ _ _ _ _ _ _ hf hH hL hC hN (hl.sub [] rfl)
def fX11_counts (v0 : Nat) (v1 : Int32) (v2 : Int32) (μ : vg_M) : vg_R Int32 :=
  vg_o (vg_gR μ v0 14 23) fun x1 =>
  vg_o x1 fun a2 =>
  vg_o (vg_aI μ a2 3 v1) fun x3 =>
  if x3 = 0 then (
   vg_o (vg_gR μ v0 14 24) fun x4 =>
   vg_o x4 fun a5 =>
   vg_o (vg_aI μ a5 2 ((61 * v1) + v2)) fun x6 =>
   vg_o (vg_gR μ v0 14 10) fun x7 =>
   vg_o x7 fun a8 =>
   vg_o (vg_aI μ a8 2 v2) fun x9 =>
   if x6 = x9 then (
    vg_o (vg_gR μ v0 14 9) fun x10 =>
    vg_o x10 fun a11 =>
    vg_o (vg_aI μ a11 2 v2) fun x12 =>
    vg_o (vg_gR μ v0 14 19) fun x13 =>
    vg_o x13 fun a14 =>
    vg_o (vg_aI μ a14 2 v1) fun x15 =>
    if x12 ≤ x15 then (
     fX11_counts_49  0 μ
     ) else (
     fX11_counts_44   μ
     )
    ) else (
    fX11_counts_44   μ
    )
   ) else (
   fX11_counts_44   μ
   )
set_option maxHeartbeats 4000000 in
set_option maxRecDepth 100000 in
theorem cX11_counts_met {l : Launch} {D : va_G} {cy : Nat → ClassId} {H0 : Heap} {r : Int32} {μ μ' : vg_M} {cn nn : Nat} {v0 : Nat} {v1 : Int32} {v2 : Int32} (hf : fX11_counts v0 v1 v2 μ = some (r, μ', cn, nn)) : vg_Met l D cy H0 yX11_counts cX11_counts 3 (some .boolean) 12 μ [.ref v0, .int v1, .int v2] (some (.int r)) μ' cn nn := by
  refine vg_start (by decide +kernel) (List.forall_mem_cons.mpr ⟨rfl, (List.forall_mem_cons.mpr ⟨rfl, (List.forall_mem_cons.mpr ⟨rfl, (fun _ h => nomatch h)⟩)⟩)⟩) (Nat.le_of_ble_eq_true rfl) ?_
  intro p e s m below meth c ls X hml hr hlk hnm hH hl
  have hl : vg_l ls 3 [(0, .ref v0), (1, .int v1), (2, .int v2)] := hl
  have Z : vg_Z D cy H0 p s m _ c cX11_counts RX11 meth 3 (some .boolean) (vg_rm 12 cn nn) 12 cn nn _ := ⟨X, hml, hr, hlk, Nat.le_refl _, Nat.le_refl _, Nat.le_refl _, Nat.le_refl _, hnm⟩
  obtain ⟨-, -, -, -, hfr, hlo, hRc, hRs, -⟩ := id Z
  have hx := X.1
  have hb := X.2.1
  have hL : ∀ z ∈ ([] : List Loc), H0.size ≤ z.base := fun _ h => nomatch h
  have hC : 0 + cn = cn := Nat.zero_add _
  have hN : 0 + nn = nn := Nat.zero_add _
  delta fX11_counts at hf
  refine lv_aload_n hx hb dX11_counts_0 rfl (lv_at hl.1 0 rfl) ?_
  refine vg_getR X hH fF_X11_63 dX11_counts_1 hf (fun x1 hf => ?_)
  refine lv_iload_n hx hb dX11_counts_4 rfl (lv_at hl.1 1 rfl) ?_
  obtain ⟨a2, h9, hg⟩ := vg_o_inv hf
  clear hf
  subst h9
  have hf := hg
  clear hg
  refine vg_zald X hH dX11_counts_5 hf (fun x3 hf => ?_)
  refine lv_if_ne (tgt := 44) hx hb dX11_counts_6 (by decide) (fun h8 => ?_) (fun h8 => ?_)
  · have hf := vg_if h8 hf
    exact wX11_counts_44 Z   μ _ _ _ _ _ _ _ hf hH hL hC hN (hl.sub [] rfl)
  · have hf := vg_ip h8 hf
    refine lv_aload_n hx hb dX11_counts_9 rfl (lv_at hl.1 0 rfl) ?_
    refine vg_getR X hH fF_X11_66 dX11_counts_10 hf (fun x4 hf => ?_)
    refine lv_bipush (v := 61) hx hb dX11_counts_13 (by decide) ?_
    refine lv_iload_n hx hb dX11_counts_15 rfl (lv_at hl.1 1 rfl) ?_
    refine lv_imul hx hb dX11_counts_16 ?_
    refine lv_iload_n hx hb dX11_counts_17 rfl (lv_at hl.1 2 rfl) ?_
    refine lv_iadd hx hb dX11_counts_18 ?_
    obtain ⟨a5, h9, hg⟩ := vg_o_inv hf
    clear hf
    subst h9
    have hf := hg
    clear hg
    refine vg_iald X hH dX11_counts_19 hf (fun x6 hf => ?_)
    refine lv_aload_n hx hb dX11_counts_20 rfl (lv_at hl.1 0 rfl) ?_
    refine vg_getR X hH fF_X11_32 dX11_counts_21 hf (fun x7 hf => ?_)
    refine lv_iload_n hx hb dX11_counts_24 rfl (lv_at hl.1 2 rfl) ?_
    obtain ⟨a8, h9, hg⟩ := vg_o_inv hf
    clear hf
    subst h9
    have hf := hg
    clear hg
    refine vg_iald X hH dX11_counts_25 hf (fun x9 hf => ?_)
    refine lv_icmp_ne (tgt := 44) hx hb dX11_counts_26 (by decide) (fun h8 => ?_) (fun h8 => ?_)
    · have hf := vg_if h8 hf
      exact wX11_counts_44 Z   μ _ _ _ _ _ _ _ hf hH hL hC hN (hl.sub [] rfl)
    · have hf := vg_ip h8 hf
      refine lv_aload_n hx hb dX11_counts_29 rfl (lv_at hl.1 0 rfl) ?_
      refine vg_getR X hH fF_X11_29 dX11_counts_30 hf (fun x10 hf => ?_)
      refine lv_iload_n hx hb dX11_counts_33 rfl (lv_at hl.1 2 rfl) ?_
      obtain ⟨a11, h9, hg⟩ := vg_o_inv hf
      clear hf
      subst h9
      have hf := hg
      clear hg
      refine vg_iald X hH dX11_counts_34 hf (fun x12 hf => ?_)
      refine lv_aload_n hx hb dX11_counts_35 rfl (lv_at hl.1 0 rfl) ?_
      refine vg_getR X hH fF_X11_51 dX11_counts_36 hf (fun x13 hf => ?_)
      refine lv_iload_n hx hb dX11_counts_39 rfl (lv_at hl.1 1 rfl) ?_
      obtain ⟨a14, h9, hg⟩ := vg_o_inv hf
      clear hf
      subst h9
      have hf := hg
      clear hg
      refine vg_iald X hH dX11_counts_40 hf (fun x15 hf => ?_)
      refine lv_icmp_le (tgt := 48) hx hb dX11_counts_41 (by decide) (fun h8 => ?_) (fun h8 => ?_)
      · have hf := vg_ip h8 hf
        refine lv_iconst (v := 0) hx hb dX11_counts_48 (by decide) ?_
        exact wX11_counts_49 Z  0 μ _ _ _ _ _ _ _ hf hH hL hC hN (hl.sub [] rfl)
      · have hf := vg_if h8 hf
        exact wX11_counts_44 Z   μ _ _ _ _ _ _ _ hf hH hL hC hN (hl.sub [] rfl)
def fX11_isLooked_63 (q15 : Nat → Int32 → Int32 → Int32 → vg_M → vg_R Int32) (v0 : Nat) (v1 : Int32) (v3 : Int32) (k0 : Int32) (μ : vg_M) : vg_R Int32 :=
  q15 v0 v1 k0 (v3 + 1) μ
set_option maxHeartbeats 4000000 in
set_option maxRecDepth 100000 in
theorem wX11_isLooked_63 {p : Program} {l : Launch} {e : Env} {R : Room} {s : State} {m : MethodId} {args : Array Value} {below : List Frame} {meth : Method} {c : Code} {D : va_G} {cy : Nat → ClassId} {H0 : Heap} {C0 N0 : Nat} {r : Int32} {μ' : vg_M} (Z : vg_Z D cy H0 p s m args c cX11_isLooked RX11 meth 5 (some .boolean) R 17 C0 N0 "isLooked") {q15 : Nat → Int32 → Int32 → Int32 → vg_M → vg_R Int32} (hk15 : ∀ (v0 : Nat) (v1 : Int32) (v2 : Int32) (v3 : Int32) (μ : vg_M), vg_S p l e R s m args below meth c D cy H0 C0 N0 5 (MQ below (vg_Qc D cy H0 μ' (some (.int r))) args s C0 N0 (vg_fr H0)) r μ' (q15 v0 v1 v2 v3 μ) μ [(0, .ref v0), (1, .int v1), (2, .int v2), (3, .int v3)] [] 15) (v0 : Nat) (v1 : Int32) (v3 : Int32) (k0 : Int32) (μ : vg_M) : vg_S p l e R s m args below meth c D cy H0 C0 N0 5 (MQ below (vg_Qc D cy H0 μ' (some (.int r))) args s C0 N0 (vg_fr H0)) r μ' (fX11_isLooked_63 q15 v0 v1 v3 k0 μ) μ [(0, .ref v0), (1, .int v1), (3, .int v3)] [.int k0] 63 := by
  intro cn nn H locs cells slots ls hf hH hL hC hN hl
  obtain ⟨X, hml, hr, hlk, hfr, hlo, hRc, hRs, hnm⟩ := id Z
  have hx := X.1
  have hb := X.2.1
  delta fX11_isLooked_63 at hf
  refine vg_istore_n (lv' := [(2, .int k0), (0, .ref v0), (1, .int v1), (3, .int v3)]) hx hb dX11_isLooked_63 rfl hl (by decide) rfl (fun ls hl => ?_)
  refine vg_iinc (v := v3 + 1) (lv' := [(3, .int (v3 + 1)), (2, .int k0), (0, .ref v0), (1, .int v1)]) hx hb dX11_isLooked_64 hl (k := 3) rfl rfl (by decide) rfl (fun ls hl => ?_)
  refine lv_goto (tgt := 15) hx hb dX11_isLooked_67 (by decide) ?_
  exact hk15 v0 v1 k0 (v3 + 1) μ _ _ _ _ _ _ _ hf hH hL hC hN (hl.sub [2, 3, 1, 0] rfl)
def fX11_isLooked_58 (q15 : Nat → Int32 → Int32 → Int32 → vg_M → vg_R Int32) (v0 : Nat) (v1 : Int32) (v3 : Int32) (μ : vg_M) : vg_R Int32 :=
  fX11_isLooked_63 q15 v0 v1 v3 1 μ
set_option maxHeartbeats 4000000 in
set_option maxRecDepth 100000 in
theorem wX11_isLooked_58 {p : Program} {l : Launch} {e : Env} {R : Room} {s : State} {m : MethodId} {args : Array Value} {below : List Frame} {meth : Method} {c : Code} {D : va_G} {cy : Nat → ClassId} {H0 : Heap} {C0 N0 : Nat} {r : Int32} {μ' : vg_M} (Z : vg_Z D cy H0 p s m args c cX11_isLooked RX11 meth 5 (some .boolean) R 17 C0 N0 "isLooked") {q15 : Nat → Int32 → Int32 → Int32 → vg_M → vg_R Int32} (hk15 : ∀ (v0 : Nat) (v1 : Int32) (v2 : Int32) (v3 : Int32) (μ : vg_M), vg_S p l e R s m args below meth c D cy H0 C0 N0 5 (MQ below (vg_Qc D cy H0 μ' (some (.int r))) args s C0 N0 (vg_fr H0)) r μ' (q15 v0 v1 v2 v3 μ) μ [(0, .ref v0), (1, .int v1), (2, .int v2), (3, .int v3)] [] 15) (v0 : Nat) (v1 : Int32) (v3 : Int32) (μ : vg_M) : vg_S p l e R s m args below meth c D cy H0 C0 N0 5 (MQ below (vg_Qc D cy H0 μ' (some (.int r))) args s C0 N0 (vg_fr H0)) r μ' (fX11_isLooked_58 q15 v0 v1 v3 μ) μ [(0, .ref v0), (1, .int v1), (3, .int v3)] [] 58 := by
  intro cn nn H locs cells slots ls hf hH hL hC hN hl
  obtain ⟨X, hml, hr, hlk, hfr, hlo, hRc, hRs, hnm⟩ := id Z
  have hx := X.1
  have hb := X.2.1
  delta fX11_isLooked_58 at hf
  refine lv_iconst (v := 1) hx hb dX11_isLooked_58 (by decide) ?_
  refine lv_goto (tgt := 63) hx hb dX11_isLooked_59 (by decide) ?_
  exact wX11_isLooked_63 Z hk15 v0 v1 v3 1 μ _ _ _ _ _ _ _ hf hH hL hC hN (hl.sub [0, 1, 2] rfl)
def fX11_isLooked_15  : Nat → Nat → Int32 → Int32 → Int32 → vg_M → vg_R Int32
  | 0, _, _, _, _, _ => none
  | n + 1, v0, v1, v2, v3, μ =>
    vg_o (vg_gR μ v0 14 17) fun x1 =>
    vg_o x1 fun a2 =>
    vg_o (vg_aI μ a2 2 v1) fun x3 =>
    if x3 ≤ v3 then (
     vg_o (vg_z .boolean v2) fun z => vg_ret z μ
     ) else (
     if v2 = 0 then (
      vg_cv 14 v0 μ (fX11_bitsOf v0 ((8 * v1) + v3) ((-1)) μ) fun x4 μ5 =>
      vg_cv 14 v0 μ5 (fX11_pieces v0 ((8 * v1) + v3) μ5) fun x6 μ7 =>
      if (x4 &&& ((1 <<< (x6 &&& 31)) - 1)) = 0 then (
       fX11_isLooked_63 (fX11_isLooked_15  n) v0 v1 v3 0 μ7
       ) else (
       fX11_isLooked_58 (fX11_isLooked_15  n) v0 v1 v3 μ7
       )
      ) else (
      fX11_isLooked_58 (fX11_isLooked_15  n) v0 v1 v3 μ
      )
     )
set_option maxHeartbeats 4000000 in
set_option maxRecDepth 100000 in
theorem wX11_isLooked_15 {p : Program} {l : Launch} {e : Env} {R : Room} {s : State} {m : MethodId} {args : Array Value} {below : List Frame} {meth : Method} {c : Code} {D : va_G} {cy : Nat → ClassId} {H0 : Heap} {C0 N0 : Nat} {r : Int32} {μ' : vg_M} (Z : vg_Z D cy H0 p s m args c cX11_isLooked RX11 meth 5 (some .boolean) R 17 C0 N0 "isLooked")   : ∀ (n : Nat) (v0 : Nat) (v1 : Int32) (v2 : Int32) (v3 : Int32) (μ : vg_M), vg_S p l e R s m args below meth c D cy H0 C0 N0 5 (MQ below (vg_Qc D cy H0 μ' (some (.int r))) args s C0 N0 (vg_fr H0)) r μ' (fX11_isLooked_15  n v0 v1 v2 v3 μ) μ [(0, .ref v0), (1, .int v1), (2, .int v2), (3, .int v3)] [] 15 := by
  intro n
  induction n with
  | zero =>
    intro v0 v1 v2 v3 μ cn nn H locs cells slots ls hf
    simp [fX11_isLooked_15] at hf
  | succ n hk15 =>
    intro v0 v1 v2 v3 μ
    intro cn nn H locs cells slots ls hf hH hL hC hN hl
    obtain ⟨X, hml, hr, hlk, hfr, hlo, hRc, hRs, hnm⟩ := id Z
    have hx := X.1
    have hb := X.2.1
    rw [fX11_isLooked_15] at hf
    refine lv_iload_n hx hb dX11_isLooked_15 rfl (lv_at hl.1 3 rfl) ?_
    refine lv_aload_n hx hb dX11_isLooked_16 rfl (lv_at hl.1 0 rfl) ?_
    refine vg_getR X hH fF_X11_45 dX11_isLooked_17 hf (fun x1 hf => ?_)
    refine lv_iload_n hx hb dX11_isLooked_20 rfl (lv_at hl.1 1 rfl) ?_
    obtain ⟨a2, h9, hg⟩ := vg_o_inv hf
    clear hf
    subst h9
    have hf := hg
    clear hg
    refine vg_iald X hH dX11_isLooked_21 hf (fun x3 hf => ?_)
    refine lv_icmp_ge (tgt := 70) hx hb dX11_isLooked_22 (by decide) (fun h8 => ?_) (fun h8 => ?_)
    · have hf := vg_ip h8 hf
      refine lv_iload_n hx hb dX11_isLooked_70 rfl (lv_at hl.1 2 rfl) ?_
      exact vg_retz X (by simp) hr hlk hH hL dX11_isLooked_71 hf hC hN
    · have hf := vg_if h8 hf
      refine lv_bipush (v := 8) hx hb dX11_isLooked_25 (by decide) ?_
      refine lv_iload_n hx hb dX11_isLooked_27 rfl (lv_at hl.1 1 rfl) ?_
      refine lv_imul hx hb dX11_isLooked_28 ?_
      refine lv_iload_n hx hb dX11_isLooked_29 rfl (lv_at hl.1 3 rfl) ?_
      refine lv_iadd hx hb dX11_isLooked_30 ?_
      refine vg_istore (lv' := [(4, .int ((8 * v1) + v3)), (0, .ref v0), (1, .int v1), (2, .int v2), (3, .int v3)]) hx hb dX11_isLooked_31 hl (by decide) rfl (fun ls hl => ?_)
      refine lv_iload_n hx hb dX11_isLooked_33 rfl (lv_at hl.1 3 rfl) ?_
      refine lv_if_ne (tgt := 58) hx hb dX11_isLooked_34 (by decide) (fun h8 => ?_) (fun h8 => ?_)
      · have hf := vg_if h8 hf
        exact wX11_isLooked_58 Z hk15 v0 v1 v3 μ _ _ _ _ _ _ _ hf hH hL hC hN (hl.sub [1, 2, 4] rfl)
      · have hf := vg_ip h8 hf
        refine lv_aload_n hx hb dX11_isLooked_37 rfl (lv_at hl.1 1 rfl) ?_
        refine lv_iload hx hb dX11_isLooked_38 (lv_at hl.1 0 rfl) ?_
        refine lv_iconst (v := (-1)) hx hb dX11_isLooked_40 (by decide) ?_
        refine vg_callVi (ci := 14) X hml hl hH hL fCV_X11_207 rfl [.int ((8 * v1) + v3), .int ((-1))] rfl rfl (Nat.le_of_ble_eq_true rfl) dX11_isLooked_41 hf hC hN hRc hRs hfr hlo (by decide) (fun _ _ _ _ h => cX11_bitsOf_met h) (fun x4 μ5 cn nn H locs cells slots hf hC hN hH hL => ?_)
        refine lv_iconst (v := 1) hx hb dX11_isLooked_44 (by decide) ?_
        refine lv_aload_n hx hb dX11_isLooked_45 rfl (lv_at hl.1 1 rfl) ?_
        refine lv_iload hx hb dX11_isLooked_46 (lv_at hl.1 0 rfl) ?_
        refine vg_callVi (ci := 14) X hml hl hH hL fCV_X11_182 rfl [.int ((8 * v1) + v3)] rfl rfl (Nat.le_of_ble_eq_true rfl) dX11_isLooked_48 hf hC hN hRc hRs hfr hlo (by decide) (fun _ _ _ _ h => cX11_pieces_met h) (fun x6 μ7 cn nn H locs cells slots hf hC hN hH hL => ?_)
        refine lv_ishl hx hb dX11_isLooked_51 ?_
        refine lv_iconst (v := 1) hx hb dX11_isLooked_52 (by decide) ?_
        refine lv_isub hx hb dX11_isLooked_53 ?_
        refine lv_iand hx hb dX11_isLooked_54 ?_
        refine lv_if_eq (tgt := 62) hx hb dX11_isLooked_55 (by decide) (fun h8 => ?_) (fun h8 => ?_)
        · have hf := vg_ip h8 hf
          refine lv_iconst (v := 0) hx hb dX11_isLooked_62 (by decide) ?_
          exact wX11_isLooked_63 Z hk15 v0 v1 v3 0 μ7 _ _ _ _ _ _ _ hf hH hL hC hN (hl.sub [1, 2, 4] rfl)
        · have hf := vg_if h8 hf
          exact wX11_isLooked_58 Z hk15 v0 v1 v3 μ7 _ _ _ _ _ _ _ hf hH hL hC hN (hl.sub [1, 2, 4] rfl)
def fX11_isLooked_12  (v0 : Nat) (v1 : Int32) (k0 : Int32) (μ : vg_M) : vg_R Int32 :=
  fX11_isLooked_15  vg_fuel v0 v1 k0 0 μ
set_option maxHeartbeats 4000000 in
set_option maxRecDepth 100000 in
theorem wX11_isLooked_12 {p : Program} {l : Launch} {e : Env} {R : Room} {s : State} {m : MethodId} {args : Array Value} {below : List Frame} {meth : Method} {c : Code} {D : va_G} {cy : Nat → ClassId} {H0 : Heap} {C0 N0 : Nat} {r : Int32} {μ' : vg_M} (Z : vg_Z D cy H0 p s m args c cX11_isLooked RX11 meth 5 (some .boolean) R 17 C0 N0 "isLooked")   (v0 : Nat) (v1 : Int32) (k0 : Int32) (μ : vg_M) : vg_S p l e R s m args below meth c D cy H0 C0 N0 5 (MQ below (vg_Qc D cy H0 μ' (some (.int r))) args s C0 N0 (vg_fr H0)) r μ' (fX11_isLooked_12  v0 v1 k0 μ) μ [(0, .ref v0), (1, .int v1)] [.int k0] 12 := by
  intro cn nn H locs cells slots ls hf hH hL hC hN hl
  obtain ⟨X, hml, hr, hlk, hfr, hlo, hRc, hRs, hnm⟩ := id Z
  have hx := X.1
  have hb := X.2.1
  delta fX11_isLooked_12 at hf
  refine vg_istore_n (lv' := [(2, .int k0), (0, .ref v0), (1, .int v1)]) hx hb dX11_isLooked_12 rfl hl (by decide) rfl (fun ls hl => ?_)
  refine lv_iconst (v := 0) hx hb dX11_isLooked_13 (by decide) ?_
  refine vg_istore_n (lv' := [(3, .int 0), (2, .int k0), (0, .ref v0), (1, .int v1)]) hx hb dX11_isLooked_14 rfl hl (by decide) rfl (fun ls hl => ?_)
  exact wX11_isLooked_15 Z  vg_fuel v0 v1 k0 0 μ _ _ _ _ _ _ _ hf hH hL hC hN (hl.sub [2, 3, 1, 0] rfl)
def fX11_isLooked (v0 : Nat) (v1 : Int32) (μ : vg_M) : vg_R Int32 :=
  vg_o (vg_gI μ v0 14 30) fun x8 =>
  if x8 = 0 then (
   fX11_isLooked_12  v0 v1 1 μ
   ) else (
   fX11_isLooked_12  v0 v1 0 μ
   )
set_option maxHeartbeats 4000000 in
set_option maxRecDepth 100000 in
theorem cX11_isLooked_met {l : Launch} {D : va_G} {cy : Nat → ClassId} {H0 : Heap} {r : Int32} {μ μ' : vg_M} {cn nn : Nat} {v0 : Nat} {v1 : Int32} (hf : fX11_isLooked v0 v1 μ = some (r, μ', cn, nn)) : vg_Met l D cy H0 yX11_isLooked cX11_isLooked 5 (some .boolean) 17 μ [.ref v0, .int v1] (some (.int r)) μ' cn nn := by
  refine vg_start (by decide +kernel) (List.forall_mem_cons.mpr ⟨rfl, (List.forall_mem_cons.mpr ⟨rfl, (fun _ h => nomatch h)⟩)⟩) (Nat.le_of_ble_eq_true rfl) ?_
  intro p e s m below meth c ls X hml hr hlk hnm hH hl
  have hl : vg_l ls 5 [(0, .ref v0), (1, .int v1)] := hl
  have Z : vg_Z D cy H0 p s m _ c cX11_isLooked RX11 meth 5 (some .boolean) (vg_rm 17 cn nn) 17 cn nn _ := ⟨X, hml, hr, hlk, Nat.le_refl _, Nat.le_refl _, Nat.le_refl _, Nat.le_refl _, hnm⟩
  obtain ⟨-, -, -, -, hfr, hlo, hRc, hRs, -⟩ := id Z
  have hx := X.1
  have hb := X.2.1
  have hL : ∀ z ∈ ([] : List Loc), H0.size ≤ z.base := fun _ h => nomatch h
  have hC : 0 + cn = cn := Nat.zero_add _
  have hN : 0 + nn = nn := Nat.zero_add _
  delta fX11_isLooked at hf
  refine lv_aload_n hx hb dX11_isLooked_0 rfl (lv_at hl.1 0 rfl) ?_
  refine vg_getI X hH fF_X11_198 dX11_isLooked_1 hf (fun x8 hf => ?_)
  refine lv_if_ne (tgt := 11) hx hb dX11_isLooked_4 (by decide) (fun h8 => ?_) (fun h8 => ?_)
  · have hf := vg_if h8 hf
    refine lv_iconst (v := 0) hx hb dX11_isLooked_11 (by decide) ?_
    exact wX11_isLooked_12 Z  v0 v1 0 μ _ _ _ _ _ _ _ hf hH hL hC hN (hl.sub [0, 1] rfl)
  · have hf := vg_ip h8 hf
    refine lv_iconst (v := 1) hx hb dX11_isLooked_7 (by decide) ?_
    refine lv_goto (tgt := 12) hx hb dX11_isLooked_8 (by decide) ?_
    exact wX11_isLooked_12 Z  v0 v1 1 μ _ _ _ _ _ _ _ hf hH hL hC hN (hl.sub [0, 1] rfl)
def fX11_look_53   (μ : vg_M) : vg_R Unit :=
  vg_ret () μ
set_option maxHeartbeats 4000000 in
set_option maxRecDepth 100000 in
theorem wX11_look_53 {p : Program} {l : Launch} {e : Env} {R : Room} {s : State} {m : MethodId} {args : Array Value} {below : List Frame} {meth : Method} {c : Code} {D : va_G} {cy : Nat → ClassId} {H0 : Heap} {C0 N0 : Nat} {r : Unit} {μ' : vg_M} (Z : vg_Z D cy H0 p s m args c cX11_look RX11 meth 3 none R 18 C0 N0 "look")    (μ : vg_M) : vg_S p l e R s m args below meth c D cy H0 C0 N0 3 (MQ below (vg_Qc D cy H0 μ' none) args s C0 N0 (vg_fr H0)) r μ' (fX11_look_53   μ) μ [] [] 53 := by
  intro cn nn H locs cells slots ls hf hH hL hC hN hl
  obtain ⟨X, hml, hr, hlk, hfr, hlo, hRc, hRs, hnm⟩ := id Z
  have hx := X.1
  have hb := X.2.1
  delta fX11_look_53 at hf
  exact vg_retv X hr hlk hH hL dX11_look_53 hf hC hN
def fX11_look_37  (v0 : Nat) (v2 : Int32) (k0 : Nat) (k1 : Int32) (k2 : Int32) (μ : vg_M) : vg_R Unit :=
  vg_o (vg_p μ k0 14 26 (.int (k1 + k2))) fun μ1 =>
  vg_o (vg_gR μ1 v0 14 38) fun x2 =>
  vg_o (vg_gR μ1 v0 14 10) fun x3 =>
  vg_o x3 fun a4 =>
  vg_o (vg_aI μ1 a4 2 v2) fun x5 =>
  vg_o x2 fun a6 =>
  vg_o (vg_sI μ1 a6 2 v2 x5) fun μ7 =>
  fX11_look_53   μ7
set_option maxHeartbeats 4000000 in
set_option maxRecDepth 100000 in
theorem wX11_look_37 {p : Program} {l : Launch} {e : Env} {R : Room} {s : State} {m : MethodId} {args : Array Value} {below : List Frame} {meth : Method} {c : Code} {D : va_G} {cy : Nat → ClassId} {H0 : Heap} {C0 N0 : Nat} {r : Unit} {μ' : vg_M} (Z : vg_Z D cy H0 p s m args c cX11_look RX11 meth 3 none R 18 C0 N0 "look")   (v0 : Nat) (v2 : Int32) (k0 : Nat) (k1 : Int32) (k2 : Int32) (μ : vg_M) : vg_S p l e R s m args below meth c D cy H0 C0 N0 3 (MQ below (vg_Qc D cy H0 μ' none) args s C0 N0 (vg_fr H0)) r μ' (fX11_look_37  v0 v2 k0 k1 k2 μ) μ [(0, .ref v0), (2, .int v2)] [.int k2, .int k1, .ref k0] 37 := by
  intro cn nn H locs cells slots ls hf hH hL hC hN hl
  obtain ⟨X, hml, hr, hlk, hfr, hlo, hRc, hRs, hnm⟩ := id Z
  have hx := X.1
  have hb := X.2.1
  delta fX11_look_37 at hf
  refine lv_iadd hx hb dX11_look_37 ?_
  refine vg_putV X hH hL fF_X11_225 rfl rfl dX11_look_38 hf (fun μ1 H locs hf hH hL => ?_)
  refine lv_aload_n hx hb dX11_look_41 rfl (lv_at hl.1 0 rfl) ?_
  refine vg_getR X hH fF_X11_97 dX11_look_42 hf (fun x2 hf => ?_)
  refine lv_iload_n hx hb dX11_look_45 rfl (lv_at hl.1 1 rfl) ?_
  refine lv_aload_n hx hb dX11_look_46 rfl (lv_at hl.1 0 rfl) ?_
  refine vg_getR X hH fF_X11_32 dX11_look_47 hf (fun x3 hf => ?_)
  refine lv_iload_n hx hb dX11_look_50 rfl (lv_at hl.1 1 rfl) ?_
  obtain ⟨a4, h9, hg⟩ := vg_o_inv hf
  clear hf
  subst h9
  have hf := hg
  clear hg
  refine vg_iald X hH dX11_look_51 hf (fun x5 hf => ?_)
  obtain ⟨a6, h9, hg⟩ := vg_o_inv hf
  clear hf
  subst h9
  have hf := hg
  clear hg
  refine vg_iast X hH hL dX11_look_52 hf (fun μ7 H locs hf hH hL => ?_)
  exact wX11_look_53 Z   μ7 _ _ _ _ _ _ _ hf hH hL hC hN (hl.sub [] rfl)
def fX11_look (v0 : Nat) (v1 : Int32) (μ : vg_M) : vg_R Unit :=
  vg_o (vg_gR μ v0 14 31) fun x8 =>
  vg_o (vg_gI μ v0 14 30) fun x9 =>
  vg_o x8 fun a10 =>
  vg_o (vg_aI μ a10 2 x9) fun x11 =>
  vg_cv 14 v0 μ (fX11_isLooked v0 v1 μ) fun x12 μ13 =>
  if x12 = 0 then (
   fX11_look_53   μ13
   ) else (
   vg_o (vg_gI μ13 v0 14 26) fun x14 =>
   vg_cv 14 v0 μ13 (fX11_counts v0 v1 x11 μ13) fun x15 μ16 =>
   if x15 = 0 then (
    fX11_look_37  v0 x11 v0 x14 0 μ16
    ) else (
    fX11_look_37  v0 x11 v0 x14 1 μ16
    )
   )
set_option maxHeartbeats 4000000 in
set_option maxRecDepth 100000 in
theorem cX11_look_met {l : Launch} {D : va_G} {cy : Nat → ClassId} {H0 : Heap} {r : Unit} {μ μ' : vg_M} {cn nn : Nat} {v0 : Nat} {v1 : Int32} (hf : fX11_look v0 v1 μ = some (r, μ', cn, nn)) : vg_Met l D cy H0 yX11_look cX11_look 3 none 18 μ [.ref v0, .int v1] none μ' cn nn := by
  refine vg_start (by decide +kernel) (List.forall_mem_cons.mpr ⟨rfl, (List.forall_mem_cons.mpr ⟨rfl, (fun _ h => nomatch h)⟩)⟩) (Nat.le_of_ble_eq_true rfl) ?_
  intro p e s m below meth c ls X hml hr hlk hnm hH hl
  have hl : vg_l ls 3 [(0, .ref v0), (1, .int v1)] := hl
  have Z : vg_Z D cy H0 p s m _ c cX11_look RX11 meth 3 none (vg_rm 18 cn nn) 18 cn nn _ := ⟨X, hml, hr, hlk, Nat.le_refl _, Nat.le_refl _, Nat.le_refl _, Nat.le_refl _, hnm⟩
  obtain ⟨-, -, -, -, hfr, hlo, hRc, hRs, -⟩ := id Z
  have hx := X.1
  have hb := X.2.1
  have hL : ∀ z ∈ ([] : List Loc), H0.size ≤ z.base := fun _ h => nomatch h
  have hC : 0 + cn = cn := Nat.zero_add _
  have hN : 0 + nn = nn := Nat.zero_add _
  delta fX11_look at hf
  refine lv_aload_n hx hb dX11_look_0 rfl (lv_at hl.1 0 rfl) ?_
  refine vg_getR X hH fF_X11_79 dX11_look_1 hf (fun x8 hf => ?_)
  refine lv_aload_n hx hb dX11_look_4 rfl (lv_at hl.1 0 rfl) ?_
  refine vg_getI X hH fF_X11_198 dX11_look_5 hf (fun x9 hf => ?_)
  obtain ⟨a10, h9, hg⟩ := vg_o_inv hf
  clear hf
  subst h9
  have hf := hg
  clear hg
  refine vg_iald X hH dX11_look_8 hf (fun x11 hf => ?_)
  refine vg_istore_n (lv' := [(2, .int x11), (0, .ref v0), (1, .int v1)]) hx hb dX11_look_9 rfl hl (by decide) rfl (fun ls hl => ?_)
  refine lv_aload_n hx hb dX11_look_10 rfl (lv_at hl.1 1 rfl) ?_
  refine lv_iload_n hx hb dX11_look_11 rfl (lv_at hl.1 2 rfl) ?_
  refine vg_callVi (ci := 14) X hml hl hH hL fCV_X11_232 rfl [.int v1] rfl rfl (Nat.le_of_ble_eq_true rfl) dX11_look_12 hf hC hN hRc hRs hfr hlo (by decide) (fun _ _ _ _ h => cX11_isLooked_met h) (fun x12 μ13 cn nn H locs cells slots hf hC hN hH hL => ?_)
  refine lv_if_eq (tgt := 53) hx hb dX11_look_15 (by decide) (fun h8 => ?_) (fun h8 => ?_)
  · have hf := vg_ip h8 hf
    exact wX11_look_53 Z   μ13 _ _ _ _ _ _ _ hf hH hL hC hN (hl.sub [] rfl)
  · have hf := vg_if h8 hf
    refine lv_aload_n hx hb dX11_look_18 rfl (lv_at hl.1 1 rfl) ?_
    refine lv_dup hx hb dX11_look_19 rfl ?_
    refine vg_getI X hH fF_X11_225 dX11_look_20 hf (fun x14 hf => ?_)
    refine lv_aload_n hx hb dX11_look_23 rfl (lv_at hl.1 1 rfl) ?_
    refine lv_iload_n hx hb dX11_look_24 rfl (lv_at hl.1 2 rfl) ?_
    refine lv_iload_n hx hb dX11_look_25 rfl (lv_at hl.1 0 rfl) ?_
    refine vg_callVi (ci := 14) X hml hl hH hL fCV_X11_235 rfl [.int v1, .int x11] rfl rfl (Nat.le_of_ble_eq_true rfl) dX11_look_26 hf hC hN hRc hRs hfr hlo (by decide) (fun _ _ _ _ h => cX11_counts_met h) (fun x15 μ16 cn nn H locs cells slots hf hC hN hH hL => ?_)
    refine lv_if_eq (tgt := 36) hx hb dX11_look_29 (by decide) (fun h8 => ?_) (fun h8 => ?_)
    · have hf := vg_ip h8 hf
      refine lv_iconst (v := 0) hx hb dX11_look_36 (by decide) ?_
      exact wX11_look_37 Z  v0 x11 v0 x14 0 μ16 _ _ _ _ _ _ _ hf hH hL hC hN (hl.sub [1, 0] rfl)
    · have hf := vg_if h8 hf
      refine lv_iconst (v := 1) hx hb dX11_look_32 (by decide) ?_
      refine lv_goto (tgt := 37) hx hb dX11_look_33 (by decide) ?_
      exact wX11_look_37 Z  v0 x11 v0 x14 1 μ16 _ _ _ _ _ _ _ hf hH hL hC hN (hl.sub [1, 0] rfl)
def fX11_spell_27  : Nat → Nat → Int32 → Int32 → Int32 → vg_M → vg_R Int32
  | 0, _, _, _, _, _ => none
  | n + 1, v0, v1, v2, v3, μ =>
    vg_o (vg_gR μ v0 14 8) fun x1 =>
    vg_o x1 fun a2 =>
    vg_o (vg_aI μ a2 2 v1) fun x3 =>
    if x3 ≤ v3 then (
     vg_o (vg_gR μ v0 14 8) fun x4 =>
     vg_o x4 fun a5 =>
     vg_o (vg_aI μ a5 2 v1) fun x6 =>
     vg_ret (v2 + x6) μ
     ) else (
     vg_o (vg_gR μ v0 14 35) fun x7 =>
     vg_o (vg_gR μ v0 14 12) fun x8 =>
     vg_o x8 fun a9 =>
     vg_o (vg_aI μ a9 0 ((8 * v1) + v3)) fun x10 =>
     vg_o x7 fun a11 =>
     vg_o (vg_sI μ a11 0 (v2 + v3) x10) fun μ12 =>
     (fX11_spell_27  n) v0 v1 v2 (v3 + 1) μ12
     )
set_option maxHeartbeats 4000000 in
set_option maxRecDepth 100000 in
theorem wX11_spell_27 {p : Program} {l : Launch} {e : Env} {R : Room} {s : State} {m : MethodId} {args : Array Value} {below : List Frame} {meth : Method} {c : Code} {D : va_G} {cy : Nat → ClassId} {H0 : Heap} {C0 N0 : Nat} {r : Int32} {μ' : vg_M} (Z : vg_Z D cy H0 p s m args c cX11_spell RX11 meth 4 (some .int) R 12 C0 N0 "spell")   : ∀ (n : Nat) (v0 : Nat) (v1 : Int32) (v2 : Int32) (v3 : Int32) (μ : vg_M), vg_S p l e R s m args below meth c D cy H0 C0 N0 4 (MQ below (vg_Qc D cy H0 μ' (some (.int r))) args s C0 N0 (vg_fr H0)) r μ' (fX11_spell_27  n v0 v1 v2 v3 μ) μ [(0, .ref v0), (1, .int v1), (2, .int v2), (3, .int v3)] [] 27 := by
  intro n
  induction n with
  | zero =>
    intro v0 v1 v2 v3 μ cn nn H locs cells slots ls hf
    simp [fX11_spell_27] at hf
  | succ n hk27 =>
    intro v0 v1 v2 v3 μ
    intro cn nn H locs cells slots ls hf hH hL hC hN hl
    obtain ⟨X, hml, hr, hlk, hfr, hlo, hRc, hRs, hnm⟩ := id Z
    have hx := X.1
    have hb := X.2.1
    rw [fX11_spell_27] at hf
    refine lv_iload_n hx hb dX11_spell_27 rfl (lv_at hl.1 3 rfl) ?_
    refine lv_aload_n hx hb dX11_spell_28 rfl (lv_at hl.1 0 rfl) ?_
    refine vg_getR X hH fF_X11_26 dX11_spell_29 hf (fun x1 hf => ?_)
    refine lv_iload_n hx hb dX11_spell_32 rfl (lv_at hl.1 1 rfl) ?_
    obtain ⟨a2, h9, hg⟩ := vg_o_inv hf
    clear hf
    subst h9
    have hf := hg
    clear hg
    refine vg_iald X hH dX11_spell_33 hf (fun x3 hf => ?_)
    refine lv_icmp_ge (tgt := 62) hx hb dX11_spell_34 (by decide) (fun h8 => ?_) (fun h8 => ?_)
    · have hf := vg_ip h8 hf
      refine lv_iload_n hx hb dX11_spell_62 rfl (lv_at hl.1 2 rfl) ?_
      refine lv_aload_n hx hb dX11_spell_63 rfl (lv_at hl.1 0 rfl) ?_
      refine vg_getR X hH fF_X11_26 dX11_spell_64 hf (fun x4 hf => ?_)
      refine lv_iload_n hx hb dX11_spell_67 rfl (lv_at hl.1 1 rfl) ?_
      obtain ⟨a5, h9, hg⟩ := vg_o_inv hf
      clear hf
      subst h9
      have hf := hg
      clear hg
      refine vg_iald X hH dX11_spell_68 hf (fun x6 hf => ?_)
      refine lv_iadd hx hb dX11_spell_69 ?_
      exact vg_reti X hr hlk hH hL dX11_spell_70 hf hC hN
    · have hf := vg_if h8 hf
      refine lv_aload_n hx hb dX11_spell_37 rfl (lv_at hl.1 0 rfl) ?_
      refine vg_getR X hH fF_X11_91 dX11_spell_38 hf (fun x7 hf => ?_)
      refine lv_iload_n hx hb dX11_spell_41 rfl (lv_at hl.1 2 rfl) ?_
      refine lv_iload_n hx hb dX11_spell_42 rfl (lv_at hl.1 3 rfl) ?_
      refine lv_iadd hx hb dX11_spell_43 ?_
      refine lv_aload_n hx hb dX11_spell_44 rfl (lv_at hl.1 0 rfl) ?_
      refine vg_getR X hH fF_X11_39 dX11_spell_45 hf (fun x8 hf => ?_)
      refine lv_bipush (v := 8) hx hb dX11_spell_48 (by decide) ?_
      refine lv_iload_n hx hb dX11_spell_50 rfl (lv_at hl.1 1 rfl) ?_
      refine lv_imul hx hb dX11_spell_51 ?_
      refine lv_iload_n hx hb dX11_spell_52 rfl (lv_at hl.1 3 rfl) ?_
      refine lv_iadd hx hb dX11_spell_53 ?_
      obtain ⟨a9, h9, hg⟩ := vg_o_inv hf
      clear hf
      subst h9
      have hf := hg
      clear hg
      refine vg_bald X hH dX11_spell_54 hf (fun x10 hf => ?_)
      obtain ⟨a11, h9, hg⟩ := vg_o_inv hf
      clear hf
      subst h9
      have hf := hg
      clear hg
      refine vg_bast X hH hL dX11_spell_55 hf (fun μ12 H locs hf hH hL => ?_)
      refine vg_iinc (v := v3 + 1) (lv' := [(3, .int (v3 + 1)), (0, .ref v0), (1, .int v1), (2, .int v2)]) hx hb dX11_spell_56 hl (k := 3) rfl rfl (by decide) rfl (fun ls hl => ?_)
      refine lv_goto (tgt := 27) hx hb dX11_spell_59 (by decide) ?_
      exact hk27 v0 v1 v2 (v3 + 1) μ12 _ _ _ _ _ _ _ hf hH hL hC hN (hl.sub [1, 2, 3, 0] rfl)
def fX11_spell_25  (v0 : Nat) (v1 : Int32) (v2 : Int32) (μ : vg_M) : vg_R Int32 :=
  fX11_spell_27  vg_fuel v0 v1 v2 0 μ
set_option maxHeartbeats 4000000 in
set_option maxRecDepth 100000 in
theorem wX11_spell_25 {p : Program} {l : Launch} {e : Env} {R : Room} {s : State} {m : MethodId} {args : Array Value} {below : List Frame} {meth : Method} {c : Code} {D : va_G} {cy : Nat → ClassId} {H0 : Heap} {C0 N0 : Nat} {r : Int32} {μ' : vg_M} (Z : vg_Z D cy H0 p s m args c cX11_spell RX11 meth 4 (some .int) R 12 C0 N0 "spell")   (v0 : Nat) (v1 : Int32) (v2 : Int32) (μ : vg_M) : vg_S p l e R s m args below meth c D cy H0 C0 N0 4 (MQ below (vg_Qc D cy H0 μ' (some (.int r))) args s C0 N0 (vg_fr H0)) r μ' (fX11_spell_25  v0 v1 v2 μ) μ [(0, .ref v0), (1, .int v1), (2, .int v2)] [] 25 := by
  intro cn nn H locs cells slots ls hf hH hL hC hN hl
  obtain ⟨X, hml, hr, hlk, hfr, hlo, hRc, hRs, hnm⟩ := id Z
  have hx := X.1
  have hb := X.2.1
  delta fX11_spell_25 at hf
  refine lv_iconst (v := 0) hx hb dX11_spell_25 (by decide) ?_
  refine vg_istore_n (lv' := [(3, .int 0), (0, .ref v0), (1, .int v1), (2, .int v2)]) hx hb dX11_spell_26 rfl hl (by decide) rfl (fun ls hl => ?_)
  exact wX11_spell_27 Z  vg_fuel v0 v1 v2 0 μ _ _ _ _ _ _ _ hf hH hL hC hN (hl.sub [1, 2, 3, 0] rfl)
def fX11_spell (v0 : Nat) (v1 : Int32) (μ : vg_M) : vg_R Int32 :=
  vg_o (vg_gR μ v0 14 33) fun x13 =>
  vg_o (vg_gI μ v0 14 30) fun x14 =>
  vg_o x13 fun a15 =>
  vg_o (vg_aI μ a15 2 x14) fun x16 =>
  if x16 ≤ 0 then (
   fX11_spell_25  v0 v1 x16 μ
   ) else (
   vg_o (vg_gR μ v0 14 35) fun x17 =>
   vg_o x17 fun a18 =>
   vg_o (vg_sI μ a18 0 x16 47) fun μ19 =>
   fX11_spell_25  v0 v1 (x16 + 1) μ19
   )
set_option maxHeartbeats 4000000 in
set_option maxRecDepth 100000 in
theorem cX11_spell_met {l : Launch} {D : va_G} {cy : Nat → ClassId} {H0 : Heap} {r : Int32} {μ μ' : vg_M} {cn nn : Nat} {v0 : Nat} {v1 : Int32} (hf : fX11_spell v0 v1 μ = some (r, μ', cn, nn)) : vg_Met l D cy H0 yX11_spell cX11_spell 4 (some .int) 12 μ [.ref v0, .int v1] (some (.int r)) μ' cn nn := by
  refine vg_start (by decide +kernel) (List.forall_mem_cons.mpr ⟨rfl, (List.forall_mem_cons.mpr ⟨rfl, (fun _ h => nomatch h)⟩)⟩) (Nat.le_of_ble_eq_true rfl) ?_
  intro p e s m below meth c ls X hml hr hlk hnm hH hl
  have hl : vg_l ls 4 [(0, .ref v0), (1, .int v1)] := hl
  have Z : vg_Z D cy H0 p s m _ c cX11_spell RX11 meth 4 (some .int) (vg_rm 12 cn nn) 12 cn nn _ := ⟨X, hml, hr, hlk, Nat.le_refl _, Nat.le_refl _, Nat.le_refl _, Nat.le_refl _, hnm⟩
  obtain ⟨-, -, -, -, hfr, hlo, hRc, hRs, -⟩ := id Z
  have hx := X.1
  have hb := X.2.1
  have hL : ∀ z ∈ ([] : List Loc), H0.size ≤ z.base := fun _ h => nomatch h
  have hC : 0 + cn = cn := Nat.zero_add _
  have hN : 0 + nn = nn := Nat.zero_add _
  delta fX11_spell at hf
  refine lv_aload_n hx hb dX11_spell_0 rfl (lv_at hl.1 0 rfl) ?_
  refine vg_getR X hH fF_X11_85 dX11_spell_1 hf (fun x13 hf => ?_)
  refine lv_aload_n hx hb dX11_spell_4 rfl (lv_at hl.1 0 rfl) ?_
  refine vg_getI X hH fF_X11_198 dX11_spell_5 hf (fun x14 hf => ?_)
  obtain ⟨a15, h9, hg⟩ := vg_o_inv hf
  clear hf
  subst h9
  have hf := hg
  clear hg
  refine vg_iald X hH dX11_spell_8 hf (fun x16 hf => ?_)
  refine vg_istore_n (lv' := [(2, .int x16), (0, .ref v0), (1, .int v1)]) hx hb dX11_spell_9 rfl hl (by decide) rfl (fun ls hl => ?_)
  refine lv_iload_n hx hb dX11_spell_10 rfl (lv_at hl.1 0 rfl) ?_
  refine lv_if_le (tgt := 25) hx hb dX11_spell_11 (by decide) (fun h8 => ?_) (fun h8 => ?_)
  · have hf := vg_ip h8 hf
    exact wX11_spell_25 Z  v0 v1 x16 μ _ _ _ _ _ _ _ hf hH hL hC hN (hl.sub [1, 2, 0] rfl)
  · have hf := vg_if h8 hf
    refine lv_aload_n hx hb dX11_spell_14 rfl (lv_at hl.1 1 rfl) ?_
    refine vg_getR X hH fF_X11_91 dX11_spell_15 hf (fun x17 hf => ?_)
    refine lv_iload_n hx hb dX11_spell_18 rfl (lv_at hl.1 0 rfl) ?_
    refine lv_bipush (v := 47) hx hb dX11_spell_19 (by decide) ?_
    obtain ⟨a18, h9, hg⟩ := vg_o_inv hf
    clear hf
    subst h9
    have hf := hg
    clear hg
    refine vg_bast X hH hL dX11_spell_21 hf (fun μ19 H locs hf hH hL => ?_)
    refine vg_iinc (v := x16 + 1) (lv' := [(2, .int (x16 + 1)), (0, .ref v0), (1, .int v1)]) hx hb dX11_spell_22 hl (k := 0) rfl rfl (by decide) rfl (fun ls hl => ?_)
    exact wX11_spell_25 Z  v0 v1 (x16 + 1) μ19 _ _ _ _ _ _ _ hf hH hL hC hN (hl.sub [1, 2, 0] rfl)
def fX11_tell_8  : Nat → Nat → Int32 → Int32 → vg_M → vg_R Unit
  | 0, _, _, _, _ => none
  | n + 1, v0, v2, v3, μ =>
    if v2 ≤ v3 then (
     vg_o (vg_gR μ v0 14 28) fun x1 =>
     vg_o (vg_gI μ v0 14 27) fun x2 =>
     vg_o x1 fun a3 =>
     vg_o (vg_sI μ a3 2 x2 v2) fun μ4 =>
     vg_o (vg_gI μ4 v0 14 27) fun x5 =>
     vg_o (vg_p μ4 v0 14 27 (.int (x5 + 1))) fun μ6 =>
     vg_ret () μ6
     ) else (
     vg_o (vg_gR μ v0 14 29) fun x7 =>
     vg_o (vg_gI μ v0 14 27) fun x8 =>
     vg_o (vg_gR μ v0 14 35) fun x9 =>
     vg_o x9 fun a10 =>
     vg_o (vg_aI μ a10 0 v3) fun x11 =>
     vg_o x7 fun a12 =>
     vg_o (vg_sI μ a12 0 ((54 * x8) + v3) x11) fun μ13 =>
     (fX11_tell_8  n) v0 v2 (v3 + 1) μ13
     )
set_option maxHeartbeats 4000000 in
set_option maxRecDepth 100000 in
theorem wX11_tell_8 {p : Program} {l : Launch} {e : Env} {R : Room} {s : State} {m : MethodId} {args : Array Value} {below : List Frame} {meth : Method} {c : Code} {D : va_G} {cy : Nat → ClassId} {H0 : Heap} {C0 N0 : Nat} {r : Unit} {μ' : vg_M} (Z : vg_Z D cy H0 p s m args c cX11_tell RX11 meth 4 none R 13 C0 N0 "tell")   : ∀ (n : Nat) (v0 : Nat) (v2 : Int32) (v3 : Int32) (μ : vg_M), vg_S p l e R s m args below meth c D cy H0 C0 N0 4 (MQ below (vg_Qc D cy H0 μ' none) args s C0 N0 (vg_fr H0)) r μ' (fX11_tell_8  n v0 v2 v3 μ) μ [(0, .ref v0), (2, .int v2), (3, .int v3)] [] 8 := by
  intro n
  induction n with
  | zero =>
    intro v0 v2 v3 μ cn nn H locs cells slots ls hf
    simp [fX11_tell_8] at hf
  | succ n hk8 =>
    intro v0 v2 v3 μ
    intro cn nn H locs cells slots ls hf hH hL hC hN hl
    obtain ⟨X, hml, hr, hlk, hfr, hlo, hRc, hRs, hnm⟩ := id Z
    have hx := X.1
    have hb := X.2.1
    rw [fX11_tell_8] at hf
    refine lv_iload_n hx hb dX11_tell_8 rfl (lv_at hl.1 2 rfl) ?_
    refine lv_iload_n hx hb dX11_tell_9 rfl (lv_at hl.1 1 rfl) ?_
    refine lv_icmp_ge (tgt := 39) hx hb dX11_tell_10 (by decide) (fun h8 => ?_) (fun h8 => ?_)
    · have hf := vg_ip h8 hf
      refine lv_aload_n hx hb dX11_tell_39 rfl (lv_at hl.1 0 rfl) ?_
      refine vg_getR X hH fF_X11_73 dX11_tell_40 hf (fun x1 hf => ?_)
      refine lv_aload_n hx hb dX11_tell_43 rfl (lv_at hl.1 0 rfl) ?_
      refine vg_getI X hH fF_X11_219 dX11_tell_44 hf (fun x2 hf => ?_)
      refine lv_iload_n hx hb dX11_tell_47 rfl (lv_at hl.1 1 rfl) ?_
      obtain ⟨a3, h9, hg⟩ := vg_o_inv hf
      clear hf
      subst h9
      have hf := hg
      clear hg
      refine vg_iast X hH hL dX11_tell_48 hf (fun μ4 H locs hf hH hL => ?_)
      refine lv_aload_n hx hb dX11_tell_49 rfl (lv_at hl.1 0 rfl) ?_
      refine lv_dup hx hb dX11_tell_50 rfl ?_
      refine vg_getI X hH fF_X11_219 dX11_tell_51 hf (fun x5 hf => ?_)
      refine lv_iconst (v := 1) hx hb dX11_tell_54 (by decide) ?_
      refine lv_iadd hx hb dX11_tell_55 ?_
      refine vg_putV X hH hL fF_X11_219 rfl rfl dX11_tell_56 hf (fun μ6 H locs hf hH hL => ?_)
      exact vg_retv X hr hlk hH hL dX11_tell_59 hf hC hN
    · have hf := vg_if h8 hf
      refine lv_aload_n hx hb dX11_tell_13 rfl (lv_at hl.1 0 rfl) ?_
      refine vg_getR X hH fF_X11_76 dX11_tell_14 hf (fun x7 hf => ?_)
      refine lv_bipush (v := 54) hx hb dX11_tell_17 (by decide) ?_
      refine lv_aload_n hx hb dX11_tell_19 rfl (lv_at hl.1 0 rfl) ?_
      refine vg_getI X hH fF_X11_219 dX11_tell_20 hf (fun x8 hf => ?_)
      refine lv_imul hx hb dX11_tell_23 ?_
      refine lv_iload_n hx hb dX11_tell_24 rfl (lv_at hl.1 2 rfl) ?_
      refine lv_iadd hx hb dX11_tell_25 ?_
      refine lv_aload_n hx hb dX11_tell_26 rfl (lv_at hl.1 0 rfl) ?_
      refine vg_getR X hH fF_X11_91 dX11_tell_27 hf (fun x9 hf => ?_)
      refine lv_iload_n hx hb dX11_tell_30 rfl (lv_at hl.1 2 rfl) ?_
      obtain ⟨a10, h9, hg⟩ := vg_o_inv hf
      clear hf
      subst h9
      have hf := hg
      clear hg
      refine vg_bald X hH dX11_tell_31 hf (fun x11 hf => ?_)
      obtain ⟨a12, h9, hg⟩ := vg_o_inv hf
      clear hf
      subst h9
      have hf := hg
      clear hg
      refine vg_bast X hH hL dX11_tell_32 hf (fun μ13 H locs hf hH hL => ?_)
      refine vg_iinc (v := v3 + 1) (lv' := [(3, .int (v3 + 1)), (0, .ref v0), (2, .int v2)]) hx hb dX11_tell_33 hl (k := 2) rfl rfl (by decide) rfl (fun ls hl => ?_)
      refine lv_goto (tgt := 8) hx hb dX11_tell_36 (by decide) ?_
      exact hk8 v0 v2 (v3 + 1) μ13 _ _ _ _ _ _ _ hf hH hL hC hN (hl.sub [1, 2, 0] rfl)
def fX11_tell (v0 : Nat) (v1 : Int32) (μ : vg_M) : vg_R Unit :=
  vg_cv 14 v0 μ (fX11_spell v0 v1 μ) fun x14 μ15 =>
  fX11_tell_8  vg_fuel v0 x14 0 μ15
set_option maxHeartbeats 4000000 in
set_option maxRecDepth 100000 in
theorem cX11_tell_met {l : Launch} {D : va_G} {cy : Nat → ClassId} {H0 : Heap} {r : Unit} {μ μ' : vg_M} {cn nn : Nat} {v0 : Nat} {v1 : Int32} (hf : fX11_tell v0 v1 μ = some (r, μ', cn, nn)) : vg_Met l D cy H0 yX11_tell cX11_tell 4 none 13 μ [.ref v0, .int v1] none μ' cn nn := by
  refine vg_start (by decide +kernel) (List.forall_mem_cons.mpr ⟨rfl, (List.forall_mem_cons.mpr ⟨rfl, (fun _ h => nomatch h)⟩)⟩) (Nat.le_of_ble_eq_true rfl) ?_
  intro p e s m below meth c ls X hml hr hlk hnm hH hl
  have hl : vg_l ls 4 [(0, .ref v0), (1, .int v1)] := hl
  have Z : vg_Z D cy H0 p s m _ c cX11_tell RX11 meth 4 none (vg_rm 13 cn nn) 13 cn nn _ := ⟨X, hml, hr, hlk, Nat.le_refl _, Nat.le_refl _, Nat.le_refl _, Nat.le_refl _, hnm⟩
  obtain ⟨-, -, -, -, hfr, hlo, hRc, hRs, -⟩ := id Z
  have hx := X.1
  have hb := X.2.1
  have hL : ∀ z ∈ ([] : List Loc), H0.size ≤ z.base := fun _ h => nomatch h
  have hC : 0 + cn = cn := Nat.zero_add _
  have hN : 0 + nn = nn := Nat.zero_add _
  delta fX11_tell at hf
  refine lv_aload_n hx hb dX11_tell_0 rfl (lv_at hl.1 0 rfl) ?_
  refine lv_iload_n hx hb dX11_tell_1 rfl (lv_at hl.1 1 rfl) ?_
  refine vg_callVi (ci := 14) X hml hl hH hL fCV_X11_216 rfl [.int v1] rfl rfl (Nat.le_of_ble_eq_true rfl) dX11_tell_2 hf hC hN hRc hRs hfr hlo (by decide) (fun _ _ _ _ h => cX11_spell_met h) (fun x14 μ15 cn nn H locs cells slots hf hC hN hH hL => ?_)
  refine vg_istore_n (lv' := [(2, .int x14), (0, .ref v0), (1, .int v1)]) hx hb dX11_tell_5 rfl hl (by decide) rfl (fun ls hl => ?_)
  refine lv_iconst (v := 0) hx hb dX11_tell_6 (by decide) ?_
  refine vg_istore_n (lv' := [(3, .int 0), (2, .int x14), (0, .ref v0), (1, .int v1)]) hx hb dX11_tell_7 rfl hl (by decide) rfl (fun ls hl => ?_)
  exact wX11_tell_8 Z  vg_fuel v0 x14 0 μ15 _ _ _ _ _ _ _ hf hH hL hC hN (hl.sub [2, 1, 0] rfl)
def fX11_walk_131 (q16 : Nat → Int32 → vg_M → vg_R Unit) (v0 : Nat) (v1 : Int32) (μ : vg_M) : vg_R Unit :=
  q16 v0 v1 μ
set_option maxHeartbeats 4000000 in
set_option maxRecDepth 100000 in
theorem wX11_walk_131 {p : Program} {l : Launch} {e : Env} {R : Room} {s : State} {m : MethodId} {args : Array Value} {below : List Frame} {meth : Method} {c : Code} {D : va_G} {cy : Nat → ClassId} {H0 : Heap} {C0 N0 : Nat} {r : Unit} {μ' : vg_M} (Z : vg_Z D cy H0 p s m args c cX11_walk RX11 meth 5 none R 19 C0 N0 "walk") {q16 : Nat → Int32 → vg_M → vg_R Unit} (hk16 : ∀ (v0 : Nat) (v1 : Int32) (μ : vg_M), vg_S p l e R s m args below meth c D cy H0 C0 N0 5 (MQ below (vg_Qc D cy H0 μ' none) args s C0 N0 (vg_fr H0)) r μ' (q16 v0 v1 μ) μ [(0, .ref v0), (1, .int v1)] [] 16) (v0 : Nat) (v1 : Int32) (μ : vg_M) : vg_S p l e R s m args below meth c D cy H0 C0 N0 5 (MQ below (vg_Qc D cy H0 μ' none) args s C0 N0 (vg_fr H0)) r μ' (fX11_walk_131 q16 v0 v1 μ) μ [(0, .ref v0), (1, .int v1)] [] 131 := by
  intro cn nn H locs cells slots ls hf hH hL hC hN hl
  obtain ⟨X, hml, hr, hlk, hfr, hlo, hRc, hRs, hnm⟩ := id Z
  have hx := X.1
  have hb := X.2.1
  delta fX11_walk_131 at hf
  refine lv_goto (tgt := 16) hx hb dX11_walk_131 (by decide) ?_
  exact hk16 v0 v1 μ _ _ _ _ _ _ _ hf hH hL hC hN (hl.sub [0, 1] rfl)
def fX11_walk_101 (q16 : Nat → Int32 → vg_M → vg_R Unit) (v0 : Nat) (v1 : Int32) (v3 : Int32) (v4 : Int32) (μ : vg_M) : vg_R Unit :=
  if v4 = 0 then (
   vg_o (vg_gR μ v0 14 6) fun x20 =>
   vg_o x20 fun a21 =>
   vg_o (vg_aI μ a21 2 v3) fun x22 =>
   if x22 = 2 then (
    vg_cv 14 v0 μ (fX11_spell v0 v3 μ) fun x23 μ24 =>
    vg_cv 14 v0 μ24 (fX11_enter v0 v3 x23 μ24) fun _ μ26 =>
    vg_cv 14 v0 μ26 (fX11_look v0 v1 μ26) fun _ μ28 =>
    fX11_walk_131 q16 v0 v1 μ28
    ) else (
    fX11_walk_131 q16 v0 v1 μ
    )
   ) else (
   fX11_walk_131 q16 v0 v1 μ
   )
set_option maxHeartbeats 4000000 in
set_option maxRecDepth 100000 in
theorem wX11_walk_101 {p : Program} {l : Launch} {e : Env} {R : Room} {s : State} {m : MethodId} {args : Array Value} {below : List Frame} {meth : Method} {c : Code} {D : va_G} {cy : Nat → ClassId} {H0 : Heap} {C0 N0 : Nat} {r : Unit} {μ' : vg_M} (Z : vg_Z D cy H0 p s m args c cX11_walk RX11 meth 5 none R 19 C0 N0 "walk") {q16 : Nat → Int32 → vg_M → vg_R Unit} (hk16 : ∀ (v0 : Nat) (v1 : Int32) (μ : vg_M), vg_S p l e R s m args below meth c D cy H0 C0 N0 5 (MQ below (vg_Qc D cy H0 μ' none) args s C0 N0 (vg_fr H0)) r μ' (q16 v0 v1 μ) μ [(0, .ref v0), (1, .int v1)] [] 16) (v0 : Nat) (v1 : Int32) (v3 : Int32) (v4 : Int32) (μ : vg_M) : vg_S p l e R s m args below meth c D cy H0 C0 N0 5 (MQ below (vg_Qc D cy H0 μ' none) args s C0 N0 (vg_fr H0)) r μ' (fX11_walk_101 q16 v0 v1 v3 v4 μ) μ [(0, .ref v0), (1, .int v1), (3, .int v3), (4, .int v4)] [] 101 := by
  intro cn nn H locs cells slots ls hf hH hL hC hN hl
  obtain ⟨X, hml, hr, hlk, hfr, hlo, hRc, hRs, hnm⟩ := id Z
  have hx := X.1
  have hb := X.2.1
  delta fX11_walk_101 at hf
  refine lv_iload hx hb dX11_walk_101 (lv_at hl.1 3 rfl) ?_
  refine lv_if_ne (tgt := 131) hx hb dX11_walk_103 (by decide) (fun h8 => ?_) (fun h8 => ?_)
  · have hf := vg_if h8 hf
    exact wX11_walk_131 Z hk16 v0 v1 μ _ _ _ _ _ _ _ hf hH hL hC hN (hl.sub [0, 1] rfl)
  · have hf := vg_ip h8 hf
    refine lv_aload_n hx hb dX11_walk_106 rfl (lv_at hl.1 0 rfl) ?_
    refine vg_getR X hH fF_X11_20 dX11_walk_107 hf (fun x20 hf => ?_)
    refine lv_iload_n hx hb dX11_walk_110 rfl (lv_at hl.1 2 rfl) ?_
    obtain ⟨a21, h9, hg⟩ := vg_o_inv hf
    clear hf
    subst h9
    have hf := hg
    clear hg
    refine vg_iald X hH dX11_walk_111 hf (fun x22 hf => ?_)
    refine lv_iconst (v := 2) hx hb dX11_walk_112 (by decide) ?_
    refine lv_icmp_ne (tgt := 131) hx hb dX11_walk_113 (by decide) (fun h8 => ?_) (fun h8 => ?_)
    · have hf := vg_if h8 hf
      exact wX11_walk_131 Z hk16 v0 v1 μ _ _ _ _ _ _ _ hf hH hL hC hN (hl.sub [0, 1] rfl)
    · have hf := vg_ip h8 hf
      refine lv_aload_n hx hb dX11_walk_116 rfl (lv_at hl.1 0 rfl) ?_
      refine lv_iload_n hx hb dX11_walk_117 rfl (lv_at hl.1 2 rfl) ?_
      refine lv_aload_n hx hb dX11_walk_118 rfl (lv_at hl.1 0 rfl) ?_
      refine lv_iload_n hx hb dX11_walk_119 rfl (lv_at hl.1 2 rfl) ?_
      refine vg_callVi (ci := 14) X hml hl hH hL fCV_X11_216 rfl [.int v3] rfl rfl (Nat.le_of_ble_eq_true rfl) dX11_walk_120 hf hC hN hRc hRs hfr hlo (by decide) (fun _ _ _ _ h => cX11_spell_met h) (fun x23 μ24 cn nn H locs cells slots hf hC hN hH hL => ?_)
      refine vg_callVv (ci := 14) X hml hl hH hL fCV_X11_238 rfl [.int v3, .int x23] rfl rfl (Nat.le_of_ble_eq_true rfl) dX11_walk_123 hf hC hN hRc hRs hfr hlo (by decide) (fun _ _ _ _ h => cX11_enter_met h) (fun _ μ26 cn nn H locs cells slots hf hC hN hH hL => ?_)
      refine lv_aload_n hx hb dX11_walk_126 rfl (lv_at hl.1 0 rfl) ?_
      refine lv_iload_n hx hb dX11_walk_127 rfl (lv_at hl.1 1 rfl) ?_
      refine vg_callVv (ci := 14) X hml hl hH hL fCV_X11_241 rfl [.int v1] rfl rfl (Nat.le_of_ble_eq_true rfl) dX11_walk_128 hf hC hN hRc hRs hfr hlo (by decide) (fun _ _ _ _ h => cX11_look_met h) (fun _ μ28 cn nn H locs cells slots hf hC hN hH hL => ?_)
      exact wX11_walk_131 Z hk16 v0 v1 μ28 _ _ _ _ _ _ _ hf hH hL hC hN (hl.sub [0, 1] rfl)
def fX11_walk_80 (q16 : Nat → Int32 → vg_M → vg_R Unit) (v0 : Nat) (v1 : Int32) (v3 : Int32) (k0 : Int32) (μ : vg_M) : vg_R Unit :=
  if k0 = 0 then (
   vg_cv 14 v0 μ (fX11_isAnswer v0 v1 v3 μ) fun x16 μ17 =>
   if x16 = 0 then (
    fX11_walk_101 q16 v0 v1 v3 k0 μ17
    ) else (
    vg_cv 14 v0 μ17 (fX11_tell v0 v3 μ17) fun _ μ19 =>
    fX11_walk_101 q16 v0 v1 v3 k0 μ19
    )
   ) else (
   fX11_walk_101 q16 v0 v1 v3 k0 μ
   )
set_option maxHeartbeats 4000000 in
set_option maxRecDepth 100000 in
theorem wX11_walk_80 {p : Program} {l : Launch} {e : Env} {R : Room} {s : State} {m : MethodId} {args : Array Value} {below : List Frame} {meth : Method} {c : Code} {D : va_G} {cy : Nat → ClassId} {H0 : Heap} {C0 N0 : Nat} {r : Unit} {μ' : vg_M} (Z : vg_Z D cy H0 p s m args c cX11_walk RX11 meth 5 none R 19 C0 N0 "walk") {q16 : Nat → Int32 → vg_M → vg_R Unit} (hk16 : ∀ (v0 : Nat) (v1 : Int32) (μ : vg_M), vg_S p l e R s m args below meth c D cy H0 C0 N0 5 (MQ below (vg_Qc D cy H0 μ' none) args s C0 N0 (vg_fr H0)) r μ' (q16 v0 v1 μ) μ [(0, .ref v0), (1, .int v1)] [] 16) (v0 : Nat) (v1 : Int32) (v3 : Int32) (k0 : Int32) (μ : vg_M) : vg_S p l e R s m args below meth c D cy H0 C0 N0 5 (MQ below (vg_Qc D cy H0 μ' none) args s C0 N0 (vg_fr H0)) r μ' (fX11_walk_80 q16 v0 v1 v3 k0 μ) μ [(0, .ref v0), (1, .int v1), (3, .int v3)] [.int k0] 80 := by
  intro cn nn H locs cells slots ls hf hH hL hC hN hl
  obtain ⟨X, hml, hr, hlk, hfr, hlo, hRc, hRs, hnm⟩ := id Z
  have hx := X.1
  have hb := X.2.1
  delta fX11_walk_80 at hf
  refine vg_istore (lv' := [(4, .int k0), (0, .ref v0), (1, .int v1), (3, .int v3)]) hx hb dX11_walk_80 hl (by decide) rfl (fun ls hl => ?_)
  refine lv_iload hx hb dX11_walk_82 (lv_at hl.1 0 rfl) ?_
  refine lv_if_ne (tgt := 101) hx hb dX11_walk_84 (by decide) (fun h8 => ?_) (fun h8 => ?_)
  · have hf := vg_if h8 hf
    exact wX11_walk_101 Z hk16 v0 v1 v3 k0 μ _ _ _ _ _ _ _ hf hH hL hC hN (hl.sub [1, 2, 3, 0] rfl)
  · have hf := vg_ip h8 hf
    refine lv_aload_n hx hb dX11_walk_87 rfl (lv_at hl.1 1 rfl) ?_
    refine lv_iload_n hx hb dX11_walk_88 rfl (lv_at hl.1 2 rfl) ?_
    refine lv_iload_n hx hb dX11_walk_89 rfl (lv_at hl.1 3 rfl) ?_
    refine vg_callVi (ci := 14) X hml hl hH hL fCV_X11_247 rfl [.int v1, .int v3] rfl rfl (Nat.le_of_ble_eq_true rfl) dX11_walk_90 hf hC hN hRc hRs hfr hlo (by decide) (fun _ _ _ _ h => cX11_isAnswer_met h) (fun x16 μ17 cn nn H locs cells slots hf hC hN hH hL => ?_)
    refine lv_if_eq (tgt := 101) hx hb dX11_walk_93 (by decide) (fun h8 => ?_) (fun h8 => ?_)
    · have hf := vg_ip h8 hf
      exact wX11_walk_101 Z hk16 v0 v1 v3 k0 μ17 _ _ _ _ _ _ _ hf hH hL hC hN (hl.sub [1, 2, 3, 0] rfl)
    · have hf := vg_if h8 hf
      refine lv_aload_n hx hb dX11_walk_96 rfl (lv_at hl.1 1 rfl) ?_
      refine lv_iload_n hx hb dX11_walk_97 rfl (lv_at hl.1 3 rfl) ?_
      refine vg_callVv (ci := 14) X hml hl hH hL fCV_X11_250 rfl [.int v3] rfl rfl (Nat.le_of_ble_eq_true rfl) dX11_walk_98 hf hC hN hRc hRs hfr hlo (by decide) (fun _ _ _ _ h => cX11_tell_met h) (fun _ μ19 cn nn H locs cells slots hf hC hN hH hL => ?_)
      exact wX11_walk_101 Z hk16 v0 v1 v3 k0 μ19 _ _ _ _ _ _ _ hf hH hL hC hN (hl.sub [1, 2, 3, 0] rfl)
def fX11_walk_79 (q16 : Nat → Int32 → vg_M → vg_R Unit) (v0 : Nat) (v1 : Int32) (v3 : Int32) (μ : vg_M) : vg_R Unit :=
  fX11_walk_80 q16 v0 v1 v3 0 μ
set_option maxHeartbeats 4000000 in
set_option maxRecDepth 100000 in
theorem wX11_walk_79 {p : Program} {l : Launch} {e : Env} {R : Room} {s : State} {m : MethodId} {args : Array Value} {below : List Frame} {meth : Method} {c : Code} {D : va_G} {cy : Nat → ClassId} {H0 : Heap} {C0 N0 : Nat} {r : Unit} {μ' : vg_M} (Z : vg_Z D cy H0 p s m args c cX11_walk RX11 meth 5 none R 19 C0 N0 "walk") {q16 : Nat → Int32 → vg_M → vg_R Unit} (hk16 : ∀ (v0 : Nat) (v1 : Int32) (μ : vg_M), vg_S p l e R s m args below meth c D cy H0 C0 N0 5 (MQ below (vg_Qc D cy H0 μ' none) args s C0 N0 (vg_fr H0)) r μ' (q16 v0 v1 μ) μ [(0, .ref v0), (1, .int v1)] [] 16) (v0 : Nat) (v1 : Int32) (v3 : Int32) (μ : vg_M) : vg_S p l e R s m args below meth c D cy H0 C0 N0 5 (MQ below (vg_Qc D cy H0 μ' none) args s C0 N0 (vg_fr H0)) r μ' (fX11_walk_79 q16 v0 v1 v3 μ) μ [(0, .ref v0), (1, .int v1), (3, .int v3)] [] 79 := by
  intro cn nn H locs cells slots ls hf hH hL hC hN hl
  obtain ⟨X, hml, hr, hlk, hfr, hlo, hRc, hRs, hnm⟩ := id Z
  have hx := X.1
  have hb := X.2.1
  delta fX11_walk_79 at hf
  refine lv_iconst (v := 0) hx hb dX11_walk_79 (by decide) ?_
  exact wX11_walk_80 Z hk16 v0 v1 v3 0 μ _ _ _ _ _ _ _ hf hH hL hC hN (hl.sub [0, 1, 2] rfl)
def fX11_walk_16  : Nat → Nat → Int32 → vg_M → vg_R Unit
  | 0, _, _, _ => none
  | n + 1, v0, v1, μ =>
    vg_o (vg_gI μ v0 14 30) fun x1 =>
    if x1 < 0 then (
     vg_ret () μ
     ) else (
     vg_cv 14 v0 μ (fX11_following v0  μ) fun x2 μ3 =>
     if x2 = ((-1)) then (
      vg_o (vg_gI μ3 v0 14 30) fun x14 =>
      vg_o (vg_p μ3 v0 14 30 (.int (x14 - 1))) fun μ15 =>
      fX11_walk_131 (fX11_walk_16  n) v0 v1 μ15
      ) else (
      vg_o (vg_gR μ3 v0 14 32) fun x4 =>
      vg_o (vg_gI μ3 v0 14 30) fun x5 =>
      vg_o x4 fun a6 =>
      vg_o (vg_sI μ3 a6 2 x5 x2) fun μ7 =>
      vg_o (vg_gR μ7 v0 14 6) fun x8 =>
      vg_o x8 fun a9 =>
      vg_o (vg_aI μ7 a9 2 x2) fun x10 =>
      if x10 = 2 then (
       vg_o (vg_gR μ7 v0 14 11) fun x11 =>
       vg_o x11 fun a12 =>
       vg_o (vg_aI μ7 a12 3 x2) fun x13 =>
       if x13 = 0 then (
        fX11_walk_79 (fX11_walk_16  n) v0 v1 x2 μ7
        ) else (
        fX11_walk_80 (fX11_walk_16  n) v0 v1 x2 1 μ7
        )
       ) else (
       fX11_walk_79 (fX11_walk_16  n) v0 v1 x2 μ7
       )
      )
     )
set_option maxHeartbeats 4000000 in
set_option maxRecDepth 100000 in
theorem wX11_walk_16 {p : Program} {l : Launch} {e : Env} {R : Room} {s : State} {m : MethodId} {args : Array Value} {below : List Frame} {meth : Method} {c : Code} {D : va_G} {cy : Nat → ClassId} {H0 : Heap} {C0 N0 : Nat} {r : Unit} {μ' : vg_M} (Z : vg_Z D cy H0 p s m args c cX11_walk RX11 meth 5 none R 19 C0 N0 "walk")   : ∀ (n : Nat) (v0 : Nat) (v1 : Int32) (μ : vg_M), vg_S p l e R s m args below meth c D cy H0 C0 N0 5 (MQ below (vg_Qc D cy H0 μ' none) args s C0 N0 (vg_fr H0)) r μ' (fX11_walk_16  n v0 v1 μ) μ [(0, .ref v0), (1, .int v1)] [] 16 := by
  intro n
  induction n with
  | zero =>
    intro v0 v1 μ cn nn H locs cells slots ls hf
    simp [fX11_walk_16] at hf
  | succ n hk16 =>
    intro v0 v1 μ
    intro cn nn H locs cells slots ls hf hH hL hC hN hl
    obtain ⟨X, hml, hr, hlk, hfr, hlo, hRc, hRs, hnm⟩ := id Z
    have hx := X.1
    have hb := X.2.1
    rw [fX11_walk_16] at hf
    refine lv_aload_n hx hb dX11_walk_16 rfl (lv_at hl.1 0 rfl) ?_
    refine vg_getI X hH fF_X11_198 dX11_walk_17 hf (fun x1 hf => ?_)
    refine lv_if_lt (tgt := 134) hx hb dX11_walk_20 (by decide) (fun h8 => ?_) (fun h8 => ?_)
    · have hf := vg_ip h8 hf
      exact vg_retv X hr hlk hH hL dX11_walk_134 hf hC hN
    · have hf := vg_if h8 hf
      refine lv_aload_n hx hb dX11_walk_23 rfl (lv_at hl.1 0 rfl) ?_
      refine vg_callVi (ci := 14) X hml hl hH hL fCV_X11_244 rfl [] rfl rfl (Nat.le_of_ble_eq_true rfl) dX11_walk_24 hf hC hN hRc hRs hfr hlo (by decide) (fun _ _ _ _ h => cX11_following_met h) (fun x2 μ3 cn nn H locs cells slots hf hC hN hH hL => ?_)
      refine vg_istore_n (lv' := [(3, .int x2), (0, .ref v0), (1, .int v1)]) hx hb dX11_walk_27 rfl hl (by decide) rfl (fun ls hl => ?_)
      refine lv_iload_n hx hb dX11_walk_28 rfl (lv_at hl.1 0 rfl) ?_
      refine lv_iconst (v := (-1)) hx hb dX11_walk_29 (by decide) ?_
      refine lv_icmp_ne (tgt := 46) hx hb dX11_walk_30 (by decide) (fun h8 => ?_) (fun h8 => ?_)
      · have hf := vg_if h8 hf
        refine lv_aload_n hx hb dX11_walk_46 rfl (lv_at hl.1 1 rfl) ?_
        refine vg_getR X hH fF_X11_82 dX11_walk_47 hf (fun x4 hf => ?_)
        refine lv_aload_n hx hb dX11_walk_50 rfl (lv_at hl.1 1 rfl) ?_
        refine vg_getI X hH fF_X11_198 dX11_walk_51 hf (fun x5 hf => ?_)
        refine lv_iload_n hx hb dX11_walk_54 rfl (lv_at hl.1 0 rfl) ?_
        obtain ⟨a6, h9, hg⟩ := vg_o_inv hf
        clear hf
        subst h9
        have hf := hg
        clear hg
        refine vg_iast X hH hL dX11_walk_55 hf (fun μ7 H locs hf hH hL => ?_)
        refine lv_aload_n hx hb dX11_walk_56 rfl (lv_at hl.1 1 rfl) ?_
        refine vg_getR X hH fF_X11_20 dX11_walk_57 hf (fun x8 hf => ?_)
        refine lv_iload_n hx hb dX11_walk_60 rfl (lv_at hl.1 0 rfl) ?_
        obtain ⟨a9, h9, hg⟩ := vg_o_inv hf
        clear hf
        subst h9
        have hf := hg
        clear hg
        refine vg_iald X hH dX11_walk_61 hf (fun x10 hf => ?_)
        refine lv_iconst (v := 2) hx hb dX11_walk_62 (by decide) ?_
        refine lv_icmp_ne (tgt := 79) hx hb dX11_walk_63 (by decide) (fun h8 => ?_) (fun h8 => ?_)
        · have hf := vg_if h8 hf
          exact wX11_walk_79 Z hk16 v0 v1 x2 μ7 _ _ _ _ _ _ _ hf hH hL hC hN (hl.sub [1, 2, 0] rfl)
        · have hf := vg_ip h8 hf
          refine lv_aload_n hx hb dX11_walk_66 rfl (lv_at hl.1 1 rfl) ?_
          refine vg_getR X hH fF_X11_35 dX11_walk_67 hf (fun x11 hf => ?_)
          refine lv_iload_n hx hb dX11_walk_70 rfl (lv_at hl.1 0 rfl) ?_
          obtain ⟨a12, h9, hg⟩ := vg_o_inv hf
          clear hf
          subst h9
          have hf := hg
          clear hg
          refine vg_zald X hH dX11_walk_71 hf (fun x13 hf => ?_)
          refine lv_if_eq (tgt := 79) hx hb dX11_walk_72 (by decide) (fun h8 => ?_) (fun h8 => ?_)
          · have hf := vg_ip h8 hf
            exact wX11_walk_79 Z hk16 v0 v1 x2 μ7 _ _ _ _ _ _ _ hf hH hL hC hN (hl.sub [1, 2, 0] rfl)
          · have hf := vg_if h8 hf
            refine lv_iconst (v := 1) hx hb dX11_walk_75 (by decide) ?_
            refine lv_goto (tgt := 80) hx hb dX11_walk_76 (by decide) ?_
            exact wX11_walk_80 Z hk16 v0 v1 x2 1 μ7 _ _ _ _ _ _ _ hf hH hL hC hN (hl.sub [1, 2, 0] rfl)
      · have hf := vg_ip h8 hf
        refine lv_aload_n hx hb dX11_walk_33 rfl (lv_at hl.1 1 rfl) ?_
        refine lv_dup hx hb dX11_walk_34 rfl ?_
        refine vg_getI X hH fF_X11_198 dX11_walk_35 hf (fun x14 hf => ?_)
        refine lv_iconst (v := 1) hx hb dX11_walk_38 (by decide) ?_
        refine lv_isub hx hb dX11_walk_39 ?_
        refine vg_putV X hH hL fF_X11_198 rfl rfl dX11_walk_40 hf (fun μ15 H locs hf hH hL => ?_)
        refine lv_goto (tgt := 131) hx hb dX11_walk_43 (by decide) ?_
        exact wX11_walk_131 Z hk16 v0 v1 μ15 _ _ _ _ _ _ _ hf hH hL hC hN (hl.sub [1, 2] rfl)
def fX11_walk (v0 : Nat) (v1 : Int32) (v2 : Int32) (μ : vg_M) : vg_R Unit :=
  vg_o (vg_p μ v0 14 30 (.int ((-1)))) fun μ29 =>
  vg_cv 14 v0 μ29 (fX11_enter v0 v2 0 μ29) fun _ μ31 =>
  vg_cv 14 v0 μ31 (fX11_look v0 v1 μ31) fun _ μ33 =>
  fX11_walk_16  vg_fuel v0 v1 μ33
set_option maxHeartbeats 4000000 in
set_option maxRecDepth 100000 in
theorem cX11_walk_met {l : Launch} {D : va_G} {cy : Nat → ClassId} {H0 : Heap} {r : Unit} {μ μ' : vg_M} {cn nn : Nat} {v0 : Nat} {v1 : Int32} {v2 : Int32} (hf : fX11_walk v0 v1 v2 μ = some (r, μ', cn, nn)) : vg_Met l D cy H0 yX11_walk cX11_walk 5 none 19 μ [.ref v0, .int v1, .int v2] none μ' cn nn := by
  refine vg_start (by decide +kernel) (List.forall_mem_cons.mpr ⟨rfl, (List.forall_mem_cons.mpr ⟨rfl, (List.forall_mem_cons.mpr ⟨rfl, (fun _ h => nomatch h)⟩)⟩)⟩) (Nat.le_of_ble_eq_true rfl) ?_
  intro p e s m below meth c ls X hml hr hlk hnm hH hl
  have hl : vg_l ls 5 [(0, .ref v0), (1, .int v1), (2, .int v2)] := hl
  have Z : vg_Z D cy H0 p s m _ c cX11_walk RX11 meth 5 none (vg_rm 19 cn nn) 19 cn nn _ := ⟨X, hml, hr, hlk, Nat.le_refl _, Nat.le_refl _, Nat.le_refl _, Nat.le_refl _, hnm⟩
  obtain ⟨-, -, -, -, hfr, hlo, hRc, hRs, -⟩ := id Z
  have hx := X.1
  have hb := X.2.1
  have hL : ∀ z ∈ ([] : List Loc), H0.size ≤ z.base := fun _ h => nomatch h
  have hC : 0 + cn = cn := Nat.zero_add _
  have hN : 0 + nn = nn := Nat.zero_add _
  delta fX11_walk at hf
  refine lv_aload_n hx hb dX11_walk_0 rfl (lv_at hl.1 0 rfl) ?_
  refine lv_iconst (v := (-1)) hx hb dX11_walk_1 (by decide) ?_
  refine vg_putV X hH hL fF_X11_198 rfl rfl dX11_walk_2 hf (fun μ29 H locs hf hH hL => ?_)
  refine lv_aload_n hx hb dX11_walk_5 rfl (lv_at hl.1 0 rfl) ?_
  refine lv_iload_n hx hb dX11_walk_6 rfl (lv_at hl.1 2 rfl) ?_
  refine lv_iconst (v := 0) hx hb dX11_walk_7 (by decide) ?_
  refine vg_callVv (ci := 14) X hml hl hH hL fCV_X11_238 rfl [.int v2, .int 0] rfl rfl (Nat.le_of_ble_eq_true rfl) dX11_walk_8 hf hC hN hRc hRs hfr hlo (by decide) (fun _ _ _ _ h => cX11_enter_met h) (fun _ μ31 cn nn H locs cells slots hf hC hN hH hL => ?_)
  refine lv_aload_n hx hb dX11_walk_11 rfl (lv_at hl.1 0 rfl) ?_
  refine lv_iload_n hx hb dX11_walk_12 rfl (lv_at hl.1 1 rfl) ?_
  refine vg_callVv (ci := 14) X hml hl hH hL fCV_X11_241 rfl [.int v1] rfl rfl (Nat.le_of_ble_eq_true rfl) dX11_walk_13 hf hC hN hRc hRs hfr hlo (by decide) (fun _ _ _ _ h => cX11_look_met h) (fun _ μ33 cn nn H locs cells slots hf hC hN hH hL => ?_)
  exact wX11_walk_16 Z  vg_fuel v0 v1 μ33 _ _ _ _ _ _ _ hf hH hL hC hN (hl.sub [0, 1] rfl)
def fX11_ask_17   (μ : vg_M) : vg_R Int32 :=
  vg_ret ((-1)) μ
set_option maxHeartbeats 4000000 in
set_option maxRecDepth 100000 in
theorem wX11_ask_17 {p : Program} {l : Launch} {e : Env} {R : Room} {s : State} {m : MethodId} {args : Array Value} {below : List Frame} {meth : Method} {c : Code} {D : va_G} {cy : Nat → ClassId} {H0 : Heap} {C0 N0 : Nat} {r : Int32} {μ' : vg_M} (Z : vg_Z D cy H0 p s m args c cX11_ask RX11 meth 5 (some .int) R 20 C0 N0 "ask")    (μ : vg_M) : vg_S p l e R s m args below meth c D cy H0 C0 N0 5 (MQ below (vg_Qc D cy H0 μ' (some (.int r))) args s C0 N0 (vg_fr H0)) r μ' (fX11_ask_17   μ) μ [] [] 17 := by
  intro cn nn H locs cells slots ls hf hH hL hC hN hl
  obtain ⟨X, hml, hr, hlk, hfr, hlo, hRc, hRs, hnm⟩ := id Z
  have hx := X.1
  have hb := X.2.1
  delta fX11_ask_17 at hf
  refine lv_iconst (v := (-1)) hx hb dX11_ask_17 (by decide) ?_
  exact vg_reti X hr hlk hH hL dX11_ask_18 hf hC hN
def fX11_ask_137  : Nat → Nat → Int32 → Int32 → vg_M → vg_R Int32
  | 0, _, _, _, _ => none
  | n + 1, v0, v1, v4, μ =>
    if 60 < v4 then (
     vg_o (vg_gR μ v0 14 19) fun x23 =>
     vg_o (vg_gI μ v0 14 14) fun x24 =>
     vg_o x23 fun a25 =>
     vg_o (vg_sI μ a25 2 v1 x24) fun μ26 =>
     vg_o (vg_gR μ26 v0 14 23) fun x27 =>
     vg_o x27 fun a28 =>
     vg_o (vg_sI μ26 a28 3 v1 0) fun μ29 =>
     vg_o (vg_gI μ29 v0 14 27) fun x30 =>
     vg_ret x30 μ29
     ) else (
     vg_o (vg_gR μ v0 14 24) fun x31 =>
     vg_o (vg_gR μ v0 14 38) fun x32 =>
     vg_o x32 fun a33 =>
     vg_o (vg_aI μ a33 2 v4) fun x34 =>
     vg_o x31 fun a35 =>
     vg_o (vg_sI μ a35 2 ((61 * v1) + v4) x34) fun μ36 =>
     (fX11_ask_137  n) v0 v1 (v4 + 1) μ36
     )
set_option maxHeartbeats 4000000 in
set_option maxRecDepth 100000 in
theorem wX11_ask_137 {p : Program} {l : Launch} {e : Env} {R : Room} {s : State} {m : MethodId} {args : Array Value} {below : List Frame} {meth : Method} {c : Code} {D : va_G} {cy : Nat → ClassId} {H0 : Heap} {C0 N0 : Nat} {r : Int32} {μ' : vg_M} (Z : vg_Z D cy H0 p s m args c cX11_ask RX11 meth 5 (some .int) R 20 C0 N0 "ask")   : ∀ (n : Nat) (v0 : Nat) (v1 : Int32) (v4 : Int32) (μ : vg_M), vg_S p l e R s m args below meth c D cy H0 C0 N0 5 (MQ below (vg_Qc D cy H0 μ' (some (.int r))) args s C0 N0 (vg_fr H0)) r μ' (fX11_ask_137  n v0 v1 v4 μ) μ [(0, .ref v0), (1, .int v1), (4, .int v4)] [] 137 := by
  intro n
  induction n with
  | zero =>
    intro v0 v1 v4 μ cn nn H locs cells slots ls hf
    simp [fX11_ask_137] at hf
  | succ n hk137 =>
    intro v0 v1 v4 μ
    intro cn nn H locs cells slots ls hf hH hL hC hN hl
    obtain ⟨X, hml, hr, hlk, hfr, hlo, hRc, hRs, hnm⟩ := id Z
    have hx := X.1
    have hb := X.2.1
    rw [fX11_ask_137] at hf
    refine lv_iload hx hb dX11_ask_137 (lv_at hl.1 2 rfl) ?_
    refine lv_bipush (v := 60) hx hb dX11_ask_139 (by decide) ?_
    refine lv_icmp_gt (tgt := 169) hx hb dX11_ask_141 (by decide) (fun h8 => ?_) (fun h8 => ?_)
    · have hf := vg_ip h8 hf
      refine lv_aload_n hx hb dX11_ask_169 rfl (lv_at hl.1 0 rfl) ?_
      refine vg_getR X hH fF_X11_51 dX11_ask_170 hf (fun x23 hf => ?_)
      refine lv_iload_n hx hb dX11_ask_173 rfl (lv_at hl.1 1 rfl) ?_
      refine lv_aload_n hx hb dX11_ask_174 rfl (lv_at hl.1 0 rfl) ?_
      refine vg_getI X hH fF_X11_127 dX11_ask_175 hf (fun x24 hf => ?_)
      obtain ⟨a25, h9, hg⟩ := vg_o_inv hf
      clear hf
      subst h9
      have hf := hg
      clear hg
      refine vg_iast X hH hL dX11_ask_178 hf (fun μ26 H locs hf hH hL => ?_)
      refine lv_aload_n hx hb dX11_ask_179 rfl (lv_at hl.1 0 rfl) ?_
      refine vg_getR X hH fF_X11_63 dX11_ask_180 hf (fun x27 hf => ?_)
      refine lv_iload_n hx hb dX11_ask_183 rfl (lv_at hl.1 1 rfl) ?_
      refine lv_iconst (v := 0) hx hb dX11_ask_184 (by decide) ?_
      obtain ⟨a28, h9, hg⟩ := vg_o_inv hf
      clear hf
      subst h9
      have hf := hg
      clear hg
      refine vg_zast X hH hL dX11_ask_185 hf (fun μ29 H locs hf hH hL => ?_)
      refine lv_aload_n hx hb dX11_ask_186 rfl (lv_at hl.1 0 rfl) ?_
      refine vg_getI X hH fF_X11_219 dX11_ask_187 hf (fun x30 hf => ?_)
      exact vg_reti X hr hlk hH hL dX11_ask_190 hf hC hN
    · have hf := vg_if h8 hf
      refine lv_aload_n hx hb dX11_ask_144 rfl (lv_at hl.1 0 rfl) ?_
      refine vg_getR X hH fF_X11_66 dX11_ask_145 hf (fun x31 hf => ?_)
      refine lv_bipush (v := 61) hx hb dX11_ask_148 (by decide) ?_
      refine lv_iload_n hx hb dX11_ask_150 rfl (lv_at hl.1 1 rfl) ?_
      refine lv_imul hx hb dX11_ask_151 ?_
      refine lv_iload hx hb dX11_ask_152 (lv_at hl.1 2 rfl) ?_
      refine lv_iadd hx hb dX11_ask_154 ?_
      refine lv_aload_n hx hb dX11_ask_155 rfl (lv_at hl.1 0 rfl) ?_
      refine vg_getR X hH fF_X11_97 dX11_ask_156 hf (fun x32 hf => ?_)
      refine lv_iload hx hb dX11_ask_159 (lv_at hl.1 2 rfl) ?_
      obtain ⟨a33, h9, hg⟩ := vg_o_inv hf
      clear hf
      subst h9
      have hf := hg
      clear hg
      refine vg_iald X hH dX11_ask_161 hf (fun x34 hf => ?_)
      obtain ⟨a35, h9, hg⟩ := vg_o_inv hf
      clear hf
      subst h9
      have hf := hg
      clear hg
      refine vg_iast X hH hL dX11_ask_162 hf (fun μ36 H locs hf hH hL => ?_)
      refine vg_iinc (v := v4 + 1) (lv' := [(4, .int (v4 + 1)), (0, .ref v0), (1, .int v1)]) hx hb dX11_ask_163 hl (k := 2) rfl rfl (by decide) rfl (fun ls hl => ?_)
      refine lv_goto (tgt := 137) hx hb dX11_ask_166 (by decide) ?_
      exact hk137 v0 v1 (v4 + 1) μ36 _ _ _ _ _ _ _ hf hH hL hC hN (hl.sub [1, 2, 0] rfl)
def fX11_ask_134  (v0 : Nat) (v1 : Int32) (μ : vg_M) : vg_R Int32 :=
  fX11_ask_137  vg_fuel v0 v1 0 μ
set_option maxHeartbeats 4000000 in
set_option maxRecDepth 100000 in
theorem wX11_ask_134 {p : Program} {l : Launch} {e : Env} {R : Room} {s : State} {m : MethodId} {args : Array Value} {below : List Frame} {meth : Method} {c : Code} {D : va_G} {cy : Nat → ClassId} {H0 : Heap} {C0 N0 : Nat} {r : Int32} {μ' : vg_M} (Z : vg_Z D cy H0 p s m args c cX11_ask RX11 meth 5 (some .int) R 20 C0 N0 "ask")   (v0 : Nat) (v1 : Int32) (μ : vg_M) : vg_S p l e R s m args below meth c D cy H0 C0 N0 5 (MQ below (vg_Qc D cy H0 μ' (some (.int r))) args s C0 N0 (vg_fr H0)) r μ' (fX11_ask_134  v0 v1 μ) μ [(0, .ref v0), (1, .int v1)] [] 134 := by
  intro cn nn H locs cells slots ls hf hH hL hC hN hl
  obtain ⟨X, hml, hr, hlk, hfr, hlo, hRc, hRs, hnm⟩ := id Z
  have hx := X.1
  have hb := X.2.1
  delta fX11_ask_134 at hf
  refine lv_iconst (v := 0) hx hb dX11_ask_134 (by decide) ?_
  refine vg_istore (lv' := [(4, .int 0), (0, .ref v0), (1, .int v1)]) hx hb dX11_ask_135 hl (by decide) rfl (fun ls hl => ?_)
  exact wX11_ask_137 Z  vg_fuel v0 v1 0 μ _ _ _ _ _ _ _ hf hH hL hC hN (hl.sub [1, 2, 0] rfl)
def fX11_ask_102  : Nat → Nat → Int32 → Int32 → Int32 → vg_M → vg_R Int32
  | 0, _, _, _, _, _ => none
  | n + 1, v0, v1, v3, v4, μ =>
    if 60 < v4 then (
     if v3 = ((-1)) then (
      fX11_ask_134  v0 v1 μ
      ) else (
      vg_cv 14 v0 μ (fX11_walk v0 v1 v3 μ) fun _ μ19 =>
      fX11_ask_134  v0 v1 μ19
      )
     ) else (
     vg_o (vg_gR μ v0 14 38) fun x20 =>
     vg_o x20 fun a21 =>
     vg_o (vg_sI μ a21 2 v4 0) fun μ22 =>
     (fX11_ask_102  n) v0 v1 v3 (v4 + 1) μ22
     )
set_option maxHeartbeats 4000000 in
set_option maxRecDepth 100000 in
theorem wX11_ask_102 {p : Program} {l : Launch} {e : Env} {R : Room} {s : State} {m : MethodId} {args : Array Value} {below : List Frame} {meth : Method} {c : Code} {D : va_G} {cy : Nat → ClassId} {H0 : Heap} {C0 N0 : Nat} {r : Int32} {μ' : vg_M} (Z : vg_Z D cy H0 p s m args c cX11_ask RX11 meth 5 (some .int) R 20 C0 N0 "ask")   : ∀ (n : Nat) (v0 : Nat) (v1 : Int32) (v3 : Int32) (v4 : Int32) (μ : vg_M), vg_S p l e R s m args below meth c D cy H0 C0 N0 5 (MQ below (vg_Qc D cy H0 μ' (some (.int r))) args s C0 N0 (vg_fr H0)) r μ' (fX11_ask_102  n v0 v1 v3 v4 μ) μ [(0, .ref v0), (1, .int v1), (3, .int v3), (4, .int v4)] [] 102 := by
  intro n
  induction n with
  | zero =>
    intro v0 v1 v3 v4 μ cn nn H locs cells slots ls hf
    simp [fX11_ask_102] at hf
  | succ n hk102 =>
    intro v0 v1 v3 v4 μ
    intro cn nn H locs cells slots ls hf hH hL hC hN hl
    obtain ⟨X, hml, hr, hlk, hfr, hlo, hRc, hRs, hnm⟩ := id Z
    have hx := X.1
    have hb := X.2.1
    rw [fX11_ask_102] at hf
    refine lv_iload hx hb dX11_ask_102 (lv_at hl.1 3 rfl) ?_
    refine lv_bipush (v := 60) hx hb dX11_ask_104 (by decide) ?_
    refine lv_icmp_gt (tgt := 123) hx hb dX11_ask_106 (by decide) (fun h8 => ?_) (fun h8 => ?_)
    · have hf := vg_ip h8 hf
      refine lv_iload_n hx hb dX11_ask_123 rfl (lv_at hl.1 2 rfl) ?_
      refine lv_iconst (v := (-1)) hx hb dX11_ask_124 (by decide) ?_
      refine lv_icmp_eq (tgt := 134) hx hb dX11_ask_125 (by decide) (fun h8 => ?_) (fun h8 => ?_)
      · have hf := vg_ip h8 hf
        exact wX11_ask_134 Z  v0 v1 μ _ _ _ _ _ _ _ hf hH hL hC hN (hl.sub [0, 1] rfl)
      · have hf := vg_if h8 hf
        refine lv_aload_n hx hb dX11_ask_128 rfl (lv_at hl.1 0 rfl) ?_
        refine lv_iload_n hx hb dX11_ask_129 rfl (lv_at hl.1 1 rfl) ?_
        refine lv_iload_n hx hb dX11_ask_130 rfl (lv_at hl.1 2 rfl) ?_
        refine vg_callVv (ci := 14) X hml hl hH hL fCV_X11_228 rfl [.int v1, .int v3] rfl rfl (Nat.le_of_ble_eq_true rfl) dX11_ask_131 hf hC hN hRc hRs hfr hlo (by decide) (fun _ _ _ _ h => cX11_walk_met h) (fun _ μ19 cn nn H locs cells slots hf hC hN hH hL => ?_)
        exact wX11_ask_134 Z  v0 v1 μ19 _ _ _ _ _ _ _ hf hH hL hC hN (hl.sub [0, 1] rfl)
    · have hf := vg_if h8 hf
      refine lv_aload_n hx hb dX11_ask_109 rfl (lv_at hl.1 0 rfl) ?_
      refine vg_getR X hH fF_X11_97 dX11_ask_110 hf (fun x20 hf => ?_)
      refine lv_iload hx hb dX11_ask_113 (lv_at hl.1 3 rfl) ?_
      refine lv_iconst (v := 0) hx hb dX11_ask_115 (by decide) ?_
      obtain ⟨a21, h9, hg⟩ := vg_o_inv hf
      clear hf
      subst h9
      have hf := hg
      clear hg
      refine vg_iast X hH hL dX11_ask_116 hf (fun μ22 H locs hf hH hL => ?_)
      refine vg_iinc (v := v4 + 1) (lv' := [(4, .int (v4 + 1)), (0, .ref v0), (1, .int v1), (3, .int v3)]) hx hb dX11_ask_117 hl (k := 3) rfl rfl (by decide) rfl (fun ls hl => ?_)
      refine lv_goto (tgt := 102) hx hb dX11_ask_120 (by decide) ?_
      exact hk102 v0 v1 v3 (v4 + 1) μ22 _ _ _ _ _ _ _ hf hH hL hC hN (hl.sub [1, 2, 3, 0] rfl)
def fX11_ask_63  : Nat → Nat → Int32 → Int32 → Int32 → Int32 → vg_M → vg_R Int32
  | 0, _, _, _, _, _, _ => none
  | n + 1, v0, v1, v2, v3, v4, μ =>
    if v2 ≤ v4 then (
     vg_o (vg_p μ v0 14 27 (.int 0)) fun μ10 =>
     vg_o (vg_p μ10 v0 14 26 (.int 0)) fun μ11 =>
     fX11_ask_102  vg_fuel v0 v1 v3 0 μ11
     ) else (
     vg_o (vg_gR μ v0 14 1) fun x12 =>
     vg_o (vg_gR μ v0 14 37) fun x13 =>
     vg_o x13 fun a14 =>
     vg_o (vg_aI μ a14 0 v4) fun x15 =>
     vg_o x12 fun a16 =>
     vg_o (vg_sI μ a16 0 v4 x15) fun μ17 =>
     (fX11_ask_63  n) v0 v1 v2 v3 (v4 + 1) μ17
     )
set_option maxHeartbeats 4000000 in
set_option maxRecDepth 100000 in
theorem wX11_ask_63 {p : Program} {l : Launch} {e : Env} {R : Room} {s : State} {m : MethodId} {args : Array Value} {below : List Frame} {meth : Method} {c : Code} {D : va_G} {cy : Nat → ClassId} {H0 : Heap} {C0 N0 : Nat} {r : Int32} {μ' : vg_M} (Z : vg_Z D cy H0 p s m args c cX11_ask RX11 meth 5 (some .int) R 20 C0 N0 "ask")   : ∀ (n : Nat) (v0 : Nat) (v1 : Int32) (v2 : Int32) (v3 : Int32) (v4 : Int32) (μ : vg_M), vg_S p l e R s m args below meth c D cy H0 C0 N0 5 (MQ below (vg_Qc D cy H0 μ' (some (.int r))) args s C0 N0 (vg_fr H0)) r μ' (fX11_ask_63  n v0 v1 v2 v3 v4 μ) μ [(0, .ref v0), (1, .int v1), (2, .int v2), (3, .int v3), (4, .int v4)] [] 63 := by
  intro n
  induction n with
  | zero =>
    intro v0 v1 v2 v3 v4 μ cn nn H locs cells slots ls hf
    simp [fX11_ask_63] at hf
  | succ n hk63 =>
    intro v0 v1 v2 v3 v4 μ
    intro cn nn H locs cells slots ls hf hH hL hC hN hl
    obtain ⟨X, hml, hr, hlk, hfr, hlo, hRc, hRs, hnm⟩ := id Z
    have hx := X.1
    have hb := X.2.1
    rw [fX11_ask_63] at hf
    refine lv_iload hx hb dX11_ask_63 (lv_at hl.1 4 rfl) ?_
    refine lv_iload_n hx hb dX11_ask_65 rfl (lv_at hl.1 2 rfl) ?_
    refine lv_icmp_ge (tgt := 89) hx hb dX11_ask_66 (by decide) (fun h8 => ?_) (fun h8 => ?_)
    · have hf := vg_ip h8 hf
      refine lv_aload_n hx hb dX11_ask_89 rfl (lv_at hl.1 0 rfl) ?_
      refine lv_iconst (v := 0) hx hb dX11_ask_90 (by decide) ?_
      refine vg_putV X hH hL fF_X11_219 rfl rfl dX11_ask_91 hf (fun μ10 H locs hf hH hL => ?_)
      refine lv_aload_n hx hb dX11_ask_94 rfl (lv_at hl.1 0 rfl) ?_
      refine lv_iconst (v := 0) hx hb dX11_ask_95 (by decide) ?_
      refine vg_putV X hH hL fF_X11_225 rfl rfl dX11_ask_96 hf (fun μ11 H locs hf hH hL => ?_)
      refine lv_iconst (v := 0) hx hb dX11_ask_99 (by decide) ?_
      refine vg_istore (lv' := [(4, .int 0), (0, .ref v0), (1, .int v1), (2, .int v2), (3, .int v3)]) hx hb dX11_ask_100 hl (by decide) rfl (fun ls hl => ?_)
      exact wX11_ask_102 Z  vg_fuel v0 v1 v3 0 μ11 _ _ _ _ _ _ _ hf hH hL hC hN (hl.sub [1, 2, 4, 0] rfl)
    · have hf := vg_if h8 hf
      refine lv_aload_n hx hb dX11_ask_69 rfl (lv_at hl.1 0 rfl) ?_
      refine vg_getR X hH fF_X11_7 dX11_ask_70 hf (fun x12 hf => ?_)
      refine lv_iload hx hb dX11_ask_73 (lv_at hl.1 4 rfl) ?_
      refine lv_aload_n hx hb dX11_ask_75 rfl (lv_at hl.1 0 rfl) ?_
      refine vg_getR X hH fF_X11_94 dX11_ask_76 hf (fun x13 hf => ?_)
      refine lv_iload hx hb dX11_ask_79 (lv_at hl.1 4 rfl) ?_
      obtain ⟨a14, h9, hg⟩ := vg_o_inv hf
      clear hf
      subst h9
      have hf := hg
      clear hg
      refine vg_bald X hH dX11_ask_81 hf (fun x15 hf => ?_)
      obtain ⟨a16, h9, hg⟩ := vg_o_inv hf
      clear hf
      subst h9
      have hf := hg
      clear hg
      refine vg_bast X hH hL dX11_ask_82 hf (fun μ17 H locs hf hH hL => ?_)
      refine vg_iinc (v := v4 + 1) (lv' := [(4, .int (v4 + 1)), (0, .ref v0), (1, .int v1), (2, .int v2), (3, .int v3)]) hx hb dX11_ask_83 hl (k := 4) rfl rfl (by decide) rfl (fun ls hl => ?_)
      refine lv_goto (tgt := 63) hx hb dX11_ask_86 (by decide) ?_
      exact hk63 v0 v1 v2 v3 (v4 + 1) μ17 _ _ _ _ _ _ _ hf hH hL hC hN (hl.sub [1, 2, 3, 4, 0] rfl)
def fX11_ask_26  : Nat → Nat → Int32 → Int32 → Int32 → vg_M → vg_R Int32
  | 0, _, _, _, _, _ => none
  | n + 1, v0, v1, v2, v3, μ =>
    if v2 ≤ v3 then (
     vg_cv 14 v0 μ (fX11_packageOf v0 v1 μ) fun x1 μ2 =>
     vg_o (vg_p μ2 v0 14 2 (.int v2)) fun μ3 =>
     fX11_ask_63  vg_fuel v0 v1 v2 x1 0 μ3
     ) else (
     vg_o (vg_gR μ v0 14 37) fun x4 =>
     vg_o (vg_gR μ v0 14 1) fun x5 =>
     vg_o x5 fun a6 =>
     vg_o (vg_aI μ a6 0 v3) fun x7 =>
     vg_o x4 fun a8 =>
     vg_o (vg_sI μ a8 0 v3 x7) fun μ9 =>
     (fX11_ask_26  n) v0 v1 v2 (v3 + 1) μ9
     )
set_option maxHeartbeats 4000000 in
set_option maxRecDepth 100000 in
theorem wX11_ask_26 {p : Program} {l : Launch} {e : Env} {R : Room} {s : State} {m : MethodId} {args : Array Value} {below : List Frame} {meth : Method} {c : Code} {D : va_G} {cy : Nat → ClassId} {H0 : Heap} {C0 N0 : Nat} {r : Int32} {μ' : vg_M} (Z : vg_Z D cy H0 p s m args c cX11_ask RX11 meth 5 (some .int) R 20 C0 N0 "ask")   : ∀ (n : Nat) (v0 : Nat) (v1 : Int32) (v2 : Int32) (v3 : Int32) (μ : vg_M), vg_S p l e R s m args below meth c D cy H0 C0 N0 5 (MQ below (vg_Qc D cy H0 μ' (some (.int r))) args s C0 N0 (vg_fr H0)) r μ' (fX11_ask_26  n v0 v1 v2 v3 μ) μ [(0, .ref v0), (1, .int v1), (2, .int v2), (3, .int v3)] [] 26 := by
  intro n
  induction n with
  | zero =>
    intro v0 v1 v2 v3 μ cn nn H locs cells slots ls hf
    simp [fX11_ask_26] at hf
  | succ n hk26 =>
    intro v0 v1 v2 v3 μ
    intro cn nn H locs cells slots ls hf hH hL hC hN hl
    obtain ⟨X, hml, hr, hlk, hfr, hlo, hRc, hRs, hnm⟩ := id Z
    have hx := X.1
    have hb := X.2.1
    rw [fX11_ask_26] at hf
    refine lv_iload_n hx hb dX11_ask_26 rfl (lv_at hl.1 3 rfl) ?_
    refine lv_iload_n hx hb dX11_ask_27 rfl (lv_at hl.1 2 rfl) ?_
    refine lv_icmp_ge (tgt := 49) hx hb dX11_ask_28 (by decide) (fun h8 => ?_) (fun h8 => ?_)
    · have hf := vg_ip h8 hf
      refine lv_aload_n hx hb dX11_ask_49 rfl (lv_at hl.1 0 rfl) ?_
      refine lv_iload_n hx hb dX11_ask_50 rfl (lv_at hl.1 1 rfl) ?_
      refine vg_callVi (ci := 14) X hml hl hH hL fCV_X11_222 rfl [.int v1] rfl rfl (Nat.le_of_ble_eq_true rfl) dX11_ask_51 hf hC hN hRc hRs hfr hlo (by decide) (fun _ _ _ _ h => cX11_packageOf_met h) (fun x1 μ2 cn nn H locs cells slots hf hC hN hH hL => ?_)
      refine vg_istore_n (lv' := [(3, .int x1), (0, .ref v0), (1, .int v1), (2, .int v2)]) hx hb dX11_ask_54 rfl hl (by decide) rfl (fun ls hl => ?_)
      refine lv_aload_n hx hb dX11_ask_55 rfl (lv_at hl.1 1 rfl) ?_
      refine lv_iload_n hx hb dX11_ask_56 rfl (lv_at hl.1 3 rfl) ?_
      refine vg_putV X hH hL fF_X11_106 rfl rfl dX11_ask_57 hf (fun μ3 H locs hf hH hL => ?_)
      refine lv_iconst (v := 0) hx hb dX11_ask_60 (by decide) ?_
      refine vg_istore (lv' := [(4, .int 0), (3, .int x1), (0, .ref v0), (1, .int v1), (2, .int v2)]) hx hb dX11_ask_61 hl (by decide) rfl (fun ls hl => ?_)
      exact wX11_ask_63 Z  vg_fuel v0 v1 v2 x1 0 μ3 _ _ _ _ _ _ _ hf hH hL hC hN (hl.sub [2, 3, 4, 1, 0] rfl)
    · have hf := vg_if h8 hf
      refine lv_aload_n hx hb dX11_ask_31 rfl (lv_at hl.1 0 rfl) ?_
      refine vg_getR X hH fF_X11_94 dX11_ask_32 hf (fun x4 hf => ?_)
      refine lv_iload_n hx hb dX11_ask_35 rfl (lv_at hl.1 3 rfl) ?_
      refine lv_aload_n hx hb dX11_ask_36 rfl (lv_at hl.1 0 rfl) ?_
      refine vg_getR X hH fF_X11_7 dX11_ask_37 hf (fun x5 hf => ?_)
      refine lv_iload_n hx hb dX11_ask_40 rfl (lv_at hl.1 3 rfl) ?_
      obtain ⟨a6, h9, hg⟩ := vg_o_inv hf
      clear hf
      subst h9
      have hf := hg
      clear hg
      refine vg_bald X hH dX11_ask_41 hf (fun x7 hf => ?_)
      obtain ⟨a8, h9, hg⟩ := vg_o_inv hf
      clear hf
      subst h9
      have hf := hg
      clear hg
      refine vg_bast X hH hL dX11_ask_42 hf (fun μ9 H locs hf hH hL => ?_)
      refine vg_iinc (v := v3 + 1) (lv' := [(3, .int (v3 + 1)), (0, .ref v0), (1, .int v1), (2, .int v2)]) hx hb dX11_ask_43 hl (k := 3) rfl rfl (by decide) rfl (fun ls hl => ?_)
      refine lv_goto (tgt := 26) hx hb dX11_ask_46 (by decide) ?_
      exact hk26 v0 v1 v2 (v3 + 1) μ9 _ _ _ _ _ _ _ hf hH hL hC hN (hl.sub [1, 2, 3, 0] rfl)
def fX11_ask (v0 : Nat) (v1 : Int32) (μ : vg_M) : vg_R Int32 :=
  vg_o (vg_p μ v0 14 0 (.int 0)) fun μ37 =>
  if v1 < 0 then (
   fX11_ask_17   μ37
   ) else (
   vg_o (vg_gI μ37 v0 14 15) fun x38 =>
   if v1 < x38 then (
    vg_o (vg_gI μ37 v0 14 2) fun x39 =>
    fX11_ask_26  vg_fuel v0 v1 x39 0 μ37
    ) else (
    fX11_ask_17   μ37
    )
   )
set_option maxHeartbeats 4000000 in
set_option maxRecDepth 100000 in
theorem cX11_ask_met {l : Launch} {D : va_G} {cy : Nat → ClassId} {H0 : Heap} {r : Int32} {μ μ' : vg_M} {cn nn : Nat} {v0 : Nat} {v1 : Int32} (hf : fX11_ask v0 v1 μ = some (r, μ', cn, nn)) : vg_Met l D cy H0 yX11_ask cX11_ask 5 (some .int) 20 μ [.ref v0, .int v1] (some (.int r)) μ' cn nn := by
  refine vg_start (by decide +kernel) (List.forall_mem_cons.mpr ⟨rfl, (List.forall_mem_cons.mpr ⟨rfl, (fun _ h => nomatch h)⟩)⟩) (Nat.le_of_ble_eq_true rfl) ?_
  intro p e s m below meth c ls X hml hr hlk hnm hH hl
  have hl : vg_l ls 5 [(0, .ref v0), (1, .int v1)] := hl
  have Z : vg_Z D cy H0 p s m _ c cX11_ask RX11 meth 5 (some .int) (vg_rm 20 cn nn) 20 cn nn _ := ⟨X, hml, hr, hlk, Nat.le_refl _, Nat.le_refl _, Nat.le_refl _, Nat.le_refl _, hnm⟩
  obtain ⟨-, -, -, -, hfr, hlo, hRc, hRs, -⟩ := id Z
  have hx := X.1
  have hb := X.2.1
  have hL : ∀ z ∈ ([] : List Loc), H0.size ≤ z.base := fun _ h => nomatch h
  have hC : 0 + cn = cn := Nat.zero_add _
  have hN : 0 + nn = nn := Nat.zero_add _
  delta fX11_ask at hf
  refine lv_aload_n hx hb dX11_ask_0 rfl (lv_at hl.1 0 rfl) ?_
  refine lv_iconst (v := 0) hx hb dX11_ask_1 (by decide) ?_
  refine vg_putV X hH hL fF_X11_103 rfl rfl dX11_ask_2 hf (fun μ37 H locs hf hH hL => ?_)
  refine lv_iload_n hx hb dX11_ask_5 rfl (lv_at hl.1 1 rfl) ?_
  refine lv_if_lt (tgt := 17) hx hb dX11_ask_6 (by decide) (fun h8 => ?_) (fun h8 => ?_)
  · have hf := vg_ip h8 hf
    exact wX11_ask_17 Z   μ37 _ _ _ _ _ _ _ hf hH hL hC hN (hl.sub [] rfl)
  · have hf := vg_if h8 hf
    refine lv_iload_n hx hb dX11_ask_9 rfl (lv_at hl.1 1 rfl) ?_
    refine lv_aload_n hx hb dX11_ask_10 rfl (lv_at hl.1 0 rfl) ?_
    refine vg_getI X hH fF_X11_159 dX11_ask_11 hf (fun x38 hf => ?_)
    refine lv_icmp_lt (tgt := 19) hx hb dX11_ask_14 (by decide) (fun h8 => ?_) (fun h8 => ?_)
    · have hf := vg_ip h8 hf
      refine lv_aload_n hx hb dX11_ask_19 rfl (lv_at hl.1 0 rfl) ?_
      refine vg_getI X hH fF_X11_106 dX11_ask_20 hf (fun x39 hf => ?_)
      refine vg_istore_n (lv' := [(2, .int x39), (0, .ref v0), (1, .int v1)]) hx hb dX11_ask_23 rfl hl (by decide) rfl (fun ls hl => ?_)
      refine lv_iconst (v := 0) hx hb dX11_ask_24 (by decide) ?_
      refine vg_istore_n (lv' := [(3, .int 0), (2, .int x39), (0, .ref v0), (1, .int v1)]) hx hb dX11_ask_25 rfl hl (by decide) rfl (fun ls hl => ?_)
      exact wX11_ask_26 Z  vg_fuel v0 v1 x39 0 μ37 _ _ _ _ _ _ _ hf hH hL hC hN (hl.sub [2, 3, 1, 0] rfl)
    · have hf := vg_if h8 hf
      exact wX11_ask_17 Z   μ37 _ _ _ _ _ _ _ hf hH hL hC hN (hl.sub [] rfl)
def fX11_at_18  (k0 : Int32) (μ : vg_M) : vg_R Int32 :=
  vg_ret k0 μ
set_option maxHeartbeats 4000000 in
set_option maxRecDepth 100000 in
theorem wX11_at_18 {p : Program} {l : Launch} {e : Env} {R : Room} {s : State} {m : MethodId} {args : Array Value} {below : List Frame} {meth : Method} {c : Code} {D : va_G} {cy : Nat → ClassId} {H0 : Heap} {C0 N0 : Nat} {r : Int32} {μ' : vg_M} (Z : vg_Z D cy H0 p s m args c cX11_at RX11 meth 2 (some .int) R 12 C0 N0 "at")   (k0 : Int32) (μ : vg_M) : vg_S p l e R s m args below meth c D cy H0 C0 N0 2 (MQ below (vg_Qc D cy H0 μ' (some (.int r))) args s C0 N0 (vg_fr H0)) r μ' (fX11_at_18  k0 μ) μ [] [.int k0] 18 := by
  intro cn nn H locs cells slots ls hf hH hL hC hN hl
  obtain ⟨X, hml, hr, hlk, hfr, hlo, hRc, hRs, hnm⟩ := id Z
  have hx := X.1
  have hb := X.2.1
  delta fX11_at_18 at hf
  exact vg_reti X hr hlk hH hL dX11_at_18 hf hC hN
def fX11_at (v0 : Nat) (v1 : Int32) (μ : vg_M) : vg_R Int32 :=
  vg_o (vg_gI μ v0 14 2) fun x1 =>
  if x1 ≤ v1 then (
   fX11_at_18  ((-1)) μ
   ) else (
   vg_o (vg_gR μ v0 14 1) fun x2 =>
   vg_o x2 fun a3 =>
   vg_o (vg_aI μ a3 0 v1) fun x4 =>
   fX11_at_18  x4 μ
   )
set_option maxHeartbeats 4000000 in
set_option maxRecDepth 100000 in
theorem cX11_at_met {l : Launch} {D : va_G} {cy : Nat → ClassId} {H0 : Heap} {r : Int32} {μ μ' : vg_M} {cn nn : Nat} {v0 : Nat} {v1 : Int32} (hf : fX11_at v0 v1 μ = some (r, μ', cn, nn)) : vg_Met l D cy H0 yX11_at cX11_at 2 (some .int) 12 μ [.ref v0, .int v1] (some (.int r)) μ' cn nn := by
  refine vg_start (by decide +kernel) (List.forall_mem_cons.mpr ⟨rfl, (List.forall_mem_cons.mpr ⟨rfl, (fun _ h => nomatch h)⟩)⟩) (Nat.le_of_ble_eq_true rfl) ?_
  intro p e s m below meth c ls X hml hr hlk hnm hH hl
  have hl : vg_l ls 2 [(0, .ref v0), (1, .int v1)] := hl
  have Z : vg_Z D cy H0 p s m _ c cX11_at RX11 meth 2 (some .int) (vg_rm 12 cn nn) 12 cn nn _ := ⟨X, hml, hr, hlk, Nat.le_refl _, Nat.le_refl _, Nat.le_refl _, Nat.le_refl _, hnm⟩
  obtain ⟨-, -, -, -, hfr, hlo, hRc, hRs, -⟩ := id Z
  have hx := X.1
  have hb := X.2.1
  have hL : ∀ z ∈ ([] : List Loc), H0.size ≤ z.base := fun _ h => nomatch h
  have hC : 0 + cn = cn := Nat.zero_add _
  have hN : 0 + nn = nn := Nat.zero_add _
  delta fX11_at at hf
  refine lv_iload_n hx hb dX11_at_0 rfl (lv_at hl.1 1 rfl) ?_
  refine lv_aload_n hx hb dX11_at_1 rfl (lv_at hl.1 0 rfl) ?_
  refine vg_getI X hH fF_X11_106 dX11_at_2 hf (fun x1 hf => ?_)
  refine lv_icmp_ge (tgt := 17) hx hb dX11_at_5 (by decide) (fun h8 => ?_) (fun h8 => ?_)
  · have hf := vg_ip h8 hf
    refine lv_iconst (v := (-1)) hx hb dX11_at_17 (by decide) ?_
    exact wX11_at_18 Z  ((-1)) μ _ _ _ _ _ _ _ hf hH hL hC hN (hl.sub [] rfl)
  · have hf := vg_if h8 hf
    refine lv_aload_n hx hb dX11_at_8 rfl (lv_at hl.1 0 rfl) ?_
    refine vg_getR X hH fF_X11_7 dX11_at_9 hf (fun x2 hf => ?_)
    refine lv_iload_n hx hb dX11_at_12 rfl (lv_at hl.1 1 rfl) ?_
    obtain ⟨a3, h9, hg⟩ := vg_o_inv hf
    clear hf
    subst h9
    have hf := hg
    clear hg
    refine vg_bald X hH dX11_at_13 hf (fun x4 hf => ?_)
    refine lv_goto (tgt := 18) hx hb dX11_at_14 (by decide) ?_
    exact wX11_at_18 Z  x4 μ _ _ _ _ _ _ _ hf hH hL hC hN (hl.sub [] rfl)
def fX11_many_25 (q4 : Nat → Int32 → Int32 → vg_M → vg_R Int32) (v0 : Nat) (v2 : Int32) (k0 : Int32) (k1 : Int32) (μ : vg_M) : vg_R Int32 :=
  q4 v0 (k0 + k1) (v2 + 1) μ
set_option maxHeartbeats 4000000 in
set_option maxRecDepth 100000 in
theorem wX11_many_25 {p : Program} {l : Launch} {e : Env} {R : Room} {s : State} {m : MethodId} {args : Array Value} {below : List Frame} {meth : Method} {c : Code} {D : va_G} {cy : Nat → ClassId} {H0 : Heap} {C0 N0 : Nat} {r : Int32} {μ' : vg_M} (Z : vg_Z D cy H0 p s m args c cX11_many RX11 meth 3 (some .int) R 12 C0 N0 "many") {q4 : Nat → Int32 → Int32 → vg_M → vg_R Int32} (hk4 : ∀ (v0 : Nat) (v1 : Int32) (v2 : Int32) (μ : vg_M), vg_S p l e R s m args below meth c D cy H0 C0 N0 3 (MQ below (vg_Qc D cy H0 μ' (some (.int r))) args s C0 N0 (vg_fr H0)) r μ' (q4 v0 v1 v2 μ) μ [(0, .ref v0), (1, .int v1), (2, .int v2)] [] 4) (v0 : Nat) (v2 : Int32) (k0 : Int32) (k1 : Int32) (μ : vg_M) : vg_S p l e R s m args below meth c D cy H0 C0 N0 3 (MQ below (vg_Qc D cy H0 μ' (some (.int r))) args s C0 N0 (vg_fr H0)) r μ' (fX11_many_25 q4 v0 v2 k0 k1 μ) μ [(0, .ref v0), (2, .int v2)] [.int k1, .int k0] 25 := by
  intro cn nn H locs cells slots ls hf hH hL hC hN hl
  obtain ⟨X, hml, hr, hlk, hfr, hlo, hRc, hRs, hnm⟩ := id Z
  have hx := X.1
  have hb := X.2.1
  delta fX11_many_25 at hf
  refine lv_iadd hx hb dX11_many_25 ?_
  refine vg_istore_n (lv' := [(1, .int (k0 + k1)), (0, .ref v0), (2, .int v2)]) hx hb dX11_many_26 rfl hl (by decide) rfl (fun ls hl => ?_)
  refine vg_iinc (v := v2 + 1) (lv' := [(2, .int (v2 + 1)), (1, .int (k0 + k1)), (0, .ref v0)]) hx hb dX11_many_27 hl (k := 2) rfl rfl (by decide) rfl (fun ls hl => ?_)
  refine lv_goto (tgt := 4) hx hb dX11_many_30 (by decide) ?_
  exact hk4 v0 (k0 + k1) (v2 + 1) μ _ _ _ _ _ _ _ hf hH hL hC hN (hl.sub [2, 1, 0] rfl)
def fX11_many_4  : Nat → Nat → Int32 → Int32 → vg_M → vg_R Int32
  | 0, _, _, _, _ => none
  | n + 1, v0, v1, v2, μ =>
    if 60 ≤ v2 then (
     vg_ret v1 μ
     ) else (
     vg_o (vg_gR μ v0 14 6) fun x1 =>
     vg_o x1 fun a2 =>
     vg_o (vg_aI μ a2 2 v2) fun x3 =>
     if x3 ≤ 0 then (
      fX11_many_25 (fX11_many_4  n) v0 v2 v1 0 μ
      ) else (
      fX11_many_25 (fX11_many_4  n) v0 v2 v1 1 μ
      )
     )
set_option maxHeartbeats 4000000 in
set_option maxRecDepth 100000 in
theorem wX11_many_4 {p : Program} {l : Launch} {e : Env} {R : Room} {s : State} {m : MethodId} {args : Array Value} {below : List Frame} {meth : Method} {c : Code} {D : va_G} {cy : Nat → ClassId} {H0 : Heap} {C0 N0 : Nat} {r : Int32} {μ' : vg_M} (Z : vg_Z D cy H0 p s m args c cX11_many RX11 meth 3 (some .int) R 12 C0 N0 "many")   : ∀ (n : Nat) (v0 : Nat) (v1 : Int32) (v2 : Int32) (μ : vg_M), vg_S p l e R s m args below meth c D cy H0 C0 N0 3 (MQ below (vg_Qc D cy H0 μ' (some (.int r))) args s C0 N0 (vg_fr H0)) r μ' (fX11_many_4  n v0 v1 v2 μ) μ [(0, .ref v0), (1, .int v1), (2, .int v2)] [] 4 := by
  intro n
  induction n with
  | zero =>
    intro v0 v1 v2 μ cn nn H locs cells slots ls hf
    simp [fX11_many_4] at hf
  | succ n hk4 =>
    intro v0 v1 v2 μ
    intro cn nn H locs cells slots ls hf hH hL hC hN hl
    obtain ⟨X, hml, hr, hlk, hfr, hlo, hRc, hRs, hnm⟩ := id Z
    have hx := X.1
    have hb := X.2.1
    rw [fX11_many_4] at hf
    refine lv_iload_n hx hb dX11_many_4 rfl (lv_at hl.1 2 rfl) ?_
    refine lv_bipush (v := 60) hx hb dX11_many_5 (by decide) ?_
    refine lv_icmp_ge (tgt := 33) hx hb dX11_many_7 (by decide) (fun h8 => ?_) (fun h8 => ?_)
    · have hf := vg_ip h8 hf
      refine lv_iload_n hx hb dX11_many_33 rfl (lv_at hl.1 1 rfl) ?_
      exact vg_reti X hr hlk hH hL dX11_many_34 hf hC hN
    · have hf := vg_if h8 hf
      refine lv_iload_n hx hb dX11_many_10 rfl (lv_at hl.1 1 rfl) ?_
      refine lv_aload_n hx hb dX11_many_11 rfl (lv_at hl.1 0 rfl) ?_
      refine vg_getR X hH fF_X11_20 dX11_many_12 hf (fun x1 hf => ?_)
      refine lv_iload_n hx hb dX11_many_15 rfl (lv_at hl.1 2 rfl) ?_
      obtain ⟨a2, h9, hg⟩ := vg_o_inv hf
      clear hf
      subst h9
      have hf := hg
      clear hg
      refine vg_iald X hH dX11_many_16 hf (fun x3 hf => ?_)
      refine lv_if_le (tgt := 24) hx hb dX11_many_17 (by decide) (fun h8 => ?_) (fun h8 => ?_)
      · have hf := vg_ip h8 hf
        refine lv_iconst (v := 0) hx hb dX11_many_24 (by decide) ?_
        exact wX11_many_25 Z hk4 v0 v2 v1 0 μ _ _ _ _ _ _ _ hf hH hL hC hN (hl.sub [0, 2] rfl)
      · have hf := vg_if h8 hf
        refine lv_iconst (v := 1) hx hb dX11_many_20 (by decide) ?_
        refine lv_goto (tgt := 25) hx hb dX11_many_21 (by decide) ?_
        exact wX11_many_25 Z hk4 v0 v2 v1 1 μ _ _ _ _ _ _ _ hf hH hL hC hN (hl.sub [0, 2] rfl)
def fX11_many (v0 : Nat) (μ : vg_M) : vg_R Int32 :=
  fX11_many_4  vg_fuel v0 0 0 μ
set_option maxHeartbeats 4000000 in
set_option maxRecDepth 100000 in
theorem cX11_many_met {l : Launch} {D : va_G} {cy : Nat → ClassId} {H0 : Heap} {r : Int32} {μ μ' : vg_M} {cn nn : Nat} {v0 : Nat} (hf : fX11_many v0 μ = some (r, μ', cn, nn)) : vg_Met l D cy H0 yX11_many cX11_many 3 (some .int) 12 μ [.ref v0] (some (.int r)) μ' cn nn := by
  refine vg_start (by decide +kernel) (List.forall_mem_cons.mpr ⟨rfl, (fun _ h => nomatch h)⟩) (Nat.le_of_ble_eq_true rfl) ?_
  intro p e s m below meth c ls X hml hr hlk hnm hH hl
  have hl : vg_l ls 3 [(0, .ref v0)] := hl
  have Z : vg_Z D cy H0 p s m _ c cX11_many RX11 meth 3 (some .int) (vg_rm 12 cn nn) 12 cn nn _ := ⟨X, hml, hr, hlk, Nat.le_refl _, Nat.le_refl _, Nat.le_refl _, Nat.le_refl _, hnm⟩
  obtain ⟨-, -, -, -, hfr, hlo, hRc, hRs, -⟩ := id Z
  have hx := X.1
  have hb := X.2.1
  have hL : ∀ z ∈ ([] : List Loc), H0.size ≤ z.base := fun _ h => nomatch h
  have hC : 0 + cn = cn := Nat.zero_add _
  have hN : 0 + nn = nn := Nat.zero_add _
  delta fX11_many at hf
  refine lv_iconst (v := 0) hx hb dX11_many_0 (by decide) ?_
  refine vg_istore_n (lv' := [(1, .int 0), (0, .ref v0)]) hx hb dX11_many_1 rfl hl (by decide) rfl (fun ls hl => ?_)
  refine lv_iconst (v := 0) hx hb dX11_many_2 (by decide) ?_
  refine vg_istore_n (lv' := [(2, .int 0), (1, .int 0), (0, .ref v0)]) hx hb dX11_many_3 rfl hl (by decide) rfl (fun ls hl => ?_)
  exact wX11_many_4 Z  vg_fuel v0 0 0 μ _ _ _ _ _ _ _ hf hH hL hC hN (hl.sub [2, 1, 0] rfl)
def fX11_takes_28  (k0 : Int32) (μ : vg_M) : vg_R Int32 :=
  vg_o (vg_z .boolean k0) fun z => vg_ret z μ
set_option maxHeartbeats 4000000 in
set_option maxRecDepth 100000 in
theorem wX11_takes_28 {p : Program} {l : Launch} {e : Env} {R : Room} {s : State} {m : MethodId} {args : Array Value} {below : List Frame} {meth : Method} {c : Code} {D : va_G} {cy : Nat → ClassId} {H0 : Heap} {C0 N0 : Nat} {r : Int32} {μ' : vg_M} (Z : vg_Z D cy H0 p s m args c cX11_takes RX11 meth 1 (some .boolean) R 14 C0 N0 "takes")   (k0 : Int32) (μ : vg_M) : vg_S p l e R s m args below meth c D cy H0 C0 N0 1 (MQ below (vg_Qc D cy H0 μ' (some (.int r))) args s C0 N0 (vg_fr H0)) r μ' (fX11_takes_28  k0 μ) μ [] [.int k0] 28 := by
  intro cn nn H locs cells slots ls hf hH hL hC hN hl
  obtain ⟨X, hml, hr, hlk, hfr, hlo, hRc, hRs, hnm⟩ := id Z
  have hx := X.1
  have hb := X.2.1
  delta fX11_takes_28 at hf
  exact vg_retz X (by simp) hr hlk hH hL dX11_takes_28 hf hC hN
def fX11_takes_13  (v0 : Nat) (k0 : Nat) (k1 : Int32) (μ : vg_M) : vg_R Int32 :=
  vg_o (vg_p μ k0 14 0 (.int k1)) fun μ1 =>
  vg_o (vg_gI μ1 v0 14 0) fun x2 =>
  if x2 = 0 then (
   fX11_takes_28  1 μ1
   ) else (
   fX11_takes_28  0 μ1
   )
set_option maxHeartbeats 4000000 in
set_option maxRecDepth 100000 in
theorem wX11_takes_13 {p : Program} {l : Launch} {e : Env} {R : Room} {s : State} {m : MethodId} {args : Array Value} {below : List Frame} {meth : Method} {c : Code} {D : va_G} {cy : Nat → ClassId} {H0 : Heap} {C0 N0 : Nat} {r : Int32} {μ' : vg_M} (Z : vg_Z D cy H0 p s m args c cX11_takes RX11 meth 1 (some .boolean) R 14 C0 N0 "takes")   (v0 : Nat) (k0 : Nat) (k1 : Int32) (μ : vg_M) : vg_S p l e R s m args below meth c D cy H0 C0 N0 1 (MQ below (vg_Qc D cy H0 μ' (some (.int r))) args s C0 N0 (vg_fr H0)) r μ' (fX11_takes_13  v0 k0 k1 μ) μ [(0, .ref v0)] [.int k1, .ref k0] 13 := by
  intro cn nn H locs cells slots ls hf hH hL hC hN hl
  obtain ⟨X, hml, hr, hlk, hfr, hlo, hRc, hRs, hnm⟩ := id Z
  have hx := X.1
  have hb := X.2.1
  delta fX11_takes_13 at hf
  refine vg_putV X hH hL fF_X11_103 rfl rfl dX11_takes_13 hf (fun μ1 H locs hf hH hL => ?_)
  refine lv_aload_n hx hb dX11_takes_16 rfl (lv_at hl.1 0 rfl) ?_
  refine vg_getI X hH fF_X11_103 dX11_takes_17 hf (fun x2 hf => ?_)
  refine lv_if_ne (tgt := 27) hx hb dX11_takes_20 (by decide) (fun h8 => ?_) (fun h8 => ?_)
  · have hf := vg_if h8 hf
    refine lv_iconst (v := 0) hx hb dX11_takes_27 (by decide) ?_
    exact wX11_takes_28 Z  0 μ1 _ _ _ _ _ _ _ hf hH hL hC hN (hl.sub [] rfl)
  · have hf := vg_ip h8 hf
    refine lv_iconst (v := 1) hx hb dX11_takes_23 (by decide) ?_
    refine lv_goto (tgt := 28) hx hb dX11_takes_24 (by decide) ?_
    exact wX11_takes_28 Z  1 μ1 _ _ _ _ _ _ _ hf hH hL hC hN (hl.sub [] rfl)
def fX11_takes (v0 : Nat) (μ : vg_M) : vg_R Int32 :=
  vg_cv 14 v0 μ (fX11_isPath v0  μ) fun x3 μ4 =>
  if x3 = 0 then (
   fX11_takes_13  v0 v0 1 μ4
   ) else (
   fX11_takes_13  v0 v0 0 μ4
   )
set_option maxHeartbeats 4000000 in
set_option maxRecDepth 100000 in
theorem cX11_takes_met {l : Launch} {D : va_G} {cy : Nat → ClassId} {H0 : Heap} {r : Int32} {μ μ' : vg_M} {cn nn : Nat} {v0 : Nat} (hf : fX11_takes v0 μ = some (r, μ', cn, nn)) : vg_Met l D cy H0 yX11_takes cX11_takes 1 (some .boolean) 14 μ [.ref v0] (some (.int r)) μ' cn nn := by
  refine vg_start (by decide +kernel) (List.forall_mem_cons.mpr ⟨rfl, (fun _ h => nomatch h)⟩) (Nat.le_of_ble_eq_true rfl) ?_
  intro p e s m below meth c ls X hml hr hlk hnm hH hl
  have hl : vg_l ls 1 [(0, .ref v0)] := hl
  have Z : vg_Z D cy H0 p s m _ c cX11_takes RX11 meth 1 (some .boolean) (vg_rm 14 cn nn) 14 cn nn _ := ⟨X, hml, hr, hlk, Nat.le_refl _, Nat.le_refl _, Nat.le_refl _, Nat.le_refl _, hnm⟩
  obtain ⟨-, -, -, -, hfr, hlo, hRc, hRs, -⟩ := id Z
  have hx := X.1
  have hb := X.2.1
  have hL : ∀ z ∈ ([] : List Loc), H0.size ≤ z.base := fun _ h => nomatch h
  have hC : 0 + cn = cn := Nat.zero_add _
  have hN : 0 + nn = nn := Nat.zero_add _
  delta fX11_takes at hf
  refine lv_aload_n hx hb dX11_takes_0 rfl (lv_at hl.1 0 rfl) ?_
  refine lv_aload_n hx hb dX11_takes_1 rfl (lv_at hl.1 0 rfl) ?_
  refine vg_callVi (ci := 14) X hml hl hH hL fCV_X11_134 rfl [] rfl rfl (Nat.le_of_ble_eq_true rfl) dX11_takes_2 hf hC hN hRc hRs hfr hlo (by decide) (fun _ _ _ _ h => cX11_isPath_met h) (fun x3 μ4 cn nn H locs cells slots hf hC hN hH hL => ?_)
  refine lv_if_eq (tgt := 12) hx hb dX11_takes_5 (by decide) (fun h8 => ?_) (fun h8 => ?_)
  · have hf := vg_ip h8 hf
    refine lv_iconst (v := 1) hx hb dX11_takes_12 (by decide) ?_
    exact wX11_takes_13 Z  v0 v0 1 μ4 _ _ _ _ _ _ _ hf hH hL hC hN (hl.sub [0] rfl)
  · have hf := vg_if h8 hf
    refine lv_iconst (v := 0) hx hb dX11_takes_8 (by decide) ?_
    refine lv_goto (tgt := 13) hx hb dX11_takes_9 (by decide) ?_
    exact wX11_takes_13 Z  v0 v0 0 μ4 _ _ _ _ _ _ _ hf hH hL hC hN (hl.sub [0] rfl)
def fX11_put_132 (q97 : Nat → Int32 → Int32 → Int32 → vg_M → vg_R Int32) (v0 : Nat) (v1 : Int32) (v2 : Int32) (k0 : Nat) (k1 : Int32) (k2 : Int32) (k3 : Int32) (μ : vg_M) : vg_R Int32 :=
  vg_cv 14 k0 μ (fX11_add k0 k1 k2 k3 μ) fun x19 μ20 =>
  vg_o (vg_gI μ20 v0 14 36) fun x21 =>
  vg_o (vg_p μ20 v0 14 36 (.int (x21 + 1))) fun μ22 =>
  q97 v0 v1 v2 x19 μ22
set_option maxHeartbeats 4000000 in
set_option maxRecDepth 100000 in
theorem wX11_put_132 {p : Program} {l : Launch} {e : Env} {R : Room} {s : State} {m : MethodId} {args : Array Value} {below : List Frame} {meth : Method} {c : Code} {D : va_G} {cy : Nat → ClassId} {H0 : Heap} {C0 N0 : Nat} {r : Int32} {μ' : vg_M} (Z : vg_Z D cy H0 p s m args c cX11_put RX11 meth 5 (some .int) R 15 C0 N0 "put") {q97 : Nat → Int32 → Int32 → Int32 → vg_M → vg_R Int32} (hk97 : ∀ (v0 : Nat) (v1 : Int32) (v2 : Int32) (v3 : Int32) (μ : vg_M), vg_S p l e R s m args below meth c D cy H0 C0 N0 5 (MQ below (vg_Qc D cy H0 μ' (some (.int r))) args s C0 N0 (vg_fr H0)) r μ' (q97 v0 v1 v2 v3 μ) μ [(0, .ref v0), (1, .int v1), (2, .int v2), (3, .int v3)] [] 97) (v0 : Nat) (v1 : Int32) (v2 : Int32) (k0 : Nat) (k1 : Int32) (k2 : Int32) (k3 : Int32) (μ : vg_M) : vg_S p l e R s m args below meth c D cy H0 C0 N0 5 (MQ below (vg_Qc D cy H0 μ' (some (.int r))) args s C0 N0 (vg_fr H0)) r μ' (fX11_put_132 q97 v0 v1 v2 k0 k1 k2 k3 μ) μ [(0, .ref v0), (1, .int v1), (2, .int v2)] [.int k3, .int k2, .int k1, .ref k0] 132 := by
  intro cn nn H locs cells slots ls hf hH hL hC hN hl
  obtain ⟨X, hml, hr, hlk, hfr, hlo, hRc, hRs, hnm⟩ := id Z
  have hx := X.1
  have hb := X.2.1
  delta fX11_put_132 at hf
  refine vg_callVi (ci := 14) X hml hl hH hL fCV_X11_148 rfl [.int k1, .int k2, .int k3] rfl rfl (Nat.le_of_ble_eq_true rfl) dX11_put_132 hf hC hN hRc hRs hfr hlo (by decide) (fun _ _ _ _ h => cX11_add_met h) (fun x19 μ20 cn nn H locs cells slots hf hC hN hH hL => ?_)
  refine vg_istore_n (lv' := [(3, .int x19), (0, .ref v0), (1, .int v1), (2, .int v2)]) hx hb dX11_put_135 rfl hl (by decide) rfl (fun ls hl => ?_)
  refine lv_aload_n hx hb dX11_put_136 rfl (lv_at hl.1 1 rfl) ?_
  refine lv_dup hx hb dX11_put_137 rfl ?_
  refine vg_getI X hH fF_X11_120 dX11_put_138 hf (fun x21 hf => ?_)
  refine lv_iconst (v := 1) hx hb dX11_put_141 (by decide) ?_
  refine lv_iadd hx hb dX11_put_142 ?_
  refine vg_putV X hH hL fF_X11_120 rfl rfl dX11_put_143 hf (fun μ22 H locs hf hH hL => ?_)
  refine lv_goto (tgt := 97) hx hb dX11_put_146 (by decide) ?_
  exact hk97 v0 v1 v2 x19 μ22 _ _ _ _ _ _ _ hf hH hL hC hN (hl.sub [1, 2, 3, 0] rfl)
def fX11_put_149  (v0 : Nat) (v2 : Int32) (μ : vg_M) : vg_R Int32 :=
  vg_o (vg_p μ v0 14 2 (.int 0)) fun μ23 =>
  vg_ret v2 μ23
set_option maxHeartbeats 4000000 in
set_option maxRecDepth 100000 in
theorem wX11_put_149 {p : Program} {l : Launch} {e : Env} {R : Room} {s : State} {m : MethodId} {args : Array Value} {below : List Frame} {meth : Method} {c : Code} {D : va_G} {cy : Nat → ClassId} {H0 : Heap} {C0 N0 : Nat} {r : Int32} {μ' : vg_M} (Z : vg_Z D cy H0 p s m args c cX11_put RX11 meth 5 (some .int) R 15 C0 N0 "put")   (v0 : Nat) (v2 : Int32) (μ : vg_M) : vg_S p l e R s m args below meth c D cy H0 C0 N0 5 (MQ below (vg_Qc D cy H0 μ' (some (.int r))) args s C0 N0 (vg_fr H0)) r μ' (fX11_put_149  v0 v2 μ) μ [(0, .ref v0), (2, .int v2)] [] 149 := by
  intro cn nn H locs cells slots ls hf hH hL hC hN hl
  obtain ⟨X, hml, hr, hlk, hfr, hlo, hRc, hRs, hnm⟩ := id Z
  have hx := X.1
  have hb := X.2.1
  delta fX11_put_149 at hf
  refine lv_aload_n hx hb dX11_put_149 rfl (lv_at hl.1 0 rfl) ?_
  refine lv_iconst (v := 0) hx hb dX11_put_150 (by decide) ?_
  refine vg_putV X hH hL fF_X11_106 rfl rfl dX11_put_151 hf (fun μ23 H locs hf hH hL => ?_)
  refine lv_iload_n hx hb dX11_put_154 rfl (lv_at hl.1 1 rfl) ?_
  exact vg_reti X hr hlk hH hL dX11_put_155 hf hC hN
def fX11_put_79  (v0 : Nat) (v2 : Int32) (μ : vg_M) : vg_R Int32 :=
  vg_o (vg_p μ v0 14 0 (.int 2)) fun μ11 =>
  fX11_put_149  v0 v2 μ11
set_option maxHeartbeats 4000000 in
set_option maxRecDepth 100000 in
theorem wX11_put_79 {p : Program} {l : Launch} {e : Env} {R : Room} {s : State} {m : MethodId} {args : Array Value} {below : List Frame} {meth : Method} {c : Code} {D : va_G} {cy : Nat → ClassId} {H0 : Heap} {C0 N0 : Nat} {r : Int32} {μ' : vg_M} (Z : vg_Z D cy H0 p s m args c cX11_put RX11 meth 5 (some .int) R 15 C0 N0 "put")   (v0 : Nat) (v2 : Int32) (μ : vg_M) : vg_S p l e R s m args below meth c D cy H0 C0 N0 5 (MQ below (vg_Qc D cy H0 μ' (some (.int r))) args s C0 N0 (vg_fr H0)) r μ' (fX11_put_79  v0 v2 μ) μ [(0, .ref v0), (2, .int v2)] [] 79 := by
  intro cn nn H locs cells slots ls hf hH hL hC hN hl
  obtain ⟨X, hml, hr, hlk, hfr, hlo, hRc, hRs, hnm⟩ := id Z
  have hx := X.1
  have hb := X.2.1
  delta fX11_put_79 at hf
  refine lv_aload_n hx hb dX11_put_79 rfl (lv_at hl.1 0 rfl) ?_
  refine lv_iconst (v := 2) hx hb dX11_put_80 (by decide) ?_
  refine vg_putV X hH hL fF_X11_103 rfl rfl dX11_put_81 hf (fun μ11 H locs hf hH hL => ?_)
  refine lv_goto (tgt := 149) hx hb dX11_put_84 (by decide) ?_
  exact wX11_put_149 Z  v0 v2 μ11 _ _ _ _ _ _ _ hf hH hL hC hN (hl.sub [0, 1] rfl)
def fX11_put_97  : Nat → Nat → Int32 → Int32 → Int32 → vg_M → vg_R Int32
  | 0, _, _, _, _, _ => none
  | n + 1, v0, v1, v2, v3, μ =>
    vg_o (vg_gI μ v0 14 36) fun x14 =>
    vg_o (vg_gI μ v0 14 3) fun x15 =>
    if x15 ≤ x14 then (
     fX11_put_149  v0 v2 μ
     ) else (
     vg_o (vg_gI μ v0 14 36) fun x16 =>
     vg_o (vg_gI μ v0 14 36) fun x17 =>
     vg_o (vg_gI μ v0 14 3) fun x18 =>
     if x18 ≤ (x17 + 1) then (
      fX11_put_132 (fX11_put_97  n) v0 v1 v2 v0 v3 x16 v1 μ
      ) else (
      fX11_put_132 (fX11_put_97  n) v0 v1 v2 v0 v3 x16 2 μ
      )
     )
set_option maxHeartbeats 4000000 in
set_option maxRecDepth 100000 in
theorem wX11_put_97 {p : Program} {l : Launch} {e : Env} {R : Room} {s : State} {m : MethodId} {args : Array Value} {below : List Frame} {meth : Method} {c : Code} {D : va_G} {cy : Nat → ClassId} {H0 : Heap} {C0 N0 : Nat} {r : Int32} {μ' : vg_M} (Z : vg_Z D cy H0 p s m args c cX11_put RX11 meth 5 (some .int) R 15 C0 N0 "put")   : ∀ (n : Nat) (v0 : Nat) (v1 : Int32) (v2 : Int32) (v3 : Int32) (μ : vg_M), vg_S p l e R s m args below meth c D cy H0 C0 N0 5 (MQ below (vg_Qc D cy H0 μ' (some (.int r))) args s C0 N0 (vg_fr H0)) r μ' (fX11_put_97  n v0 v1 v2 v3 μ) μ [(0, .ref v0), (1, .int v1), (2, .int v2), (3, .int v3)] [] 97 := by
  intro n
  induction n with
  | zero =>
    intro v0 v1 v2 v3 μ cn nn H locs cells slots ls hf
    simp [fX11_put_97] at hf
  | succ n hk97 =>
    intro v0 v1 v2 v3 μ
    intro cn nn H locs cells slots ls hf hH hL hC hN hl
    obtain ⟨X, hml, hr, hlk, hfr, hlo, hRc, hRs, hnm⟩ := id Z
    have hx := X.1
    have hb := X.2.1
    rw [fX11_put_97] at hf
    refine lv_aload_n hx hb dX11_put_97 rfl (lv_at hl.1 0 rfl) ?_
    refine vg_getI X hH fF_X11_120 dX11_put_98 hf (fun x14 hf => ?_)
    refine lv_aload_n hx hb dX11_put_101 rfl (lv_at hl.1 0 rfl) ?_
    refine vg_getI X hH fF_X11_109 dX11_put_102 hf (fun x15 hf => ?_)
    refine lv_icmp_ge (tgt := 149) hx hb dX11_put_105 (by decide) (fun h8 => ?_) (fun h8 => ?_)
    · have hf := vg_ip h8 hf
      exact wX11_put_149 Z  v0 v2 μ _ _ _ _ _ _ _ hf hH hL hC hN (hl.sub [0, 2] rfl)
    · have hf := vg_if h8 hf
      refine lv_aload_n hx hb dX11_put_108 rfl (lv_at hl.1 0 rfl) ?_
      refine lv_iload_n hx hb dX11_put_109 rfl (lv_at hl.1 3 rfl) ?_
      refine lv_aload_n hx hb dX11_put_110 rfl (lv_at hl.1 0 rfl) ?_
      refine vg_getI X hH fF_X11_120 dX11_put_111 hf (fun x16 hf => ?_)
      refine lv_aload_n hx hb dX11_put_114 rfl (lv_at hl.1 0 rfl) ?_
      refine vg_getI X hH fF_X11_120 dX11_put_115 hf (fun x17 hf => ?_)
      refine lv_iconst (v := 1) hx hb dX11_put_118 (by decide) ?_
      refine lv_iadd hx hb dX11_put_119 ?_
      refine lv_aload_n hx hb dX11_put_120 rfl (lv_at hl.1 0 rfl) ?_
      refine vg_getI X hH fF_X11_109 dX11_put_121 hf (fun x18 hf => ?_)
      refine lv_icmp_ge (tgt := 131) hx hb dX11_put_124 (by decide) (fun h8 => ?_) (fun h8 => ?_)
      · have hf := vg_ip h8 hf
        refine lv_iload_n hx hb dX11_put_131 rfl (lv_at hl.1 1 rfl) ?_
        exact wX11_put_132 Z hk97 v0 v1 v2 v0 v3 x16 v1 μ _ _ _ _ _ _ _ hf hH hL hC hN (hl.sub [0, 1, 2] rfl)
      · have hf := vg_if h8 hf
        refine lv_iconst (v := 2) hx hb dX11_put_127 (by decide) ?_
        refine lv_goto (tgt := 132) hx hb dX11_put_128 (by decide) ?_
        exact wX11_put_132 Z hk97 v0 v1 v2 v0 v3 x16 2 μ _ _ _ _ _ _ _ hf hH hL hC hN (hl.sub [0, 1, 2] rfl)
def fX11_put_87  (v0 : Nat) (v1 : Int32) (v3 : Int32) (μ : vg_M) : vg_R Int32 :=
  vg_o (vg_gI μ v0 14 3) fun x12 =>
  vg_o (vg_gI μ v0 14 36) fun x13 =>
  fX11_put_97  vg_fuel v0 v1 (x12 - x13) v3 μ
set_option maxHeartbeats 4000000 in
set_option maxRecDepth 100000 in
theorem wX11_put_87 {p : Program} {l : Launch} {e : Env} {R : Room} {s : State} {m : MethodId} {args : Array Value} {below : List Frame} {meth : Method} {c : Code} {D : va_G} {cy : Nat → ClassId} {H0 : Heap} {C0 N0 : Nat} {r : Int32} {μ' : vg_M} (Z : vg_Z D cy H0 p s m args c cX11_put RX11 meth 5 (some .int) R 15 C0 N0 "put")   (v0 : Nat) (v1 : Int32) (v3 : Int32) (μ : vg_M) : vg_S p l e R s m args below meth c D cy H0 C0 N0 5 (MQ below (vg_Qc D cy H0 μ' (some (.int r))) args s C0 N0 (vg_fr H0)) r μ' (fX11_put_87  v0 v1 v3 μ) μ [(0, .ref v0), (1, .int v1), (3, .int v3)] [] 87 := by
  intro cn nn H locs cells slots ls hf hH hL hC hN hl
  obtain ⟨X, hml, hr, hlk, hfr, hlo, hRc, hRs, hnm⟩ := id Z
  have hx := X.1
  have hb := X.2.1
  delta fX11_put_87 at hf
  refine lv_aload_n hx hb dX11_put_87 rfl (lv_at hl.1 0 rfl) ?_
  refine vg_getI X hH fF_X11_109 dX11_put_88 hf (fun x12 hf => ?_)
  refine lv_aload_n hx hb dX11_put_91 rfl (lv_at hl.1 0 rfl) ?_
  refine vg_getI X hH fF_X11_120 dX11_put_92 hf (fun x13 hf => ?_)
  refine lv_isub hx hb dX11_put_95 ?_
  refine vg_istore_n (lv' := [(2, .int (x12 - x13)), (0, .ref v0), (1, .int v1), (3, .int v3)]) hx hb dX11_put_96 rfl hl (by decide) rfl (fun ls hl => ?_)
  exact wX11_put_97 Z  vg_fuel v0 v1 (x12 - x13) v3 μ _ _ _ _ _ _ _ hf hH hL hC hN (hl.sub [1, 2, 0, 3] rfl)
def fX11_put_30  (v0 : Nat) (v1 : Int32) (v2 : Int32) (v3 : Int32) (k0 : Int32) (μ : vg_M) : vg_R Int32 :=
  if k0 = 0 then (
   vg_o (vg_gR μ v0 14 6) fun x1 =>
   vg_o x1 fun a2 =>
   vg_o (vg_aI μ a2 2 v3) fun x3 =>
   if x3 = 2 then (
    vg_cv 14 v0 μ (fX11_many v0  μ) fun x4 μ5 =>
    vg_o (vg_gI μ5 v0 14 3) fun x6 =>
    vg_o (vg_gI μ5 v0 14 36) fun x7 =>
    if ((x4 + x6) - x7) ≤ 60 then (
     fX11_put_87  v0 v1 v3 μ5
     ) else (
     fX11_put_79  v0 v2 μ5
     )
    ) else (
    fX11_put_79  v0 v2 μ
    )
   ) else (
   vg_o (vg_gR μ v0 14 6) fun x8 =>
   vg_o x8 fun a9 =>
   vg_o (vg_aI μ a9 2 v3) fun x10 =>
   if x10 = v1 then (
    fX11_put_87  v0 v1 v3 μ
    ) else (
    fX11_put_79  v0 v2 μ
    )
   )
set_option maxHeartbeats 4000000 in
set_option maxRecDepth 100000 in
theorem wX11_put_30 {p : Program} {l : Launch} {e : Env} {R : Room} {s : State} {m : MethodId} {args : Array Value} {below : List Frame} {meth : Method} {c : Code} {D : va_G} {cy : Nat → ClassId} {H0 : Heap} {C0 N0 : Nat} {r : Int32} {μ' : vg_M} (Z : vg_Z D cy H0 p s m args c cX11_put RX11 meth 5 (some .int) R 15 C0 N0 "put")   (v0 : Nat) (v1 : Int32) (v2 : Int32) (v3 : Int32) (k0 : Int32) (μ : vg_M) : vg_S p l e R s m args below meth c D cy H0 C0 N0 5 (MQ below (vg_Qc D cy H0 μ' (some (.int r))) args s C0 N0 (vg_fr H0)) r μ' (fX11_put_30  v0 v1 v2 v3 k0 μ) μ [(0, .ref v0), (1, .int v1), (2, .int v2), (3, .int v3)] [.int k0] 30 := by
  intro cn nn H locs cells slots ls hf hH hL hC hN hl
  obtain ⟨X, hml, hr, hlk, hfr, hlo, hRc, hRs, hnm⟩ := id Z
  have hx := X.1
  have hb := X.2.1
  delta fX11_put_30 at hf
  refine vg_istore (lv' := [(4, .int k0), (0, .ref v0), (1, .int v1), (2, .int v2), (3, .int v3)]) hx hb dX11_put_30 hl (by decide) rfl (fun ls hl => ?_)
  refine lv_iload hx hb dX11_put_32 (lv_at hl.1 0 rfl) ?_
  refine lv_if_eq (tgt := 50) hx hb dX11_put_34 (by decide) (fun h8 => ?_) (fun h8 => ?_)
  · have hf := vg_ip h8 hf
    refine lv_aload_n hx hb dX11_put_50 rfl (lv_at hl.1 1 rfl) ?_
    refine vg_getR X hH fF_X11_20 dX11_put_51 hf (fun x1 hf => ?_)
    refine lv_iload_n hx hb dX11_put_54 rfl (lv_at hl.1 4 rfl) ?_
    obtain ⟨a2, h9, hg⟩ := vg_o_inv hf
    clear hf
    subst h9
    have hf := hg
    clear hg
    refine vg_iald X hH dX11_put_55 hf (fun x3 hf => ?_)
    refine lv_iconst (v := 2) hx hb dX11_put_56 (by decide) ?_
    refine lv_icmp_ne (tgt := 79) hx hb dX11_put_57 (by decide) (fun h8 => ?_) (fun h8 => ?_)
    · have hf := vg_if h8 hf
      exact wX11_put_79 Z  v0 v2 μ _ _ _ _ _ _ _ hf hH hL hC hN (hl.sub [1, 3] rfl)
    · have hf := vg_ip h8 hf
      refine lv_aload_n hx hb dX11_put_60 rfl (lv_at hl.1 1 rfl) ?_
      refine vg_callVi (ci := 14) X hml hl hH hL fCV_X11_145 rfl [] rfl rfl (Nat.le_of_ble_eq_true rfl) dX11_put_61 hf hC hN hRc hRs hfr hlo (by decide) (fun _ _ _ _ h => cX11_many_met h) (fun x4 μ5 cn nn H locs cells slots hf hC hN hH hL => ?_)
      refine lv_aload_n hx hb dX11_put_64 rfl (lv_at hl.1 1 rfl) ?_
      refine vg_getI X hH fF_X11_109 dX11_put_65 hf (fun x6 hf => ?_)
      refine lv_iadd hx hb dX11_put_68 ?_
      refine lv_aload_n hx hb dX11_put_69 rfl (lv_at hl.1 1 rfl) ?_
      refine vg_getI X hH fF_X11_120 dX11_put_70 hf (fun x7 hf => ?_)
      refine lv_isub hx hb dX11_put_73 ?_
      refine lv_bipush (v := 60) hx hb dX11_put_74 (by decide) ?_
      refine lv_icmp_le (tgt := 87) hx hb dX11_put_76 (by decide) (fun h8 => ?_) (fun h8 => ?_)
      · have hf := vg_ip h8 hf
        exact wX11_put_87 Z  v0 v1 v3 μ5 _ _ _ _ _ _ _ hf hH hL hC hN (hl.sub [1, 2, 4] rfl)
      · have hf := vg_if h8 hf
        exact wX11_put_79 Z  v0 v2 μ5 _ _ _ _ _ _ _ hf hH hL hC hN (hl.sub [1, 3] rfl)
  · have hf := vg_if h8 hf
    refine lv_aload_n hx hb dX11_put_37 rfl (lv_at hl.1 1 rfl) ?_
    refine vg_getR X hH fF_X11_20 dX11_put_38 hf (fun x8 hf => ?_)
    refine lv_iload_n hx hb dX11_put_41 rfl (lv_at hl.1 4 rfl) ?_
    obtain ⟨a9, h9, hg⟩ := vg_o_inv hf
    clear hf
    subst h9
    have hf := hg
    clear hg
    refine vg_iald X hH dX11_put_42 hf (fun x10 hf => ?_)
    refine lv_iload_n hx hb dX11_put_43 rfl (lv_at hl.1 2 rfl) ?_
    refine lv_icmp_eq (tgt := 87) hx hb dX11_put_44 (by decide) (fun h8 => ?_) (fun h8 => ?_)
    · have hf := vg_ip h8 hf
      exact wX11_put_87 Z  v0 v1 v3 μ _ _ _ _ _ _ _ hf hH hL hC hN (hl.sub [1, 2, 4] rfl)
    · have hf := vg_if h8 hf
      refine lv_goto (tgt := 79) hx hb dX11_put_47 (by decide) ?_
      exact wX11_put_79 Z  v0 v2 μ _ _ _ _ _ _ _ hf hH hL hC hN (hl.sub [1, 3] rfl)
def fX11_put (v0 : Nat) (v1 : Int32) (μ : vg_M) : vg_R Int32 :=
  vg_cv 14 v0 μ (fX11_takes v0  μ) fun x24 μ25 =>
  if x24 = 0 then (
   fX11_put_149  v0 0 μ25
   ) else (
   vg_cv 14 v0 μ25 (fX11_go v0  μ25) fun x26 μ27 =>
   vg_o (vg_gI μ27 v0 14 36) fun x28 =>
   vg_o (vg_gI μ27 v0 14 3) fun x29 =>
   if x28 = x29 then (
    fX11_put_30  v0 v1 0 x26 1 μ27
    ) else (
    fX11_put_30  v0 v1 0 x26 0 μ27
    )
   )
set_option maxHeartbeats 4000000 in
set_option maxRecDepth 100000 in
theorem cX11_put_met {l : Launch} {D : va_G} {cy : Nat → ClassId} {H0 : Heap} {r : Int32} {μ μ' : vg_M} {cn nn : Nat} {v0 : Nat} {v1 : Int32} (hf : fX11_put v0 v1 μ = some (r, μ', cn, nn)) : vg_Met l D cy H0 yX11_put cX11_put 5 (some .int) 15 μ [.ref v0, .int v1] (some (.int r)) μ' cn nn := by
  refine vg_start (by decide +kernel) (List.forall_mem_cons.mpr ⟨rfl, (List.forall_mem_cons.mpr ⟨rfl, (fun _ h => nomatch h)⟩)⟩) (Nat.le_of_ble_eq_true rfl) ?_
  intro p e s m below meth c ls X hml hr hlk hnm hH hl
  have hl : vg_l ls 5 [(0, .ref v0), (1, .int v1)] := hl
  have Z : vg_Z D cy H0 p s m _ c cX11_put RX11 meth 5 (some .int) (vg_rm 15 cn nn) 15 cn nn _ := ⟨X, hml, hr, hlk, Nat.le_refl _, Nat.le_refl _, Nat.le_refl _, Nat.le_refl _, hnm⟩
  obtain ⟨-, -, -, -, hfr, hlo, hRc, hRs, -⟩ := id Z
  have hx := X.1
  have hb := X.2.1
  have hL : ∀ z ∈ ([] : List Loc), H0.size ≤ z.base := fun _ h => nomatch h
  have hC : 0 + cn = cn := Nat.zero_add _
  have hN : 0 + nn = nn := Nat.zero_add _
  delta fX11_put at hf
  refine lv_iconst (v := 0) hx hb dX11_put_0 (by decide) ?_
  refine vg_istore_n (lv' := [(2, .int 0), (0, .ref v0), (1, .int v1)]) hx hb dX11_put_1 rfl hl (by decide) rfl (fun ls hl => ?_)
  refine lv_aload_n hx hb dX11_put_2 rfl (lv_at hl.1 1 rfl) ?_
  refine vg_callVi (ci := 14) X hml hl hH hL fCV_X11_138 rfl [] rfl rfl (Nat.le_of_ble_eq_true rfl) dX11_put_3 hf hC hN hRc hRs hfr hlo (by decide) (fun _ _ _ _ h => cX11_takes_met h) (fun x24 μ25 cn nn H locs cells slots hf hC hN hH hL => ?_)
  refine lv_if_eq (tgt := 149) hx hb dX11_put_6 (by decide) (fun h8 => ?_) (fun h8 => ?_)
  · have hf := vg_ip h8 hf
    exact wX11_put_149 Z  v0 0 μ25 _ _ _ _ _ _ _ hf hH hL hC hN (hl.sub [1, 0] rfl)
  · have hf := vg_if h8 hf
    refine lv_aload_n hx hb dX11_put_9 rfl (lv_at hl.1 1 rfl) ?_
    refine vg_callVi (ci := 14) X hml hl hH hL fCV_X11_141 rfl [] rfl rfl (Nat.le_of_ble_eq_true rfl) dX11_put_10 hf hC hN hRc hRs hfr hlo (by decide) (fun _ _ _ _ h => cX11_go_met h) (fun x26 μ27 cn nn H locs cells slots hf hC hN hH hL => ?_)
    refine vg_istore_n (lv' := [(3, .int x26), (2, .int 0), (0, .ref v0), (1, .int v1)]) hx hb dX11_put_13 rfl hl (by decide) rfl (fun ls hl => ?_)
    refine lv_aload_n hx hb dX11_put_14 rfl (lv_at hl.1 2 rfl) ?_
    refine vg_getI X hH fF_X11_120 dX11_put_15 hf (fun x28 hf => ?_)
    refine lv_aload_n hx hb dX11_put_18 rfl (lv_at hl.1 2 rfl) ?_
    refine vg_getI X hH fF_X11_109 dX11_put_19 hf (fun x29 hf => ?_)
    refine lv_icmp_ne (tgt := 29) hx hb dX11_put_22 (by decide) (fun h8 => ?_) (fun h8 => ?_)
    · have hf := vg_if h8 hf
      refine lv_iconst (v := 0) hx hb dX11_put_29 (by decide) ?_
      exact wX11_put_30 Z  v0 v1 0 x26 0 μ27 _ _ _ _ _ _ _ hf hH hL hC hN (hl.sub [2, 3, 1, 0] rfl)
    · have hf := vg_ip h8 hf
      refine lv_iconst (v := 1) hx hb dX11_put_25 (by decide) ?_
      refine lv_goto (tgt := 30) hx hb dX11_put_26 (by decide) ?_
      exact wX11_put_30 Z  v0 v1 0 x26 1 μ27 _ _ _ _ _ _ _ hf hH hL hC hN (hl.sub [2, 3, 1, 0] rfl)
def fX11_file (v0 : Nat) (μ : vg_M) : vg_R Int32 :=
  vg_cv 14 v0 μ (fX11_put v0 1 μ) fun x1 μ2 =>
  vg_ret x1 μ2
set_option maxHeartbeats 4000000 in
set_option maxRecDepth 100000 in
theorem cX11_file_met {l : Launch} {D : va_G} {cy : Nat → ClassId} {H0 : Heap} {r : Int32} {μ μ' : vg_M} {cn nn : Nat} {v0 : Nat} (hf : fX11_file v0 μ = some (r, μ', cn, nn)) : vg_Met l D cy H0 yX11_file cX11_file 1 (some .int) 16 μ [.ref v0] (some (.int r)) μ' cn nn := by
  refine vg_start (by decide +kernel) (List.forall_mem_cons.mpr ⟨rfl, (fun _ h => nomatch h)⟩) (Nat.le_of_ble_eq_true rfl) ?_
  intro p e s m below meth c ls X hml hr hlk hnm hH hl
  have hl : vg_l ls 1 [(0, .ref v0)] := hl
  have Z : vg_Z D cy H0 p s m _ c cX11_file RX11 meth 1 (some .int) (vg_rm 16 cn nn) 16 cn nn _ := ⟨X, hml, hr, hlk, Nat.le_refl _, Nat.le_refl _, Nat.le_refl _, Nat.le_refl _, hnm⟩
  obtain ⟨-, -, -, -, hfr, hlo, hRc, hRs, -⟩ := id Z
  have hx := X.1
  have hb := X.2.1
  have hL : ∀ z ∈ ([] : List Loc), H0.size ≤ z.base := fun _ h => nomatch h
  have hC : 0 + cn = cn := Nat.zero_add _
  have hN : 0 + nn = nn := Nat.zero_add _
  delta fX11_file at hf
  refine lv_aload_n hx hb dX11_file_0 rfl (lv_at hl.1 0 rfl) ?_
  refine lv_iconst (v := 1) hx hb dX11_file_1 (by decide) ?_
  refine vg_callVi (ci := 14) X hml hl hH hL fCV_X11_152 rfl [.int 1] rfl rfl (Nat.le_of_ble_eq_true rfl) dX11_file_2 hf hC hN hRc hRs hfr hlo (by decide) (fun _ _ _ _ h => cX11_put_met h) (fun x1 μ2 cn nn H locs cells slots hf hC hN hH hL => ?_)
  exact vg_reti X hr hlk hH hL dX11_file_5 hf hC hN
def fX11_folder (v0 : Nat) (μ : vg_M) : vg_R Int32 :=
  vg_cv 14 v0 μ (fX11_put v0 2 μ) fun x1 μ2 =>
  vg_ret x1 μ2
set_option maxHeartbeats 4000000 in
set_option maxRecDepth 100000 in
theorem cX11_folder_met {l : Launch} {D : va_G} {cy : Nat → ClassId} {H0 : Heap} {r : Int32} {μ μ' : vg_M} {cn nn : Nat} {v0 : Nat} (hf : fX11_folder v0 μ = some (r, μ', cn, nn)) : vg_Met l D cy H0 yX11_folder cX11_folder 1 (some .int) 16 μ [.ref v0] (some (.int r)) μ' cn nn := by
  refine vg_start (by decide +kernel) (List.forall_mem_cons.mpr ⟨rfl, (fun _ h => nomatch h)⟩) (Nat.le_of_ble_eq_true rfl) ?_
  intro p e s m below meth c ls X hml hr hlk hnm hH hl
  have hl : vg_l ls 1 [(0, .ref v0)] := hl
  have Z : vg_Z D cy H0 p s m _ c cX11_folder RX11 meth 1 (some .int) (vg_rm 16 cn nn) 16 cn nn _ := ⟨X, hml, hr, hlk, Nat.le_refl _, Nat.le_refl _, Nat.le_refl _, Nat.le_refl _, hnm⟩
  obtain ⟨-, -, -, -, hfr, hlo, hRc, hRs, -⟩ := id Z
  have hx := X.1
  have hb := X.2.1
  have hL : ∀ z ∈ ([] : List Loc), H0.size ≤ z.base := fun _ h => nomatch h
  have hC : 0 + cn = cn := Nat.zero_add _
  have hN : 0 + nn = nn := Nat.zero_add _
  delta fX11_folder at hf
  refine lv_aload_n hx hb dX11_folder_0 rfl (lv_at hl.1 0 rfl) ?_
  refine lv_iconst (v := 2) hx hb dX11_folder_1 (by decide) ?_
  refine vg_callVi (ci := 14) X hml hl hH hL fCV_X11_152 rfl [.int 2] rfl rfl (Nat.le_of_ble_eq_true rfl) dX11_folder_2 hf hC hN hRc hRs hfr hlo (by decide) (fun _ _ _ _ h => cX11_put_met h) (fun x1 μ2 cn nn H locs cells slots hf hC hN hH hL => ?_)
  exact vg_reti X hr hlk hH hL dX11_folder_5 hf hC hN
def fX11_part_19  (v1 : Int32) (μ : vg_M) : vg_R Int32 :=
  vg_ret (v1 + 1) μ
set_option maxHeartbeats 4000000 in
set_option maxRecDepth 100000 in
theorem wX11_part_19 {p : Program} {l : Launch} {e : Env} {R : Room} {s : State} {m : MethodId} {args : Array Value} {below : List Frame} {meth : Method} {c : Code} {D : va_G} {cy : Nat → ClassId} {H0 : Heap} {C0 N0 : Nat} {r : Int32} {μ' : vg_M} (Z : vg_Z D cy H0 p s m args c cX11_part RX11 meth 4 (some .int) R 13 C0 N0 "part")   (v1 : Int32) (μ : vg_M) : vg_S p l e R s m args below meth c D cy H0 C0 N0 4 (MQ below (vg_Qc D cy H0 μ' (some (.int r))) args s C0 N0 (vg_fr H0)) r μ' (fX11_part_19  v1 μ) μ [(1, .int v1)] [] 19 := by
  intro cn nn H locs cells slots ls hf hH hL hC hN hl
  obtain ⟨X, hml, hr, hlk, hfr, hlo, hRc, hRs, hnm⟩ := id Z
  have hx := X.1
  have hb := X.2.1
  delta fX11_part_19 at hf
  refine lv_iload_n hx hb dX11_part_19 rfl (lv_at hl.1 0 rfl) ?_
  refine lv_iconst (v := 1) hx hb dX11_part_20 (by decide) ?_
  refine lv_iadd hx hb dX11_part_21 ?_
  exact vg_reti X hr hlk hH hL dX11_part_22 hf hC hN
def fX11_part_88  (k0 : Int32) (μ : vg_M) : vg_R Int32 :=
  vg_ret k0 μ
set_option maxHeartbeats 4000000 in
set_option maxRecDepth 100000 in
theorem wX11_part_88 {p : Program} {l : Launch} {e : Env} {R : Room} {s : State} {m : MethodId} {args : Array Value} {below : List Frame} {meth : Method} {c : Code} {D : va_G} {cy : Nat → ClassId} {H0 : Heap} {C0 N0 : Nat} {r : Int32} {μ' : vg_M} (Z : vg_Z D cy H0 p s m args c cX11_part RX11 meth 4 (some .int) R 13 C0 N0 "part")   (k0 : Int32) (μ : vg_M) : vg_S p l e R s m args below meth c D cy H0 C0 N0 4 (MQ below (vg_Qc D cy H0 μ' (some (.int r))) args s C0 N0 (vg_fr H0)) r μ' (fX11_part_88  k0 μ) μ [] [.int k0] 88 := by
  intro cn nn H locs cells slots ls hf hH hL hC hN hl
  obtain ⟨X, hml, hr, hlk, hfr, hlo, hRc, hRs, hnm⟩ := id Z
  have hx := X.1
  have hb := X.2.1
  delta fX11_part_88 at hf
  exact vg_reti X hr hlk hH hL dX11_part_88 hf hC hN
def fX11_part_85  (v3 : Int32) (μ : vg_M) : vg_R Int32 :=
  fX11_part_88  (((-1)) - v3) μ
set_option maxHeartbeats 4000000 in
set_option maxRecDepth 100000 in
theorem wX11_part_85 {p : Program} {l : Launch} {e : Env} {R : Room} {s : State} {m : MethodId} {args : Array Value} {below : List Frame} {meth : Method} {c : Code} {D : va_G} {cy : Nat → ClassId} {H0 : Heap} {C0 N0 : Nat} {r : Int32} {μ' : vg_M} (Z : vg_Z D cy H0 p s m args c cX11_part RX11 meth 4 (some .int) R 13 C0 N0 "part")   (v3 : Int32) (μ : vg_M) : vg_S p l e R s m args below meth c D cy H0 C0 N0 4 (MQ below (vg_Qc D cy H0 μ' (some (.int r))) args s C0 N0 (vg_fr H0)) r μ' (fX11_part_85  v3 μ) μ [(3, .int v3)] [] 85 := by
  intro cn nn H locs cells slots ls hf hH hL hC hN hl
  obtain ⟨X, hml, hr, hlk, hfr, hlo, hRc, hRs, hnm⟩ := id Z
  have hx := X.1
  have hb := X.2.1
  delta fX11_part_85 at hf
  refine lv_iconst (v := (-1)) hx hb dX11_part_85 (by decide) ?_
  refine lv_iload_n hx hb dX11_part_86 rfl (lv_at hl.1 0 rfl) ?_
  refine lv_isub hx hb dX11_part_87 ?_
  exact wX11_part_88 Z  (((-1)) - v3) μ _ _ _ _ _ _ _ hf hH hL hC hN (hl.sub [] rfl)
def fX11_part_62  (v0 : Nat) (v1 : Int32) (v3 : Int32) (μ : vg_M) : vg_R Int32 :=
  if v3 ≤ (v1 + 1) then (
   fX11_part_85  v3 μ
   ) else (
   vg_cv 14 v0 μ (fX11_at v0 v3 μ) fun x5 μ6 =>
   if x5 = 93 then (
    fX11_part_88  (v3 + 1) μ6
    ) else (
    fX11_part_85  v3 μ6
    )
   )
set_option maxHeartbeats 4000000 in
set_option maxRecDepth 100000 in
theorem wX11_part_62 {p : Program} {l : Launch} {e : Env} {R : Room} {s : State} {m : MethodId} {args : Array Value} {below : List Frame} {meth : Method} {c : Code} {D : va_G} {cy : Nat → ClassId} {H0 : Heap} {C0 N0 : Nat} {r : Int32} {μ' : vg_M} (Z : vg_Z D cy H0 p s m args c cX11_part RX11 meth 4 (some .int) R 13 C0 N0 "part")   (v0 : Nat) (v1 : Int32) (v3 : Int32) (μ : vg_M) : vg_S p l e R s m args below meth c D cy H0 C0 N0 4 (MQ below (vg_Qc D cy H0 μ' (some (.int r))) args s C0 N0 (vg_fr H0)) r μ' (fX11_part_62  v0 v1 v3 μ) μ [(0, .ref v0), (1, .int v1), (3, .int v3)] [] 62 := by
  intro cn nn H locs cells slots ls hf hH hL hC hN hl
  obtain ⟨X, hml, hr, hlk, hfr, hlo, hRc, hRs, hnm⟩ := id Z
  have hx := X.1
  have hb := X.2.1
  delta fX11_part_62 at hf
  refine lv_iload_n hx hb dX11_part_62 rfl (lv_at hl.1 2 rfl) ?_
  refine lv_iload_n hx hb dX11_part_63 rfl (lv_at hl.1 1 rfl) ?_
  refine lv_iconst (v := 1) hx hb dX11_part_64 (by decide) ?_
  refine lv_iadd hx hb dX11_part_65 ?_
  refine lv_icmp_le (tgt := 85) hx hb dX11_part_66 (by decide) (fun h8 => ?_) (fun h8 => ?_)
  · have hf := vg_ip h8 hf
    exact wX11_part_85 Z  v3 μ _ _ _ _ _ _ _ hf hH hL hC hN (hl.sub [2] rfl)
  · have hf := vg_if h8 hf
    refine lv_aload_n hx hb dX11_part_69 rfl (lv_at hl.1 0 rfl) ?_
    refine lv_iload_n hx hb dX11_part_70 rfl (lv_at hl.1 2 rfl) ?_
    refine vg_callVi (ci := 14) X hml hl hH hL fCV_X11_162 rfl [.int v3] rfl rfl (Nat.le_of_ble_eq_true rfl) dX11_part_71 hf hC hN hRc hRs hfr hlo (by decide) (fun _ _ _ _ h => cX11_at_met h) (fun x5 μ6 cn nn H locs cells slots hf hC hN hH hL => ?_)
    refine lv_bipush (v := 93) hx hb dX11_part_74 (by decide) ?_
    refine lv_icmp_ne (tgt := 85) hx hb dX11_part_76 (by decide) (fun h8 => ?_) (fun h8 => ?_)
    · have hf := vg_if h8 hf
      exact wX11_part_85 Z  v3 μ6 _ _ _ _ _ _ _ hf hH hL hC hN (hl.sub [2] rfl)
    · have hf := vg_ip h8 hf
      refine lv_iload_n hx hb dX11_part_79 rfl (lv_at hl.1 2 rfl) ?_
      refine lv_iconst (v := 1) hx hb dX11_part_80 (by decide) ?_
      refine lv_iadd hx hb dX11_part_81 ?_
      refine lv_goto (tgt := 88) hx hb dX11_part_82 (by decide) ?_
      exact wX11_part_88 Z  (v3 + 1) μ6 _ _ _ _ _ _ _ hf hH hL hC hN (hl.sub [] rfl)
def fX11_part_37  : Nat → Nat → Int32 → Int32 → vg_M → vg_R Int32
  | 0, _, _, _, _ => none
  | n + 1, v0, v1, v3, μ =>
    if (v1 + 7) ≤ v3 then (
     fX11_part_62  v0 v1 v3 μ
     ) else (
     vg_cv 14 v0 μ (fX11_at v0 v3 μ) fun x1 μ2 =>
     vg_b (fX11_isSign x1 μ2) fun x3 μ4 =>
     if x3 = 0 then (
      fX11_part_62  v0 v1 v3 μ4
      ) else (
      (fX11_part_37  n) v0 v1 (v3 + 1) μ4
      )
     )
set_option maxHeartbeats 4000000 in
set_option maxRecDepth 100000 in
theorem wX11_part_37 {p : Program} {l : Launch} {e : Env} {R : Room} {s : State} {m : MethodId} {args : Array Value} {below : List Frame} {meth : Method} {c : Code} {D : va_G} {cy : Nat → ClassId} {H0 : Heap} {C0 N0 : Nat} {r : Int32} {μ' : vg_M} (Z : vg_Z D cy H0 p s m args c cX11_part RX11 meth 4 (some .int) R 13 C0 N0 "part")   : ∀ (n : Nat) (v0 : Nat) (v1 : Int32) (v3 : Int32) (μ : vg_M), vg_S p l e R s m args below meth c D cy H0 C0 N0 4 (MQ below (vg_Qc D cy H0 μ' (some (.int r))) args s C0 N0 (vg_fr H0)) r μ' (fX11_part_37  n v0 v1 v3 μ) μ [(0, .ref v0), (1, .int v1), (3, .int v3)] [] 37 := by
  intro n
  induction n with
  | zero =>
    intro v0 v1 v3 μ cn nn H locs cells slots ls hf
    simp [fX11_part_37] at hf
  | succ n hk37 =>
    intro v0 v1 v3 μ
    intro cn nn H locs cells slots ls hf hH hL hC hN hl
    obtain ⟨X, hml, hr, hlk, hfr, hlo, hRc, hRs, hnm⟩ := id Z
    have hx := X.1
    have hb := X.2.1
    rw [fX11_part_37] at hf
    refine lv_iload_n hx hb dX11_part_37 rfl (lv_at hl.1 2 rfl) ?_
    refine lv_iload_n hx hb dX11_part_38 rfl (lv_at hl.1 1 rfl) ?_
    refine lv_bipush (v := 7) hx hb dX11_part_39 (by decide) ?_
    refine lv_iadd hx hb dX11_part_41 ?_
    refine lv_icmp_ge (tgt := 62) hx hb dX11_part_42 (by decide) (fun h8 => ?_) (fun h8 => ?_)
    · have hf := vg_ip h8 hf
      exact wX11_part_62 Z  v0 v1 v3 μ _ _ _ _ _ _ _ hf hH hL hC hN (hl.sub [0, 1, 2] rfl)
    · have hf := vg_if h8 hf
      refine lv_aload_n hx hb dX11_part_45 rfl (lv_at hl.1 0 rfl) ?_
      refine lv_iload_n hx hb dX11_part_46 rfl (lv_at hl.1 2 rfl) ?_
      refine vg_callVi (ci := 14) X hml hl hH hL fCV_X11_162 rfl [.int v3] rfl rfl (Nat.le_of_ble_eq_true rfl) dX11_part_47 hf hC hN hRc hRs hfr hlo (by decide) (fun _ _ _ _ h => cX11_at_met h) (fun x1 μ2 cn nn H locs cells slots hf hC hN hH hL => ?_)
      refine vg_callSi X hml hl hH hL fCS_X11_112 [.int x1] rfl rfl (Nat.le_of_ble_eq_true rfl) dX11_part_50 hf hC hN hRc hRs hfr hlo (by decide) (fun _ _ _ _ h => cX11_isSign_met h) (fun x3 μ4 cn nn H locs cells slots hf hC hN hH hL => ?_)
      refine lv_if_eq (tgt := 62) hx hb dX11_part_53 (by decide) (fun h8 => ?_) (fun h8 => ?_)
      · have hf := vg_ip h8 hf
        exact wX11_part_62 Z  v0 v1 v3 μ4 _ _ _ _ _ _ _ hf hH hL hC hN (hl.sub [0, 1, 2] rfl)
      · have hf := vg_if h8 hf
        refine vg_iinc (v := v3 + 1) (lv' := [(3, .int (v3 + 1)), (0, .ref v0), (1, .int v1)]) hx hb dX11_part_56 hl (k := 2) rfl rfl (by decide) rfl (fun ls hl => ?_)
        refine lv_goto (tgt := 37) hx hb dX11_part_59 (by decide) ?_
        exact hk37 v0 v1 (v3 + 1) μ4 _ _ _ _ _ _ _ hf hH hL hC hN (hl.sub [1, 2, 0] rfl)
def fX11_part (v0 : Nat) (v1 : Int32) (μ : vg_M) : vg_R Int32 :=
  vg_cv 14 v0 μ (fX11_at v0 v1 μ) fun x7 μ8 =>
  vg_b (fX11_isSign x7 μ8) fun x9 μ10 =>
  if x9 = 0 then (
   if x7 = 42 then (
    fX11_part_19  v1 μ10
    ) else (
    if x7 = 91 then (
     fX11_part_37  vg_fuel v0 v1 (v1 + 1) μ10
     ) else (
     vg_ret (((-1)) - v1) μ10
     )
    )
   ) else (
   fX11_part_19  v1 μ10
   )
set_option maxHeartbeats 4000000 in
set_option maxRecDepth 100000 in
theorem cX11_part_met {l : Launch} {D : va_G} {cy : Nat → ClassId} {H0 : Heap} {r : Int32} {μ μ' : vg_M} {cn nn : Nat} {v0 : Nat} {v1 : Int32} (hf : fX11_part v0 v1 μ = some (r, μ', cn, nn)) : vg_Met l D cy H0 yX11_part cX11_part 4 (some .int) 13 μ [.ref v0, .int v1] (some (.int r)) μ' cn nn := by
  refine vg_start (by decide +kernel) (List.forall_mem_cons.mpr ⟨rfl, (List.forall_mem_cons.mpr ⟨rfl, (fun _ h => nomatch h)⟩)⟩) (Nat.le_of_ble_eq_true rfl) ?_
  intro p e s m below meth c ls X hml hr hlk hnm hH hl
  have hl : vg_l ls 4 [(0, .ref v0), (1, .int v1)] := hl
  have Z : vg_Z D cy H0 p s m _ c cX11_part RX11 meth 4 (some .int) (vg_rm 13 cn nn) 13 cn nn _ := ⟨X, hml, hr, hlk, Nat.le_refl _, Nat.le_refl _, Nat.le_refl _, Nat.le_refl _, hnm⟩
  obtain ⟨-, -, -, -, hfr, hlo, hRc, hRs, -⟩ := id Z
  have hx := X.1
  have hb := X.2.1
  have hL : ∀ z ∈ ([] : List Loc), H0.size ≤ z.base := fun _ h => nomatch h
  have hC : 0 + cn = cn := Nat.zero_add _
  have hN : 0 + nn = nn := Nat.zero_add _
  delta fX11_part at hf
  refine lv_aload_n hx hb dX11_part_0 rfl (lv_at hl.1 0 rfl) ?_
  refine lv_iload_n hx hb dX11_part_1 rfl (lv_at hl.1 1 rfl) ?_
  refine vg_callVi (ci := 14) X hml hl hH hL fCV_X11_162 rfl [.int v1] rfl rfl (Nat.le_of_ble_eq_true rfl) dX11_part_2 hf hC hN hRc hRs hfr hlo (by decide) (fun _ _ _ _ h => cX11_at_met h) (fun x7 μ8 cn nn H locs cells slots hf hC hN hH hL => ?_)
  refine vg_istore_n (lv' := [(2, .int x7), (0, .ref v0), (1, .int v1)]) hx hb dX11_part_5 rfl hl (by decide) rfl (fun ls hl => ?_)
  refine lv_iload_n hx hb dX11_part_6 rfl (lv_at hl.1 0 rfl) ?_
  refine vg_callSi X hml hl hH hL fCS_X11_112 [.int x7] rfl rfl (Nat.le_of_ble_eq_true rfl) dX11_part_7 hf hC hN hRc hRs hfr hlo (by decide) (fun _ _ _ _ h => cX11_isSign_met h) (fun x9 μ10 cn nn H locs cells slots hf hC hN hH hL => ?_)
  refine lv_if_ne (tgt := 19) hx hb dX11_part_10 (by decide) (fun h8 => ?_) (fun h8 => ?_)
  · have hf := vg_if h8 hf
    exact wX11_part_19 Z  v1 μ10 _ _ _ _ _ _ _ hf hH hL hC hN (hl.sub [2] rfl)
  · have hf := vg_ip h8 hf
    refine lv_iload_n hx hb dX11_part_13 rfl (lv_at hl.1 0 rfl) ?_
    refine lv_bipush (v := 42) hx hb dX11_part_14 (by decide) ?_
    refine lv_icmp_ne (tgt := 23) hx hb dX11_part_16 (by decide) (fun h8 => ?_) (fun h8 => ?_)
    · have hf := vg_if h8 hf
      refine lv_iload_n hx hb dX11_part_23 rfl (lv_at hl.1 0 rfl) ?_
      refine lv_bipush (v := 91) hx hb dX11_part_24 (by decide) ?_
      refine lv_icmp_eq (tgt := 33) hx hb dX11_part_26 (by decide) (fun h8 => ?_) (fun h8 => ?_)
      · have hf := vg_ip h8 hf
        refine lv_iload_n hx hb dX11_part_33 rfl (lv_at hl.1 2 rfl) ?_
        refine lv_iconst (v := 1) hx hb dX11_part_34 (by decide) ?_
        refine lv_iadd hx hb dX11_part_35 ?_
        refine vg_istore_n (lv' := [(3, .int (v1 + 1)), (2, .int x7), (0, .ref v0), (1, .int v1)]) hx hb dX11_part_36 rfl hl (by decide) rfl (fun ls hl => ?_)
        exact wX11_part_37 Z  vg_fuel v0 v1 (v1 + 1) μ10 _ _ _ _ _ _ _ hf hH hL hC hN (hl.sub [2, 3, 0] rfl)
      · have hf := vg_if h8 hf
        refine lv_iconst (v := (-1)) hx hb dX11_part_29 (by decide) ?_
        refine lv_iload_n hx hb dX11_part_30 rfl (lv_at hl.1 2 rfl) ?_
        refine lv_isub hx hb dX11_part_31 ?_
        exact vg_reti X hr hlk hH hL dX11_part_32 hf hC hN
    · have hf := vg_ip h8 hf
      exact wX11_part_19 Z  v1 μ10 _ _ _ _ _ _ _ hf hH hL hC hN (hl.sub [2] rfl)
def fX11_piece_75  (k0 : Int32) (μ : vg_M) : vg_R Int32 :=
  vg_ret k0 μ
set_option maxHeartbeats 4000000 in
set_option maxRecDepth 100000 in
theorem wX11_piece_75 {p : Program} {l : Launch} {e : Env} {R : Room} {s : State} {m : MethodId} {args : Array Value} {below : List Frame} {meth : Method} {c : Code} {D : va_G} {cy : Nat → ClassId} {H0 : Heap} {C0 N0 : Nat} {r : Int32} {μ' : vg_M} (Z : vg_Z D cy H0 p s m args c cX11_piece RX11 meth 6 (some .int) R 14 C0 N0 "piece")   (k0 : Int32) (μ : vg_M) : vg_S p l e R s m args below meth c D cy H0 C0 N0 6 (MQ below (vg_Qc D cy H0 μ' (some (.int r))) args s C0 N0 (vg_fr H0)) r μ' (fX11_piece_75  k0 μ) μ [] [.int k0] 75 := by
  intro cn nn H locs cells slots ls hf hH hL hC hN hl
  obtain ⟨X, hml, hr, hlk, hfr, hlo, hRc, hRs, hnm⟩ := id Z
  have hx := X.1
  have hb := X.2.1
  delta fX11_piece_75 at hf
  exact vg_reti X hr hlk hH hL dX11_piece_75 hf hC hN
def fX11_piece_50  (v1 : Int32) (v2 : Int32) (k0 : Int32) (μ : vg_M) : vg_R Int32 :=
  if v2 = 0 then (
   if k0 = 0 then (
    fX11_piece_75  (((-3)) - v1) μ
    ) else (
    fX11_piece_75  (v1 + 2) μ
    )
   ) else (
   fX11_piece_75  (((-1)) - v1) μ
   )
set_option maxHeartbeats 4000000 in
set_option maxRecDepth 100000 in
theorem wX11_piece_50 {p : Program} {l : Launch} {e : Env} {R : Room} {s : State} {m : MethodId} {args : Array Value} {below : List Frame} {meth : Method} {c : Code} {D : va_G} {cy : Nat → ClassId} {H0 : Heap} {C0 N0 : Nat} {r : Int32} {μ' : vg_M} (Z : vg_Z D cy H0 p s m args c cX11_piece RX11 meth 6 (some .int) R 14 C0 N0 "piece")   (v1 : Int32) (v2 : Int32) (k0 : Int32) (μ : vg_M) : vg_S p l e R s m args below meth c D cy H0 C0 N0 6 (MQ below (vg_Qc D cy H0 μ' (some (.int r))) args s C0 N0 (vg_fr H0)) r μ' (fX11_piece_50  v1 v2 k0 μ) μ [(1, .int v1), (2, .int v2)] [.int k0] 50 := by
  intro cn nn H locs cells slots ls hf hH hL hC hN hl
  obtain ⟨X, hml, hr, hlk, hfr, hlo, hRc, hRs, hnm⟩ := id Z
  have hx := X.1
  have hb := X.2.1
  delta fX11_piece_50 at hf
  refine vg_istore_n (lv' := [(3, .int k0), (1, .int v1), (2, .int v2)]) hx hb dX11_piece_50 rfl hl (by decide) rfl (fun ls hl => ?_)
  refine lv_iload_n hx hb dX11_piece_51 rfl (lv_at hl.1 2 rfl) ?_
  refine lv_if_eq (tgt := 61) hx hb dX11_piece_52 (by decide) (fun h8 => ?_) (fun h8 => ?_)
  · have hf := vg_ip h8 hf
    refine lv_iload_n hx hb dX11_piece_61 rfl (lv_at hl.1 0 rfl) ?_
    refine lv_if_eq (tgt := 71) hx hb dX11_piece_62 (by decide) (fun h8 => ?_) (fun h8 => ?_)
    · have hf := vg_ip h8 hf
      refine lv_bipush (v := (-3)) hx hb dX11_piece_71 (by decide) ?_
      refine lv_iload_n hx hb dX11_piece_73 rfl (lv_at hl.1 1 rfl) ?_
      refine lv_isub hx hb dX11_piece_74 ?_
      exact wX11_piece_75 Z  (((-3)) - v1) μ _ _ _ _ _ _ _ hf hH hL hC hN (hl.sub [] rfl)
    · have hf := vg_if h8 hf
      refine lv_iload_n hx hb dX11_piece_65 rfl (lv_at hl.1 1 rfl) ?_
      refine lv_iconst (v := 2) hx hb dX11_piece_66 (by decide) ?_
      refine lv_iadd hx hb dX11_piece_67 ?_
      refine lv_goto (tgt := 75) hx hb dX11_piece_68 (by decide) ?_
      exact wX11_piece_75 Z  (v1 + 2) μ _ _ _ _ _ _ _ hf hH hL hC hN (hl.sub [] rfl)
  · have hf := vg_if h8 hf
    refine lv_iconst (v := (-1)) hx hb dX11_piece_55 (by decide) ?_
    refine lv_iload_n hx hb dX11_piece_56 rfl (lv_at hl.1 1 rfl) ?_
    refine lv_isub hx hb dX11_piece_57 ?_
    refine lv_goto (tgt := 75) hx hb dX11_piece_58 (by decide) ?_
    exact wX11_piece_75 Z  (((-1)) - v1) μ _ _ _ _ _ _ _ hf hH hL hC hN (hl.sub [] rfl)
def fX11_piece_45  (v1 : Int32) (v2 : Int32) (μ : vg_M) : vg_R Int32 :=
  fX11_piece_50  v1 v2 1 μ
set_option maxHeartbeats 4000000 in
set_option maxRecDepth 100000 in
theorem wX11_piece_45 {p : Program} {l : Launch} {e : Env} {R : Room} {s : State} {m : MethodId} {args : Array Value} {below : List Frame} {meth : Method} {c : Code} {D : va_G} {cy : Nat → ClassId} {H0 : Heap} {C0 N0 : Nat} {r : Int32} {μ' : vg_M} (Z : vg_Z D cy H0 p s m args c cX11_piece RX11 meth 6 (some .int) R 14 C0 N0 "piece")   (v1 : Int32) (v2 : Int32) (μ : vg_M) : vg_S p l e R s m args below meth c D cy H0 C0 N0 6 (MQ below (vg_Qc D cy H0 μ' (some (.int r))) args s C0 N0 (vg_fr H0)) r μ' (fX11_piece_45  v1 v2 μ) μ [(1, .int v1), (2, .int v2)] [] 45 := by
  intro cn nn H locs cells slots ls hf hH hL hC hN hl
  obtain ⟨X, hml, hr, hlk, hfr, hlo, hRc, hRs, hnm⟩ := id Z
  have hx := X.1
  have hb := X.2.1
  delta fX11_piece_45 at hf
  refine lv_iconst (v := 1) hx hb dX11_piece_45 (by decide) ?_
  refine lv_goto (tgt := 50) hx hb dX11_piece_46 (by decide) ?_
  exact wX11_piece_50 Z  v1 v2 1 μ _ _ _ _ _ _ _ hf hH hL hC hN (hl.sub [0, 1] rfl)
def fX11_piece_127 (q81 : Nat → Int32 → Int32 → Int32 → vg_M → vg_R Int32) (v0 : Nat) (v1 : Int32) (v4 : Int32) (k0 : Int32) (μ : vg_M) : vg_R Int32 :=
  q81 v0 v1 k0 (v4 + 1) μ
set_option maxHeartbeats 4000000 in
set_option maxRecDepth 100000 in
theorem wX11_piece_127 {p : Program} {l : Launch} {e : Env} {R : Room} {s : State} {m : MethodId} {args : Array Value} {below : List Frame} {meth : Method} {c : Code} {D : va_G} {cy : Nat → ClassId} {H0 : Heap} {C0 N0 : Nat} {r : Int32} {μ' : vg_M} (Z : vg_Z D cy H0 p s m args c cX11_piece RX11 meth 6 (some .int) R 14 C0 N0 "piece") {q81 : Nat → Int32 → Int32 → Int32 → vg_M → vg_R Int32} (hk81 : ∀ (v0 : Nat) (v1 : Int32) (v3 : Int32) (v4 : Int32) (μ : vg_M), vg_S p l e R s m args below meth c D cy H0 C0 N0 6 (MQ below (vg_Qc D cy H0 μ' (some (.int r))) args s C0 N0 (vg_fr H0)) r μ' (q81 v0 v1 v3 v4 μ) μ [(0, .ref v0), (1, .int v1), (3, .int v3), (4, .int v4)] [] 81) (v0 : Nat) (v1 : Int32) (v4 : Int32) (k0 : Int32) (μ : vg_M) : vg_S p l e R s m args below meth c D cy H0 C0 N0 6 (MQ below (vg_Qc D cy H0 μ' (some (.int r))) args s C0 N0 (vg_fr H0)) r μ' (fX11_piece_127 q81 v0 v1 v4 k0 μ) μ [(0, .ref v0), (1, .int v1), (4, .int v4)] [.int k0] 127 := by
  intro cn nn H locs cells slots ls hf hH hL hC hN hl
  obtain ⟨X, hml, hr, hlk, hfr, hlo, hRc, hRs, hnm⟩ := id Z
  have hx := X.1
  have hb := X.2.1
  delta fX11_piece_127 at hf
  refine vg_istore_n (lv' := [(3, .int k0), (0, .ref v0), (1, .int v1), (4, .int v4)]) hx hb dX11_piece_127 rfl hl (by decide) rfl (fun ls hl => ?_)
  refine vg_iinc (v := v4 + 1) (lv' := [(4, .int (v4 + 1)), (3, .int k0), (0, .ref v0), (1, .int v1)]) hx hb dX11_piece_128 hl (k := 3) rfl rfl (by decide) rfl (fun ls hl => ?_)
  refine lv_goto (tgt := 81) hx hb dX11_piece_131 (by decide) ?_
  exact hk81 v0 v1 k0 (v4 + 1) μ _ _ _ _ _ _ _ hf hH hL hC hN (hl.sub [2, 3, 1, 0] rfl)
def fX11_piece_109 (q81 : Nat → Int32 → Int32 → Int32 → vg_M → vg_R Int32) (v0 : Nat) (v1 : Int32) (v3 : Int32) (v4 : Int32) (μ : vg_M) : vg_R Int32 :=
  if v4 = 8 then (
   fX11_piece_127 q81 v0 v1 v4 (((-1)) - v3) μ
   ) else (
   vg_cv 14 v0 μ (fX11_part v0 v3 μ) fun x5 μ6 =>
   fX11_piece_127 q81 v0 v1 v4 x5 μ6
   )
set_option maxHeartbeats 4000000 in
set_option maxRecDepth 100000 in
theorem wX11_piece_109 {p : Program} {l : Launch} {e : Env} {R : Room} {s : State} {m : MethodId} {args : Array Value} {below : List Frame} {meth : Method} {c : Code} {D : va_G} {cy : Nat → ClassId} {H0 : Heap} {C0 N0 : Nat} {r : Int32} {μ' : vg_M} (Z : vg_Z D cy H0 p s m args c cX11_piece RX11 meth 6 (some .int) R 14 C0 N0 "piece") {q81 : Nat → Int32 → Int32 → Int32 → vg_M → vg_R Int32} (hk81 : ∀ (v0 : Nat) (v1 : Int32) (v3 : Int32) (v4 : Int32) (μ : vg_M), vg_S p l e R s m args below meth c D cy H0 C0 N0 6 (MQ below (vg_Qc D cy H0 μ' (some (.int r))) args s C0 N0 (vg_fr H0)) r μ' (q81 v0 v1 v3 v4 μ) μ [(0, .ref v0), (1, .int v1), (3, .int v3), (4, .int v4)] [] 81) (v0 : Nat) (v1 : Int32) (v3 : Int32) (v4 : Int32) (μ : vg_M) : vg_S p l e R s m args below meth c D cy H0 C0 N0 6 (MQ below (vg_Qc D cy H0 μ' (some (.int r))) args s C0 N0 (vg_fr H0)) r μ' (fX11_piece_109 q81 v0 v1 v3 v4 μ) μ [(0, .ref v0), (1, .int v1), (3, .int v3), (4, .int v4)] [] 109 := by
  intro cn nn H locs cells slots ls hf hH hL hC hN hl
  obtain ⟨X, hml, hr, hlk, hfr, hlo, hRc, hRs, hnm⟩ := id Z
  have hx := X.1
  have hb := X.2.1
  delta fX11_piece_109 at hf
  refine lv_iload hx hb dX11_piece_109 (lv_at hl.1 3 rfl) ?_
  refine lv_bipush (v := 8) hx hb dX11_piece_111 (by decide) ?_
  refine lv_icmp_ne (tgt := 122) hx hb dX11_piece_113 (by decide) (fun h8 => ?_) (fun h8 => ?_)
  · have hf := vg_if h8 hf
    refine lv_aload_n hx hb dX11_piece_122 rfl (lv_at hl.1 0 rfl) ?_
    refine lv_iload_n hx hb dX11_piece_123 rfl (lv_at hl.1 2 rfl) ?_
    refine vg_callVi (ci := 14) X hml hl hH hL fCV_X11_165 rfl [.int v3] rfl rfl (Nat.le_of_ble_eq_true rfl) dX11_piece_124 hf hC hN hRc hRs hfr hlo (by decide) (fun _ _ _ _ h => cX11_part_met h) (fun x5 μ6 cn nn H locs cells slots hf hC hN hH hL => ?_)
    exact wX11_piece_127 Z hk81 v0 v1 v4 x5 μ6 _ _ _ _ _ _ _ hf hH hL hC hN (hl.sub [0, 1, 3] rfl)
  · have hf := vg_ip h8 hf
    refine lv_iconst (v := (-1)) hx hb dX11_piece_116 (by decide) ?_
    refine lv_iload_n hx hb dX11_piece_117 rfl (lv_at hl.1 2 rfl) ?_
    refine lv_isub hx hb dX11_piece_118 ?_
    refine lv_goto (tgt := 127) hx hb dX11_piece_119 (by decide) ?_
    exact wX11_piece_127 Z hk81 v0 v1 v4 (((-1)) - v3) μ _ _ _ _ _ _ _ hf hH hL hC hN (hl.sub [0, 1, 3] rfl)
def fX11_piece_199  (k0 : Int32) (μ : vg_M) : vg_R Int32 :=
  vg_ret k0 μ
set_option maxHeartbeats 4000000 in
set_option maxRecDepth 100000 in
theorem wX11_piece_199 {p : Program} {l : Launch} {e : Env} {R : Room} {s : State} {m : MethodId} {args : Array Value} {below : List Frame} {meth : Method} {c : Code} {D : va_G} {cy : Nat → ClassId} {H0 : Heap} {C0 N0 : Nat} {r : Int32} {μ' : vg_M} (Z : vg_Z D cy H0 p s m args c cX11_piece RX11 meth 6 (some .int) R 14 C0 N0 "piece")   (k0 : Int32) (μ : vg_M) : vg_S p l e R s m args below meth c D cy H0 C0 N0 6 (MQ below (vg_Qc D cy H0 μ' (some (.int r))) args s C0 N0 (vg_fr H0)) r μ' (fX11_piece_199  k0 μ) μ [] [.int k0] 199 := by
  intro cn nn H locs cells slots ls hf hH hL hC hN hl
  obtain ⟨X, hml, hr, hlk, hfr, hlo, hRc, hRs, hnm⟩ := id Z
  have hx := X.1
  have hb := X.2.1
  delta fX11_piece_199 at hf
  exact vg_reti X hr hlk hH hL dX11_piece_199 hf hC hN
def fX11_piece_185  (v1 : Int32) (v3 : Int32) (k0 : Int32) (μ : vg_M) : vg_R Int32 :=
  if k0 = 0 then (
   fX11_piece_199  v3 μ
   ) else (
   fX11_piece_199  (((-1)) - v1) μ
   )
set_option maxHeartbeats 4000000 in
set_option maxRecDepth 100000 in
theorem wX11_piece_185 {p : Program} {l : Launch} {e : Env} {R : Room} {s : State} {m : MethodId} {args : Array Value} {below : List Frame} {meth : Method} {c : Code} {D : va_G} {cy : Nat → ClassId} {H0 : Heap} {C0 N0 : Nat} {r : Int32} {μ' : vg_M} (Z : vg_Z D cy H0 p s m args c cX11_piece RX11 meth 6 (some .int) R 14 C0 N0 "piece")   (v1 : Int32) (v3 : Int32) (k0 : Int32) (μ : vg_M) : vg_S p l e R s m args below meth c D cy H0 C0 N0 6 (MQ below (vg_Qc D cy H0 μ' (some (.int r))) args s C0 N0 (vg_fr H0)) r μ' (fX11_piece_185  v1 v3 k0 μ) μ [(1, .int v1), (3, .int v3)] [.int k0] 185 := by
  intro cn nn H locs cells slots ls hf hH hL hC hN hl
  obtain ⟨X, hml, hr, hlk, hfr, hlo, hRc, hRs, hnm⟩ := id Z
  have hx := X.1
  have hb := X.2.1
  delta fX11_piece_185 at hf
  refine vg_istore (lv' := [(5, .int k0), (1, .int v1), (3, .int v3)]) hx hb dX11_piece_185 hl (by decide) rfl (fun ls hl => ?_)
  refine lv_iload hx hb dX11_piece_187 (lv_at hl.1 0 rfl) ?_
  refine lv_if_eq (tgt := 198) hx hb dX11_piece_189 (by decide) (fun h8 => ?_) (fun h8 => ?_)
  · have hf := vg_ip h8 hf
    refine lv_iload_n hx hb dX11_piece_198 rfl (lv_at hl.1 2 rfl) ?_
    exact wX11_piece_199 Z  v3 μ _ _ _ _ _ _ _ hf hH hL hC hN (hl.sub [] rfl)
  · have hf := vg_if h8 hf
    refine lv_iconst (v := (-1)) hx hb dX11_piece_192 (by decide) ?_
    refine lv_iload_n hx hb dX11_piece_193 rfl (lv_at hl.1 1 rfl) ?_
    refine lv_isub hx hb dX11_piece_194 ?_
    refine lv_goto (tgt := 199) hx hb dX11_piece_195 (by decide) ?_
    exact wX11_piece_199 Z  (((-1)) - v1) μ _ _ _ _ _ _ _ hf hH hL hC hN (hl.sub [] rfl)
def fX11_piece_180  (v1 : Int32) (v3 : Int32) (μ : vg_M) : vg_R Int32 :=
  fX11_piece_185  v1 v3 1 μ
set_option maxHeartbeats 4000000 in
set_option maxRecDepth 100000 in
theorem wX11_piece_180 {p : Program} {l : Launch} {e : Env} {R : Room} {s : State} {m : MethodId} {args : Array Value} {below : List Frame} {meth : Method} {c : Code} {D : va_G} {cy : Nat → ClassId} {H0 : Heap} {C0 N0 : Nat} {r : Int32} {μ' : vg_M} (Z : vg_Z D cy H0 p s m args c cX11_piece RX11 meth 6 (some .int) R 14 C0 N0 "piece")   (v1 : Int32) (v3 : Int32) (μ : vg_M) : vg_S p l e R s m args below meth c D cy H0 C0 N0 6 (MQ below (vg_Qc D cy H0 μ' (some (.int r))) args s C0 N0 (vg_fr H0)) r μ' (fX11_piece_180  v1 v3 μ) μ [(1, .int v1), (3, .int v3)] [] 180 := by
  intro cn nn H locs cells slots ls hf hH hL hC hN hl
  obtain ⟨X, hml, hr, hlk, hfr, hlo, hRc, hRs, hnm⟩ := id Z
  have hx := X.1
  have hb := X.2.1
  delta fX11_piece_180 at hf
  refine lv_iconst (v := 1) hx hb dX11_piece_180 (by decide) ?_
  refine lv_goto (tgt := 185) hx hb dX11_piece_181 (by decide) ?_
  exact wX11_piece_185 Z  v1 v3 1 μ _ _ _ _ _ _ _ hf hH hL hC hN (hl.sub [0, 1] rfl)
def fX11_piece_184  (v1 : Int32) (v3 : Int32) (μ : vg_M) : vg_R Int32 :=
  fX11_piece_185  v1 v3 0 μ
set_option maxHeartbeats 4000000 in
set_option maxRecDepth 100000 in
theorem wX11_piece_184 {p : Program} {l : Launch} {e : Env} {R : Room} {s : State} {m : MethodId} {args : Array Value} {below : List Frame} {meth : Method} {c : Code} {D : va_G} {cy : Nat → ClassId} {H0 : Heap} {C0 N0 : Nat} {r : Int32} {μ' : vg_M} (Z : vg_Z D cy H0 p s m args c cX11_piece RX11 meth 6 (some .int) R 14 C0 N0 "piece")   (v1 : Int32) (v3 : Int32) (μ : vg_M) : vg_S p l e R s m args below meth c D cy H0 C0 N0 6 (MQ below (vg_Qc D cy H0 μ' (some (.int r))) args s C0 N0 (vg_fr H0)) r μ' (fX11_piece_184  v1 v3 μ) μ [(1, .int v1), (3, .int v3)] [] 184 := by
  intro cn nn H locs cells slots ls hf hH hL hC hN hl
  obtain ⟨X, hml, hr, hlk, hfr, hlo, hRc, hRs, hnm⟩ := id Z
  have hx := X.1
  have hb := X.2.1
  delta fX11_piece_184 at hf
  refine lv_iconst (v := 0) hx hb dX11_piece_184 (by decide) ?_
  exact wX11_piece_185 Z  v1 v3 0 μ _ _ _ _ _ _ _ hf hH hL hC hN (hl.sub [0, 1] rfl)
def fX11_piece_151  (v0 : Nat) (v1 : Int32) (v3 : Int32) (μ : vg_M) : vg_R Int32 :=
  if v3 = (v1 + 2) then (
   vg_cv 14 v0 μ (fX11_at v0 v1 μ) fun x9 μ10 =>
   if x9 = 46 then (
    vg_cv 14 v0 μ10 (fX11_at v0 (v1 + 1) μ10) fun x11 μ12 =>
    if x11 = 46 then (
     fX11_piece_180  v1 v3 μ12
     ) else (
     fX11_piece_184  v1 v3 μ12
     )
    ) else (
    fX11_piece_184  v1 v3 μ10
    )
   ) else (
   fX11_piece_184  v1 v3 μ
   )
set_option maxHeartbeats 4000000 in
set_option maxRecDepth 100000 in
theorem wX11_piece_151 {p : Program} {l : Launch} {e : Env} {R : Room} {s : State} {m : MethodId} {args : Array Value} {below : List Frame} {meth : Method} {c : Code} {D : va_G} {cy : Nat → ClassId} {H0 : Heap} {C0 N0 : Nat} {r : Int32} {μ' : vg_M} (Z : vg_Z D cy H0 p s m args c cX11_piece RX11 meth 6 (some .int) R 14 C0 N0 "piece")   (v0 : Nat) (v1 : Int32) (v3 : Int32) (μ : vg_M) : vg_S p l e R s m args below meth c D cy H0 C0 N0 6 (MQ below (vg_Qc D cy H0 μ' (some (.int r))) args s C0 N0 (vg_fr H0)) r μ' (fX11_piece_151  v0 v1 v3 μ) μ [(0, .ref v0), (1, .int v1), (3, .int v3)] [] 151 := by
  intro cn nn H locs cells slots ls hf hH hL hC hN hl
  obtain ⟨X, hml, hr, hlk, hfr, hlo, hRc, hRs, hnm⟩ := id Z
  have hx := X.1
  have hb := X.2.1
  delta fX11_piece_151 at hf
  refine lv_iload_n hx hb dX11_piece_151 rfl (lv_at hl.1 2 rfl) ?_
  refine lv_iload_n hx hb dX11_piece_152 rfl (lv_at hl.1 1 rfl) ?_
  refine lv_iconst (v := 2) hx hb dX11_piece_153 (by decide) ?_
  refine lv_iadd hx hb dX11_piece_154 ?_
  refine lv_icmp_ne (tgt := 184) hx hb dX11_piece_155 (by decide) (fun h8 => ?_) (fun h8 => ?_)
  · have hf := vg_if h8 hf
    exact wX11_piece_184 Z  v1 v3 μ _ _ _ _ _ _ _ hf hH hL hC hN (hl.sub [1, 2] rfl)
  · have hf := vg_ip h8 hf
    refine lv_aload_n hx hb dX11_piece_158 rfl (lv_at hl.1 0 rfl) ?_
    refine lv_iload_n hx hb dX11_piece_159 rfl (lv_at hl.1 1 rfl) ?_
    refine vg_callVi (ci := 14) X hml hl hH hL fCV_X11_162 rfl [.int v1] rfl rfl (Nat.le_of_ble_eq_true rfl) dX11_piece_160 hf hC hN hRc hRs hfr hlo (by decide) (fun _ _ _ _ h => cX11_at_met h) (fun x9 μ10 cn nn H locs cells slots hf hC hN hH hL => ?_)
    refine lv_bipush (v := 46) hx hb dX11_piece_163 (by decide) ?_
    refine lv_icmp_ne (tgt := 184) hx hb dX11_piece_165 (by decide) (fun h8 => ?_) (fun h8 => ?_)
    · have hf := vg_if h8 hf
      exact wX11_piece_184 Z  v1 v3 μ10 _ _ _ _ _ _ _ hf hH hL hC hN (hl.sub [1, 2] rfl)
    · have hf := vg_ip h8 hf
      refine lv_aload_n hx hb dX11_piece_168 rfl (lv_at hl.1 0 rfl) ?_
      refine lv_iload_n hx hb dX11_piece_169 rfl (lv_at hl.1 1 rfl) ?_
      refine lv_iconst (v := 1) hx hb dX11_piece_170 (by decide) ?_
      refine lv_iadd hx hb dX11_piece_171 ?_
      refine vg_callVi (ci := 14) X hml hl hH hL fCV_X11_162 rfl [.int (v1 + 1)] rfl rfl (Nat.le_of_ble_eq_true rfl) dX11_piece_172 hf hC hN hRc hRs hfr hlo (by decide) (fun _ _ _ _ h => cX11_at_met h) (fun x11 μ12 cn nn H locs cells slots hf hC hN hH hL => ?_)
      refine lv_bipush (v := 46) hx hb dX11_piece_175 (by decide) ?_
      refine lv_icmp_ne (tgt := 184) hx hb dX11_piece_177 (by decide) (fun h8 => ?_) (fun h8 => ?_)
      · have hf := vg_if h8 hf
        exact wX11_piece_184 Z  v1 v3 μ12 _ _ _ _ _ _ _ hf hH hL hC hN (hl.sub [1, 2] rfl)
      · have hf := vg_ip h8 hf
        exact wX11_piece_180 Z  v1 v3 μ12 _ _ _ _ _ _ _ hf hH hL hC hN (hl.sub [1, 2] rfl)
def fX11_piece_134  (v0 : Nat) (v1 : Int32) (v3 : Int32) (μ : vg_M) : vg_R Int32 :=
  if v3 = (v1 + 1) then (
   vg_cv 14 v0 μ (fX11_at v0 v1 μ) fun x7 μ8 =>
   if x7 = 46 then (
    fX11_piece_180  v1 v3 μ8
    ) else (
    fX11_piece_151  v0 v1 v3 μ8
    )
   ) else (
   fX11_piece_151  v0 v1 v3 μ
   )
set_option maxHeartbeats 4000000 in
set_option maxRecDepth 100000 in
theorem wX11_piece_134 {p : Program} {l : Launch} {e : Env} {R : Room} {s : State} {m : MethodId} {args : Array Value} {below : List Frame} {meth : Method} {c : Code} {D : va_G} {cy : Nat → ClassId} {H0 : Heap} {C0 N0 : Nat} {r : Int32} {μ' : vg_M} (Z : vg_Z D cy H0 p s m args c cX11_piece RX11 meth 6 (some .int) R 14 C0 N0 "piece")   (v0 : Nat) (v1 : Int32) (v3 : Int32) (μ : vg_M) : vg_S p l e R s m args below meth c D cy H0 C0 N0 6 (MQ below (vg_Qc D cy H0 μ' (some (.int r))) args s C0 N0 (vg_fr H0)) r μ' (fX11_piece_134  v0 v1 v3 μ) μ [(0, .ref v0), (1, .int v1), (3, .int v3)] [] 134 := by
  intro cn nn H locs cells slots ls hf hH hL hC hN hl
  obtain ⟨X, hml, hr, hlk, hfr, hlo, hRc, hRs, hnm⟩ := id Z
  have hx := X.1
  have hb := X.2.1
  delta fX11_piece_134 at hf
  refine lv_iload_n hx hb dX11_piece_134 rfl (lv_at hl.1 2 rfl) ?_
  refine lv_iload_n hx hb dX11_piece_135 rfl (lv_at hl.1 1 rfl) ?_
  refine lv_iconst (v := 1) hx hb dX11_piece_136 (by decide) ?_
  refine lv_iadd hx hb dX11_piece_137 ?_
  refine lv_icmp_ne (tgt := 151) hx hb dX11_piece_138 (by decide) (fun h8 => ?_) (fun h8 => ?_)
  · have hf := vg_if h8 hf
    exact wX11_piece_151 Z  v0 v1 v3 μ _ _ _ _ _ _ _ hf hH hL hC hN (hl.sub [0, 1, 2] rfl)
  · have hf := vg_ip h8 hf
    refine lv_aload_n hx hb dX11_piece_141 rfl (lv_at hl.1 0 rfl) ?_
    refine lv_iload_n hx hb dX11_piece_142 rfl (lv_at hl.1 1 rfl) ?_
    refine vg_callVi (ci := 14) X hml hl hH hL fCV_X11_162 rfl [.int v1] rfl rfl (Nat.le_of_ble_eq_true rfl) dX11_piece_143 hf hC hN hRc hRs hfr hlo (by decide) (fun _ _ _ _ h => cX11_at_met h) (fun x7 μ8 cn nn H locs cells slots hf hC hN hH hL => ?_)
    refine lv_bipush (v := 46) hx hb dX11_piece_146 (by decide) ?_
    refine lv_icmp_eq (tgt := 180) hx hb dX11_piece_148 (by decide) (fun h8 => ?_) (fun h8 => ?_)
    · have hf := vg_ip h8 hf
      exact wX11_piece_180 Z  v1 v3 μ8 _ _ _ _ _ _ _ hf hH hL hC hN (hl.sub [1, 2] rfl)
    · have hf := vg_if h8 hf
      exact wX11_piece_151 Z  v0 v1 v3 μ8 _ _ _ _ _ _ _ hf hH hL hC hN (hl.sub [0, 1, 2] rfl)
def fX11_piece_81  : Nat → Nat → Int32 → Int32 → Int32 → vg_M → vg_R Int32
  | 0, _, _, _, _, _ => none
  | n + 1, v0, v1, v3, v4, μ =>
    if v3 < 0 then (
     fX11_piece_134  v0 v1 v3 μ
     ) else (
     if v4 = 0 then (
      fX11_piece_109 (fX11_piece_81  n) v0 v1 v3 v4 μ
      ) else (
      vg_cv 14 v0 μ (fX11_at v0 v3 μ) fun x1 μ2 =>
      if x1 = ((-1)) then (
       fX11_piece_134  v0 v1 v3 μ2
       ) else (
       vg_cv 14 v0 μ2 (fX11_at v0 v3 μ2) fun x3 μ4 =>
       if x3 = 47 then (
        fX11_piece_134  v0 v1 v3 μ4
        ) else (
        fX11_piece_109 (fX11_piece_81  n) v0 v1 v3 v4 μ4
        )
       )
      )
     )
set_option maxHeartbeats 4000000 in
set_option maxRecDepth 100000 in
theorem wX11_piece_81 {p : Program} {l : Launch} {e : Env} {R : Room} {s : State} {m : MethodId} {args : Array Value} {below : List Frame} {meth : Method} {c : Code} {D : va_G} {cy : Nat → ClassId} {H0 : Heap} {C0 N0 : Nat} {r : Int32} {μ' : vg_M} (Z : vg_Z D cy H0 p s m args c cX11_piece RX11 meth 6 (some .int) R 14 C0 N0 "piece")   : ∀ (n : Nat) (v0 : Nat) (v1 : Int32) (v3 : Int32) (v4 : Int32) (μ : vg_M), vg_S p l e R s m args below meth c D cy H0 C0 N0 6 (MQ below (vg_Qc D cy H0 μ' (some (.int r))) args s C0 N0 (vg_fr H0)) r μ' (fX11_piece_81  n v0 v1 v3 v4 μ) μ [(0, .ref v0), (1, .int v1), (3, .int v3), (4, .int v4)] [] 81 := by
  intro n
  induction n with
  | zero =>
    intro v0 v1 v3 v4 μ cn nn H locs cells slots ls hf
    simp [fX11_piece_81] at hf
  | succ n hk81 =>
    intro v0 v1 v3 v4 μ
    intro cn nn H locs cells slots ls hf hH hL hC hN hl
    obtain ⟨X, hml, hr, hlk, hfr, hlo, hRc, hRs, hnm⟩ := id Z
    have hx := X.1
    have hb := X.2.1
    rw [fX11_piece_81] at hf
    refine lv_iload_n hx hb dX11_piece_81 rfl (lv_at hl.1 2 rfl) ?_
    refine lv_if_lt (tgt := 134) hx hb dX11_piece_82 (by decide) (fun h8 => ?_) (fun h8 => ?_)
    · have hf := vg_ip h8 hf
      exact wX11_piece_134 Z  v0 v1 v3 μ _ _ _ _ _ _ _ hf hH hL hC hN (hl.sub [0, 1, 2] rfl)
    · have hf := vg_if h8 hf
      refine lv_iload hx hb dX11_piece_85 (lv_at hl.1 3 rfl) ?_
      refine lv_if_eq (tgt := 109) hx hb dX11_piece_87 (by decide) (fun h8 => ?_) (fun h8 => ?_)
      · have hf := vg_ip h8 hf
        exact wX11_piece_109 Z hk81 v0 v1 v3 v4 μ _ _ _ _ _ _ _ hf hH hL hC hN (hl.sub [0, 1, 2, 3] rfl)
      · have hf := vg_if h8 hf
        refine lv_aload_n hx hb dX11_piece_90 rfl (lv_at hl.1 0 rfl) ?_
        refine lv_iload_n hx hb dX11_piece_91 rfl (lv_at hl.1 2 rfl) ?_
        refine vg_callVi (ci := 14) X hml hl hH hL fCV_X11_162 rfl [.int v3] rfl rfl (Nat.le_of_ble_eq_true rfl) dX11_piece_92 hf hC hN hRc hRs hfr hlo (by decide) (fun _ _ _ _ h => cX11_at_met h) (fun x1 μ2 cn nn H locs cells slots hf hC hN hH hL => ?_)
        refine lv_iconst (v := (-1)) hx hb dX11_piece_95 (by decide) ?_
        refine lv_icmp_eq (tgt := 134) hx hb dX11_piece_96 (by decide) (fun h8 => ?_) (fun h8 => ?_)
        · have hf := vg_ip h8 hf
          exact wX11_piece_134 Z  v0 v1 v3 μ2 _ _ _ _ _ _ _ hf hH hL hC hN (hl.sub [0, 1, 2] rfl)
        · have hf := vg_if h8 hf
          refine lv_aload_n hx hb dX11_piece_99 rfl (lv_at hl.1 0 rfl) ?_
          refine lv_iload_n hx hb dX11_piece_100 rfl (lv_at hl.1 2 rfl) ?_
          refine vg_callVi (ci := 14) X hml hl hH hL fCV_X11_162 rfl [.int v3] rfl rfl (Nat.le_of_ble_eq_true rfl) dX11_piece_101 hf hC hN hRc hRs hfr hlo (by decide) (fun _ _ _ _ h => cX11_at_met h) (fun x3 μ4 cn nn H locs cells slots hf hC hN hH hL => ?_)
          refine lv_bipush (v := 47) hx hb dX11_piece_104 (by decide) ?_
          refine lv_icmp_eq (tgt := 134) hx hb dX11_piece_106 (by decide) (fun h8 => ?_) (fun h8 => ?_)
          · have hf := vg_ip h8 hf
            exact wX11_piece_134 Z  v0 v1 v3 μ4 _ _ _ _ _ _ _ hf hH hL hC hN (hl.sub [0, 1, 2] rfl)
          · have hf := vg_if h8 hf
            exact wX11_piece_109 Z hk81 v0 v1 v3 v4 μ4 _ _ _ _ _ _ _ hf hH hL hC hN (hl.sub [0, 1, 2, 3] rfl)
def fX11_piece_76  (v0 : Nat) (v1 : Int32) (μ : vg_M) : vg_R Int32 :=
  fX11_piece_81  vg_fuel v0 v1 v1 0 μ
set_option maxHeartbeats 4000000 in
set_option maxRecDepth 100000 in
theorem wX11_piece_76 {p : Program} {l : Launch} {e : Env} {R : Room} {s : State} {m : MethodId} {args : Array Value} {below : List Frame} {meth : Method} {c : Code} {D : va_G} {cy : Nat → ClassId} {H0 : Heap} {C0 N0 : Nat} {r : Int32} {μ' : vg_M} (Z : vg_Z D cy H0 p s m args c cX11_piece RX11 meth 6 (some .int) R 14 C0 N0 "piece")   (v0 : Nat) (v1 : Int32) (μ : vg_M) : vg_S p l e R s m args below meth c D cy H0 C0 N0 6 (MQ below (vg_Qc D cy H0 μ' (some (.int r))) args s C0 N0 (vg_fr H0)) r μ' (fX11_piece_76  v0 v1 μ) μ [(0, .ref v0), (1, .int v1)] [] 76 := by
  intro cn nn H locs cells slots ls hf hH hL hC hN hl
  obtain ⟨X, hml, hr, hlk, hfr, hlo, hRc, hRs, hnm⟩ := id Z
  have hx := X.1
  have hb := X.2.1
  delta fX11_piece_76 at hf
  refine lv_iload_n hx hb dX11_piece_76 rfl (lv_at hl.1 1 rfl) ?_
  refine vg_istore_n (lv' := [(3, .int v1), (0, .ref v0), (1, .int v1)]) hx hb dX11_piece_77 rfl hl (by decide) rfl (fun ls hl => ?_)
  refine lv_iconst (v := 0) hx hb dX11_piece_78 (by decide) ?_
  refine vg_istore (lv' := [(4, .int 0), (3, .int v1), (0, .ref v0), (1, .int v1)]) hx hb dX11_piece_79 hl (by decide) rfl (fun ls hl => ?_)
  exact wX11_piece_81 Z  vg_fuel v0 v1 v1 0 μ _ _ _ _ _ _ _ hf hH hL hC hN (hl.sub [2, 3, 1, 0] rfl)
def fX11_piece (v0 : Nat) (v1 : Int32) (v2 : Int32) (μ : vg_M) : vg_R Int32 :=
  vg_cv 14 v0 μ (fX11_at v0 v1 μ) fun x13 μ14 =>
  if x13 = 42 then (
   vg_cv 14 v0 μ14 (fX11_at v0 (v1 + 1) μ14) fun x15 μ16 =>
   if x15 = 42 then (
    vg_cv 14 v0 μ16 (fX11_at v0 (v1 + 2) μ16) fun x17 μ18 =>
    if x17 = ((-1)) then (
     fX11_piece_45  v1 v2 μ18
     ) else (
     vg_cv 14 v0 μ18 (fX11_at v0 (v1 + 2) μ18) fun x19 μ20 =>
     if x19 = 47 then (
      fX11_piece_45  v1 v2 μ20
      ) else (
      fX11_piece_50  v1 v2 0 μ20
      )
     )
    ) else (
    fX11_piece_76  v0 v1 μ16
    )
   ) else (
   fX11_piece_76  v0 v1 μ14
   )
set_option maxHeartbeats 4000000 in
set_option maxRecDepth 100000 in
theorem cX11_piece_met {l : Launch} {D : va_G} {cy : Nat → ClassId} {H0 : Heap} {r : Int32} {μ μ' : vg_M} {cn nn : Nat} {v0 : Nat} {v1 : Int32} {v2 : Int32} (hf : fX11_piece v0 v1 v2 μ = some (r, μ', cn, nn)) : vg_Met l D cy H0 yX11_piece cX11_piece 6 (some .int) 14 μ [.ref v0, .int v1, .int v2] (some (.int r)) μ' cn nn := by
  refine vg_start (by decide +kernel) (List.forall_mem_cons.mpr ⟨rfl, (List.forall_mem_cons.mpr ⟨rfl, (List.forall_mem_cons.mpr ⟨rfl, (fun _ h => nomatch h)⟩)⟩)⟩) (Nat.le_of_ble_eq_true rfl) ?_
  intro p e s m below meth c ls X hml hr hlk hnm hH hl
  have hl : vg_l ls 6 [(0, .ref v0), (1, .int v1), (2, .int v2)] := hl
  have Z : vg_Z D cy H0 p s m _ c cX11_piece RX11 meth 6 (some .int) (vg_rm 14 cn nn) 14 cn nn _ := ⟨X, hml, hr, hlk, Nat.le_refl _, Nat.le_refl _, Nat.le_refl _, Nat.le_refl _, hnm⟩
  obtain ⟨-, -, -, -, hfr, hlo, hRc, hRs, -⟩ := id Z
  have hx := X.1
  have hb := X.2.1
  have hL : ∀ z ∈ ([] : List Loc), H0.size ≤ z.base := fun _ h => nomatch h
  have hC : 0 + cn = cn := Nat.zero_add _
  have hN : 0 + nn = nn := Nat.zero_add _
  delta fX11_piece at hf
  refine lv_aload_n hx hb dX11_piece_0 rfl (lv_at hl.1 0 rfl) ?_
  refine lv_iload_n hx hb dX11_piece_1 rfl (lv_at hl.1 1 rfl) ?_
  refine vg_callVi (ci := 14) X hml hl hH hL fCV_X11_162 rfl [.int v1] rfl rfl (Nat.le_of_ble_eq_true rfl) dX11_piece_2 hf hC hN hRc hRs hfr hlo (by decide) (fun _ _ _ _ h => cX11_at_met h) (fun x13 μ14 cn nn H locs cells slots hf hC hN hH hL => ?_)
  refine lv_bipush (v := 42) hx hb dX11_piece_5 (by decide) ?_
  refine lv_icmp_ne (tgt := 76) hx hb dX11_piece_7 (by decide) (fun h8 => ?_) (fun h8 => ?_)
  · have hf := vg_if h8 hf
    exact wX11_piece_76 Z  v0 v1 μ14 _ _ _ _ _ _ _ hf hH hL hC hN (hl.sub [0, 1] rfl)
  · have hf := vg_ip h8 hf
    refine lv_aload_n hx hb dX11_piece_10 rfl (lv_at hl.1 0 rfl) ?_
    refine lv_iload_n hx hb dX11_piece_11 rfl (lv_at hl.1 1 rfl) ?_
    refine lv_iconst (v := 1) hx hb dX11_piece_12 (by decide) ?_
    refine lv_iadd hx hb dX11_piece_13 ?_
    refine vg_callVi (ci := 14) X hml hl hH hL fCV_X11_162 rfl [.int (v1 + 1)] rfl rfl (Nat.le_of_ble_eq_true rfl) dX11_piece_14 hf hC hN hRc hRs hfr hlo (by decide) (fun _ _ _ _ h => cX11_at_met h) (fun x15 μ16 cn nn H locs cells slots hf hC hN hH hL => ?_)
    refine lv_bipush (v := 42) hx hb dX11_piece_17 (by decide) ?_
    refine lv_icmp_ne (tgt := 76) hx hb dX11_piece_19 (by decide) (fun h8 => ?_) (fun h8 => ?_)
    · have hf := vg_if h8 hf
      exact wX11_piece_76 Z  v0 v1 μ16 _ _ _ _ _ _ _ hf hH hL hC hN (hl.sub [0, 1] rfl)
    · have hf := vg_ip h8 hf
      refine lv_aload_n hx hb dX11_piece_22 rfl (lv_at hl.1 0 rfl) ?_
      refine lv_iload_n hx hb dX11_piece_23 rfl (lv_at hl.1 1 rfl) ?_
      refine lv_iconst (v := 2) hx hb dX11_piece_24 (by decide) ?_
      refine lv_iadd hx hb dX11_piece_25 ?_
      refine vg_callVi (ci := 14) X hml hl hH hL fCV_X11_162 rfl [.int (v1 + 2)] rfl rfl (Nat.le_of_ble_eq_true rfl) dX11_piece_26 hf hC hN hRc hRs hfr hlo (by decide) (fun _ _ _ _ h => cX11_at_met h) (fun x17 μ18 cn nn H locs cells slots hf hC hN hH hL => ?_)
      refine lv_iconst (v := (-1)) hx hb dX11_piece_29 (by decide) ?_
      refine lv_icmp_eq (tgt := 45) hx hb dX11_piece_30 (by decide) (fun h8 => ?_) (fun h8 => ?_)
      · have hf := vg_ip h8 hf
        exact wX11_piece_45 Z  v1 v2 μ18 _ _ _ _ _ _ _ hf hH hL hC hN (hl.sub [1, 2] rfl)
      · have hf := vg_if h8 hf
        refine lv_aload_n hx hb dX11_piece_33 rfl (lv_at hl.1 0 rfl) ?_
        refine lv_iload_n hx hb dX11_piece_34 rfl (lv_at hl.1 1 rfl) ?_
        refine lv_iconst (v := 2) hx hb dX11_piece_35 (by decide) ?_
        refine lv_iadd hx hb dX11_piece_36 ?_
        refine vg_callVi (ci := 14) X hml hl hH hL fCV_X11_162 rfl [.int (v1 + 2)] rfl rfl (Nat.le_of_ble_eq_true rfl) dX11_piece_37 hf hC hN hRc hRs hfr hlo (by decide) (fun _ _ _ _ h => cX11_at_met h) (fun x19 μ20 cn nn H locs cells slots hf hC hN hH hL => ?_)
        refine lv_bipush (v := 47) hx hb dX11_piece_40 (by decide) ?_
        refine lv_icmp_ne (tgt := 49) hx hb dX11_piece_42 (by decide) (fun h8 => ?_) (fun h8 => ?_)
        · have hf := vg_if h8 hf
          refine lv_iconst (v := 0) hx hb dX11_piece_49 (by decide) ?_
          exact wX11_piece_50 Z  v1 v2 0 μ20 _ _ _ _ _ _ _ hf hH hL hC hN (hl.sub [1, 2] rfl)
        · have hf := vg_ip h8 hf
          exact wX11_piece_45 Z  v1 v2 μ20 _ _ _ _ _ _ _ hf hH hL hC hN (hl.sub [1, 2] rfl)
def fX11_ill_104 (q9 : Nat → Int32 → Int32 → Int32 → Int32 → vg_M → vg_R Int32) (v0 : Nat) (v1 : Int32) (v2 : Int32) (v3 : Int32) (k0 : Int32) (μ : vg_M) : vg_R Int32 :=
  q9 v0 v1 v2 v3 k0 μ
set_option maxHeartbeats 4000000 in
set_option maxRecDepth 100000 in
theorem wX11_ill_104 {p : Program} {l : Launch} {e : Env} {R : Room} {s : State} {m : MethodId} {args : Array Value} {below : List Frame} {meth : Method} {c : Code} {D : va_G} {cy : Nat → ClassId} {H0 : Heap} {C0 N0 : Nat} {r : Int32} {μ' : vg_M} (Z : vg_Z D cy H0 p s m args c cX11_ill RX11 meth 6 (some .int) R 15 C0 N0 "ill") {q9 : Nat → Int32 → Int32 → Int32 → Int32 → vg_M → vg_R Int32} (hk9 : ∀ (v0 : Nat) (v1 : Int32) (v2 : Int32) (v3 : Int32) (v4 : Int32) (μ : vg_M), vg_S p l e R s m args below meth c D cy H0 C0 N0 6 (MQ below (vg_Qc D cy H0 μ' (some (.int r))) args s C0 N0 (vg_fr H0)) r μ' (q9 v0 v1 v2 v3 v4 μ) μ [(0, .ref v0), (1, .int v1), (2, .int v2), (3, .int v3), (4, .int v4)] [] 9) (v0 : Nat) (v1 : Int32) (v2 : Int32) (v3 : Int32) (k0 : Int32) (μ : vg_M) : vg_S p l e R s m args below meth c D cy H0 C0 N0 6 (MQ below (vg_Qc D cy H0 μ' (some (.int r))) args s C0 N0 (vg_fr H0)) r μ' (fX11_ill_104 q9 v0 v1 v2 v3 k0 μ) μ [(0, .ref v0), (1, .int v1), (2, .int v2), (3, .int v3)] [.int k0] 104 := by
  intro cn nn H locs cells slots ls hf hH hL hC hN hl
  obtain ⟨X, hml, hr, hlk, hfr, hlo, hRc, hRs, hnm⟩ := id Z
  have hx := X.1
  have hb := X.2.1
  delta fX11_ill_104 at hf
  refine vg_istore (lv' := [(4, .int k0), (0, .ref v0), (1, .int v1), (2, .int v2), (3, .int v3)]) hx hb dX11_ill_104 hl (by decide) rfl (fun ls hl => ?_)
  refine lv_goto (tgt := 9) hx hb dX11_ill_106 (by decide) ?_
  exact hk9 v0 v1 v2 v3 k0 μ _ _ _ _ _ _ _ hf hH hL hC hN (hl.sub [1, 2, 3, 4, 0] rfl)
def fX11_ill_103 (q9 : Nat → Int32 → Int32 → Int32 → Int32 → vg_M → vg_R Int32) (v0 : Nat) (v1 : Int32) (v2 : Int32) (v3 : Int32) (μ : vg_M) : vg_R Int32 :=
  fX11_ill_104 q9 v0 v1 v2 v3 0 μ
set_option maxHeartbeats 4000000 in
set_option maxRecDepth 100000 in
theorem wX11_ill_103 {p : Program} {l : Launch} {e : Env} {R : Room} {s : State} {m : MethodId} {args : Array Value} {below : List Frame} {meth : Method} {c : Code} {D : va_G} {cy : Nat → ClassId} {H0 : Heap} {C0 N0 : Nat} {r : Int32} {μ' : vg_M} (Z : vg_Z D cy H0 p s m args c cX11_ill RX11 meth 6 (some .int) R 15 C0 N0 "ill") {q9 : Nat → Int32 → Int32 → Int32 → Int32 → vg_M → vg_R Int32} (hk9 : ∀ (v0 : Nat) (v1 : Int32) (v2 : Int32) (v3 : Int32) (v4 : Int32) (μ : vg_M), vg_S p l e R s m args below meth c D cy H0 C0 N0 6 (MQ below (vg_Qc D cy H0 μ' (some (.int r))) args s C0 N0 (vg_fr H0)) r μ' (q9 v0 v1 v2 v3 v4 μ) μ [(0, .ref v0), (1, .int v1), (2, .int v2), (3, .int v3), (4, .int v4)] [] 9) (v0 : Nat) (v1 : Int32) (v2 : Int32) (v3 : Int32) (μ : vg_M) : vg_S p l e R s m args below meth c D cy H0 C0 N0 6 (MQ below (vg_Qc D cy H0 μ' (some (.int r))) args s C0 N0 (vg_fr H0)) r μ' (fX11_ill_103 q9 v0 v1 v2 v3 μ) μ [(0, .ref v0), (1, .int v1), (2, .int v2), (3, .int v3)] [] 103 := by
  intro cn nn H locs cells slots ls hf hH hL hC hN hl
  obtain ⟨X, hml, hr, hlk, hfr, hlo, hRc, hRs, hnm⟩ := id Z
  have hx := X.1
  have hb := X.2.1
  delta fX11_ill_103 at hf
  refine lv_iconst (v := 0) hx hb dX11_ill_103 (by decide) ?_
  exact wX11_ill_104 Z hk9 v0 v1 v2 v3 0 μ _ _ _ _ _ _ _ hf hH hL hC hN (hl.sub [0, 1, 2, 3] rfl)
def fX11_ill_71 (q9 : Nat → Int32 → Int32 → Int32 → Int32 → vg_M → vg_R Int32) (v0 : Nat) (v2 : Int32) (v5 : Int32) (k0 : Int32) (μ : vg_M) : vg_R Int32 :=
  vg_cv 14 v0 μ (fX11_at v0 v5 μ) fun x7 μ8 =>
  if x7 = 47 then (
   vg_o (vg_gI μ8 v0 14 2) fun x9 =>
   if x9 ≤ (v5 + 1) then (
    fX11_ill_103 q9 v0 (v5 + 1) (v2 + 1) k0 μ8
    ) else (
    fX11_ill_104 q9 v0 (v5 + 1) (v2 + 1) k0 1 μ8
    )
   ) else (
   fX11_ill_103 q9 v0 (v5 + 1) (v2 + 1) k0 μ8
   )
set_option maxHeartbeats 4000000 in
set_option maxRecDepth 100000 in
theorem wX11_ill_71 {p : Program} {l : Launch} {e : Env} {R : Room} {s : State} {m : MethodId} {args : Array Value} {below : List Frame} {meth : Method} {c : Code} {D : va_G} {cy : Nat → ClassId} {H0 : Heap} {C0 N0 : Nat} {r : Int32} {μ' : vg_M} (Z : vg_Z D cy H0 p s m args c cX11_ill RX11 meth 6 (some .int) R 15 C0 N0 "ill") {q9 : Nat → Int32 → Int32 → Int32 → Int32 → vg_M → vg_R Int32} (hk9 : ∀ (v0 : Nat) (v1 : Int32) (v2 : Int32) (v3 : Int32) (v4 : Int32) (μ : vg_M), vg_S p l e R s m args below meth c D cy H0 C0 N0 6 (MQ below (vg_Qc D cy H0 μ' (some (.int r))) args s C0 N0 (vg_fr H0)) r μ' (q9 v0 v1 v2 v3 v4 μ) μ [(0, .ref v0), (1, .int v1), (2, .int v2), (3, .int v3), (4, .int v4)] [] 9) (v0 : Nat) (v2 : Int32) (v5 : Int32) (k0 : Int32) (μ : vg_M) : vg_S p l e R s m args below meth c D cy H0 C0 N0 6 (MQ below (vg_Qc D cy H0 μ' (some (.int r))) args s C0 N0 (vg_fr H0)) r μ' (fX11_ill_71 q9 v0 v2 v5 k0 μ) μ [(0, .ref v0), (2, .int v2), (5, .int v5)] [.int k0] 71 := by
  intro cn nn H locs cells slots ls hf hH hL hC hN hl
  obtain ⟨X, hml, hr, hlk, hfr, hlo, hRc, hRs, hnm⟩ := id Z
  have hx := X.1
  have hb := X.2.1
  delta fX11_ill_71 at hf
  refine vg_istore_n (lv' := [(3, .int k0), (0, .ref v0), (2, .int v2), (5, .int v5)]) hx hb dX11_ill_71 rfl hl (by decide) rfl (fun ls hl => ?_)
  refine vg_iinc (v := v2 + 1) (lv' := [(2, .int (v2 + 1)), (3, .int k0), (0, .ref v0), (5, .int v5)]) hx hb dX11_ill_72 hl (k := 2) rfl rfl (by decide) rfl (fun ls hl => ?_)
  refine lv_iload hx hb dX11_ill_75 (lv_at hl.1 3 rfl) ?_
  refine lv_iconst (v := 1) hx hb dX11_ill_77 (by decide) ?_
  refine lv_iadd hx hb dX11_ill_78 ?_
  refine vg_istore_n (lv' := [(1, .int (v5 + 1)), (2, .int (v2 + 1)), (3, .int k0), (0, .ref v0), (5, .int v5)]) hx hb dX11_ill_79 rfl hl (by decide) rfl (fun ls hl => ?_)
  refine lv_aload_n hx hb dX11_ill_80 rfl (lv_at hl.1 3 rfl) ?_
  refine lv_iload hx hb dX11_ill_81 (lv_at hl.1 4 rfl) ?_
  refine vg_callVi (ci := 14) X hml hl hH hL fCV_X11_162 rfl [.int v5] rfl rfl (Nat.le_of_ble_eq_true rfl) dX11_ill_83 hf hC hN hRc hRs hfr hlo (by decide) (fun _ _ _ _ h => cX11_at_met h) (fun x7 μ8 cn nn H locs cells slots hf hC hN hH hL => ?_)
  refine lv_bipush (v := 47) hx hb dX11_ill_86 (by decide) ?_
  refine lv_icmp_ne (tgt := 103) hx hb dX11_ill_88 (by decide) (fun h8 => ?_) (fun h8 => ?_)
  · have hf := vg_if h8 hf
    exact wX11_ill_103 Z hk9 v0 (v5 + 1) (v2 + 1) k0 μ8 _ _ _ _ _ _ _ hf hH hL hC hN (hl.sub [3, 0, 1, 2] rfl)
  · have hf := vg_ip h8 hf
    refine lv_iload_n hx hb dX11_ill_91 rfl (lv_at hl.1 0 rfl) ?_
    refine lv_aload_n hx hb dX11_ill_92 rfl (lv_at hl.1 3 rfl) ?_
    refine vg_getI X hH fF_X11_106 dX11_ill_93 hf (fun x9 hf => ?_)
    refine lv_icmp_ge (tgt := 103) hx hb dX11_ill_96 (by decide) (fun h8 => ?_) (fun h8 => ?_)
    · have hf := vg_ip h8 hf
      exact wX11_ill_103 Z hk9 v0 (v5 + 1) (v2 + 1) k0 μ8 _ _ _ _ _ _ _ hf hH hL hC hN (hl.sub [3, 0, 1, 2] rfl)
    · have hf := vg_if h8 hf
      refine lv_iconst (v := 1) hx hb dX11_ill_99 (by decide) ?_
      refine lv_goto (tgt := 104) hx hb dX11_ill_100 (by decide) ?_
      exact wX11_ill_104 Z hk9 v0 (v5 + 1) (v2 + 1) k0 1 μ8 _ _ _ _ _ _ _ hf hH hL hC hN (hl.sub [3, 0, 1, 2] rfl)
def fX11_ill_70 (q9 : Nat → Int32 → Int32 → Int32 → Int32 → vg_M → vg_R Int32) (v0 : Nat) (v2 : Int32) (v5 : Int32) (μ : vg_M) : vg_R Int32 :=
  fX11_ill_71 q9 v0 v2 v5 0 μ
set_option maxHeartbeats 4000000 in
set_option maxRecDepth 100000 in
theorem wX11_ill_70 {p : Program} {l : Launch} {e : Env} {R : Room} {s : State} {m : MethodId} {args : Array Value} {below : List Frame} {meth : Method} {c : Code} {D : va_G} {cy : Nat → ClassId} {H0 : Heap} {C0 N0 : Nat} {r : Int32} {μ' : vg_M} (Z : vg_Z D cy H0 p s m args c cX11_ill RX11 meth 6 (some .int) R 15 C0 N0 "ill") {q9 : Nat → Int32 → Int32 → Int32 → Int32 → vg_M → vg_R Int32} (hk9 : ∀ (v0 : Nat) (v1 : Int32) (v2 : Int32) (v3 : Int32) (v4 : Int32) (μ : vg_M), vg_S p l e R s m args below meth c D cy H0 C0 N0 6 (MQ below (vg_Qc D cy H0 μ' (some (.int r))) args s C0 N0 (vg_fr H0)) r μ' (q9 v0 v1 v2 v3 v4 μ) μ [(0, .ref v0), (1, .int v1), (2, .int v2), (3, .int v3), (4, .int v4)] [] 9) (v0 : Nat) (v2 : Int32) (v5 : Int32) (μ : vg_M) : vg_S p l e R s m args below meth c D cy H0 C0 N0 6 (MQ below (vg_Qc D cy H0 μ' (some (.int r))) args s C0 N0 (vg_fr H0)) r μ' (fX11_ill_70 q9 v0 v2 v5 μ) μ [(0, .ref v0), (2, .int v2), (5, .int v5)] [] 70 := by
  intro cn nn H locs cells slots ls hf hH hL hC hN hl
  obtain ⟨X, hml, hr, hlk, hfr, hlo, hRc, hRs, hnm⟩ := id Z
  have hx := X.1
  have hb := X.2.1
  delta fX11_ill_70 at hf
  refine lv_iconst (v := 0) hx hb dX11_ill_70 (by decide) ?_
  exact wX11_ill_71 Z hk9 v0 v2 v5 0 μ _ _ _ _ _ _ _ hf hH hL hC hN (hl.sub [0, 1, 2] rfl)
def fX11_ill_32 (q9 : Nat → Int32 → Int32 → Int32 → Int32 → vg_M → vg_R Int32) (v0 : Nat) (v1 : Int32) (v2 : Int32) (k0 : Int32) (μ : vg_M) : vg_R Int32 :=
  if 0 ≤ k0 then (
   vg_cv 14 v0 μ (fX11_at v0 v1 μ) fun x3 μ4 =>
   if x3 = 42 then (
    vg_cv 14 v0 μ4 (fX11_at v0 (v1 + 1) μ4) fun x5 μ6 =>
    if x5 = 42 then (
     fX11_ill_71 q9 v0 v2 k0 1 μ6
     ) else (
     fX11_ill_70 q9 v0 v2 k0 μ6
     )
    ) else (
    fX11_ill_70 q9 v0 v2 k0 μ4
    )
   ) else (
   vg_ret (((-1)) - k0) μ
   )
set_option maxHeartbeats 4000000 in
set_option maxRecDepth 100000 in
theorem wX11_ill_32 {p : Program} {l : Launch} {e : Env} {R : Room} {s : State} {m : MethodId} {args : Array Value} {below : List Frame} {meth : Method} {c : Code} {D : va_G} {cy : Nat → ClassId} {H0 : Heap} {C0 N0 : Nat} {r : Int32} {μ' : vg_M} (Z : vg_Z D cy H0 p s m args c cX11_ill RX11 meth 6 (some .int) R 15 C0 N0 "ill") {q9 : Nat → Int32 → Int32 → Int32 → Int32 → vg_M → vg_R Int32} (hk9 : ∀ (v0 : Nat) (v1 : Int32) (v2 : Int32) (v3 : Int32) (v4 : Int32) (μ : vg_M), vg_S p l e R s m args below meth c D cy H0 C0 N0 6 (MQ below (vg_Qc D cy H0 μ' (some (.int r))) args s C0 N0 (vg_fr H0)) r μ' (q9 v0 v1 v2 v3 v4 μ) μ [(0, .ref v0), (1, .int v1), (2, .int v2), (3, .int v3), (4, .int v4)] [] 9) (v0 : Nat) (v1 : Int32) (v2 : Int32) (k0 : Int32) (μ : vg_M) : vg_S p l e R s m args below meth c D cy H0 C0 N0 6 (MQ below (vg_Qc D cy H0 μ' (some (.int r))) args s C0 N0 (vg_fr H0)) r μ' (fX11_ill_32 q9 v0 v1 v2 k0 μ) μ [(0, .ref v0), (1, .int v1), (2, .int v2)] [.int k0] 32 := by
  intro cn nn H locs cells slots ls hf hH hL hC hN hl
  obtain ⟨X, hml, hr, hlk, hfr, hlo, hRc, hRs, hnm⟩ := id Z
  have hx := X.1
  have hb := X.2.1
  delta fX11_ill_32 at hf
  refine vg_istore (lv' := [(5, .int k0), (0, .ref v0), (1, .int v1), (2, .int v2)]) hx hb dX11_ill_32 hl (by decide) rfl (fun ls hl => ?_)
  refine lv_iload hx hb dX11_ill_34 (lv_at hl.1 0 rfl) ?_
  refine lv_if_ge (tgt := 44) hx hb dX11_ill_36 (by decide) (fun h8 => ?_) (fun h8 => ?_)
  · have hf := vg_ip h8 hf
    refine lv_aload_n hx hb dX11_ill_44 rfl (lv_at hl.1 1 rfl) ?_
    refine lv_iload_n hx hb dX11_ill_45 rfl (lv_at hl.1 2 rfl) ?_
    refine vg_callVi (ci := 14) X hml hl hH hL fCV_X11_162 rfl [.int v1] rfl rfl (Nat.le_of_ble_eq_true rfl) dX11_ill_46 hf hC hN hRc hRs hfr hlo (by decide) (fun _ _ _ _ h => cX11_at_met h) (fun x3 μ4 cn nn H locs cells slots hf hC hN hH hL => ?_)
    refine lv_bipush (v := 42) hx hb dX11_ill_49 (by decide) ?_
    refine lv_icmp_ne (tgt := 70) hx hb dX11_ill_51 (by decide) (fun h8 => ?_) (fun h8 => ?_)
    · have hf := vg_if h8 hf
      exact wX11_ill_70 Z hk9 v0 v2 k0 μ4 _ _ _ _ _ _ _ hf hH hL hC hN (hl.sub [1, 3, 0] rfl)
    · have hf := vg_ip h8 hf
      refine lv_aload_n hx hb dX11_ill_54 rfl (lv_at hl.1 1 rfl) ?_
      refine lv_iload_n hx hb dX11_ill_55 rfl (lv_at hl.1 2 rfl) ?_
      refine lv_iconst (v := 1) hx hb dX11_ill_56 (by decide) ?_
      refine lv_iadd hx hb dX11_ill_57 ?_
      refine vg_callVi (ci := 14) X hml hl hH hL fCV_X11_162 rfl [.int (v1 + 1)] rfl rfl (Nat.le_of_ble_eq_true rfl) dX11_ill_58 hf hC hN hRc hRs hfr hlo (by decide) (fun _ _ _ _ h => cX11_at_met h) (fun x5 μ6 cn nn H locs cells slots hf hC hN hH hL => ?_)
      refine lv_bipush (v := 42) hx hb dX11_ill_61 (by decide) ?_
      refine lv_icmp_ne (tgt := 70) hx hb dX11_ill_63 (by decide) (fun h8 => ?_) (fun h8 => ?_)
      · have hf := vg_if h8 hf
        exact wX11_ill_70 Z hk9 v0 v2 k0 μ6 _ _ _ _ _ _ _ hf hH hL hC hN (hl.sub [1, 3, 0] rfl)
      · have hf := vg_ip h8 hf
        refine lv_iconst (v := 1) hx hb dX11_ill_66 (by decide) ?_
        refine lv_goto (tgt := 71) hx hb dX11_ill_67 (by decide) ?_
        exact wX11_ill_71 Z hk9 v0 v2 k0 1 μ6 _ _ _ _ _ _ _ hf hH hL hC hN (hl.sub [1, 3, 0] rfl)
  · have hf := vg_if h8 hf
    refine lv_iconst (v := (-1)) hx hb dX11_ill_39 (by decide) ?_
    refine lv_iload hx hb dX11_ill_40 (lv_at hl.1 0 rfl) ?_
    refine lv_isub hx hb dX11_ill_42 ?_
    exact vg_reti X hr hlk hH hL dX11_ill_43 hf hC hN
def fX11_ill_9  : Nat → Nat → Int32 → Int32 → Int32 → Int32 → vg_M → vg_R Int32
  | 0, _, _, _, _, _, _ => none
  | n + 1, v0, v1, v2, v3, v4, μ =>
    if v4 = 0 then (
     vg_ret ((-1)) μ
     ) else (
     if v2 = 6 then (
      fX11_ill_32 (fX11_ill_9  n) v0 v1 v2 (((-1)) - v1) μ
      ) else (
      vg_cv 14 v0 μ (fX11_piece v0 v1 v3 μ) fun x1 μ2 =>
      fX11_ill_32 (fX11_ill_9  n) v0 v1 v2 x1 μ2
      )
     )
set_option maxHeartbeats 4000000 in
set_option maxRecDepth 100000 in
theorem wX11_ill_9 {p : Program} {l : Launch} {e : Env} {R : Room} {s : State} {m : MethodId} {args : Array Value} {below : List Frame} {meth : Method} {c : Code} {D : va_G} {cy : Nat → ClassId} {H0 : Heap} {C0 N0 : Nat} {r : Int32} {μ' : vg_M} (Z : vg_Z D cy H0 p s m args c cX11_ill RX11 meth 6 (some .int) R 15 C0 N0 "ill")   : ∀ (n : Nat) (v0 : Nat) (v1 : Int32) (v2 : Int32) (v3 : Int32) (v4 : Int32) (μ : vg_M), vg_S p l e R s m args below meth c D cy H0 C0 N0 6 (MQ below (vg_Qc D cy H0 μ' (some (.int r))) args s C0 N0 (vg_fr H0)) r μ' (fX11_ill_9  n v0 v1 v2 v3 v4 μ) μ [(0, .ref v0), (1, .int v1), (2, .int v2), (3, .int v3), (4, .int v4)] [] 9 := by
  intro n
  induction n with
  | zero =>
    intro v0 v1 v2 v3 v4 μ cn nn H locs cells slots ls hf
    simp [fX11_ill_9] at hf
  | succ n hk9 =>
    intro v0 v1 v2 v3 v4 μ
    intro cn nn H locs cells slots ls hf hH hL hC hN hl
    obtain ⟨X, hml, hr, hlk, hfr, hlo, hRc, hRs, hnm⟩ := id Z
    have hx := X.1
    have hb := X.2.1
    rw [fX11_ill_9] at hf
    refine lv_iload hx hb dX11_ill_9 (lv_at hl.1 4 rfl) ?_
    refine lv_if_eq (tgt := 109) hx hb dX11_ill_11 (by decide) (fun h8 => ?_) (fun h8 => ?_)
    · have hf := vg_ip h8 hf
      refine lv_iconst (v := (-1)) hx hb dX11_ill_109 (by decide) ?_
      exact vg_reti X hr hlk hH hL dX11_ill_110 hf hC hN
    · have hf := vg_if h8 hf
      refine lv_iload_n hx hb dX11_ill_14 rfl (lv_at hl.1 2 rfl) ?_
      refine lv_bipush (v := 6) hx hb dX11_ill_15 (by decide) ?_
      refine lv_icmp_ne (tgt := 26) hx hb dX11_ill_17 (by decide) (fun h8 => ?_) (fun h8 => ?_)
      · have hf := vg_if h8 hf
        refine lv_aload_n hx hb dX11_ill_26 rfl (lv_at hl.1 0 rfl) ?_
        refine lv_iload_n hx hb dX11_ill_27 rfl (lv_at hl.1 1 rfl) ?_
        refine lv_iload_n hx hb dX11_ill_28 rfl (lv_at hl.1 3 rfl) ?_
        refine vg_callVi (ci := 14) X hml hl hH hL fCV_X11_168 rfl [.int v1, .int v3] rfl rfl (Nat.le_of_ble_eq_true rfl) dX11_ill_29 hf hC hN hRc hRs hfr hlo (by decide) (fun _ _ _ _ h => cX11_piece_met h) (fun x1 μ2 cn nn H locs cells slots hf hC hN hH hL => ?_)
        exact wX11_ill_32 Z hk9 v0 v1 v2 x1 μ2 _ _ _ _ _ _ _ hf hH hL hC hN (hl.sub [0, 1, 2] rfl)
      · have hf := vg_ip h8 hf
        refine lv_iconst (v := (-1)) hx hb dX11_ill_20 (by decide) ?_
        refine lv_iload_n hx hb dX11_ill_21 rfl (lv_at hl.1 1 rfl) ?_
        refine lv_isub hx hb dX11_ill_22 ?_
        refine lv_goto (tgt := 32) hx hb dX11_ill_23 (by decide) ?_
        exact wX11_ill_32 Z hk9 v0 v1 v2 (((-1)) - v1) μ _ _ _ _ _ _ _ hf hH hL hC hN (hl.sub [0, 1, 2] rfl)
def fX11_ill (v0 : Nat) (μ : vg_M) : vg_R Int32 :=
  fX11_ill_9  vg_fuel v0 0 0 0 1 μ
set_option maxHeartbeats 4000000 in
set_option maxRecDepth 100000 in
theorem cX11_ill_met {l : Launch} {D : va_G} {cy : Nat → ClassId} {H0 : Heap} {r : Int32} {μ μ' : vg_M} {cn nn : Nat} {v0 : Nat} (hf : fX11_ill v0 μ = some (r, μ', cn, nn)) : vg_Met l D cy H0 yX11_ill cX11_ill 6 (some .int) 15 μ [.ref v0] (some (.int r)) μ' cn nn := by
  refine vg_start (by decide +kernel) (List.forall_mem_cons.mpr ⟨rfl, (fun _ h => nomatch h)⟩) (Nat.le_of_ble_eq_true rfl) ?_
  intro p e s m below meth c ls X hml hr hlk hnm hH hl
  have hl : vg_l ls 6 [(0, .ref v0)] := hl
  have Z : vg_Z D cy H0 p s m _ c cX11_ill RX11 meth 6 (some .int) (vg_rm 15 cn nn) 15 cn nn _ := ⟨X, hml, hr, hlk, Nat.le_refl _, Nat.le_refl _, Nat.le_refl _, Nat.le_refl _, hnm⟩
  obtain ⟨-, -, -, -, hfr, hlo, hRc, hRs, -⟩ := id Z
  have hx := X.1
  have hb := X.2.1
  have hL : ∀ z ∈ ([] : List Loc), H0.size ≤ z.base := fun _ h => nomatch h
  have hC : 0 + cn = cn := Nat.zero_add _
  have hN : 0 + nn = nn := Nat.zero_add _
  delta fX11_ill at hf
  refine lv_iconst (v := 0) hx hb dX11_ill_0 (by decide) ?_
  refine vg_istore_n (lv' := [(1, .int 0), (0, .ref v0)]) hx hb dX11_ill_1 rfl hl (by decide) rfl (fun ls hl => ?_)
  refine lv_iconst (v := 0) hx hb dX11_ill_2 (by decide) ?_
  refine vg_istore_n (lv' := [(2, .int 0), (1, .int 0), (0, .ref v0)]) hx hb dX11_ill_3 rfl hl (by decide) rfl (fun ls hl => ?_)
  refine lv_iconst (v := 0) hx hb dX11_ill_4 (by decide) ?_
  refine vg_istore_n (lv' := [(3, .int 0), (2, .int 0), (1, .int 0), (0, .ref v0)]) hx hb dX11_ill_5 rfl hl (by decide) rfl (fun ls hl => ?_)
  refine lv_iconst (v := 1) hx hb dX11_ill_6 (by decide) ?_
  refine vg_istore (lv' := [(4, .int 1), (3, .int 0), (2, .int 0), (1, .int 0), (0, .ref v0)]) hx hb dX11_ill_7 hl (by decide) rfl (fun ls hl => ?_)
  exact wX11_ill_9 Z  vg_fuel v0 0 0 0 1 μ _ _ _ _ _ _ _ hf hH hL hC hN (hl.sub [4, 3, 2, 1, 0] rfl)
def fX11_init (v0 : Nat) (μ : vg_M) : vg_R Unit :=
  vg_o (vg_len 60) fun n => vg_nw n μ.2.1 (vg_nA μ 0 n) fun a1 μ2 =>
  vg_o (vg_p μ2 v0 14 1 (.ref a1)) fun μ3 =>
  vg_o (vg_len 6) fun n => vg_nw n μ3.2.1 (vg_nA μ3 2 n) fun a4 μ5 =>
  vg_o (vg_p μ5 v0 14 4 (.ref a4)) fun μ6 =>
  vg_o (vg_len 6) fun n => vg_nw n μ6.2.1 (vg_nA μ6 2 n) fun a7 μ8 =>
  vg_o (vg_p μ8 v0 14 5 (.ref a7)) fun μ9 =>
  vg_o (vg_len 61) fun n => vg_nw n μ9.2.1 (vg_nA μ9 2 n) fun a10 μ11 =>
  vg_o (vg_p μ11 v0 14 6 (.ref a10)) fun μ12 =>
  vg_o (vg_len 61) fun n => vg_nw n μ12.2.1 (vg_nA μ12 2 n) fun a13 μ14 =>
  vg_o (vg_p μ14 v0 14 7 (.ref a13)) fun μ15 =>
  vg_o (vg_len 61) fun n => vg_nw n μ15.2.1 (vg_nA μ15 2 n) fun a16 μ17 =>
  vg_o (vg_p μ17 v0 14 8 (.ref a16)) fun μ18 =>
  vg_o (vg_len 61) fun n => vg_nw n μ18.2.1 (vg_nA μ18 2 n) fun a19 μ20 =>
  vg_o (vg_p μ20 v0 14 9 (.ref a19)) fun μ21 =>
  vg_o (vg_len 61) fun n => vg_nw n μ21.2.1 (vg_nA μ21 2 n) fun a22 μ23 =>
  vg_o (vg_p μ23 v0 14 10 (.ref a22)) fun μ24 =>
  vg_o (vg_len 61) fun n => vg_nw n μ24.2.1 (vg_nA μ24 3 n) fun a25 μ26 =>
  vg_o (vg_p μ26 v0 14 11 (.ref a25)) fun μ27 =>
  vg_o (vg_len 488) fun n => vg_nw n μ27.2.1 (vg_nA μ27 0 n) fun a28 μ29 =>
  vg_o (vg_p μ29 v0 14 12 (.ref a28)) fun μ30 =>
  vg_o (vg_len 6) fun n => vg_nw n μ30.2.1 (vg_nA μ30 2 n) fun a31 μ32 =>
  vg_o (vg_p μ32 v0 14 16 (.ref a31)) fun μ33 =>
  vg_o (vg_len 6) fun n => vg_nw n μ33.2.1 (vg_nA μ33 2 n) fun a34 μ35 =>
  vg_o (vg_p μ35 v0 14 17 (.ref a34)) fun μ36 =>
  vg_o (vg_len 6) fun n => vg_nw n μ36.2.1 (vg_nA μ36 2 n) fun a37 μ38 =>
  vg_o (vg_p μ38 v0 14 18 (.ref a37)) fun μ39 =>
  vg_o (vg_len 6) fun n => vg_nw n μ39.2.1 (vg_nA μ39 2 n) fun a40 μ41 =>
  vg_o (vg_p μ41 v0 14 19 (.ref a40)) fun μ42 =>
  vg_o (vg_len 48) fun n => vg_nw n μ42.2.1 (vg_nA μ42 2 n) fun a43 μ44 =>
  vg_o (vg_p μ44 v0 14 20 (.ref a43)) fun μ45 =>
  vg_o (vg_len 360) fun n => vg_nw n μ45.2.1 (vg_nA μ45 0 n) fun a46 μ47 =>
  vg_o (vg_p μ47 v0 14 21 (.ref a46)) fun μ48 =>
  vg_o (vg_len 2880) fun n => vg_nw n μ48.2.1 (vg_nA μ48 0 n) fun a49 μ50 =>
  vg_o (vg_p μ50 v0 14 22 (.ref a49)) fun μ51 =>
  vg_o (vg_len 6) fun n => vg_nw n μ51.2.1 (vg_nA μ51 3 n) fun a52 μ53 =>
  vg_o (vg_p μ53 v0 14 23 (.ref a52)) fun μ54 =>
  vg_o (vg_len 366) fun n => vg_nw n μ54.2.1 (vg_nA μ54 2 n) fun a55 μ56 =>
  vg_o (vg_p μ56 v0 14 24 (.ref a55)) fun μ57 =>
  vg_o (vg_p μ57 v0 14 25 (.int ((-1)))) fun μ58 =>
  vg_o (vg_len 60) fun n => vg_nw n μ58.2.1 (vg_nA μ58 2 n) fun a59 μ60 =>
  vg_o (vg_p μ60 v0 14 28 (.ref a59)) fun μ61 =>
  vg_o (vg_len 3240) fun n => vg_nw n μ61.2.1 (vg_nA μ61 0 n) fun a62 μ63 =>
  vg_o (vg_p μ63 v0 14 29 (.ref a62)) fun μ64 =>
  vg_o (vg_len 8) fun n => vg_nw n μ64.2.1 (vg_nA μ64 2 n) fun a65 μ66 =>
  vg_o (vg_p μ66 v0 14 31 (.ref a65)) fun μ67 =>
  vg_o (vg_len 8) fun n => vg_nw n μ67.2.1 (vg_nA μ67 2 n) fun a68 μ69 =>
  vg_o (vg_p μ69 v0 14 32 (.ref a68)) fun μ70 =>
  vg_o (vg_len 8) fun n => vg_nw n μ70.2.1 (vg_nA μ70 2 n) fun a71 μ72 =>
  vg_o (vg_p μ72 v0 14 33 (.ref a71)) fun μ73 =>
  vg_o (vg_len 8) fun n => vg_nw n μ73.2.1 (vg_nA μ73 2 n) fun a74 μ75 =>
  vg_o (vg_p μ75 v0 14 34 (.ref a74)) fun μ76 =>
  vg_o (vg_len 64) fun n => vg_nw n μ76.2.1 (vg_nA μ76 0 n) fun a77 μ78 =>
  vg_o (vg_p μ78 v0 14 35 (.ref a77)) fun μ79 =>
  vg_o (vg_len 60) fun n => vg_nw n μ79.2.1 (vg_nA μ79 0 n) fun a80 μ81 =>
  vg_o (vg_p μ81 v0 14 37 (.ref a80)) fun μ82 =>
  vg_o (vg_len 61) fun n => vg_nw n μ82.2.1 (vg_nA μ82 2 n) fun a83 μ84 =>
  vg_o (vg_p μ84 v0 14 38 (.ref a83)) fun μ85 =>
  vg_o (vg_gR μ85 v0 14 6) fun x86 =>
  vg_o x86 fun a87 =>
  vg_o (vg_sI μ85 a87 2 60 2) fun μ88 =>
  vg_o (vg_gR μ88 v0 14 11) fun x89 =>
  vg_o x89 fun a90 =>
  vg_o (vg_sI μ88 a90 3 60 1) fun μ91 =>
  vg_o (vg_gR μ91 v0 14 10) fun x92 =>
  vg_o x92 fun a93 =>
  vg_o (vg_sI μ91 a93 2 60 1) fun μ94 =>
  vg_o (vg_p μ94 v0 14 13 (.int 1)) fun μ95 =>
  vg_ret () μ95
set_option maxHeartbeats 4000000 in
set_option maxRecDepth 100000 in
theorem cX11_init_met {l : Launch} {D : va_G} {cy : Nat → ClassId} {H0 : Heap} {r : Unit} {μ μ' : vg_M} {cn nn : Nat} {v0 : Nat} (hf : fX11_init v0 μ = some (r, μ', cn, nn)) : vg_Met l D cy H0 yX11_init cX11_init 1 none 12 μ [.ref v0] none μ' cn nn := by
  refine vg_start (by decide +kernel) (List.forall_mem_cons.mpr ⟨rfl, (fun _ h => nomatch h)⟩) (Nat.le_of_ble_eq_true rfl) ?_
  intro p e s m below meth c ls X hml hr hlk hnm hH hl
  have hl : vg_l ls 1 [(0, .ref v0)] := hl
  have Z : vg_Z D cy H0 p s m _ c cX11_init RX11 meth 1 none (vg_rm 12 cn nn) 12 cn nn _ := ⟨X, hml, hr, hlk, Nat.le_refl _, Nat.le_refl _, Nat.le_refl _, Nat.le_refl _, hnm⟩
  obtain ⟨-, -, -, -, hfr, hlo, hRc, hRs, -⟩ := id Z
  have hx := X.1
  have hb := X.2.1
  have hL : ∀ z ∈ ([] : List Loc), H0.size ≤ z.base := fun _ h => nomatch h
  have hC : 0 + cn = cn := Nat.zero_add _
  have hN : 0 + nn = nn := Nat.zero_add _
  delta fX11_init at hf
  refine lv_aload_n hx hb dX11_init_0 rfl (lv_at hl.1 0 rfl) ?_
  refine vg_objInit X hml hl kw_9799401 kw_624348017 kw_835052908 dX11_init_1 (Nat.le_of_ble_eq_true rfl) (Nat.le_trans (by decide) hfr) (Nat.le_trans (by decide) hlo) ?_
  refine lv_aload_n hx hb dX11_init_4 rfl (lv_at hl.1 0 rfl) ?_
  refine lv_bipush (v := 60) hx hb dX11_init_5 (by decide) ?_
  refine vg_newa X hH (atype := .byte) (t := 0) kw_180627857 rfl (by decide) dX11_init_7 hf hC hN hRc hRs (fun _ a1 μ2 cn nn H hf hC hN hH => ?_)
  refine vg_putF X hnm hH hL fF_X11_7 (vg_fitR (by simp) (some a1)).1 (vg_fitR (by simp) (some a1)).2 dX11_init_9 hf (fun μ3 H locs hf hH hL => ?_)
  refine lv_aload_n hx hb dX11_init_12 rfl (lv_at hl.1 0 rfl) ?_
  refine lv_bipush (v := 6) hx hb dX11_init_13 (by decide) ?_
  refine vg_newa X hH (atype := .int) (t := 2) kw_803024247 rfl (by decide) dX11_init_15 hf hC hN hRc hRs (fun _ a4 μ5 cn nn H hf hC hN hH => ?_)
  refine vg_putF X hnm hH hL fF_X11_13 (vg_fitR (by simp) (some a4)).1 (vg_fitR (by simp) (some a4)).2 dX11_init_17 hf (fun μ6 H locs hf hH hL => ?_)
  refine lv_aload_n hx hb dX11_init_20 rfl (lv_at hl.1 0 rfl) ?_
  refine lv_bipush (v := 6) hx hb dX11_init_21 (by decide) ?_
  refine vg_newa X hH (atype := .int) (t := 2) kw_803024247 rfl (by decide) dX11_init_23 hf hC hN hRc hRs (fun _ a7 μ8 cn nn H hf hC hN hH => ?_)
  refine vg_putF X hnm hH hL fF_X11_17 (vg_fitR (by simp) (some a7)).1 (vg_fitR (by simp) (some a7)).2 dX11_init_25 hf (fun μ9 H locs hf hH hL => ?_)
  refine lv_aload_n hx hb dX11_init_28 rfl (lv_at hl.1 0 rfl) ?_
  refine lv_bipush (v := 61) hx hb dX11_init_29 (by decide) ?_
  refine vg_newa X hH (atype := .int) (t := 2) kw_803024247 rfl (by decide) dX11_init_31 hf hC hN hRc hRs (fun _ a10 μ11 cn nn H hf hC hN hH => ?_)
  refine vg_putF X hnm hH hL fF_X11_20 (vg_fitR (by simp) (some a10)).1 (vg_fitR (by simp) (some a10)).2 dX11_init_33 hf (fun μ12 H locs hf hH hL => ?_)
  refine lv_aload_n hx hb dX11_init_36 rfl (lv_at hl.1 0 rfl) ?_
  refine lv_bipush (v := 61) hx hb dX11_init_37 (by decide) ?_
  refine vg_newa X hH (atype := .int) (t := 2) kw_803024247 rfl (by decide) dX11_init_39 hf hC hN hRc hRs (fun _ a13 μ14 cn nn H hf hC hN hH => ?_)
  refine vg_putF X hnm hH hL fF_X11_23 (vg_fitR (by simp) (some a13)).1 (vg_fitR (by simp) (some a13)).2 dX11_init_41 hf (fun μ15 H locs hf hH hL => ?_)
  refine lv_aload_n hx hb dX11_init_44 rfl (lv_at hl.1 0 rfl) ?_
  refine lv_bipush (v := 61) hx hb dX11_init_45 (by decide) ?_
  refine vg_newa X hH (atype := .int) (t := 2) kw_803024247 rfl (by decide) dX11_init_47 hf hC hN hRc hRs (fun _ a16 μ17 cn nn H hf hC hN hH => ?_)
  refine vg_putF X hnm hH hL fF_X11_26 (vg_fitR (by simp) (some a16)).1 (vg_fitR (by simp) (some a16)).2 dX11_init_49 hf (fun μ18 H locs hf hH hL => ?_)
  refine lv_aload_n hx hb dX11_init_52 rfl (lv_at hl.1 0 rfl) ?_
  refine lv_bipush (v := 61) hx hb dX11_init_53 (by decide) ?_
  refine vg_newa X hH (atype := .int) (t := 2) kw_803024247 rfl (by decide) dX11_init_55 hf hC hN hRc hRs (fun _ a19 μ20 cn nn H hf hC hN hH => ?_)
  refine vg_putF X hnm hH hL fF_X11_29 (vg_fitR (by simp) (some a19)).1 (vg_fitR (by simp) (some a19)).2 dX11_init_57 hf (fun μ21 H locs hf hH hL => ?_)
  refine lv_aload_n hx hb dX11_init_60 rfl (lv_at hl.1 0 rfl) ?_
  refine lv_bipush (v := 61) hx hb dX11_init_61 (by decide) ?_
  refine vg_newa X hH (atype := .int) (t := 2) kw_803024247 rfl (by decide) dX11_init_63 hf hC hN hRc hRs (fun _ a22 μ23 cn nn H hf hC hN hH => ?_)
  refine vg_putF X hnm hH hL fF_X11_32 (vg_fitR (by simp) (some a22)).1 (vg_fitR (by simp) (some a22)).2 dX11_init_65 hf (fun μ24 H locs hf hH hL => ?_)
  refine lv_aload_n hx hb dX11_init_68 rfl (lv_at hl.1 0 rfl) ?_
  refine lv_bipush (v := 61) hx hb dX11_init_69 (by decide) ?_
  refine vg_newa X hH (atype := .boolean) (t := 3) kw_606917827 rfl (by decide) dX11_init_71 hf hC hN hRc hRs (fun _ a25 μ26 cn nn H hf hC hN hH => ?_)
  refine vg_putF X hnm hH hL fF_X11_35 (vg_fitR (by simp) (some a25)).1 (vg_fitR (by simp) (some a25)).2 dX11_init_73 hf (fun μ27 H locs hf hH hL => ?_)
  refine lv_aload_n hx hb dX11_init_76 rfl (lv_at hl.1 0 rfl) ?_
  refine lv_sipush (v := 488) hx hb dX11_init_77 (by decide) ?_
  refine vg_newa X hH (atype := .byte) (t := 0) kw_180627857 rfl (by decide) dX11_init_80 hf hC hN hRc hRs (fun _ a28 μ29 cn nn H hf hC hN hH => ?_)
  refine vg_putF X hnm hH hL fF_X11_39 (vg_fitR (by simp) (some a28)).1 (vg_fitR (by simp) (some a28)).2 dX11_init_82 hf (fun μ30 H locs hf hH hL => ?_)
  refine lv_aload_n hx hb dX11_init_85 rfl (lv_at hl.1 0 rfl) ?_
  refine lv_bipush (v := 6) hx hb dX11_init_86 (by decide) ?_
  refine vg_newa X hH (atype := .int) (t := 2) kw_803024247 rfl (by decide) dX11_init_88 hf hC hN hRc hRs (fun _ a31 μ32 cn nn H hf hC hN hH => ?_)
  refine vg_putF X hnm hH hL fF_X11_42 (vg_fitR (by simp) (some a31)).1 (vg_fitR (by simp) (some a31)).2 dX11_init_90 hf (fun μ33 H locs hf hH hL => ?_)
  refine lv_aload_n hx hb dX11_init_93 rfl (lv_at hl.1 0 rfl) ?_
  refine lv_bipush (v := 6) hx hb dX11_init_94 (by decide) ?_
  refine vg_newa X hH (atype := .int) (t := 2) kw_803024247 rfl (by decide) dX11_init_96 hf hC hN hRc hRs (fun _ a34 μ35 cn nn H hf hC hN hH => ?_)
  refine vg_putF X hnm hH hL fF_X11_45 (vg_fitR (by simp) (some a34)).1 (vg_fitR (by simp) (some a34)).2 dX11_init_98 hf (fun μ36 H locs hf hH hL => ?_)
  refine lv_aload_n hx hb dX11_init_101 rfl (lv_at hl.1 0 rfl) ?_
  refine lv_bipush (v := 6) hx hb dX11_init_102 (by decide) ?_
  refine vg_newa X hH (atype := .int) (t := 2) kw_803024247 rfl (by decide) dX11_init_104 hf hC hN hRc hRs (fun _ a37 μ38 cn nn H hf hC hN hH => ?_)
  refine vg_putF X hnm hH hL fF_X11_48 (vg_fitR (by simp) (some a37)).1 (vg_fitR (by simp) (some a37)).2 dX11_init_106 hf (fun μ39 H locs hf hH hL => ?_)
  refine lv_aload_n hx hb dX11_init_109 rfl (lv_at hl.1 0 rfl) ?_
  refine lv_bipush (v := 6) hx hb dX11_init_110 (by decide) ?_
  refine vg_newa X hH (atype := .int) (t := 2) kw_803024247 rfl (by decide) dX11_init_112 hf hC hN hRc hRs (fun _ a40 μ41 cn nn H hf hC hN hH => ?_)
  refine vg_putF X hnm hH hL fF_X11_51 (vg_fitR (by simp) (some a40)).1 (vg_fitR (by simp) (some a40)).2 dX11_init_114 hf (fun μ42 H locs hf hH hL => ?_)
  refine lv_aload_n hx hb dX11_init_117 rfl (lv_at hl.1 0 rfl) ?_
  refine lv_bipush (v := 48) hx hb dX11_init_118 (by decide) ?_
  refine vg_newa X hH (atype := .int) (t := 2) kw_803024247 rfl (by decide) dX11_init_120 hf hC hN hRc hRs (fun _ a43 μ44 cn nn H hf hC hN hH => ?_)
  refine vg_putF X hnm hH hL fF_X11_54 (vg_fitR (by simp) (some a43)).1 (vg_fitR (by simp) (some a43)).2 dX11_init_122 hf (fun μ45 H locs hf hH hL => ?_)
  refine lv_aload_n hx hb dX11_init_125 rfl (lv_at hl.1 0 rfl) ?_
  refine lv_sipush (v := 360) hx hb dX11_init_126 (by decide) ?_
  refine vg_newa X hH (atype := .byte) (t := 0) kw_180627857 rfl (by decide) dX11_init_129 hf hC hN hRc hRs (fun _ a46 μ47 cn nn H hf hC hN hH => ?_)
  refine vg_putF X hnm hH hL fF_X11_57 (vg_fitR (by simp) (some a46)).1 (vg_fitR (by simp) (some a46)).2 dX11_init_131 hf (fun μ48 H locs hf hH hL => ?_)
  refine lv_aload_n hx hb dX11_init_134 rfl (lv_at hl.1 0 rfl) ?_
  refine lv_sipush (v := 2880) hx hb dX11_init_135 (by decide) ?_
  refine vg_newa X hH (atype := .byte) (t := 0) kw_180627857 rfl (by decide) dX11_init_138 hf hC hN hRc hRs (fun _ a49 μ50 cn nn H hf hC hN hH => ?_)
  refine vg_putF X hnm hH hL fF_X11_60 (vg_fitR (by simp) (some a49)).1 (vg_fitR (by simp) (some a49)).2 dX11_init_140 hf (fun μ51 H locs hf hH hL => ?_)
  refine lv_aload_n hx hb dX11_init_143 rfl (lv_at hl.1 0 rfl) ?_
  refine lv_bipush (v := 6) hx hb dX11_init_144 (by decide) ?_
  refine vg_newa X hH (atype := .boolean) (t := 3) kw_606917827 rfl (by decide) dX11_init_146 hf hC hN hRc hRs (fun _ a52 μ53 cn nn H hf hC hN hH => ?_)
  refine vg_putF X hnm hH hL fF_X11_63 (vg_fitR (by simp) (some a52)).1 (vg_fitR (by simp) (some a52)).2 dX11_init_148 hf (fun μ54 H locs hf hH hL => ?_)
  refine lv_aload_n hx hb dX11_init_151 rfl (lv_at hl.1 0 rfl) ?_
  refine lv_sipush (v := 366) hx hb dX11_init_152 (by decide) ?_
  refine vg_newa X hH (atype := .int) (t := 2) kw_803024247 rfl (by decide) dX11_init_155 hf hC hN hRc hRs (fun _ a55 μ56 cn nn H hf hC hN hH => ?_)
  refine vg_putF X hnm hH hL fF_X11_66 (vg_fitR (by simp) (some a55)).1 (vg_fitR (by simp) (some a55)).2 dX11_init_157 hf (fun μ57 H locs hf hH hL => ?_)
  refine lv_aload_n hx hb dX11_init_160 rfl (lv_at hl.1 0 rfl) ?_
  refine lv_iconst (v := (-1)) hx hb dX11_init_161 (by decide) ?_
  refine vg_putV X hH hL fF_X11_69 rfl rfl dX11_init_162 hf (fun μ58 H locs hf hH hL => ?_)
  refine lv_aload_n hx hb dX11_init_165 rfl (lv_at hl.1 0 rfl) ?_
  refine lv_bipush (v := 60) hx hb dX11_init_166 (by decide) ?_
  refine vg_newa X hH (atype := .int) (t := 2) kw_803024247 rfl (by decide) dX11_init_168 hf hC hN hRc hRs (fun _ a59 μ60 cn nn H hf hC hN hH => ?_)
  refine vg_putF X hnm hH hL fF_X11_73 (vg_fitR (by simp) (some a59)).1 (vg_fitR (by simp) (some a59)).2 dX11_init_170 hf (fun μ61 H locs hf hH hL => ?_)
  refine lv_aload_n hx hb dX11_init_173 rfl (lv_at hl.1 0 rfl) ?_
  refine lv_sipush (v := 3240) hx hb dX11_init_174 (by decide) ?_
  refine vg_newa X hH (atype := .byte) (t := 0) kw_180627857 rfl (by decide) dX11_init_177 hf hC hN hRc hRs (fun _ a62 μ63 cn nn H hf hC hN hH => ?_)
  refine vg_putF X hnm hH hL fF_X11_76 (vg_fitR (by simp) (some a62)).1 (vg_fitR (by simp) (some a62)).2 dX11_init_179 hf (fun μ64 H locs hf hH hL => ?_)
  refine lv_aload_n hx hb dX11_init_182 rfl (lv_at hl.1 0 rfl) ?_
  refine lv_bipush (v := 8) hx hb dX11_init_183 (by decide) ?_
  refine vg_newa X hH (atype := .int) (t := 2) kw_803024247 rfl (by decide) dX11_init_185 hf hC hN hRc hRs (fun _ a65 μ66 cn nn H hf hC hN hH => ?_)
  refine vg_putF X hnm hH hL fF_X11_79 (vg_fitR (by simp) (some a65)).1 (vg_fitR (by simp) (some a65)).2 dX11_init_187 hf (fun μ67 H locs hf hH hL => ?_)
  refine lv_aload_n hx hb dX11_init_190 rfl (lv_at hl.1 0 rfl) ?_
  refine lv_bipush (v := 8) hx hb dX11_init_191 (by decide) ?_
  refine vg_newa X hH (atype := .int) (t := 2) kw_803024247 rfl (by decide) dX11_init_193 hf hC hN hRc hRs (fun _ a68 μ69 cn nn H hf hC hN hH => ?_)
  refine vg_putF X hnm hH hL fF_X11_82 (vg_fitR (by simp) (some a68)).1 (vg_fitR (by simp) (some a68)).2 dX11_init_195 hf (fun μ70 H locs hf hH hL => ?_)
  refine lv_aload_n hx hb dX11_init_198 rfl (lv_at hl.1 0 rfl) ?_
  refine lv_bipush (v := 8) hx hb dX11_init_199 (by decide) ?_
  refine vg_newa X hH (atype := .int) (t := 2) kw_803024247 rfl (by decide) dX11_init_201 hf hC hN hRc hRs (fun _ a71 μ72 cn nn H hf hC hN hH => ?_)
  refine vg_putF X hnm hH hL fF_X11_85 (vg_fitR (by simp) (some a71)).1 (vg_fitR (by simp) (some a71)).2 dX11_init_203 hf (fun μ73 H locs hf hH hL => ?_)
  refine lv_aload_n hx hb dX11_init_206 rfl (lv_at hl.1 0 rfl) ?_
  refine lv_bipush (v := 8) hx hb dX11_init_207 (by decide) ?_
  refine vg_newa X hH (atype := .int) (t := 2) kw_803024247 rfl (by decide) dX11_init_209 hf hC hN hRc hRs (fun _ a74 μ75 cn nn H hf hC hN hH => ?_)
  refine vg_putF X hnm hH hL fF_X11_88 (vg_fitR (by simp) (some a74)).1 (vg_fitR (by simp) (some a74)).2 dX11_init_211 hf (fun μ76 H locs hf hH hL => ?_)
  refine lv_aload_n hx hb dX11_init_214 rfl (lv_at hl.1 0 rfl) ?_
  refine lv_bipush (v := 64) hx hb dX11_init_215 (by decide) ?_
  refine vg_newa X hH (atype := .byte) (t := 0) kw_180627857 rfl (by decide) dX11_init_217 hf hC hN hRc hRs (fun _ a77 μ78 cn nn H hf hC hN hH => ?_)
  refine vg_putF X hnm hH hL fF_X11_91 (vg_fitR (by simp) (some a77)).1 (vg_fitR (by simp) (some a77)).2 dX11_init_219 hf (fun μ79 H locs hf hH hL => ?_)
  refine lv_aload_n hx hb dX11_init_222 rfl (lv_at hl.1 0 rfl) ?_
  refine lv_bipush (v := 60) hx hb dX11_init_223 (by decide) ?_
  refine vg_newa X hH (atype := .byte) (t := 0) kw_180627857 rfl (by decide) dX11_init_225 hf hC hN hRc hRs (fun _ a80 μ81 cn nn H hf hC hN hH => ?_)
  refine vg_putF X hnm hH hL fF_X11_94 (vg_fitR (by simp) (some a80)).1 (vg_fitR (by simp) (some a80)).2 dX11_init_227 hf (fun μ82 H locs hf hH hL => ?_)
  refine lv_aload_n hx hb dX11_init_230 rfl (lv_at hl.1 0 rfl) ?_
  refine lv_bipush (v := 61) hx hb dX11_init_231 (by decide) ?_
  refine vg_newa X hH (atype := .int) (t := 2) kw_803024247 rfl (by decide) dX11_init_233 hf hC hN hRc hRs (fun _ a83 μ84 cn nn H hf hC hN hH => ?_)
  refine vg_putF X hnm hH hL fF_X11_97 (vg_fitR (by simp) (some a83)).1 (vg_fitR (by simp) (some a83)).2 dX11_init_235 hf (fun μ85 H locs hf hH hL => ?_)
  refine lv_aload_n hx hb dX11_init_238 rfl (lv_at hl.1 0 rfl) ?_
  refine vg_getR X hH fF_X11_20 dX11_init_239 hf (fun x86 hf => ?_)
  refine lv_bipush (v := 60) hx hb dX11_init_242 (by decide) ?_
  refine lv_iconst (v := 2) hx hb dX11_init_244 (by decide) ?_
  obtain ⟨a87, h9, hg⟩ := vg_o_inv hf
  clear hf
  subst h9
  have hf := hg
  clear hg
  refine vg_iast X hH hL dX11_init_245 hf (fun μ88 H locs hf hH hL => ?_)
  refine lv_aload_n hx hb dX11_init_246 rfl (lv_at hl.1 0 rfl) ?_
  refine vg_getR X hH fF_X11_35 dX11_init_247 hf (fun x89 hf => ?_)
  refine lv_bipush (v := 60) hx hb dX11_init_250 (by decide) ?_
  refine lv_iconst (v := 1) hx hb dX11_init_252 (by decide) ?_
  obtain ⟨a90, h9, hg⟩ := vg_o_inv hf
  clear hf
  subst h9
  have hf := hg
  clear hg
  refine vg_zast X hH hL dX11_init_253 hf (fun μ91 H locs hf hH hL => ?_)
  refine lv_aload_n hx hb dX11_init_254 rfl (lv_at hl.1 0 rfl) ?_
  refine vg_getR X hH fF_X11_32 dX11_init_255 hf (fun x92 hf => ?_)
  refine lv_bipush (v := 60) hx hb dX11_init_258 (by decide) ?_
  refine lv_iconst (v := 1) hx hb dX11_init_260 (by decide) ?_
  obtain ⟨a93, h9, hg⟩ := vg_o_inv hf
  clear hf
  subst h9
  have hf := hg
  clear hg
  refine vg_iast X hH hL dX11_init_261 hf (fun μ94 H locs hf hH hL => ?_)
  refine lv_aload_n hx hb dX11_init_262 rfl (lv_at hl.1 0 rfl) ?_
  refine lv_iconst (v := 1) hx hb dX11_init_263 (by decide) ?_
  refine vg_putV X hH hL fF_X11_100 rfl rfl dX11_init_264 hf (fun μ95 H locs hf hH hL => ?_)
  exact vg_retv X hr hlk hH hL dX11_init_267 hf hC hN
def fX11_looked (v0 : Nat) (μ : vg_M) : vg_R Int32 :=
  vg_o (vg_p μ v0 14 0 (.int 0)) fun μ1 =>
  vg_o (vg_gI μ1 v0 14 26) fun x2 =>
  vg_ret x2 μ1
set_option maxHeartbeats 4000000 in
set_option maxRecDepth 100000 in
theorem cX11_looked_met {l : Launch} {D : va_G} {cy : Nat → ClassId} {H0 : Heap} {r : Int32} {μ μ' : vg_M} {cn nn : Nat} {v0 : Nat} (hf : fX11_looked v0 μ = some (r, μ', cn, nn)) : vg_Met l D cy H0 yX11_looked cX11_looked 1 (some .int) 12 μ [.ref v0] (some (.int r)) μ' cn nn := by
  refine vg_start (by decide +kernel) (List.forall_mem_cons.mpr ⟨rfl, (fun _ h => nomatch h)⟩) (Nat.le_of_ble_eq_true rfl) ?_
  intro p e s m below meth c ls X hml hr hlk hnm hH hl
  have hl : vg_l ls 1 [(0, .ref v0)] := hl
  have Z : vg_Z D cy H0 p s m _ c cX11_looked RX11 meth 1 (some .int) (vg_rm 12 cn nn) 12 cn nn _ := ⟨X, hml, hr, hlk, Nat.le_refl _, Nat.le_refl _, Nat.le_refl _, Nat.le_refl _, hnm⟩
  obtain ⟨-, -, -, -, hfr, hlo, hRc, hRs, -⟩ := id Z
  have hx := X.1
  have hb := X.2.1
  have hL : ∀ z ∈ ([] : List Loc), H0.size ≤ z.base := fun _ h => nomatch h
  have hC : 0 + cn = cn := Nat.zero_add _
  have hN : 0 + nn = nn := Nat.zero_add _
  delta fX11_looked at hf
  refine lv_aload_n hx hb dX11_looked_0 rfl (lv_at hl.1 0 rfl) ?_
  refine lv_iconst (v := 0) hx hb dX11_looked_1 (by decide) ?_
  refine vg_putV X hH hL fF_X11_103 rfl rfl dX11_looked_2 hf (fun μ1 H locs hf hH hL => ?_)
  refine lv_aload_n hx hb dX11_looked_5 rfl (lv_at hl.1 0 rfl) ?_
  refine vg_getI X hH fF_X11_225 dX11_looked_6 hf (fun x2 hf => ?_)
  exact vg_reti X hr hlk hH hL dX11_looked_9 hf hC hN
def fX11_orphans_53 (q4 : Nat → Int32 → Int32 → vg_M → vg_R Int32) (q12 : Nat → Int32 → Int32 → Int32 → vg_M → vg_R Int32) (v0 : Nat) (v1 : Int32) (v2 : Int32) (v3 : Int32) (μ : vg_M) : vg_R Int32 :=
  q12 v0 v1 v2 (v3 + 1) μ
set_option maxHeartbeats 4000000 in
set_option maxRecDepth 100000 in
theorem wX11_orphans_53 {p : Program} {l : Launch} {e : Env} {R : Room} {s : State} {m : MethodId} {args : Array Value} {below : List Frame} {meth : Method} {c : Code} {D : va_G} {cy : Nat → ClassId} {H0 : Heap} {C0 N0 : Nat} {r : Int32} {μ' : vg_M} (Z : vg_Z D cy H0 p s m args c cX11_orphans RX11 meth 4 (some .int) R 12 C0 N0 "orphans") {q4 : Nat → Int32 → Int32 → vg_M → vg_R Int32} {q12 : Nat → Int32 → Int32 → Int32 → vg_M → vg_R Int32} (hk4 : ∀ (v0 : Nat) (v1 : Int32) (v2 : Int32) (μ : vg_M), vg_S p l e R s m args below meth c D cy H0 C0 N0 4 (MQ below (vg_Qc D cy H0 μ' (some (.int r))) args s C0 N0 (vg_fr H0)) r μ' (q4 v0 v1 v2 μ) μ [(0, .ref v0), (1, .int v1), (2, .int v2)] [] 4) (hk12 : ∀ (v0 : Nat) (v1 : Int32) (v2 : Int32) (v3 : Int32) (μ : vg_M), vg_S p l e R s m args below meth c D cy H0 C0 N0 4 (MQ below (vg_Qc D cy H0 μ' (some (.int r))) args s C0 N0 (vg_fr H0)) r μ' (q12 v0 v1 v2 v3 μ) μ [(0, .ref v0), (1, .int v1), (2, .int v2), (3, .int v3)] [] 12) (v0 : Nat) (v1 : Int32) (v2 : Int32) (v3 : Int32) (μ : vg_M) : vg_S p l e R s m args below meth c D cy H0 C0 N0 4 (MQ below (vg_Qc D cy H0 μ' (some (.int r))) args s C0 N0 (vg_fr H0)) r μ' (fX11_orphans_53 q4 q12 v0 v1 v2 v3 μ) μ [(0, .ref v0), (1, .int v1), (2, .int v2), (3, .int v3)] [] 53 := by
  intro cn nn H locs cells slots ls hf hH hL hC hN hl
  obtain ⟨X, hml, hr, hlk, hfr, hlo, hRc, hRs, hnm⟩ := id Z
  have hx := X.1
  have hb := X.2.1
  delta fX11_orphans_53 at hf
  refine vg_iinc (v := v3 + 1) (lv' := [(3, .int (v3 + 1)), (0, .ref v0), (1, .int v1), (2, .int v2)]) hx hb dX11_orphans_53 hl (k := 3) rfl rfl (by decide) rfl (fun ls hl => ?_)
  refine lv_goto (tgt := 12) hx hb dX11_orphans_56 (by decide) ?_
  exact hk12 v0 v1 v2 (v3 + 1) μ _ _ _ _ _ _ _ hf hH hL hC hN (hl.sub [1, 2, 3, 0] rfl)
def fX11_orphans_12 (q4 : Nat → Int32 → Int32 → vg_M → vg_R Int32) : Nat → Nat → Int32 → Int32 → Int32 → vg_M → vg_R Int32
  | 0, _, _, _, _, _ => none
  | n + 1, v0, v1, v2, v3, μ =>
    if 60 ≤ v3 then (
     q4 v0 v1 v2 μ
     ) else (
     vg_o (vg_gR μ v0 14 6) fun x1 =>
     vg_o x1 fun a2 =>
     vg_o (vg_aI μ a2 2 v3) fun x3 =>
     if x3 ≤ 0 then (
      fX11_orphans_53 q4 (fX11_orphans_12 q4 n) v0 v1 v2 v3 μ
      ) else (
      vg_o (vg_gR μ v0 14 6) fun x4 =>
      vg_o (vg_gR μ v0 14 7) fun x5 =>
      vg_o x5 fun a6 =>
      vg_o (vg_aI μ a6 2 v3) fun x7 =>
      vg_o x4 fun a8 =>
      vg_o (vg_aI μ a8 2 x7) fun x9 =>
      if x9 = 0 then (
       vg_o (vg_gR μ v0 14 6) fun x10 =>
       vg_o x10 fun a11 =>
       vg_o (vg_sI μ a11 2 v3 0) fun μ12 =>
       fX11_orphans_53 q4 (fX11_orphans_12 q4 n) v0 (v1 + 1) 1 v3 μ12
       ) else (
       fX11_orphans_53 q4 (fX11_orphans_12 q4 n) v0 v1 v2 v3 μ
       )
      )
     )
set_option maxHeartbeats 4000000 in
set_option maxRecDepth 100000 in
theorem wX11_orphans_12 {p : Program} {l : Launch} {e : Env} {R : Room} {s : State} {m : MethodId} {args : Array Value} {below : List Frame} {meth : Method} {c : Code} {D : va_G} {cy : Nat → ClassId} {H0 : Heap} {C0 N0 : Nat} {r : Int32} {μ' : vg_M} (Z : vg_Z D cy H0 p s m args c cX11_orphans RX11 meth 4 (some .int) R 12 C0 N0 "orphans") {q4 : Nat → Int32 → Int32 → vg_M → vg_R Int32} (hk4 : ∀ (v0 : Nat) (v1 : Int32) (v2 : Int32) (μ : vg_M), vg_S p l e R s m args below meth c D cy H0 C0 N0 4 (MQ below (vg_Qc D cy H0 μ' (some (.int r))) args s C0 N0 (vg_fr H0)) r μ' (q4 v0 v1 v2 μ) μ [(0, .ref v0), (1, .int v1), (2, .int v2)] [] 4) : ∀ (n : Nat) (v0 : Nat) (v1 : Int32) (v2 : Int32) (v3 : Int32) (μ : vg_M), vg_S p l e R s m args below meth c D cy H0 C0 N0 4 (MQ below (vg_Qc D cy H0 μ' (some (.int r))) args s C0 N0 (vg_fr H0)) r μ' (fX11_orphans_12 q4 n v0 v1 v2 v3 μ) μ [(0, .ref v0), (1, .int v1), (2, .int v2), (3, .int v3)] [] 12 := by
  intro n
  induction n with
  | zero =>
    intro v0 v1 v2 v3 μ cn nn H locs cells slots ls hf
    simp [fX11_orphans_12] at hf
  | succ n hk12 =>
    intro v0 v1 v2 v3 μ
    intro cn nn H locs cells slots ls hf hH hL hC hN hl
    obtain ⟨X, hml, hr, hlk, hfr, hlo, hRc, hRs, hnm⟩ := id Z
    have hx := X.1
    have hb := X.2.1
    rw [fX11_orphans_12] at hf
    refine lv_iload_n hx hb dX11_orphans_12 rfl (lv_at hl.1 3 rfl) ?_
    refine lv_bipush (v := 60) hx hb dX11_orphans_13 (by decide) ?_
    refine lv_icmp_ge (tgt := 59) hx hb dX11_orphans_15 (by decide) (fun h8 => ?_) (fun h8 => ?_)
    · have hf := vg_ip h8 hf
      refine lv_goto (tgt := 4) hx hb dX11_orphans_59 (by decide) ?_
      exact hk4 v0 v1 v2 μ _ _ _ _ _ _ _ hf hH hL hC hN (hl.sub [0, 1, 2] rfl)
    · have hf := vg_if h8 hf
      refine lv_aload_n hx hb dX11_orphans_18 rfl (lv_at hl.1 0 rfl) ?_
      refine vg_getR X hH fF_X11_20 dX11_orphans_19 hf (fun x1 hf => ?_)
      refine lv_iload_n hx hb dX11_orphans_22 rfl (lv_at hl.1 3 rfl) ?_
      obtain ⟨a2, h9, hg⟩ := vg_o_inv hf
      clear hf
      subst h9
      have hf := hg
      clear hg
      refine vg_iald X hH dX11_orphans_23 hf (fun x3 hf => ?_)
      refine lv_if_le (tgt := 53) hx hb dX11_orphans_24 (by decide) (fun h8 => ?_) (fun h8 => ?_)
      · have hf := vg_ip h8 hf
        exact wX11_orphans_53 Z hk4 hk12 v0 v1 v2 v3 μ _ _ _ _ _ _ _ hf hH hL hC hN (hl.sub [0, 1, 2, 3] rfl)
      · have hf := vg_if h8 hf
        refine lv_aload_n hx hb dX11_orphans_27 rfl (lv_at hl.1 0 rfl) ?_
        refine vg_getR X hH fF_X11_20 dX11_orphans_28 hf (fun x4 hf => ?_)
        refine lv_aload_n hx hb dX11_orphans_31 rfl (lv_at hl.1 0 rfl) ?_
        refine vg_getR X hH fF_X11_23 dX11_orphans_32 hf (fun x5 hf => ?_)
        refine lv_iload_n hx hb dX11_orphans_35 rfl (lv_at hl.1 3 rfl) ?_
        obtain ⟨a6, h9, hg⟩ := vg_o_inv hf
        clear hf
        subst h9
        have hf := hg
        clear hg
        refine vg_iald X hH dX11_orphans_36 hf (fun x7 hf => ?_)
        obtain ⟨a8, h9, hg⟩ := vg_o_inv hf
        clear hf
        subst h9
        have hf := hg
        clear hg
        refine vg_iald X hH dX11_orphans_37 hf (fun x9 hf => ?_)
        refine lv_if_ne (tgt := 53) hx hb dX11_orphans_38 (by decide) (fun h8 => ?_) (fun h8 => ?_)
        · have hf := vg_if h8 hf
          exact wX11_orphans_53 Z hk4 hk12 v0 v1 v2 v3 μ _ _ _ _ _ _ _ hf hH hL hC hN (hl.sub [0, 1, 2, 3] rfl)
        · have hf := vg_ip h8 hf
          refine lv_aload_n hx hb dX11_orphans_41 rfl (lv_at hl.1 0 rfl) ?_
          refine vg_getR X hH fF_X11_20 dX11_orphans_42 hf (fun x10 hf => ?_)
          refine lv_iload_n hx hb dX11_orphans_45 rfl (lv_at hl.1 3 rfl) ?_
          refine lv_iconst (v := 0) hx hb dX11_orphans_46 (by decide) ?_
          obtain ⟨a11, h9, hg⟩ := vg_o_inv hf
          clear hf
          subst h9
          have hf := hg
          clear hg
          refine vg_iast X hH hL dX11_orphans_47 hf (fun μ12 H locs hf hH hL => ?_)
          refine vg_iinc (v := v1 + 1) (lv' := [(1, .int (v1 + 1)), (0, .ref v0), (2, .int v2), (3, .int v3)]) hx hb dX11_orphans_48 hl (k := 1) rfl rfl (by decide) rfl (fun ls hl => ?_)
          refine lv_iconst (v := 1) hx hb dX11_orphans_51 (by decide) ?_
          refine vg_istore_n (lv' := [(2, .int 1), (1, .int (v1 + 1)), (0, .ref v0), (3, .int v3)]) hx hb dX11_orphans_52 rfl hl (by decide) rfl (fun ls hl => ?_)
          exact wX11_orphans_53 Z hk4 hk12 v0 (v1 + 1) 1 v3 μ12 _ _ _ _ _ _ _ hf hH hL hC hN (hl.sub [2, 1, 0, 3] rfl)
def fX11_orphans_4  : Nat → Nat → Int32 → Int32 → vg_M → vg_R Int32
  | 0, _, _, _, _ => none
  | n + 1, v0, v1, v2, μ =>
    if v2 = 0 then (
     vg_ret v1 μ
     ) else (
     fX11_orphans_12 (fX11_orphans_4  n) vg_fuel v0 v1 0 0 μ
     )
set_option maxHeartbeats 4000000 in
set_option maxRecDepth 100000 in
theorem wX11_orphans_4 {p : Program} {l : Launch} {e : Env} {R : Room} {s : State} {m : MethodId} {args : Array Value} {below : List Frame} {meth : Method} {c : Code} {D : va_G} {cy : Nat → ClassId} {H0 : Heap} {C0 N0 : Nat} {r : Int32} {μ' : vg_M} (Z : vg_Z D cy H0 p s m args c cX11_orphans RX11 meth 4 (some .int) R 12 C0 N0 "orphans")   : ∀ (n : Nat) (v0 : Nat) (v1 : Int32) (v2 : Int32) (μ : vg_M), vg_S p l e R s m args below meth c D cy H0 C0 N0 4 (MQ below (vg_Qc D cy H0 μ' (some (.int r))) args s C0 N0 (vg_fr H0)) r μ' (fX11_orphans_4  n v0 v1 v2 μ) μ [(0, .ref v0), (1, .int v1), (2, .int v2)] [] 4 := by
  intro n
  induction n with
  | zero =>
    intro v0 v1 v2 μ cn nn H locs cells slots ls hf
    simp [fX11_orphans_4] at hf
  | succ n hk4 =>
    intro v0 v1 v2 μ
    intro cn nn H locs cells slots ls hf hH hL hC hN hl
    obtain ⟨X, hml, hr, hlk, hfr, hlo, hRc, hRs, hnm⟩ := id Z
    have hx := X.1
    have hb := X.2.1
    rw [fX11_orphans_4] at hf
    refine lv_iload_n hx hb dX11_orphans_4 rfl (lv_at hl.1 2 rfl) ?_
    refine lv_if_eq (tgt := 62) hx hb dX11_orphans_5 (by decide) (fun h8 => ?_) (fun h8 => ?_)
    · have hf := vg_ip h8 hf
      refine lv_iload_n hx hb dX11_orphans_62 rfl (lv_at hl.1 1 rfl) ?_
      exact vg_reti X hr hlk hH hL dX11_orphans_63 hf hC hN
    · have hf := vg_if h8 hf
      refine lv_iconst (v := 0) hx hb dX11_orphans_8 (by decide) ?_
      refine vg_istore_n (lv' := [(2, .int 0), (0, .ref v0), (1, .int v1)]) hx hb dX11_orphans_9 rfl hl (by decide) rfl (fun ls hl => ?_)
      refine lv_iconst (v := 0) hx hb dX11_orphans_10 (by decide) ?_
      refine vg_istore_n (lv' := [(3, .int 0), (2, .int 0), (0, .ref v0), (1, .int v1)]) hx hb dX11_orphans_11 rfl hl (by decide) rfl (fun ls hl => ?_)
      exact wX11_orphans_12 Z hk4 vg_fuel v0 v1 0 0 μ _ _ _ _ _ _ _ hf hH hL hC hN (hl.sub [2, 3, 1, 0] rfl)
def fX11_orphans (v0 : Nat) (μ : vg_M) : vg_R Int32 :=
  fX11_orphans_4  vg_fuel v0 0 1 μ
set_option maxHeartbeats 4000000 in
set_option maxRecDepth 100000 in
theorem cX11_orphans_met {l : Launch} {D : va_G} {cy : Nat → ClassId} {H0 : Heap} {r : Int32} {μ μ' : vg_M} {cn nn : Nat} {v0 : Nat} (hf : fX11_orphans v0 μ = some (r, μ', cn, nn)) : vg_Met l D cy H0 yX11_orphans cX11_orphans 4 (some .int) 12 μ [.ref v0] (some (.int r)) μ' cn nn := by
  refine vg_start (by decide +kernel) (List.forall_mem_cons.mpr ⟨rfl, (fun _ h => nomatch h)⟩) (Nat.le_of_ble_eq_true rfl) ?_
  intro p e s m below meth c ls X hml hr hlk hnm hH hl
  have hl : vg_l ls 4 [(0, .ref v0)] := hl
  have Z : vg_Z D cy H0 p s m _ c cX11_orphans RX11 meth 4 (some .int) (vg_rm 12 cn nn) 12 cn nn _ := ⟨X, hml, hr, hlk, Nat.le_refl _, Nat.le_refl _, Nat.le_refl _, Nat.le_refl _, hnm⟩
  obtain ⟨-, -, -, -, hfr, hlo, hRc, hRs, -⟩ := id Z
  have hx := X.1
  have hb := X.2.1
  have hL : ∀ z ∈ ([] : List Loc), H0.size ≤ z.base := fun _ h => nomatch h
  have hC : 0 + cn = cn := Nat.zero_add _
  have hN : 0 + nn = nn := Nat.zero_add _
  delta fX11_orphans at hf
  refine lv_iconst (v := 0) hx hb dX11_orphans_0 (by decide) ?_
  refine vg_istore_n (lv' := [(1, .int 0), (0, .ref v0)]) hx hb dX11_orphans_1 rfl hl (by decide) rfl (fun ls hl => ?_)
  refine lv_iconst (v := 1) hx hb dX11_orphans_2 (by decide) ?_
  refine vg_istore_n (lv' := [(2, .int 1), (1, .int 0), (0, .ref v0)]) hx hb dX11_orphans_3 rfl hl (by decide) rfl (fun ls hl => ?_)
  exact wX11_orphans_4 Z  vg_fuel v0 0 1 μ _ _ _ _ _ _ _ hf hH hL hC hN (hl.sub [2, 1, 0] rfl)
def fX11_pack_68  (v0 : Nat) (μ : vg_M) : vg_R Unit :=
  vg_o (vg_p μ v0 14 2 (.int 0)) fun μ2 =>
  vg_ret () μ2
set_option maxHeartbeats 4000000 in
set_option maxRecDepth 100000 in
theorem wX11_pack_68 {p : Program} {l : Launch} {e : Env} {R : Room} {s : State} {m : MethodId} {args : Array Value} {below : List Frame} {meth : Method} {c : Code} {D : va_G} {cy : Nat → ClassId} {H0 : Heap} {C0 N0 : Nat} {r : Unit} {μ' : vg_M} (Z : vg_Z D cy H0 p s m args c cX11_pack RX11 meth 3 none R 15 C0 N0 "pack")   (v0 : Nat) (μ : vg_M) : vg_S p l e R s m args below meth c D cy H0 C0 N0 3 (MQ below (vg_Qc D cy H0 μ' none) args s C0 N0 (vg_fr H0)) r μ' (fX11_pack_68  v0 μ) μ [(0, .ref v0)] [] 68 := by
  intro cn nn H locs cells slots ls hf hH hL hC hN hl
  obtain ⟨X, hml, hr, hlk, hfr, hlo, hRc, hRs, hnm⟩ := id Z
  have hx := X.1
  have hb := X.2.1
  delta fX11_pack_68 at hf
  refine lv_aload_n hx hb dX11_pack_68 rfl (lv_at hl.1 0 rfl) ?_
  refine lv_iconst (v := 0) hx hb dX11_pack_69 (by decide) ?_
  refine vg_putV X hH hL fF_X11_106 rfl rfl dX11_pack_70 hf (fun μ2 H locs hf hH hL => ?_)
  exact vg_retv X hr hlk hH hL dX11_pack_73 hf hC hN
def fX11_pack_43  (v0 : Nat) (μ : vg_M) : vg_R Unit :=
  vg_o (vg_p μ v0 14 0 (.int 2)) fun μ1 =>
  fX11_pack_68  v0 μ1
set_option maxHeartbeats 4000000 in
set_option maxRecDepth 100000 in
theorem wX11_pack_43 {p : Program} {l : Launch} {e : Env} {R : Room} {s : State} {m : MethodId} {args : Array Value} {below : List Frame} {meth : Method} {c : Code} {D : va_G} {cy : Nat → ClassId} {H0 : Heap} {C0 N0 : Nat} {r : Unit} {μ' : vg_M} (Z : vg_Z D cy H0 p s m args c cX11_pack RX11 meth 3 none R 15 C0 N0 "pack")   (v0 : Nat) (μ : vg_M) : vg_S p l e R s m args below meth c D cy H0 C0 N0 3 (MQ below (vg_Qc D cy H0 μ' none) args s C0 N0 (vg_fr H0)) r μ' (fX11_pack_43  v0 μ) μ [(0, .ref v0)] [] 43 := by
  intro cn nn H locs cells slots ls hf hH hL hC hN hl
  obtain ⟨X, hml, hr, hlk, hfr, hlo, hRc, hRs, hnm⟩ := id Z
  have hx := X.1
  have hb := X.2.1
  delta fX11_pack_43 at hf
  refine lv_aload_n hx hb dX11_pack_43 rfl (lv_at hl.1 0 rfl) ?_
  refine lv_iconst (v := 2) hx hb dX11_pack_44 (by decide) ?_
  refine vg_putV X hH hL fF_X11_103 rfl rfl dX11_pack_45 hf (fun μ1 H locs hf hH hL => ?_)
  refine lv_goto (tgt := 68) hx hb dX11_pack_48 (by decide) ?_
  exact wX11_pack_68 Z  v0 μ1 _ _ _ _ _ _ _ hf hH hL hC hN (hl.sub [0] rfl)
def fX11_pack (v0 : Nat) (v1 : Int32) (μ : vg_M) : vg_R Unit :=
  vg_cv 14 v0 μ (fX11_takes v0  μ) fun x3 μ4 =>
  if x3 = 0 then (
   fX11_pack_68  v0 μ4
   ) else (
   vg_cv 14 v0 μ4 (fX11_go v0  μ4) fun x5 μ6 =>
   vg_o (vg_gI μ6 v0 14 36) fun x7 =>
   vg_o (vg_gI μ6 v0 14 3) fun x8 =>
   if x7 < x8 then (
    fX11_pack_43  v0 μ6
    ) else (
    vg_o (vg_gR μ6 v0 14 6) fun x9 =>
    vg_o x9 fun a10 =>
    vg_o (vg_aI μ6 a10 2 x5) fun x11 =>
    if x11 = 2 then (
     vg_o (vg_gR μ6 v0 14 11) fun x12 =>
     vg_o x12 fun a13 =>
     vg_o (vg_aI μ6 a13 3 x5) fun x14 =>
     if x14 = v1 then (
      fX11_pack_43  v0 μ6
      ) else (
      vg_o (vg_gR μ6 v0 14 11) fun x15 =>
      vg_o x15 fun a16 =>
      vg_o (vg_sI μ6 a16 3 x5 v1) fun μ17 =>
      vg_o (vg_gR μ17 v0 14 7) fun x18 =>
      vg_o x18 fun a19 =>
      vg_o (vg_aI μ17 a19 2 x5) fun x20 =>
      vg_cv 14 v0 μ17 (fX11_touch v0 x20 μ17) fun _ μ22 =>
      fX11_pack_68  v0 μ22
      )
     ) else (
     fX11_pack_43  v0 μ6
     )
    )
   )
set_option maxHeartbeats 4000000 in
set_option maxRecDepth 100000 in
theorem cX11_pack_met {l : Launch} {D : va_G} {cy : Nat → ClassId} {H0 : Heap} {r : Unit} {μ μ' : vg_M} {cn nn : Nat} {v0 : Nat} {v1 : Int32} (hf : fX11_pack v0 v1 μ = some (r, μ', cn, nn)) : vg_Met l D cy H0 yX11_pack cX11_pack 3 none 15 μ [.ref v0, .int v1] none μ' cn nn := by
  refine vg_start (by decide +kernel) (List.forall_mem_cons.mpr ⟨rfl, (List.forall_mem_cons.mpr ⟨rfl, (fun _ h => nomatch h)⟩)⟩) (Nat.le_of_ble_eq_true rfl) ?_
  intro p e s m below meth c ls X hml hr hlk hnm hH hl
  have hl : vg_l ls 3 [(0, .ref v0), (1, .int v1)] := hl
  have Z : vg_Z D cy H0 p s m _ c cX11_pack RX11 meth 3 none (vg_rm 15 cn nn) 15 cn nn _ := ⟨X, hml, hr, hlk, Nat.le_refl _, Nat.le_refl _, Nat.le_refl _, Nat.le_refl _, hnm⟩
  obtain ⟨-, -, -, -, hfr, hlo, hRc, hRs, -⟩ := id Z
  have hx := X.1
  have hb := X.2.1
  have hL : ∀ z ∈ ([] : List Loc), H0.size ≤ z.base := fun _ h => nomatch h
  have hC : 0 + cn = cn := Nat.zero_add _
  have hN : 0 + nn = nn := Nat.zero_add _
  delta fX11_pack at hf
  refine lv_aload_n hx hb dX11_pack_0 rfl (lv_at hl.1 0 rfl) ?_
  refine vg_callVi (ci := 14) X hml hl hH hL fCV_X11_138 rfl [] rfl rfl (Nat.le_of_ble_eq_true rfl) dX11_pack_1 hf hC hN hRc hRs hfr hlo (by decide) (fun _ _ _ _ h => cX11_takes_met h) (fun x3 μ4 cn nn H locs cells slots hf hC hN hH hL => ?_)
  refine lv_if_eq (tgt := 68) hx hb dX11_pack_4 (by decide) (fun h8 => ?_) (fun h8 => ?_)
  · have hf := vg_ip h8 hf
    exact wX11_pack_68 Z  v0 μ4 _ _ _ _ _ _ _ hf hH hL hC hN (hl.sub [0] rfl)
  · have hf := vg_if h8 hf
    refine lv_aload_n hx hb dX11_pack_7 rfl (lv_at hl.1 0 rfl) ?_
    refine vg_callVi (ci := 14) X hml hl hH hL fCV_X11_141 rfl [] rfl rfl (Nat.le_of_ble_eq_true rfl) dX11_pack_8 hf hC hN hRc hRs hfr hlo (by decide) (fun _ _ _ _ h => cX11_go_met h) (fun x5 μ6 cn nn H locs cells slots hf hC hN hH hL => ?_)
    refine vg_istore_n (lv' := [(2, .int x5), (0, .ref v0), (1, .int v1)]) hx hb dX11_pack_11 rfl hl (by decide) rfl (fun ls hl => ?_)
    refine lv_aload_n hx hb dX11_pack_12 rfl (lv_at hl.1 1 rfl) ?_
    refine vg_getI X hH fF_X11_120 dX11_pack_13 hf (fun x7 hf => ?_)
    refine lv_aload_n hx hb dX11_pack_16 rfl (lv_at hl.1 1 rfl) ?_
    refine vg_getI X hH fF_X11_109 dX11_pack_17 hf (fun x8 hf => ?_)
    refine lv_icmp_lt (tgt := 43) hx hb dX11_pack_20 (by decide) (fun h8 => ?_) (fun h8 => ?_)
    · have hf := vg_ip h8 hf
      exact wX11_pack_43 Z  v0 μ6 _ _ _ _ _ _ _ hf hH hL hC hN (hl.sub [1] rfl)
    · have hf := vg_if h8 hf
      refine lv_aload_n hx hb dX11_pack_23 rfl (lv_at hl.1 1 rfl) ?_
      refine vg_getR X hH fF_X11_20 dX11_pack_24 hf (fun x9 hf => ?_)
      refine lv_iload_n hx hb dX11_pack_27 rfl (lv_at hl.1 0 rfl) ?_
      obtain ⟨a10, h9, hg⟩ := vg_o_inv hf
      clear hf
      subst h9
      have hf := hg
      clear hg
      refine vg_iald X hH dX11_pack_28 hf (fun x11 hf => ?_)
      refine lv_iconst (v := 2) hx hb dX11_pack_29 (by decide) ?_
      refine lv_icmp_ne (tgt := 43) hx hb dX11_pack_30 (by decide) (fun h8 => ?_) (fun h8 => ?_)
      · have hf := vg_if h8 hf
        exact wX11_pack_43 Z  v0 μ6 _ _ _ _ _ _ _ hf hH hL hC hN (hl.sub [1] rfl)
      · have hf := vg_ip h8 hf
        refine lv_aload_n hx hb dX11_pack_33 rfl (lv_at hl.1 1 rfl) ?_
        refine vg_getR X hH fF_X11_35 dX11_pack_34 hf (fun x12 hf => ?_)
        refine lv_iload_n hx hb dX11_pack_37 rfl (lv_at hl.1 0 rfl) ?_
        obtain ⟨a13, h9, hg⟩ := vg_o_inv hf
        clear hf
        subst h9
        have hf := hg
        clear hg
        refine vg_zald X hH dX11_pack_38 hf (fun x14 hf => ?_)
        refine lv_iload_n hx hb dX11_pack_39 rfl (lv_at hl.1 2 rfl) ?_
        refine lv_icmp_ne (tgt := 51) hx hb dX11_pack_40 (by decide) (fun h8 => ?_) (fun h8 => ?_)
        · have hf := vg_if h8 hf
          refine lv_aload_n hx hb dX11_pack_51 rfl (lv_at hl.1 1 rfl) ?_
          refine vg_getR X hH fF_X11_35 dX11_pack_52 hf (fun x15 hf => ?_)
          refine lv_iload_n hx hb dX11_pack_55 rfl (lv_at hl.1 0 rfl) ?_
          refine lv_iload_n hx hb dX11_pack_56 rfl (lv_at hl.1 2 rfl) ?_
          obtain ⟨a16, h9, hg⟩ := vg_o_inv hf
          clear hf
          subst h9
          have hf := hg
          clear hg
          refine vg_zast X hH hL dX11_pack_57 hf (fun μ17 H locs hf hH hL => ?_)
          refine lv_aload_n hx hb dX11_pack_58 rfl (lv_at hl.1 1 rfl) ?_
          refine lv_aload_n hx hb dX11_pack_59 rfl (lv_at hl.1 1 rfl) ?_
          refine vg_getR X hH fF_X11_23 dX11_pack_60 hf (fun x18 hf => ?_)
          refine lv_iload_n hx hb dX11_pack_63 rfl (lv_at hl.1 0 rfl) ?_
          obtain ⟨a19, h9, hg⟩ := vg_o_inv hf
          clear hf
          subst h9
          have hf := hg
          clear hg
          refine vg_iald X hH dX11_pack_64 hf (fun x20 hf => ?_)
          refine vg_callVv (ci := 14) X hml hl hH hL fCV_X11_130 rfl [.int x20] rfl rfl (Nat.le_of_ble_eq_true rfl) dX11_pack_65 hf hC hN hRc hRs hfr hlo (by decide) (fun _ _ _ _ h => cX11_touch_met h) (fun _ μ22 cn nn H locs cells slots hf hC hN hH hL => ?_)
          exact wX11_pack_68 Z  v0 μ22 _ _ _ _ _ _ _ hf hH hL hC hN (hl.sub [1] rfl)
        · have hf := vg_ip h8 hf
          exact wX11_pack_43 Z  v0 μ6 _ _ _ _ _ _ _ hf hH hL hC hN (hl.sub [1] rfl)
def fX11_pattern_201  (v0 : Nat) (μ : vg_M) : vg_R Unit :=
  vg_o (vg_p μ v0 14 2 (.int 0)) fun μ40 =>
  vg_ret () μ40
set_option maxHeartbeats 4000000 in
set_option maxRecDepth 100000 in
theorem wX11_pattern_201 {p : Program} {l : Launch} {e : Env} {R : Room} {s : State} {m : MethodId} {args : Array Value} {below : List Frame} {meth : Method} {c : Code} {D : va_G} {cy : Nat → ClassId} {H0 : Heap} {C0 N0 : Nat} {r : Unit} {μ' : vg_M} (Z : vg_Z D cy H0 p s m args c cX11_pattern RX11 meth 6 none R 16 C0 N0 "pattern")   (v0 : Nat) (μ : vg_M) : vg_S p l e R s m args below meth c D cy H0 C0 N0 6 (MQ below (vg_Qc D cy H0 μ' none) args s C0 N0 (vg_fr H0)) r μ' (fX11_pattern_201  v0 μ) μ [(0, .ref v0)] [] 201 := by
  intro cn nn H locs cells slots ls hf hH hL hC hN hl
  obtain ⟨X, hml, hr, hlk, hfr, hlo, hRc, hRs, hnm⟩ := id Z
  have hx := X.1
  have hb := X.2.1
  delta fX11_pattern_201 at hf
  refine lv_aload_n hx hb dX11_pattern_201 rfl (lv_at hl.1 0 rfl) ?_
  refine lv_iconst (v := 0) hx hb dX11_pattern_202 (by decide) ?_
  refine vg_putV X hH hL fF_X11_106 rfl rfl dX11_pattern_203 hf (fun μ40 H locs hf hH hL => ?_)
  exact vg_retv X hr hlk hH hL dX11_pattern_206 hf hC hN
def fX11_pattern_159  : Nat → Nat → Int32 → Int32 → Int32 → vg_M → vg_R Unit
  | 0, _, _, _, _, _ => none
  | n + 1, v0, v1, v4, v5, μ =>
    vg_o (vg_gI μ v0 14 2) fun x30 =>
    if x30 ≤ v5 then (
     vg_o (vg_gR μ v0 14 23) fun x31 =>
     vg_o x31 fun a32 =>
     vg_o (vg_sI μ a32 3 v1 1) fun μ33 =>
     fX11_pattern_201  v0 μ33
     ) else (
     vg_o (vg_gR μ v0 14 22) fun x34 =>
     vg_o (vg_gR μ v0 14 1) fun x35 =>
     vg_o x35 fun a36 =>
     vg_o (vg_aI μ a36 0 v5) fun x37 =>
     vg_o x34 fun a38 =>
     vg_o (vg_sI μ a38 0 ((60 * v4) + v5) x37) fun μ39 =>
     (fX11_pattern_159  n) v0 v1 v4 (v5 + 1) μ39
     )
set_option maxHeartbeats 4000000 in
set_option maxRecDepth 100000 in
theorem wX11_pattern_159 {p : Program} {l : Launch} {e : Env} {R : Room} {s : State} {m : MethodId} {args : Array Value} {below : List Frame} {meth : Method} {c : Code} {D : va_G} {cy : Nat → ClassId} {H0 : Heap} {C0 N0 : Nat} {r : Unit} {μ' : vg_M} (Z : vg_Z D cy H0 p s m args c cX11_pattern RX11 meth 6 none R 16 C0 N0 "pattern")   : ∀ (n : Nat) (v0 : Nat) (v1 : Int32) (v4 : Int32) (v5 : Int32) (μ : vg_M), vg_S p l e R s m args below meth c D cy H0 C0 N0 6 (MQ below (vg_Qc D cy H0 μ' none) args s C0 N0 (vg_fr H0)) r μ' (fX11_pattern_159  n v0 v1 v4 v5 μ) μ [(0, .ref v0), (1, .int v1), (4, .int v4), (5, .int v5)] [] 159 := by
  intro n
  induction n with
  | zero =>
    intro v0 v1 v4 v5 μ cn nn H locs cells slots ls hf
    simp [fX11_pattern_159] at hf
  | succ n hk159 =>
    intro v0 v1 v4 v5 μ
    intro cn nn H locs cells slots ls hf hH hL hC hN hl
    obtain ⟨X, hml, hr, hlk, hfr, hlo, hRc, hRs, hnm⟩ := id Z
    have hx := X.1
    have hb := X.2.1
    rw [fX11_pattern_159] at hf
    refine lv_iload hx hb dX11_pattern_159 (lv_at hl.1 3 rfl) ?_
    refine lv_aload_n hx hb dX11_pattern_161 rfl (lv_at hl.1 0 rfl) ?_
    refine vg_getI X hH fF_X11_106 dX11_pattern_162 hf (fun x30 hf => ?_)
    refine lv_icmp_ge (tgt := 194) hx hb dX11_pattern_165 (by decide) (fun h8 => ?_) (fun h8 => ?_)
    · have hf := vg_ip h8 hf
      refine lv_aload_n hx hb dX11_pattern_194 rfl (lv_at hl.1 0 rfl) ?_
      refine vg_getR X hH fF_X11_63 dX11_pattern_195 hf (fun x31 hf => ?_)
      refine lv_iload_n hx hb dX11_pattern_198 rfl (lv_at hl.1 1 rfl) ?_
      refine lv_iconst (v := 1) hx hb dX11_pattern_199 (by decide) ?_
      obtain ⟨a32, h9, hg⟩ := vg_o_inv hf
      clear hf
      subst h9
      have hf := hg
      clear hg
      refine vg_zast X hH hL dX11_pattern_200 hf (fun μ33 H locs hf hH hL => ?_)
      exact wX11_pattern_201 Z  v0 μ33 _ _ _ _ _ _ _ hf hH hL hC hN (hl.sub [0] rfl)
    · have hf := vg_if h8 hf
      refine lv_aload_n hx hb dX11_pattern_168 rfl (lv_at hl.1 0 rfl) ?_
      refine vg_getR X hH fF_X11_60 dX11_pattern_169 hf (fun x34 hf => ?_)
      refine lv_bipush (v := 60) hx hb dX11_pattern_172 (by decide) ?_
      refine lv_iload hx hb dX11_pattern_174 (lv_at hl.1 2 rfl) ?_
      refine lv_imul hx hb dX11_pattern_176 ?_
      refine lv_iload hx hb dX11_pattern_177 (lv_at hl.1 3 rfl) ?_
      refine lv_iadd hx hb dX11_pattern_179 ?_
      refine lv_aload_n hx hb dX11_pattern_180 rfl (lv_at hl.1 0 rfl) ?_
      refine vg_getR X hH fF_X11_7 dX11_pattern_181 hf (fun x35 hf => ?_)
      refine lv_iload hx hb dX11_pattern_184 (lv_at hl.1 3 rfl) ?_
      obtain ⟨a36, h9, hg⟩ := vg_o_inv hf
      clear hf
      subst h9
      have hf := hg
      clear hg
      refine vg_bald X hH dX11_pattern_186 hf (fun x37 hf => ?_)
      obtain ⟨a38, h9, hg⟩ := vg_o_inv hf
      clear hf
      subst h9
      have hf := hg
      clear hg
      refine vg_bast X hH hL dX11_pattern_187 hf (fun μ39 H locs hf hH hL => ?_)
      refine vg_iinc (v := v5 + 1) (lv' := [(5, .int (v5 + 1)), (0, .ref v0), (1, .int v1), (4, .int v4)]) hx hb dX11_pattern_188 hl (k := 3) rfl rfl (by decide) rfl (fun ls hl => ?_)
      refine lv_goto (tgt := 159) hx hb dX11_pattern_191 (by decide) ?_
      exact hk159 v0 v1 v4 (v5 + 1) μ39 _ _ _ _ _ _ _ hf hH hL hC hN (hl.sub [1, 2, 3, 0] rfl)
def fX11_pattern_143  (v0 : Nat) (v1 : Int32) (v4 : Int32) (k0 : Option Nat) (k1 : Int32) (k2 : Int32) (k3 : Int32) (μ : vg_M) : vg_R Unit :=
  vg_o k0 fun a24 =>
  vg_o (vg_sI μ a24 2 k1 (k2 + k3)) fun μ25 =>
  vg_o (vg_gR μ25 v0 14 20) fun x26 =>
  vg_o (vg_gI μ25 v0 14 2) fun x27 =>
  vg_o x26 fun a28 =>
  vg_o (vg_sI μ25 a28 2 v4 x27) fun μ29 =>
  fX11_pattern_159  vg_fuel v0 v1 v4 0 μ29
set_option maxHeartbeats 4000000 in
set_option maxRecDepth 100000 in
theorem wX11_pattern_143 {p : Program} {l : Launch} {e : Env} {R : Room} {s : State} {m : MethodId} {args : Array Value} {below : List Frame} {meth : Method} {c : Code} {D : va_G} {cy : Nat → ClassId} {H0 : Heap} {C0 N0 : Nat} {r : Unit} {μ' : vg_M} (Z : vg_Z D cy H0 p s m args c cX11_pattern RX11 meth 6 none R 16 C0 N0 "pattern")   (v0 : Nat) (v1 : Int32) (v4 : Int32) (k0 : Option Nat) (k1 : Int32) (k2 : Int32) (k3 : Int32) (μ : vg_M) : vg_S p l e R s m args below meth c D cy H0 C0 N0 6 (MQ below (vg_Qc D cy H0 μ' none) args s C0 N0 (vg_fr H0)) r μ' (fX11_pattern_143  v0 v1 v4 k0 k1 k2 k3 μ) μ [(0, .ref v0), (1, .int v1), (4, .int v4)] [.int k3, .int k2, .int k1, va_rf k0] 143 := by
  intro cn nn H locs cells slots ls hf hH hL hC hN hl
  obtain ⟨X, hml, hr, hlk, hfr, hlo, hRc, hRs, hnm⟩ := id Z
  have hx := X.1
  have hb := X.2.1
  delta fX11_pattern_143 at hf
  refine lv_iadd hx hb dX11_pattern_143 ?_
  obtain ⟨a24, h9, hg⟩ := vg_o_inv hf
  clear hf
  subst h9
  have hf := hg
  clear hg
  refine vg_iast X hH hL dX11_pattern_144 hf (fun μ25 H locs hf hH hL => ?_)
  refine lv_aload_n hx hb dX11_pattern_145 rfl (lv_at hl.1 0 rfl) ?_
  refine vg_getR X hH fF_X11_54 dX11_pattern_146 hf (fun x26 hf => ?_)
  refine lv_iload hx hb dX11_pattern_149 (lv_at hl.1 2 rfl) ?_
  refine lv_aload_n hx hb dX11_pattern_151 rfl (lv_at hl.1 0 rfl) ?_
  refine vg_getI X hH fF_X11_106 dX11_pattern_152 hf (fun x27 hf => ?_)
  obtain ⟨a28, h9, hg⟩ := vg_o_inv hf
  clear hf
  subst h9
  have hf := hg
  clear hg
  refine vg_iast X hH hL dX11_pattern_155 hf (fun μ29 H locs hf hH hL => ?_)
  refine lv_iconst (v := 0) hx hb dX11_pattern_156 (by decide) ?_
  refine vg_istore (lv' := [(5, .int 0), (0, .ref v0), (1, .int v1), (4, .int v4)]) hx hb dX11_pattern_157 hl (by decide) rfl (fun ls hl => ?_)
  exact wX11_pattern_159 Z  vg_fuel v0 v1 v4 0 μ29 _ _ _ _ _ _ _ hf hH hL hC hN (hl.sub [1, 2, 3, 0] rfl)
def fX11_pattern_125  (v0 : Nat) (v1 : Int32) (v2 : Int32) (v4 : Int32) (k0 : Option Nat) (k1 : Int32) (k2 : Int32) (k3 : Int32) (μ : vg_M) : vg_R Unit :=
  vg_o k0 fun a19 =>
  vg_o (vg_sI μ a19 2 k1 (k2 + k3)) fun μ20 =>
  vg_o (vg_gR μ20 v0 14 17) fun x21 =>
  vg_o x21 fun a22 =>
  vg_o (vg_aI μ20 a22 2 v1) fun x23 =>
  if v2 = 0 then (
   fX11_pattern_143  v0 v1 v4 (some a22) v1 x23 1 μ20
   ) else (
   fX11_pattern_143  v0 v1 v4 (some a22) v1 x23 0 μ20
   )
set_option maxHeartbeats 4000000 in
set_option maxRecDepth 100000 in
theorem wX11_pattern_125 {p : Program} {l : Launch} {e : Env} {R : Room} {s : State} {m : MethodId} {args : Array Value} {below : List Frame} {meth : Method} {c : Code} {D : va_G} {cy : Nat → ClassId} {H0 : Heap} {C0 N0 : Nat} {r : Unit} {μ' : vg_M} (Z : vg_Z D cy H0 p s m args c cX11_pattern RX11 meth 6 none R 16 C0 N0 "pattern")   (v0 : Nat) (v1 : Int32) (v2 : Int32) (v4 : Int32) (k0 : Option Nat) (k1 : Int32) (k2 : Int32) (k3 : Int32) (μ : vg_M) : vg_S p l e R s m args below meth c D cy H0 C0 N0 6 (MQ below (vg_Qc D cy H0 μ' none) args s C0 N0 (vg_fr H0)) r μ' (fX11_pattern_125  v0 v1 v2 v4 k0 k1 k2 k3 μ) μ [(0, .ref v0), (1, .int v1), (2, .int v2), (4, .int v4)] [.int k3, .int k2, .int k1, va_rf k0] 125 := by
  intro cn nn H locs cells slots ls hf hH hL hC hN hl
  obtain ⟨X, hml, hr, hlk, hfr, hlo, hRc, hRs, hnm⟩ := id Z
  have hx := X.1
  have hb := X.2.1
  delta fX11_pattern_125 at hf
  refine lv_iadd hx hb dX11_pattern_125 ?_
  obtain ⟨a19, h9, hg⟩ := vg_o_inv hf
  clear hf
  subst h9
  have hf := hg
  clear hg
  refine vg_iast X hH hL dX11_pattern_126 hf (fun μ20 H locs hf hH hL => ?_)
  refine lv_aload_n hx hb dX11_pattern_127 rfl (lv_at hl.1 0 rfl) ?_
  refine vg_getR X hH fF_X11_45 dX11_pattern_128 hf (fun x21 hf => ?_)
  refine lv_iload_n hx hb dX11_pattern_131 rfl (lv_at hl.1 1 rfl) ?_
  refine lv_dup2_11 hx hb dX11_pattern_132 rfl (vg_rfc _) ?_
  obtain ⟨a22, h9, hg⟩ := vg_o_inv hf
  clear hf
  subst h9
  have hf := hg
  clear hg
  refine vg_iald X hH dX11_pattern_133 hf (fun x23 hf => ?_)
  refine lv_iload_n hx hb dX11_pattern_134 rfl (lv_at hl.1 2 rfl) ?_
  refine lv_if_eq (tgt := 142) hx hb dX11_pattern_135 (by decide) (fun h8 => ?_) (fun h8 => ?_)
  · have hf := vg_ip h8 hf
    refine lv_iconst (v := 1) hx hb dX11_pattern_142 (by decide) ?_
    exact wX11_pattern_143 Z  v0 v1 v4 (some a22) v1 x23 1 μ20 _ _ _ _ _ _ _ hf hH hL hC hN (hl.sub [0, 1, 3] rfl)
  · have hf := vg_if h8 hf
    refine lv_iconst (v := 0) hx hb dX11_pattern_138 (by decide) ?_
    refine lv_goto (tgt := 143) hx hb dX11_pattern_139 (by decide) ?_
    exact wX11_pattern_143 Z  v0 v1 v4 (some a22) v1 x23 0 μ20 _ _ _ _ _ _ _ hf hH hL hC hN (hl.sub [0, 1, 3] rfl)
def fX11_pattern_106  (v0 : Nat) (v1 : Int32) (v2 : Int32) (k0 : Int32) (k1 : Int32) (μ : vg_M) : vg_R Unit :=
  vg_o (vg_gR μ v0 14 18) fun x16 =>
  vg_o x16 fun a17 =>
  vg_o (vg_aI μ a17 2 v1) fun x18 =>
  if v2 = 0 then (
   fX11_pattern_125  v0 v1 v2 (k0 + k1) (some a17) v1 x18 0 μ
   ) else (
   fX11_pattern_125  v0 v1 v2 (k0 + k1) (some a17) v1 x18 1 μ
   )
set_option maxHeartbeats 4000000 in
set_option maxRecDepth 100000 in
theorem wX11_pattern_106 {p : Program} {l : Launch} {e : Env} {R : Room} {s : State} {m : MethodId} {args : Array Value} {below : List Frame} {meth : Method} {c : Code} {D : va_G} {cy : Nat → ClassId} {H0 : Heap} {C0 N0 : Nat} {r : Unit} {μ' : vg_M} (Z : vg_Z D cy H0 p s m args c cX11_pattern RX11 meth 6 none R 16 C0 N0 "pattern")   (v0 : Nat) (v1 : Int32) (v2 : Int32) (k0 : Int32) (k1 : Int32) (μ : vg_M) : vg_S p l e R s m args below meth c D cy H0 C0 N0 6 (MQ below (vg_Qc D cy H0 μ' none) args s C0 N0 (vg_fr H0)) r μ' (fX11_pattern_106  v0 v1 v2 k0 k1 μ) μ [(0, .ref v0), (1, .int v1), (2, .int v2)] [.int k1, .int k0] 106 := by
  intro cn nn H locs cells slots ls hf hH hL hC hN hl
  obtain ⟨X, hml, hr, hlk, hfr, hlo, hRc, hRs, hnm⟩ := id Z
  have hx := X.1
  have hb := X.2.1
  delta fX11_pattern_106 at hf
  refine lv_iadd hx hb dX11_pattern_106 ?_
  refine vg_istore (lv' := [(4, .int (k0 + k1)), (0, .ref v0), (1, .int v1), (2, .int v2)]) hx hb dX11_pattern_107 hl (by decide) rfl (fun ls hl => ?_)
  refine lv_aload_n hx hb dX11_pattern_109 rfl (lv_at hl.1 1 rfl) ?_
  refine vg_getR X hH fF_X11_48 dX11_pattern_110 hf (fun x16 hf => ?_)
  refine lv_iload_n hx hb dX11_pattern_113 rfl (lv_at hl.1 2 rfl) ?_
  refine lv_dup2_11 hx hb dX11_pattern_114 rfl (vg_rfc _) ?_
  obtain ⟨a17, h9, hg⟩ := vg_o_inv hf
  clear hf
  subst h9
  have hf := hg
  clear hg
  refine vg_iald X hH dX11_pattern_115 hf (fun x18 hf => ?_)
  refine lv_iload_n hx hb dX11_pattern_116 rfl (lv_at hl.1 3 rfl) ?_
  refine lv_if_eq (tgt := 124) hx hb dX11_pattern_117 (by decide) (fun h8 => ?_) (fun h8 => ?_)
  · have hf := vg_ip h8 hf
    refine lv_iconst (v := 0) hx hb dX11_pattern_124 (by decide) ?_
    exact wX11_pattern_125 Z  v0 v1 v2 (k0 + k1) (some a17) v1 x18 0 μ _ _ _ _ _ _ _ hf hH hL hC hN (hl.sub [1, 2, 3, 0] rfl)
  · have hf := vg_if h8 hf
    refine lv_iconst (v := 1) hx hb dX11_pattern_120 (by decide) ?_
    refine lv_goto (tgt := 125) hx hb dX11_pattern_121 (by decide) ?_
    exact wX11_pattern_125 Z  v0 v1 v2 (k0 + k1) (some a17) v1 x18 1 μ _ _ _ _ _ _ _ hf hH hL hC hN (hl.sub [1, 2, 3, 0] rfl)
def fX11_pattern_71  (v0 : Nat) (v1 : Int32) (v2 : Int32) (k0 : Nat) (k1 : Int32) (μ : vg_M) : vg_R Unit :=
  vg_o (vg_p μ k0 14 0 (.int k1)) fun μ8 =>
  vg_o (vg_gI μ8 v0 14 0) fun x9 =>
  if x9 = 0 then (
   if v2 = 0 then (
    vg_o (vg_gR μ8 v0 14 17) fun x10 =>
    vg_o x10 fun a11 =>
    vg_o (vg_aI μ8 a11 2 v1) fun x12 =>
    fX11_pattern_106  v0 v1 v2 (8 * v1) x12 μ8
    ) else (
    vg_o (vg_gR μ8 v0 14 18) fun x13 =>
    vg_o x13 fun a14 =>
    vg_o (vg_aI μ8 a14 2 v1) fun x15 =>
    fX11_pattern_106  v0 v1 v2 (8 * v1) (4 + x15) μ8
    )
   ) else (
   fX11_pattern_201  v0 μ8
   )
set_option maxHeartbeats 4000000 in
set_option maxRecDepth 100000 in
theorem wX11_pattern_71 {p : Program} {l : Launch} {e : Env} {R : Room} {s : State} {m : MethodId} {args : Array Value} {below : List Frame} {meth : Method} {c : Code} {D : va_G} {cy : Nat → ClassId} {H0 : Heap} {C0 N0 : Nat} {r : Unit} {μ' : vg_M} (Z : vg_Z D cy H0 p s m args c cX11_pattern RX11 meth 6 none R 16 C0 N0 "pattern")   (v0 : Nat) (v1 : Int32) (v2 : Int32) (k0 : Nat) (k1 : Int32) (μ : vg_M) : vg_S p l e R s m args below meth c D cy H0 C0 N0 6 (MQ below (vg_Qc D cy H0 μ' none) args s C0 N0 (vg_fr H0)) r μ' (fX11_pattern_71  v0 v1 v2 k0 k1 μ) μ [(0, .ref v0), (1, .int v1), (2, .int v2)] [.int k1, .ref k0] 71 := by
  intro cn nn H locs cells slots ls hf hH hL hC hN hl
  obtain ⟨X, hml, hr, hlk, hfr, hlo, hRc, hRs, hnm⟩ := id Z
  have hx := X.1
  have hb := X.2.1
  delta fX11_pattern_71 at hf
  refine vg_putV X hH hL fF_X11_103 rfl rfl dX11_pattern_71 hf (fun μ8 H locs hf hH hL => ?_)
  refine lv_aload_n hx hb dX11_pattern_74 rfl (lv_at hl.1 0 rfl) ?_
  refine vg_getI X hH fF_X11_103 dX11_pattern_75 hf (fun x9 hf => ?_)
  refine lv_if_ne (tgt := 201) hx hb dX11_pattern_78 (by decide) (fun h8 => ?_) (fun h8 => ?_)
  · have hf := vg_if h8 hf
    exact wX11_pattern_201 Z  v0 μ8 _ _ _ _ _ _ _ hf hH hL hC hN (hl.sub [0] rfl)
  · have hf := vg_ip h8 hf
    refine lv_bipush (v := 8) hx hb dX11_pattern_81 (by decide) ?_
    refine lv_iload_n hx hb dX11_pattern_83 rfl (lv_at hl.1 1 rfl) ?_
    refine lv_imul hx hb dX11_pattern_84 ?_
    refine lv_iload_n hx hb dX11_pattern_85 rfl (lv_at hl.1 2 rfl) ?_
    refine lv_if_eq (tgt := 100) hx hb dX11_pattern_86 (by decide) (fun h8 => ?_) (fun h8 => ?_)
    · have hf := vg_ip h8 hf
      refine lv_aload_n hx hb dX11_pattern_100 rfl (lv_at hl.1 0 rfl) ?_
      refine vg_getR X hH fF_X11_45 dX11_pattern_101 hf (fun x10 hf => ?_)
      refine lv_iload_n hx hb dX11_pattern_104 rfl (lv_at hl.1 1 rfl) ?_
      obtain ⟨a11, h9, hg⟩ := vg_o_inv hf
      clear hf
      subst h9
      have hf := hg
      clear hg
      refine vg_iald X hH dX11_pattern_105 hf (fun x12 hf => ?_)
      exact wX11_pattern_106 Z  v0 v1 v2 (8 * v1) x12 μ8 _ _ _ _ _ _ _ hf hH hL hC hN (hl.sub [0, 1, 2] rfl)
    · have hf := vg_if h8 hf
      refine lv_iconst (v := 4) hx hb dX11_pattern_89 (by decide) ?_
      refine lv_aload_n hx hb dX11_pattern_90 rfl (lv_at hl.1 0 rfl) ?_
      refine vg_getR X hH fF_X11_48 dX11_pattern_91 hf (fun x13 hf => ?_)
      refine lv_iload_n hx hb dX11_pattern_94 rfl (lv_at hl.1 1 rfl) ?_
      obtain ⟨a14, h9, hg⟩ := vg_o_inv hf
      clear hf
      subst h9
      have hf := hg
      clear hg
      refine vg_iald X hH dX11_pattern_95 hf (fun x15 hf => ?_)
      refine lv_iadd hx hb dX11_pattern_96 ?_
      refine lv_goto (tgt := 106) hx hb dX11_pattern_97 (by decide) ?_
      exact wX11_pattern_106 Z  v0 v1 v2 (8 * v1) (4 + x15) μ8 _ _ _ _ _ _ _ hf hH hL hC hN (hl.sub [0, 1, 2] rfl)
def fX11_pattern_39  (v0 : Nat) (v1 : Int32) (v2 : Int32) (k0 : Nat) (μ : vg_M) : vg_R Unit :=
  fX11_pattern_71  v0 v1 v2 k0 1 μ
set_option maxHeartbeats 4000000 in
set_option maxRecDepth 100000 in
theorem wX11_pattern_39 {p : Program} {l : Launch} {e : Env} {R : Room} {s : State} {m : MethodId} {args : Array Value} {below : List Frame} {meth : Method} {c : Code} {D : va_G} {cy : Nat → ClassId} {H0 : Heap} {C0 N0 : Nat} {r : Unit} {μ' : vg_M} (Z : vg_Z D cy H0 p s m args c cX11_pattern RX11 meth 6 none R 16 C0 N0 "pattern")   (v0 : Nat) (v1 : Int32) (v2 : Int32) (k0 : Nat) (μ : vg_M) : vg_S p l e R s m args below meth c D cy H0 C0 N0 6 (MQ below (vg_Qc D cy H0 μ' none) args s C0 N0 (vg_fr H0)) r μ' (fX11_pattern_39  v0 v1 v2 k0 μ) μ [(0, .ref v0), (1, .int v1), (2, .int v2)] [.ref k0] 39 := by
  intro cn nn H locs cells slots ls hf hH hL hC hN hl
  obtain ⟨X, hml, hr, hlk, hfr, hlo, hRc, hRs, hnm⟩ := id Z
  have hx := X.1
  have hb := X.2.1
  delta fX11_pattern_39 at hf
  refine lv_iconst (v := 1) hx hb dX11_pattern_39 (by decide) ?_
  refine lv_goto (tgt := 71) hx hb dX11_pattern_40 (by decide) ?_
  exact wX11_pattern_71 Z  v0 v1 v2 k0 1 μ _ _ _ _ _ _ _ hf hH hL hC hN (hl.sub [0, 1, 2] rfl)
def fX11_pattern_62  (v0 : Nat) (v1 : Int32) (v2 : Int32) (k0 : Nat) (k1 : Int32) (μ : vg_M) : vg_R Unit :=
  if k1 = 4 then (
   fX11_pattern_71  v0 v1 v2 k0 2 μ
   ) else (
   fX11_pattern_71  v0 v1 v2 k0 0 μ
   )
set_option maxHeartbeats 4000000 in
set_option maxRecDepth 100000 in
theorem wX11_pattern_62 {p : Program} {l : Launch} {e : Env} {R : Room} {s : State} {m : MethodId} {args : Array Value} {below : List Frame} {meth : Method} {c : Code} {D : va_G} {cy : Nat → ClassId} {H0 : Heap} {C0 N0 : Nat} {r : Unit} {μ' : vg_M} (Z : vg_Z D cy H0 p s m args c cX11_pattern RX11 meth 6 none R 16 C0 N0 "pattern")   (v0 : Nat) (v1 : Int32) (v2 : Int32) (k0 : Nat) (k1 : Int32) (μ : vg_M) : vg_S p l e R s m args below meth c D cy H0 C0 N0 6 (MQ below (vg_Qc D cy H0 μ' none) args s C0 N0 (vg_fr H0)) r μ' (fX11_pattern_62  v0 v1 v2 k0 k1 μ) μ [(0, .ref v0), (1, .int v1), (2, .int v2)] [.int k1, .ref k0] 62 := by
  intro cn nn H locs cells slots ls hf hH hL hC hN hl
  obtain ⟨X, hml, hr, hlk, hfr, hlo, hRc, hRs, hnm⟩ := id Z
  have hx := X.1
  have hb := X.2.1
  delta fX11_pattern_62 at hf
  refine lv_iconst (v := 4) hx hb dX11_pattern_62 (by decide) ?_
  refine lv_icmp_ne (tgt := 70) hx hb dX11_pattern_63 (by decide) (fun h8 => ?_) (fun h8 => ?_)
  · have hf := vg_if h8 hf
    refine lv_iconst (v := 0) hx hb dX11_pattern_70 (by decide) ?_
    exact wX11_pattern_71 Z  v0 v1 v2 k0 0 μ _ _ _ _ _ _ _ hf hH hL hC hN (hl.sub [0, 1, 2] rfl)
  · have hf := vg_ip h8 hf
    refine lv_iconst (v := 2) hx hb dX11_pattern_66 (by decide) ?_
    refine lv_goto (tgt := 71) hx hb dX11_pattern_67 (by decide) ?_
    exact wX11_pattern_71 Z  v0 v1 v2 k0 2 μ _ _ _ _ _ _ _ hf hH hL hC hN (hl.sub [0, 1, 2] rfl)
def fX11_pattern_25  (v0 : Nat) (v1 : Int32) (v2 : Int32) (k0 : Int32) (μ : vg_M) : vg_R Unit :=
  if k0 = 0 then (
   fX11_pattern_39  v0 v1 v2 v0 μ
   ) else (
   vg_o (vg_gI μ v0 14 25) fun x1 =>
   if x1 = ((-1)) then (
    if v2 = 0 then (
     vg_o (vg_gR μ v0 14 17) fun x2 =>
     vg_o x2 fun a3 =>
     vg_o (vg_aI μ a3 2 v1) fun x4 =>
     fX11_pattern_62  v0 v1 v2 v0 x4 μ
     ) else (
     vg_o (vg_gR μ v0 14 18) fun x5 =>
     vg_o x5 fun a6 =>
     vg_o (vg_aI μ a6 2 v1) fun x7 =>
     fX11_pattern_62  v0 v1 v2 v0 x7 μ
     )
    ) else (
    fX11_pattern_39  v0 v1 v2 v0 μ
    )
   )
set_option maxHeartbeats 4000000 in
set_option maxRecDepth 100000 in
theorem wX11_pattern_25 {p : Program} {l : Launch} {e : Env} {R : Room} {s : State} {m : MethodId} {args : Array Value} {below : List Frame} {meth : Method} {c : Code} {D : va_G} {cy : Nat → ClassId} {H0 : Heap} {C0 N0 : Nat} {r : Unit} {μ' : vg_M} (Z : vg_Z D cy H0 p s m args c cX11_pattern RX11 meth 6 none R 16 C0 N0 "pattern")   (v0 : Nat) (v1 : Int32) (v2 : Int32) (k0 : Int32) (μ : vg_M) : vg_S p l e R s m args below meth c D cy H0 C0 N0 6 (MQ below (vg_Qc D cy H0 μ' none) args s C0 N0 (vg_fr H0)) r μ' (fX11_pattern_25  v0 v1 v2 k0 μ) μ [(0, .ref v0), (1, .int v1), (2, .int v2)] [.int k0] 25 := by
  intro cn nn H locs cells slots ls hf hH hL hC hN hl
  obtain ⟨X, hml, hr, hlk, hfr, hlo, hRc, hRs, hnm⟩ := id Z
  have hx := X.1
  have hb := X.2.1
  delta fX11_pattern_25 at hf
  refine vg_istore_n (lv' := [(3, .int k0), (0, .ref v0), (1, .int v1), (2, .int v2)]) hx hb dX11_pattern_25 rfl hl (by decide) rfl (fun ls hl => ?_)
  refine lv_aload_n hx hb dX11_pattern_26 rfl (lv_at hl.1 1 rfl) ?_
  refine lv_iload_n hx hb dX11_pattern_27 rfl (lv_at hl.1 0 rfl) ?_
  refine lv_if_eq (tgt := 39) hx hb dX11_pattern_28 (by decide) (fun h8 => ?_) (fun h8 => ?_)
  · have hf := vg_ip h8 hf
    exact wX11_pattern_39 Z  v0 v1 v2 v0 μ _ _ _ _ _ _ _ hf hH hL hC hN (hl.sub [1, 2, 3] rfl)
  · have hf := vg_if h8 hf
    refine lv_aload_n hx hb dX11_pattern_31 rfl (lv_at hl.1 1 rfl) ?_
    refine vg_getI X hH fF_X11_69 dX11_pattern_32 hf (fun x1 hf => ?_)
    refine lv_iconst (v := (-1)) hx hb dX11_pattern_35 (by decide) ?_
    refine lv_icmp_eq (tgt := 43) hx hb dX11_pattern_36 (by decide) (fun h8 => ?_) (fun h8 => ?_)
    · have hf := vg_ip h8 hf
      refine lv_iload_n hx hb dX11_pattern_43 rfl (lv_at hl.1 3 rfl) ?_
      refine lv_if_eq (tgt := 56) hx hb dX11_pattern_44 (by decide) (fun h8 => ?_) (fun h8 => ?_)
      · have hf := vg_ip h8 hf
        refine lv_aload_n hx hb dX11_pattern_56 rfl (lv_at hl.1 1 rfl) ?_
        refine vg_getR X hH fF_X11_45 dX11_pattern_57 hf (fun x2 hf => ?_)
        refine lv_iload_n hx hb dX11_pattern_60 rfl (lv_at hl.1 2 rfl) ?_
        obtain ⟨a3, h9, hg⟩ := vg_o_inv hf
        clear hf
        subst h9
        have hf := hg
        clear hg
        refine vg_iald X hH dX11_pattern_61 hf (fun x4 hf => ?_)
        exact wX11_pattern_62 Z  v0 v1 v2 v0 x4 μ _ _ _ _ _ _ _ hf hH hL hC hN (hl.sub [1, 2, 3] rfl)
      · have hf := vg_if h8 hf
        refine lv_aload_n hx hb dX11_pattern_47 rfl (lv_at hl.1 1 rfl) ?_
        refine vg_getR X hH fF_X11_48 dX11_pattern_48 hf (fun x5 hf => ?_)
        refine lv_iload_n hx hb dX11_pattern_51 rfl (lv_at hl.1 2 rfl) ?_
        obtain ⟨a6, h9, hg⟩ := vg_o_inv hf
        clear hf
        subst h9
        have hf := hg
        clear hg
        refine vg_iald X hH dX11_pattern_52 hf (fun x7 hf => ?_)
        refine lv_goto (tgt := 62) hx hb dX11_pattern_53 (by decide) ?_
        exact wX11_pattern_62 Z  v0 v1 v2 v0 x7 μ _ _ _ _ _ _ _ hf hH hL hC hN (hl.sub [1, 2, 3] rfl)
    · have hf := vg_if h8 hf
      exact wX11_pattern_39 Z  v0 v1 v2 v0 μ _ _ _ _ _ _ _ hf hH hL hC hN (hl.sub [1, 2, 3] rfl)
def fX11_pattern_24  (v0 : Nat) (v1 : Int32) (v2 : Int32) (μ : vg_M) : vg_R Unit :=
  fX11_pattern_25  v0 v1 v2 0 μ
set_option maxHeartbeats 4000000 in
set_option maxRecDepth 100000 in
theorem wX11_pattern_24 {p : Program} {l : Launch} {e : Env} {R : Room} {s : State} {m : MethodId} {args : Array Value} {below : List Frame} {meth : Method} {c : Code} {D : va_G} {cy : Nat → ClassId} {H0 : Heap} {C0 N0 : Nat} {r : Unit} {μ' : vg_M} (Z : vg_Z D cy H0 p s m args c cX11_pattern RX11 meth 6 none R 16 C0 N0 "pattern")   (v0 : Nat) (v1 : Int32) (v2 : Int32) (μ : vg_M) : vg_S p l e R s m args below meth c D cy H0 C0 N0 6 (MQ below (vg_Qc D cy H0 μ' none) args s C0 N0 (vg_fr H0)) r μ' (fX11_pattern_24  v0 v1 v2 μ) μ [(0, .ref v0), (1, .int v1), (2, .int v2)] [] 24 := by
  intro cn nn H locs cells slots ls hf hH hL hC hN hl
  obtain ⟨X, hml, hr, hlk, hfr, hlo, hRc, hRs, hnm⟩ := id Z
  have hx := X.1
  have hb := X.2.1
  delta fX11_pattern_24 at hf
  refine lv_iconst (v := 0) hx hb dX11_pattern_24 (by decide) ?_
  exact wX11_pattern_25 Z  v0 v1 v2 0 μ _ _ _ _ _ _ _ hf hH hL hC hN (hl.sub [0, 1, 2] rfl)
def fX11_pattern (v0 : Nat) (v1 : Int32) (v2 : Int32) (μ : vg_M) : vg_R Unit :=
  vg_cv 14 v0 μ (fX11_ill v0  μ) fun x41 μ42 =>
  vg_o (vg_p μ42 v0 14 25 (.int x41)) fun μ43 =>
  if v1 < 0 then (
   fX11_pattern_24  v0 v1 v2 μ43
   ) else (
   vg_o (vg_gI μ43 v0 14 15) fun x44 =>
   if x44 ≤ v1 then (
    fX11_pattern_24  v0 v1 v2 μ43
    ) else (
    fX11_pattern_25  v0 v1 v2 1 μ43
    )
   )
set_option maxHeartbeats 4000000 in
set_option maxRecDepth 100000 in
theorem cX11_pattern_met {l : Launch} {D : va_G} {cy : Nat → ClassId} {H0 : Heap} {r : Unit} {μ μ' : vg_M} {cn nn : Nat} {v0 : Nat} {v1 : Int32} {v2 : Int32} (hf : fX11_pattern v0 v1 v2 μ = some (r, μ', cn, nn)) : vg_Met l D cy H0 yX11_pattern cX11_pattern 6 none 16 μ [.ref v0, .int v1, .int v2] none μ' cn nn := by
  refine vg_start (by decide +kernel) (List.forall_mem_cons.mpr ⟨rfl, (List.forall_mem_cons.mpr ⟨rfl, (List.forall_mem_cons.mpr ⟨rfl, (fun _ h => nomatch h)⟩)⟩)⟩) (Nat.le_of_ble_eq_true rfl) ?_
  intro p e s m below meth c ls X hml hr hlk hnm hH hl
  have hl : vg_l ls 6 [(0, .ref v0), (1, .int v1), (2, .int v2)] := hl
  have Z : vg_Z D cy H0 p s m _ c cX11_pattern RX11 meth 6 none (vg_rm 16 cn nn) 16 cn nn _ := ⟨X, hml, hr, hlk, Nat.le_refl _, Nat.le_refl _, Nat.le_refl _, Nat.le_refl _, hnm⟩
  obtain ⟨-, -, -, -, hfr, hlo, hRc, hRs, -⟩ := id Z
  have hx := X.1
  have hb := X.2.1
  have hL : ∀ z ∈ ([] : List Loc), H0.size ≤ z.base := fun _ h => nomatch h
  have hC : 0 + cn = cn := Nat.zero_add _
  have hN : 0 + nn = nn := Nat.zero_add _
  delta fX11_pattern at hf
  refine lv_aload_n hx hb dX11_pattern_0 rfl (lv_at hl.1 0 rfl) ?_
  refine lv_aload_n hx hb dX11_pattern_1 rfl (lv_at hl.1 0 rfl) ?_
  refine vg_callVi (ci := 14) X hml hl hH hL fCV_X11_172 rfl [] rfl rfl (Nat.le_of_ble_eq_true rfl) dX11_pattern_2 hf hC hN hRc hRs hfr hlo (by decide) (fun _ _ _ _ h => cX11_ill_met h) (fun x41 μ42 cn nn H locs cells slots hf hC hN hH hL => ?_)
  refine vg_putV X hH hL fF_X11_69 rfl rfl dX11_pattern_5 hf (fun μ43 H locs hf hH hL => ?_)
  refine lv_iload_n hx hb dX11_pattern_8 rfl (lv_at hl.1 1 rfl) ?_
  refine lv_if_lt (tgt := 24) hx hb dX11_pattern_9 (by decide) (fun h8 => ?_) (fun h8 => ?_)
  · have hf := vg_ip h8 hf
    exact wX11_pattern_24 Z  v0 v1 v2 μ43 _ _ _ _ _ _ _ hf hH hL hC hN (hl.sub [0, 1, 2] rfl)
  · have hf := vg_if h8 hf
    refine lv_iload_n hx hb dX11_pattern_12 rfl (lv_at hl.1 1 rfl) ?_
    refine lv_aload_n hx hb dX11_pattern_13 rfl (lv_at hl.1 0 rfl) ?_
    refine vg_getI X hH fF_X11_159 dX11_pattern_14 hf (fun x44 hf => ?_)
    refine lv_icmp_ge (tgt := 24) hx hb dX11_pattern_17 (by decide) (fun h8 => ?_) (fun h8 => ?_)
    · have hf := vg_ip h8 hf
      exact wX11_pattern_24 Z  v0 v1 v2 μ43 _ _ _ _ _ _ _ hf hH hL hC hN (hl.sub [0, 1, 2] rfl)
    · have hf := vg_if h8 hf
      refine lv_iconst (v := 1) hx hb dX11_pattern_20 (by decide) ?_
      refine lv_goto (tgt := 25) hx hb dX11_pattern_21 (by decide) ?_
      exact wX11_pattern_25 Z  v0 v1 v2 1 μ43 _ _ _ _ _ _ _ hf hH hL hC hN (hl.sub [0, 1, 2] rfl)
def fX11_place (v0 : Nat) (μ : vg_M) : vg_R Int32 :=
  vg_o (vg_p μ v0 14 0 (.int 0)) fun μ1 =>
  vg_o (vg_gI μ1 v0 14 25) fun x2 =>
  vg_ret x2 μ1
set_option maxHeartbeats 4000000 in
set_option maxRecDepth 100000 in
theorem cX11_place_met {l : Launch} {D : va_G} {cy : Nat → ClassId} {H0 : Heap} {r : Int32} {μ μ' : vg_M} {cn nn : Nat} {v0 : Nat} (hf : fX11_place v0 μ = some (r, μ', cn, nn)) : vg_Met l D cy H0 yX11_place cX11_place 1 (some .int) 12 μ [.ref v0] (some (.int r)) μ' cn nn := by
  refine vg_start (by decide +kernel) (List.forall_mem_cons.mpr ⟨rfl, (fun _ h => nomatch h)⟩) (Nat.le_of_ble_eq_true rfl) ?_
  intro p e s m below meth c ls X hml hr hlk hnm hH hl
  have hl : vg_l ls 1 [(0, .ref v0)] := hl
  have Z : vg_Z D cy H0 p s m _ c cX11_place RX11 meth 1 (some .int) (vg_rm 12 cn nn) 12 cn nn _ := ⟨X, hml, hr, hlk, Nat.le_refl _, Nat.le_refl _, Nat.le_refl _, Nat.le_refl _, hnm⟩
  obtain ⟨-, -, -, -, hfr, hlo, hRc, hRs, -⟩ := id Z
  have hx := X.1
  have hb := X.2.1
  have hL : ∀ z ∈ ([] : List Loc), H0.size ≤ z.base := fun _ h => nomatch h
  have hC : 0 + cn = cn := Nat.zero_add _
  have hN : 0 + nn = nn := Nat.zero_add _
  delta fX11_place at hf
  refine lv_aload_n hx hb dX11_place_0 rfl (lv_at hl.1 0 rfl) ?_
  refine lv_iconst (v := 0) hx hb dX11_place_1 (by decide) ?_
  refine vg_putV X hH hL fF_X11_103 rfl rfl dX11_place_2 hf (fun μ1 H locs hf hH hL => ?_)
  refine lv_aload_n hx hb dX11_place_5 rfl (lv_at hl.1 0 rfl) ?_
  refine vg_getI X hH fF_X11_69 dX11_place_6 hf (fun x2 hf => ?_)
  exact vg_reti X hr hlk hH hL dX11_place_9 hf hC hN
def fX11_query_110  (v0 : Nat) (v1 : Int32) (μ : vg_M) : vg_R Int32 :=
  vg_o (vg_p μ v0 14 2 (.int 0)) fun μ21 =>
  vg_ret v1 μ21
set_option maxHeartbeats 4000000 in
set_option maxRecDepth 100000 in
theorem wX11_query_110 {p : Program} {l : Launch} {e : Env} {R : Room} {s : State} {m : MethodId} {args : Array Value} {below : List Frame} {meth : Method} {c : Code} {D : va_G} {cy : Nat → ClassId} {H0 : Heap} {C0 N0 : Nat} {r : Int32} {μ' : vg_M} (Z : vg_Z D cy H0 p s m args c cX11_query RX11 meth 3 (some .int) R 14 C0 N0 "query")   (v0 : Nat) (v1 : Int32) (μ : vg_M) : vg_S p l e R s m args below meth c D cy H0 C0 N0 3 (MQ below (vg_Qc D cy H0 μ' (some (.int r))) args s C0 N0 (vg_fr H0)) r μ' (fX11_query_110  v0 v1 μ) μ [(0, .ref v0), (1, .int v1)] [] 110 := by
  intro cn nn H locs cells slots ls hf hH hL hC hN hl
  obtain ⟨X, hml, hr, hlk, hfr, hlo, hRc, hRs, hnm⟩ := id Z
  have hx := X.1
  have hb := X.2.1
  delta fX11_query_110 at hf
  refine lv_aload_n hx hb dX11_query_110 rfl (lv_at hl.1 0 rfl) ?_
  refine lv_iconst (v := 0) hx hb dX11_query_111 (by decide) ?_
  refine vg_putV X hH hL fF_X11_106 rfl rfl dX11_query_112 hf (fun μ21 H locs hf hH hL => ?_)
  refine lv_iload_n hx hb dX11_query_115 rfl (lv_at hl.1 1 rfl) ?_
  exact vg_reti X hr hlk hH hL dX11_query_116 hf hC hN
def fX11_query_62  : Nat → Nat → Int32 → Int32 → vg_M → vg_R Int32
  | 0, _, _, _, _ => none
  | n + 1, v0, v1, v2, μ =>
    vg_o (vg_gI μ v0 14 2) fun x9 =>
    if x9 ≤ v2 then (
     vg_o (vg_gR μ v0 14 23) fun x10 =>
     vg_o x10 fun a11 =>
     vg_o (vg_sI μ a11 3 v1 1) fun μ12 =>
     vg_o (vg_gI μ12 v0 14 15) fun x13 =>
     vg_o (vg_p μ12 v0 14 15 (.int (x13 + 1))) fun μ14 =>
     fX11_query_110  v0 v1 μ14
     ) else (
     vg_o (vg_gR μ v0 14 21) fun x15 =>
     vg_o (vg_gR μ v0 14 1) fun x16 =>
     vg_o x16 fun a17 =>
     vg_o (vg_aI μ a17 0 v2) fun x18 =>
     vg_o x15 fun a19 =>
     vg_o (vg_sI μ a19 0 ((60 * v1) + v2) x18) fun μ20 =>
     (fX11_query_62  n) v0 v1 (v2 + 1) μ20
     )
set_option maxHeartbeats 4000000 in
set_option maxRecDepth 100000 in
theorem wX11_query_62 {p : Program} {l : Launch} {e : Env} {R : Room} {s : State} {m : MethodId} {args : Array Value} {below : List Frame} {meth : Method} {c : Code} {D : va_G} {cy : Nat → ClassId} {H0 : Heap} {C0 N0 : Nat} {r : Int32} {μ' : vg_M} (Z : vg_Z D cy H0 p s m args c cX11_query RX11 meth 3 (some .int) R 14 C0 N0 "query")   : ∀ (n : Nat) (v0 : Nat) (v1 : Int32) (v2 : Int32) (μ : vg_M), vg_S p l e R s m args below meth c D cy H0 C0 N0 3 (MQ below (vg_Qc D cy H0 μ' (some (.int r))) args s C0 N0 (vg_fr H0)) r μ' (fX11_query_62  n v0 v1 v2 μ) μ [(0, .ref v0), (1, .int v1), (2, .int v2)] [] 62 := by
  intro n
  induction n with
  | zero =>
    intro v0 v1 v2 μ cn nn H locs cells slots ls hf
    simp [fX11_query_62] at hf
  | succ n hk62 =>
    intro v0 v1 v2 μ
    intro cn nn H locs cells slots ls hf hH hL hC hN hl
    obtain ⟨X, hml, hr, hlk, hfr, hlo, hRc, hRs, hnm⟩ := id Z
    have hx := X.1
    have hb := X.2.1
    rw [fX11_query_62] at hf
    refine lv_iload_n hx hb dX11_query_62 rfl (lv_at hl.1 2 rfl) ?_
    refine lv_aload_n hx hb dX11_query_63 rfl (lv_at hl.1 0 rfl) ?_
    refine vg_getI X hH fF_X11_106 dX11_query_64 hf (fun x9 hf => ?_)
    refine lv_icmp_ge (tgt := 93) hx hb dX11_query_67 (by decide) (fun h8 => ?_) (fun h8 => ?_)
    · have hf := vg_ip h8 hf
      refine lv_aload_n hx hb dX11_query_93 rfl (lv_at hl.1 0 rfl) ?_
      refine vg_getR X hH fF_X11_63 dX11_query_94 hf (fun x10 hf => ?_)
      refine lv_iload_n hx hb dX11_query_97 rfl (lv_at hl.1 1 rfl) ?_
      refine lv_iconst (v := 1) hx hb dX11_query_98 (by decide) ?_
      obtain ⟨a11, h9, hg⟩ := vg_o_inv hf
      clear hf
      subst h9
      have hf := hg
      clear hg
      refine vg_zast X hH hL dX11_query_99 hf (fun μ12 H locs hf hH hL => ?_)
      refine lv_aload_n hx hb dX11_query_100 rfl (lv_at hl.1 0 rfl) ?_
      refine lv_dup hx hb dX11_query_101 rfl ?_
      refine vg_getI X hH fF_X11_159 dX11_query_102 hf (fun x13 hf => ?_)
      refine lv_iconst (v := 1) hx hb dX11_query_105 (by decide) ?_
      refine lv_iadd hx hb dX11_query_106 ?_
      refine vg_putV X hH hL fF_X11_159 rfl rfl dX11_query_107 hf (fun μ14 H locs hf hH hL => ?_)
      exact wX11_query_110 Z  v0 v1 μ14 _ _ _ _ _ _ _ hf hH hL hC hN (hl.sub [0, 1] rfl)
    · have hf := vg_if h8 hf
      refine lv_aload_n hx hb dX11_query_70 rfl (lv_at hl.1 0 rfl) ?_
      refine vg_getR X hH fF_X11_57 dX11_query_71 hf (fun x15 hf => ?_)
      refine lv_bipush (v := 60) hx hb dX11_query_74 (by decide) ?_
      refine lv_iload_n hx hb dX11_query_76 rfl (lv_at hl.1 1 rfl) ?_
      refine lv_imul hx hb dX11_query_77 ?_
      refine lv_iload_n hx hb dX11_query_78 rfl (lv_at hl.1 2 rfl) ?_
      refine lv_iadd hx hb dX11_query_79 ?_
      refine lv_aload_n hx hb dX11_query_80 rfl (lv_at hl.1 0 rfl) ?_
      refine vg_getR X hH fF_X11_7 dX11_query_81 hf (fun x16 hf => ?_)
      refine lv_iload_n hx hb dX11_query_84 rfl (lv_at hl.1 2 rfl) ?_
      obtain ⟨a17, h9, hg⟩ := vg_o_inv hf
      clear hf
      subst h9
      have hf := hg
      clear hg
      refine vg_bald X hH dX11_query_85 hf (fun x18 hf => ?_)
      obtain ⟨a19, h9, hg⟩ := vg_o_inv hf
      clear hf
      subst h9
      have hf := hg
      clear hg
      refine vg_bast X hH hL dX11_query_86 hf (fun μ20 H locs hf hH hL => ?_)
      refine vg_iinc (v := v2 + 1) (lv' := [(2, .int (v2 + 1)), (0, .ref v0), (1, .int v1)]) hx hb dX11_query_87 hl (k := 2) rfl rfl (by decide) rfl (fun ls hl => ?_)
      refine lv_goto (tgt := 62) hx hb dX11_query_90 (by decide) ?_
      exact hk62 v0 v1 (v2 + 1) μ20 _ _ _ _ _ _ _ hf hH hL hC hN (hl.sub [1, 2, 0] rfl)
def fX11_query_33  (v0 : Nat) (k0 : Nat) (k1 : Int32) (μ : vg_M) : vg_R Int32 :=
  vg_o (vg_p μ k0 14 0 (.int k1)) fun μ2 =>
  vg_o (vg_gI μ2 v0 14 0) fun x3 =>
  if x3 = 0 then (
   vg_o (vg_gI μ2 v0 14 15) fun x4 =>
   vg_o (vg_gR μ2 v0 14 16) fun x5 =>
   vg_o (vg_gI μ2 v0 14 2) fun x6 =>
   vg_o x5 fun a7 =>
   vg_o (vg_sI μ2 a7 2 x4 x6) fun μ8 =>
   fX11_query_62  vg_fuel v0 x4 0 μ8
   ) else (
   fX11_query_110  v0 0 μ2
   )
set_option maxHeartbeats 4000000 in
set_option maxRecDepth 100000 in
theorem wX11_query_33 {p : Program} {l : Launch} {e : Env} {R : Room} {s : State} {m : MethodId} {args : Array Value} {below : List Frame} {meth : Method} {c : Code} {D : va_G} {cy : Nat → ClassId} {H0 : Heap} {C0 N0 : Nat} {r : Int32} {μ' : vg_M} (Z : vg_Z D cy H0 p s m args c cX11_query RX11 meth 3 (some .int) R 14 C0 N0 "query")   (v0 : Nat) (k0 : Nat) (k1 : Int32) (μ : vg_M) : vg_S p l e R s m args below meth c D cy H0 C0 N0 3 (MQ below (vg_Qc D cy H0 μ' (some (.int r))) args s C0 N0 (vg_fr H0)) r μ' (fX11_query_33  v0 k0 k1 μ) μ [(0, .ref v0)] [.int k1, .ref k0] 33 := by
  intro cn nn H locs cells slots ls hf hH hL hC hN hl
  obtain ⟨X, hml, hr, hlk, hfr, hlo, hRc, hRs, hnm⟩ := id Z
  have hx := X.1
  have hb := X.2.1
  delta fX11_query_33 at hf
  refine vg_putV X hH hL fF_X11_103 rfl rfl dX11_query_33 hf (fun μ2 H locs hf hH hL => ?_)
  refine lv_iconst (v := 0) hx hb dX11_query_36 (by decide) ?_
  refine vg_istore_n (lv' := [(1, .int 0), (0, .ref v0)]) hx hb dX11_query_37 rfl hl (by decide) rfl (fun ls hl => ?_)
  refine lv_aload_n hx hb dX11_query_38 rfl (lv_at hl.1 1 rfl) ?_
  refine vg_getI X hH fF_X11_103 dX11_query_39 hf (fun x3 hf => ?_)
  refine lv_if_ne (tgt := 110) hx hb dX11_query_42 (by decide) (fun h8 => ?_) (fun h8 => ?_)
  · have hf := vg_if h8 hf
    exact wX11_query_110 Z  v0 0 μ2 _ _ _ _ _ _ _ hf hH hL hC hN (hl.sub [1, 0] rfl)
  · have hf := vg_ip h8 hf
    refine lv_aload_n hx hb dX11_query_45 rfl (lv_at hl.1 1 rfl) ?_
    refine vg_getI X hH fF_X11_159 dX11_query_46 hf (fun x4 hf => ?_)
    refine vg_istore_n (lv' := [(1, .int x4), (0, .ref v0)]) hx hb dX11_query_49 rfl hl (by decide) rfl (fun ls hl => ?_)
    refine lv_aload_n hx hb dX11_query_50 rfl (lv_at hl.1 1 rfl) ?_
    refine vg_getR X hH fF_X11_42 dX11_query_51 hf (fun x5 hf => ?_)
    refine lv_iload_n hx hb dX11_query_54 rfl (lv_at hl.1 0 rfl) ?_
    refine lv_aload_n hx hb dX11_query_55 rfl (lv_at hl.1 1 rfl) ?_
    refine vg_getI X hH fF_X11_106 dX11_query_56 hf (fun x6 hf => ?_)
    obtain ⟨a7, h9, hg⟩ := vg_o_inv hf
    clear hf
    subst h9
    have hf := hg
    clear hg
    refine vg_iast X hH hL dX11_query_59 hf (fun μ8 H locs hf hH hL => ?_)
    refine lv_iconst (v := 0) hx hb dX11_query_60 (by decide) ?_
    refine vg_istore_n (lv' := [(2, .int 0), (1, .int x4), (0, .ref v0)]) hx hb dX11_query_61 rfl hl (by decide) rfl (fun ls hl => ?_)
    exact wX11_query_62 Z  vg_fuel v0 x4 0 μ8 _ _ _ _ _ _ _ hf hH hL hC hN (hl.sub [2, 1, 0] rfl)
def fX11_query_19  (v0 : Nat) (k0 : Nat) (μ : vg_M) : vg_R Int32 :=
  vg_o (vg_gI μ v0 14 15) fun x1 =>
  if x1 = 6 then (
   fX11_query_33  v0 k0 2 μ
   ) else (
   fX11_query_33  v0 k0 0 μ
   )
set_option maxHeartbeats 4000000 in
set_option maxRecDepth 100000 in
theorem wX11_query_19 {p : Program} {l : Launch} {e : Env} {R : Room} {s : State} {m : MethodId} {args : Array Value} {below : List Frame} {meth : Method} {c : Code} {D : va_G} {cy : Nat → ClassId} {H0 : Heap} {C0 N0 : Nat} {r : Int32} {μ' : vg_M} (Z : vg_Z D cy H0 p s m args c cX11_query RX11 meth 3 (some .int) R 14 C0 N0 "query")   (v0 : Nat) (k0 : Nat) (μ : vg_M) : vg_S p l e R s m args below meth c D cy H0 C0 N0 3 (MQ below (vg_Qc D cy H0 μ' (some (.int r))) args s C0 N0 (vg_fr H0)) r μ' (fX11_query_19  v0 k0 μ) μ [(0, .ref v0)] [.ref k0] 19 := by
  intro cn nn H locs cells slots ls hf hH hL hC hN hl
  obtain ⟨X, hml, hr, hlk, hfr, hlo, hRc, hRs, hnm⟩ := id Z
  have hx := X.1
  have hb := X.2.1
  delta fX11_query_19 at hf
  refine lv_aload_n hx hb dX11_query_19 rfl (lv_at hl.1 0 rfl) ?_
  refine vg_getI X hH fF_X11_159 dX11_query_20 hf (fun x1 hf => ?_)
  refine lv_bipush (v := 6) hx hb dX11_query_23 (by decide) ?_
  refine lv_icmp_ne (tgt := 32) hx hb dX11_query_25 (by decide) (fun h8 => ?_) (fun h8 => ?_)
  · have hf := vg_if h8 hf
    refine lv_iconst (v := 0) hx hb dX11_query_32 (by decide) ?_
    exact wX11_query_33 Z  v0 k0 0 μ _ _ _ _ _ _ _ hf hH hL hC hN (hl.sub [0] rfl)
  · have hf := vg_ip h8 hf
    refine lv_iconst (v := 2) hx hb dX11_query_28 (by decide) ?_
    refine lv_goto (tgt := 33) hx hb dX11_query_29 (by decide) ?_
    exact wX11_query_33 Z  v0 k0 2 μ _ _ _ _ _ _ _ hf hH hL hC hN (hl.sub [0] rfl)
def fX11_query (v0 : Nat) (μ : vg_M) : vg_R Int32 :=
  vg_o (vg_gI μ v0 14 2) fun x22 =>
  if x22 ≤ 0 then (
   fX11_query_19  v0 v0 μ
   ) else (
   vg_cv 14 v0 μ (fX11_isPath v0  μ) fun x23 μ24 =>
   if x23 = 0 then (
    fX11_query_33  v0 v0 1 μ24
    ) else (
    fX11_query_19  v0 v0 μ24
    )
   )
set_option maxHeartbeats 4000000 in
set_option maxRecDepth 100000 in
theorem cX11_query_met {l : Launch} {D : va_G} {cy : Nat → ClassId} {H0 : Heap} {r : Int32} {μ μ' : vg_M} {cn nn : Nat} {v0 : Nat} (hf : fX11_query v0 μ = some (r, μ', cn, nn)) : vg_Met l D cy H0 yX11_query cX11_query 3 (some .int) 14 μ [.ref v0] (some (.int r)) μ' cn nn := by
  refine vg_start (by decide +kernel) (List.forall_mem_cons.mpr ⟨rfl, (fun _ h => nomatch h)⟩) (Nat.le_of_ble_eq_true rfl) ?_
  intro p e s m below meth c ls X hml hr hlk hnm hH hl
  have hl : vg_l ls 3 [(0, .ref v0)] := hl
  have Z : vg_Z D cy H0 p s m _ c cX11_query RX11 meth 3 (some .int) (vg_rm 14 cn nn) 14 cn nn _ := ⟨X, hml, hr, hlk, Nat.le_refl _, Nat.le_refl _, Nat.le_refl _, Nat.le_refl _, hnm⟩
  obtain ⟨-, -, -, -, hfr, hlo, hRc, hRs, -⟩ := id Z
  have hx := X.1
  have hb := X.2.1
  have hL : ∀ z ∈ ([] : List Loc), H0.size ≤ z.base := fun _ h => nomatch h
  have hC : 0 + cn = cn := Nat.zero_add _
  have hN : 0 + nn = nn := Nat.zero_add _
  delta fX11_query at hf
  refine lv_aload_n hx hb dX11_query_0 rfl (lv_at hl.1 0 rfl) ?_
  refine lv_aload_n hx hb dX11_query_1 rfl (lv_at hl.1 0 rfl) ?_
  refine vg_getI X hH fF_X11_106 dX11_query_2 hf (fun x22 hf => ?_)
  refine lv_if_le (tgt := 19) hx hb dX11_query_5 (by decide) (fun h8 => ?_) (fun h8 => ?_)
  · have hf := vg_ip h8 hf
    exact wX11_query_19 Z  v0 v0 μ _ _ _ _ _ _ _ hf hH hL hC hN (hl.sub [0] rfl)
  · have hf := vg_if h8 hf
    refine lv_aload_n hx hb dX11_query_8 rfl (lv_at hl.1 0 rfl) ?_
    refine vg_callVi (ci := 14) X hml hl hH hL fCV_X11_134 rfl [] rfl rfl (Nat.le_of_ble_eq_true rfl) dX11_query_9 hf hC hN hRc hRs hfr hlo (by decide) (fun _ _ _ _ h => cX11_isPath_met h) (fun x23 μ24 cn nn H locs cells slots hf hC hN hH hL => ?_)
    refine lv_if_ne (tgt := 19) hx hb dX11_query_12 (by decide) (fun h8 => ?_) (fun h8 => ?_)
    · have hf := vg_if h8 hf
      exact wX11_query_19 Z  v0 v0 μ24 _ _ _ _ _ _ _ hf hH hL hC hN (hl.sub [0] rfl)
    · have hf := vg_ip h8 hf
      refine lv_iconst (v := 1) hx hb dX11_query_15 (by decide) ?_
      refine lv_goto (tgt := 33) hx hb dX11_query_16 (by decide) ?_
      exact wX11_query_33 Z  v0 v0 1 μ24 _ _ _ _ _ _ _ hf hH hL hC hN (hl.sub [0] rfl)
def fX11_remove_57  (v0 : Nat) (v1 : Int32) (μ : vg_M) : vg_R Int32 :=
  vg_o (vg_p μ v0 14 2 (.int 0)) fun μ1 =>
  vg_ret v1 μ1
set_option maxHeartbeats 4000000 in
set_option maxRecDepth 100000 in
theorem wX11_remove_57 {p : Program} {l : Launch} {e : Env} {R : Room} {s : State} {m : MethodId} {args : Array Value} {below : List Frame} {meth : Method} {c : Code} {D : va_G} {cy : Nat → ClassId} {H0 : Heap} {C0 N0 : Nat} {r : Int32} {μ' : vg_M} (Z : vg_Z D cy H0 p s m args c cX11_remove RX11 meth 3 (some .int) R 15 C0 N0 "remove")   (v0 : Nat) (v1 : Int32) (μ : vg_M) : vg_S p l e R s m args below meth c D cy H0 C0 N0 3 (MQ below (vg_Qc D cy H0 μ' (some (.int r))) args s C0 N0 (vg_fr H0)) r μ' (fX11_remove_57  v0 v1 μ) μ [(0, .ref v0), (1, .int v1)] [] 57 := by
  intro cn nn H locs cells slots ls hf hH hL hC hN hl
  obtain ⟨X, hml, hr, hlk, hfr, hlo, hRc, hRs, hnm⟩ := id Z
  have hx := X.1
  have hb := X.2.1
  delta fX11_remove_57 at hf
  refine lv_aload_n hx hb dX11_remove_57 rfl (lv_at hl.1 0 rfl) ?_
  refine lv_iconst (v := 0) hx hb dX11_remove_58 (by decide) ?_
  refine vg_putV X hH hL fF_X11_106 rfl rfl dX11_remove_59 hf (fun μ1 H locs hf hH hL => ?_)
  refine lv_iload_n hx hb dX11_remove_62 rfl (lv_at hl.1 1 rfl) ?_
  exact vg_reti X hr hlk hH hL dX11_remove_63 hf hC hN
def fX11_remove (v0 : Nat) (μ : vg_M) : vg_R Int32 :=
  vg_cv 14 v0 μ (fX11_takes v0  μ) fun x2 μ3 =>
  if x2 = 0 then (
   fX11_remove_57  v0 0 μ3
   ) else (
   vg_cv 14 v0 μ3 (fX11_go v0  μ3) fun x4 μ5 =>
   vg_o (vg_gI μ5 v0 14 36) fun x6 =>
   vg_o (vg_gI μ5 v0 14 3) fun x7 =>
   if x7 ≤ x6 then (
    vg_o (vg_gR μ5 v0 14 7) fun x8 =>
    vg_o x8 fun a9 =>
    vg_o (vg_aI μ5 a9 2 x4) fun x10 =>
    vg_cv 14 v0 μ5 (fX11_touch v0 x10 μ5) fun _ μ12 =>
    vg_o (vg_gR μ12 v0 14 6) fun x13 =>
    vg_o x13 fun a14 =>
    vg_o (vg_sI μ12 a14 2 x4 0) fun μ15 =>
    vg_cv 14 v0 μ15 (fX11_orphans v0  μ15) fun x16 μ17 =>
    fX11_remove_57  v0 (1 + x16) μ17
    ) else (
    vg_o (vg_p μ5 v0 14 0 (.int 2)) fun μ18 =>
    fX11_remove_57  v0 0 μ18
    )
   )
set_option maxHeartbeats 4000000 in
set_option maxRecDepth 100000 in
theorem cX11_remove_met {l : Launch} {D : va_G} {cy : Nat → ClassId} {H0 : Heap} {r : Int32} {μ μ' : vg_M} {cn nn : Nat} {v0 : Nat} (hf : fX11_remove v0 μ = some (r, μ', cn, nn)) : vg_Met l D cy H0 yX11_remove cX11_remove 3 (some .int) 15 μ [.ref v0] (some (.int r)) μ' cn nn := by
  refine vg_start (by decide +kernel) (List.forall_mem_cons.mpr ⟨rfl, (fun _ h => nomatch h)⟩) (Nat.le_of_ble_eq_true rfl) ?_
  intro p e s m below meth c ls X hml hr hlk hnm hH hl
  have hl : vg_l ls 3 [(0, .ref v0)] := hl
  have Z : vg_Z D cy H0 p s m _ c cX11_remove RX11 meth 3 (some .int) (vg_rm 15 cn nn) 15 cn nn _ := ⟨X, hml, hr, hlk, Nat.le_refl _, Nat.le_refl _, Nat.le_refl _, Nat.le_refl _, hnm⟩
  obtain ⟨-, -, -, -, hfr, hlo, hRc, hRs, -⟩ := id Z
  have hx := X.1
  have hb := X.2.1
  have hL : ∀ z ∈ ([] : List Loc), H0.size ≤ z.base := fun _ h => nomatch h
  have hC : 0 + cn = cn := Nat.zero_add _
  have hN : 0 + nn = nn := Nat.zero_add _
  delta fX11_remove at hf
  refine lv_iconst (v := 0) hx hb dX11_remove_0 (by decide) ?_
  refine vg_istore_n (lv' := [(1, .int 0), (0, .ref v0)]) hx hb dX11_remove_1 rfl hl (by decide) rfl (fun ls hl => ?_)
  refine lv_aload_n hx hb dX11_remove_2 rfl (lv_at hl.1 1 rfl) ?_
  refine vg_callVi (ci := 14) X hml hl hH hL fCV_X11_138 rfl [] rfl rfl (Nat.le_of_ble_eq_true rfl) dX11_remove_3 hf hC hN hRc hRs hfr hlo (by decide) (fun _ _ _ _ h => cX11_takes_met h) (fun x2 μ3 cn nn H locs cells slots hf hC hN hH hL => ?_)
  refine lv_if_eq (tgt := 57) hx hb dX11_remove_6 (by decide) (fun h8 => ?_) (fun h8 => ?_)
  · have hf := vg_ip h8 hf
    exact wX11_remove_57 Z  v0 0 μ3 _ _ _ _ _ _ _ hf hH hL hC hN (hl.sub [1, 0] rfl)
  · have hf := vg_if h8 hf
    refine lv_aload_n hx hb dX11_remove_9 rfl (lv_at hl.1 1 rfl) ?_
    refine vg_callVi (ci := 14) X hml hl hH hL fCV_X11_141 rfl [] rfl rfl (Nat.le_of_ble_eq_true rfl) dX11_remove_10 hf hC hN hRc hRs hfr hlo (by decide) (fun _ _ _ _ h => cX11_go_met h) (fun x4 μ5 cn nn H locs cells slots hf hC hN hH hL => ?_)
    refine vg_istore_n (lv' := [(2, .int x4), (1, .int 0), (0, .ref v0)]) hx hb dX11_remove_13 rfl hl (by decide) rfl (fun ls hl => ?_)
    refine lv_aload_n hx hb dX11_remove_14 rfl (lv_at hl.1 2 rfl) ?_
    refine vg_getI X hH fF_X11_120 dX11_remove_15 hf (fun x6 hf => ?_)
    refine lv_aload_n hx hb dX11_remove_18 rfl (lv_at hl.1 2 rfl) ?_
    refine vg_getI X hH fF_X11_109 dX11_remove_19 hf (fun x7 hf => ?_)
    refine lv_icmp_ge (tgt := 33) hx hb dX11_remove_22 (by decide) (fun h8 => ?_) (fun h8 => ?_)
    · have hf := vg_ip h8 hf
      refine lv_aload_n hx hb dX11_remove_33 rfl (lv_at hl.1 2 rfl) ?_
      refine lv_aload_n hx hb dX11_remove_34 rfl (lv_at hl.1 2 rfl) ?_
      refine vg_getR X hH fF_X11_23 dX11_remove_35 hf (fun x8 hf => ?_)
      refine lv_iload_n hx hb dX11_remove_38 rfl (lv_at hl.1 0 rfl) ?_
      obtain ⟨a9, h9, hg⟩ := vg_o_inv hf
      clear hf
      subst h9
      have hf := hg
      clear hg
      refine vg_iald X hH dX11_remove_39 hf (fun x10 hf => ?_)
      refine vg_callVv (ci := 14) X hml hl hH hL fCV_X11_130 rfl [.int x10] rfl rfl (Nat.le_of_ble_eq_true rfl) dX11_remove_40 hf hC hN hRc hRs hfr hlo (by decide) (fun _ _ _ _ h => cX11_touch_met h) (fun _ μ12 cn nn H locs cells slots hf hC hN hH hL => ?_)
      refine lv_aload_n hx hb dX11_remove_43 rfl (lv_at hl.1 2 rfl) ?_
      refine vg_getR X hH fF_X11_20 dX11_remove_44 hf (fun x13 hf => ?_)
      refine lv_iload_n hx hb dX11_remove_47 rfl (lv_at hl.1 0 rfl) ?_
      refine lv_iconst (v := 0) hx hb dX11_remove_48 (by decide) ?_
      obtain ⟨a14, h9, hg⟩ := vg_o_inv hf
      clear hf
      subst h9
      have hf := hg
      clear hg
      refine vg_iast X hH hL dX11_remove_49 hf (fun μ15 H locs hf hH hL => ?_)
      refine lv_iconst (v := 1) hx hb dX11_remove_50 (by decide) ?_
      refine lv_aload_n hx hb dX11_remove_51 rfl (lv_at hl.1 2 rfl) ?_
      refine vg_callVi (ci := 14) X hml hl hH hL fCV_X11_156 rfl [] rfl rfl (Nat.le_of_ble_eq_true rfl) dX11_remove_52 hf hC hN hRc hRs hfr hlo (by decide) (fun _ _ _ _ h => cX11_orphans_met h) (fun x16 μ17 cn nn H locs cells slots hf hC hN hH hL => ?_)
      refine lv_iadd hx hb dX11_remove_55 ?_
      refine vg_istore_n (lv' := [(1, .int (1 + x16)), (2, .int x4), (0, .ref v0)]) hx hb dX11_remove_56 rfl hl (by decide) rfl (fun ls hl => ?_)
      exact wX11_remove_57 Z  v0 (1 + x16) μ17 _ _ _ _ _ _ _ hf hH hL hC hN (hl.sub [2, 0] rfl)
    · have hf := vg_if h8 hf
      refine lv_aload_n hx hb dX11_remove_25 rfl (lv_at hl.1 2 rfl) ?_
      refine lv_iconst (v := 2) hx hb dX11_remove_26 (by decide) ?_
      refine vg_putV X hH hL fF_X11_103 rfl rfl dX11_remove_27 hf (fun μ18 H locs hf hH hL => ?_)
      refine lv_goto (tgt := 57) hx hb dX11_remove_30 (by decide) ?_
      exact wX11_remove_57 Z  v0 0 μ18 _ _ _ _ _ _ _ hf hH hL hC hN (hl.sub [2, 1] rfl)
def fX11_thrown (v0 : Nat) (μ : vg_M) : vg_R Int32 :=
  vg_o (vg_gI μ v0 14 0) fun x1 =>
  vg_ret x1 μ
set_option maxHeartbeats 4000000 in
set_option maxRecDepth 100000 in
theorem cX11_thrown_met {l : Launch} {D : va_G} {cy : Nat → ClassId} {H0 : Heap} {r : Int32} {μ μ' : vg_M} {cn nn : Nat} {v0 : Nat} (hf : fX11_thrown v0 μ = some (r, μ', cn, nn)) : vg_Met l D cy H0 yX11_thrown cX11_thrown 1 (some .int) 12 μ [.ref v0] (some (.int r)) μ' cn nn := by
  refine vg_start (by decide +kernel) (List.forall_mem_cons.mpr ⟨rfl, (fun _ h => nomatch h)⟩) (Nat.le_of_ble_eq_true rfl) ?_
  intro p e s m below meth c ls X hml hr hlk hnm hH hl
  have hl : vg_l ls 1 [(0, .ref v0)] := hl
  have Z : vg_Z D cy H0 p s m _ c cX11_thrown RX11 meth 1 (some .int) (vg_rm 12 cn nn) 12 cn nn _ := ⟨X, hml, hr, hlk, Nat.le_refl _, Nat.le_refl _, Nat.le_refl _, Nat.le_refl _, hnm⟩
  obtain ⟨-, -, -, -, hfr, hlo, hRc, hRs, -⟩ := id Z
  have hx := X.1
  have hb := X.2.1
  have hL : ∀ z ∈ ([] : List Loc), H0.size ≤ z.base := fun _ h => nomatch h
  have hC : 0 + cn = cn := Nat.zero_add _
  have hN : 0 + nn = nn := Nat.zero_add _
  delta fX11_thrown at hf
  refine lv_aload_n hx hb dX11_thrown_0 rfl (lv_at hl.1 0 rfl) ?_
  refine vg_getI X hH fF_X11_103 dX11_thrown_1 hf (fun x1 hf => ?_)
  exact vg_reti X hr hlk hH hL dX11_thrown_4 hf hC hN
def fX11_type_26   (μ : vg_M) : vg_R Int32 :=
  vg_o (vg_z .boolean 0) fun z => vg_ret z μ
set_option maxHeartbeats 4000000 in
set_option maxRecDepth 100000 in
theorem wX11_type_26 {p : Program} {l : Launch} {e : Env} {R : Room} {s : State} {m : MethodId} {args : Array Value} {below : List Frame} {meth : Method} {c : Code} {D : va_G} {cy : Nat → ClassId} {H0 : Heap} {C0 N0 : Nat} {r : Int32} {μ' : vg_M} (Z : vg_Z D cy H0 p s m args c cX11_type RX11 meth 2 (some .boolean) R 12 C0 N0 "type")    (μ : vg_M) : vg_S p l e R s m args below meth c D cy H0 C0 N0 2 (MQ below (vg_Qc D cy H0 μ' (some (.int r))) args s C0 N0 (vg_fr H0)) r μ' (fX11_type_26   μ) μ [] [] 26 := by
  intro cn nn H locs cells slots ls hf hH hL hC hN hl
  obtain ⟨X, hml, hr, hlk, hfr, hlo, hRc, hRs, hnm⟩ := id Z
  have hx := X.1
  have hb := X.2.1
  delta fX11_type_26 at hf
  refine lv_iconst (v := 0) hx hb dX11_type_26 (by decide) ?_
  exact vg_retz X (by simp) hr hlk hH hL dX11_type_27 hf hC hN
def fX11_type (v0 : Nat) (v1 : Int32) (μ : vg_M) : vg_R Int32 :=
  vg_o (vg_p μ v0 14 0 (.int 0)) fun μ1 =>
  if v1 < 32 then (
   fX11_type_26   μ1
   ) else (
   if 126 < v1 then (
    fX11_type_26   μ1
    ) else (
    vg_o (vg_gI μ1 v0 14 2) fun x2 =>
    if x2 = 60 then (
     fX11_type_26   μ1
     ) else (
     vg_o (vg_gR μ1 v0 14 1) fun x3 =>
     vg_o (vg_gI μ1 v0 14 2) fun x4 =>
     vg_o x3 fun a5 =>
     vg_o (vg_sI μ1 a5 0 x4 v1.toInt8.toInt32) fun μ6 =>
     vg_o (vg_gI μ6 v0 14 2) fun x7 =>
     vg_o (vg_p μ6 v0 14 2 (.int (x7 + 1))) fun μ8 =>
     vg_o (vg_z .boolean 1) fun z => vg_ret z μ8
     )
    )
   )
set_option maxHeartbeats 4000000 in
set_option maxRecDepth 100000 in
theorem cX11_type_met {l : Launch} {D : va_G} {cy : Nat → ClassId} {H0 : Heap} {r : Int32} {μ μ' : vg_M} {cn nn : Nat} {v0 : Nat} {v1 : Int32} (hf : fX11_type v0 v1 μ = some (r, μ', cn, nn)) : vg_Met l D cy H0 yX11_type cX11_type 2 (some .boolean) 12 μ [.ref v0, .int v1] (some (.int r)) μ' cn nn := by
  refine vg_start (by decide +kernel) (List.forall_mem_cons.mpr ⟨rfl, (List.forall_mem_cons.mpr ⟨rfl, (fun _ h => nomatch h)⟩)⟩) (Nat.le_of_ble_eq_true rfl) ?_
  intro p e s m below meth c ls X hml hr hlk hnm hH hl
  have hl : vg_l ls 2 [(0, .ref v0), (1, .int v1)] := hl
  have Z : vg_Z D cy H0 p s m _ c cX11_type RX11 meth 2 (some .boolean) (vg_rm 12 cn nn) 12 cn nn _ := ⟨X, hml, hr, hlk, Nat.le_refl _, Nat.le_refl _, Nat.le_refl _, Nat.le_refl _, hnm⟩
  obtain ⟨-, -, -, -, hfr, hlo, hRc, hRs, -⟩ := id Z
  have hx := X.1
  have hb := X.2.1
  have hL : ∀ z ∈ ([] : List Loc), H0.size ≤ z.base := fun _ h => nomatch h
  have hC : 0 + cn = cn := Nat.zero_add _
  have hN : 0 + nn = nn := Nat.zero_add _
  delta fX11_type at hf
  refine lv_aload_n hx hb dX11_type_0 rfl (lv_at hl.1 0 rfl) ?_
  refine lv_iconst (v := 0) hx hb dX11_type_1 (by decide) ?_
  refine vg_putV X hH hL fF_X11_103 rfl rfl dX11_type_2 hf (fun μ1 H locs hf hH hL => ?_)
  refine lv_iload_n hx hb dX11_type_5 rfl (lv_at hl.1 1 rfl) ?_
  refine lv_bipush (v := 32) hx hb dX11_type_6 (by decide) ?_
  refine lv_icmp_lt (tgt := 26) hx hb dX11_type_8 (by decide) (fun h8 => ?_) (fun h8 => ?_)
  · have hf := vg_ip h8 hf
    exact wX11_type_26 Z   μ1 _ _ _ _ _ _ _ hf hH hL hC hN (hl.sub [] rfl)
  · have hf := vg_if h8 hf
    refine lv_iload_n hx hb dX11_type_11 rfl (lv_at hl.1 1 rfl) ?_
    refine lv_bipush (v := 126) hx hb dX11_type_12 (by decide) ?_
    refine lv_icmp_gt (tgt := 26) hx hb dX11_type_14 (by decide) (fun h8 => ?_) (fun h8 => ?_)
    · have hf := vg_ip h8 hf
      exact wX11_type_26 Z   μ1 _ _ _ _ _ _ _ hf hH hL hC hN (hl.sub [] rfl)
    · have hf := vg_if h8 hf
      refine lv_aload_n hx hb dX11_type_17 rfl (lv_at hl.1 0 rfl) ?_
      refine vg_getI X hH fF_X11_106 dX11_type_18 hf (fun x2 hf => ?_)
      refine lv_bipush (v := 60) hx hb dX11_type_21 (by decide) ?_
      refine lv_icmp_ne (tgt := 28) hx hb dX11_type_23 (by decide) (fun h8 => ?_) (fun h8 => ?_)
      · have hf := vg_if h8 hf
        refine lv_aload_n hx hb dX11_type_28 rfl (lv_at hl.1 0 rfl) ?_
        refine vg_getR X hH fF_X11_7 dX11_type_29 hf (fun x3 hf => ?_)
        refine lv_aload_n hx hb dX11_type_32 rfl (lv_at hl.1 0 rfl) ?_
        refine vg_getI X hH fF_X11_106 dX11_type_33 hf (fun x4 hf => ?_)
        refine lv_iload_n hx hb dX11_type_36 rfl (lv_at hl.1 1 rfl) ?_
        refine lv_i2b hx hb dX11_type_37 rfl ?_
        obtain ⟨a5, h9, hg⟩ := vg_o_inv hf
        clear hf
        subst h9
        have hf := hg
        clear hg
        refine vg_bast X hH hL dX11_type_38 hf (fun μ6 H locs hf hH hL => ?_)
        refine lv_aload_n hx hb dX11_type_39 rfl (lv_at hl.1 0 rfl) ?_
        refine lv_dup hx hb dX11_type_40 rfl ?_
        refine vg_getI X hH fF_X11_106 dX11_type_41 hf (fun x7 hf => ?_)
        refine lv_iconst (v := 1) hx hb dX11_type_44 (by decide) ?_
        refine lv_iadd hx hb dX11_type_45 ?_
        refine vg_putV X hH hL fF_X11_106 rfl rfl dX11_type_46 hf (fun μ8 H locs hf hH hL => ?_)
        refine lv_iconst (v := 1) hx hb dX11_type_49 (by decide) ?_
        exact vg_retz X (by simp) hr hlk hH hL dX11_type_50 hf hC hN
      · have hf := vg_ip h8 hf
        exact wX11_type_26 Z   μ1 _ _ _ _ _ _ _ hf hH hL hC hN (hl.sub [] rfl)
