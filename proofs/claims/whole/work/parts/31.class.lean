def fX0_add_18   (μ : vg_M) : vg_R Unit :=
  vg_ret () μ
set_option maxHeartbeats 4000000 in
set_option maxRecDepth 100000 in
theorem wX0_add_18 {p : Program} {l : Launch} {e : Env} {R : Room} {s : State} {m : MethodId} {args : Array Value} {below : List Frame} {meth : Method} {c : Code} {D : va_G} {cy : Nat → ClassId} {H0 : Heap} {C0 N0 : Nat} {r : Unit} {μ' : vg_M} (Z : vg_Z D cy H0 p s m args c cX0_add RX0 meth 3 none R 16 C0 N0 "add")    (μ : vg_M) : vg_S p l e R s m args below meth c D cy H0 C0 N0 3 (MQ below (vg_Qc D cy H0 μ' none) args s C0 N0 (vg_fr H0)) r μ' (fX0_add_18   μ) μ [] [] 18 := by
  intro cn nn H locs cells slots ls hf hH hL hC hN hl
  obtain ⟨X, hml, hr, hlk, hfr, hlo, hRc, hRs, hnm⟩ := id Z
  have hx := X.1
  have hb := X.2.1
  delta fX0_add_18 at hf
  exact vg_retv X hr hlk hH hL dX0_add_18 hf hC hN
def fX0_add_21  : Nat → Nat → Option Nat → Int32 → vg_M → vg_R Unit
  | 0, _, _, _, _ => none
  | n + 1, v0, v1, v2, μ =>
    vg_o v1 fun a1 =>
    vg_cv 1 a1 μ (fJ4_length_8abf5 a1  μ) fun x2 μ3 =>
    if x2 ≤ v2 then (
     vg_o (vg_gR μ3 v0 3 3) fun x4 =>
     vg_o (vg_gI μ3 v0 3 0) fun x5 =>
     vg_cv 1 a1 μ3 (fJ4_length_8abf5 a1  μ3) fun x6 μ7 =>
     vg_o x4 fun a8 =>
     vg_o (vg_sI μ7 a8 2 x5 x6) fun μ9 =>
     vg_o (vg_gI μ9 v0 3 0) fun x10 =>
     vg_o (vg_p μ9 v0 3 0 (.int (x10 + 1))) fun μ11 =>
     vg_ret () μ11
     ) else (
     vg_o (vg_gR μ3 v0 3 2) fun x12 =>
     vg_o (vg_gI μ3 v0 3 0) fun x13 =>
     vg_cv 1 a1 μ3 (fJ4_charAt_5068e a1 v2 μ3) fun x14 μ15 =>
     vg_o x12 fun a16 =>
     vg_o (vg_sI μ15 a16 1 ((x13 * 53) + v2) x14) fun μ17 =>
     (fX0_add_21  n) v0 (some a1) (v2 + 1) μ17
     )
set_option maxHeartbeats 4000000 in
set_option maxRecDepth 100000 in
theorem wX0_add_21 {p : Program} {l : Launch} {e : Env} {R : Room} {s : State} {m : MethodId} {args : Array Value} {below : List Frame} {meth : Method} {c : Code} {D : va_G} {cy : Nat → ClassId} {H0 : Heap} {C0 N0 : Nat} {r : Unit} {μ' : vg_M} (Z : vg_Z D cy H0 p s m args c cX0_add RX0 meth 3 none R 16 C0 N0 "add")   : ∀ (n : Nat) (v0 : Nat) (v1 : Option Nat) (v2 : Int32) (μ : vg_M), vg_S p l e R s m args below meth c D cy H0 C0 N0 3 (MQ below (vg_Qc D cy H0 μ' none) args s C0 N0 (vg_fr H0)) r μ' (fX0_add_21  n v0 v1 v2 μ) μ [(0, .ref v0), (1, va_rf v1), (2, .int v2)] [] 21 := by
  intro n
  induction n with
  | zero =>
    intro v0 v1 v2 μ cn nn H locs cells slots ls hf
    simp [fX0_add_21] at hf
  | succ n hk21 =>
    intro v0 v1 v2 μ
    intro cn nn H locs cells slots ls hf hH hL hC hN hl
    obtain ⟨X, hml, hr, hlk, hfr, hlo, hRc, hRs, hnm⟩ := id Z
    have hx := X.1
    have hb := X.2.1
    rw [fX0_add_21] at hf
    refine lv_iload_n hx hb dX0_add_21 rfl (lv_at hl.1 2 rfl) ?_
    refine vg_aload_n hx hb dX0_add_22 rfl (lv_at hl.1 1 rfl) ?_
    obtain ⟨a1, h9, hg⟩ := vg_o_inv hf
    clear hf
    subst h9
    have hf := hg
    clear hg
    refine vg_callVi (ci := 1) X hml hl hH hL fCV_X0_26 rfl [] rfl rfl (Nat.le_of_ble_eq_true rfl) dX0_add_23 hf hC hN hRc hRs hfr hlo (by decide) (fun _ _ _ _ h => cJ4_length_8abf5_met h) (fun x2 μ3 cn nn H locs cells slots hf hC hN hH hL => ?_)
    refine lv_icmp_ge (tgt := 54) hx hb dX0_add_26 (by decide) (fun h8 => ?_) (fun h8 => ?_)
    · have hf := vg_ip h8 hf
      refine lv_aload_n hx hb dX0_add_54 rfl (lv_at hl.1 0 rfl) ?_
      refine vg_getR X hH fF_X0_15 dX0_add_55 hf (fun x4 hf => ?_)
      refine lv_aload_n hx hb dX0_add_58 rfl (lv_at hl.1 0 rfl) ?_
      refine vg_getI X hH fF_X0_19 dX0_add_59 hf (fun x5 hf => ?_)
      refine lv_aload_n hx hb dX0_add_62 rfl (lv_at hl.1 1 rfl) ?_
      refine vg_callVi (ci := 1) X hml hl hH hL fCV_X0_26 rfl [] rfl rfl (vg_cs (List.forall_mem_cons.mpr ⟨rfl, (List.forall_mem_cons.mpr ⟨vg_rfc _, (fun _ h => nomatch h)⟩)⟩) (Nat.le_of_ble_eq_true rfl)) dX0_add_63 hf hC hN hRc hRs hfr hlo (by decide) (fun _ _ _ _ h => cJ4_length_8abf5_met h) (fun x6 μ7 cn nn H locs cells slots hf hC hN hH hL => ?_)
      obtain ⟨a8, h9, hg⟩ := vg_o_inv hf
      clear hf
      subst h9
      have hf := hg
      clear hg
      refine vg_iast X hH hL dX0_add_66 hf (fun μ9 H locs hf hH hL => ?_)
      refine lv_aload_n hx hb dX0_add_67 rfl (lv_at hl.1 0 rfl) ?_
      refine lv_dup hx hb dX0_add_68 rfl ?_
      refine vg_getI X hH fF_X0_19 dX0_add_69 hf (fun x10 hf => ?_)
      refine lv_iconst (v := 1) hx hb dX0_add_72 (by decide) ?_
      refine lv_iadd hx hb dX0_add_73 ?_
      refine vg_putV X hH hL fF_X0_19 rfl rfl dX0_add_74 hf (fun μ11 H locs hf hH hL => ?_)
      exact vg_retv X hr hlk hH hL dX0_add_77 hf hC hN
    · have hf := vg_if h8 hf
      refine lv_aload_n hx hb dX0_add_29 rfl (lv_at hl.1 0 rfl) ?_
      refine vg_getR X hH fF_X0_9 dX0_add_30 hf (fun x12 hf => ?_)
      refine lv_aload_n hx hb dX0_add_33 rfl (lv_at hl.1 0 rfl) ?_
      refine vg_getI X hH fF_X0_19 dX0_add_34 hf (fun x13 hf => ?_)
      refine lv_bipush (v := 53) hx hb dX0_add_37 (by decide) ?_
      refine lv_imul hx hb dX0_add_39 ?_
      refine lv_iload_n hx hb dX0_add_40 rfl (lv_at hl.1 2 rfl) ?_
      refine lv_iadd hx hb dX0_add_41 ?_
      refine lv_aload_n hx hb dX0_add_42 rfl (lv_at hl.1 1 rfl) ?_
      refine lv_iload_n hx hb dX0_add_43 rfl (lv_at hl.1 2 rfl) ?_
      refine vg_callVi (ci := 1) X hml hl hH hL fCV_X0_32 rfl [.int v2] rfl rfl (vg_cs (List.forall_mem_cons.mpr ⟨rfl, (List.forall_mem_cons.mpr ⟨vg_rfc _, (fun _ h => nomatch h)⟩)⟩) (Nat.le_of_ble_eq_true rfl)) dX0_add_44 hf hC hN hRc hRs hfr hlo (by decide) (fun _ _ _ _ h => cJ4_charAt_5068e_met h) (fun x14 μ15 cn nn H locs cells slots hf hC hN hH hL => ?_)
      obtain ⟨a16, h9, hg⟩ := vg_o_inv hf
      clear hf
      subst h9
      have hf := hg
      clear hg
      refine vg_cast X hH hL dX0_add_47 hf (fun μ17 H locs hf hH hL => ?_)
      refine vg_iinc (v := v2 + 1) (lv' := [(2, .int (v2 + 1)), (0, .ref v0), (1, .ref a1)]) hx hb dX0_add_48 hl (k := 2) rfl rfl (by decide) rfl (fun ls hl => ?_)
      refine lv_goto (tgt := 21) hx hb dX0_add_51 (by decide) ?_
      exact hk21 v0 (some a1) (v2 + 1) μ17 _ _ _ _ _ _ _ hf hH hL hC hN (hl.sub [1, 2, 0] rfl)
def fX0_add (v0 : Nat) (v1 : Option Nat) (μ : vg_M) : vg_R Unit :=
  vg_o (vg_gI μ v0 3 0) fun x18 =>
  if 60 ≤ x18 then (
   fX0_add_18   μ
   ) else (
   vg_o v1 fun a19 =>
   vg_cv 1 a19 μ (fJ4_length_8abf5 a19  μ) fun x20 μ21 =>
   if x20 ≤ 53 then (
    fX0_add_21  vg_fuel v0 (some a19) 0 μ21
    ) else (
    fX0_add_18   μ21
    )
   )
set_option maxHeartbeats 4000000 in
set_option maxRecDepth 100000 in
theorem cX0_add_met {l : Launch} {D : va_G} {cy : Nat → ClassId} {H0 : Heap} {r : Unit} {μ μ' : vg_M} {cn nn : Nat} {v0 : Nat} {v1 : Option Nat} (hf : fX0_add v0 v1 μ = some (r, μ', cn, nn)) : vg_Met l D cy H0 yX0_add cX0_add 3 none 16 μ [.ref v0, va_rf v1] none μ' cn nn := by
  refine vg_start (by decide +kernel) (List.forall_mem_cons.mpr ⟨rfl, (List.forall_mem_cons.mpr ⟨vg_rfc _, (fun _ h => nomatch h)⟩)⟩) (Nat.le_of_ble_eq_true rfl) ?_
  intro p e s m below meth c ls X hml hr hlk hnm hH hl
  have hl : vg_l ls 3 [(0, .ref v0), (1, va_rf v1)] := hl
  have Z : vg_Z D cy H0 p s m _ c cX0_add RX0 meth 3 none (vg_rm 16 cn nn) 16 cn nn _ := ⟨X, hml, hr, hlk, Nat.le_refl _, Nat.le_refl _, Nat.le_refl _, Nat.le_refl _, hnm⟩
  obtain ⟨-, -, -, -, hfr, hlo, hRc, hRs, -⟩ := id Z
  have hx := X.1
  have hb := X.2.1
  have hL : ∀ z ∈ ([] : List Loc), H0.size ≤ z.base := fun _ h => nomatch h
  have hC : 0 + cn = cn := Nat.zero_add _
  have hN : 0 + nn = nn := Nat.zero_add _
  delta fX0_add at hf
  refine lv_aload_n hx hb dX0_add_0 rfl (lv_at hl.1 0 rfl) ?_
  refine vg_getI X hH fF_X0_19 dX0_add_1 hf (fun x18 hf => ?_)
  refine lv_bipush (v := 60) hx hb dX0_add_4 (by decide) ?_
  refine lv_icmp_ge (tgt := 18) hx hb dX0_add_6 (by decide) (fun h8 => ?_) (fun h8 => ?_)
  · have hf := vg_ip h8 hf
    exact wX0_add_18 Z   μ _ _ _ _ _ _ _ hf hH hL hC hN (hl.sub [] rfl)
  · have hf := vg_if h8 hf
    refine vg_aload_n hx hb dX0_add_9 rfl (lv_at hl.1 1 rfl) ?_
    obtain ⟨a19, h9, hg⟩ := vg_o_inv hf
    clear hf
    subst h9
    have hf := hg
    clear hg
    refine vg_callVi (ci := 1) X hml hl hH hL fCV_X0_26 rfl [] rfl rfl (Nat.le_of_ble_eq_true rfl) dX0_add_10 hf hC hN hRc hRs hfr hlo (by decide) (fun _ _ _ _ h => cJ4_length_8abf5_met h) (fun x20 μ21 cn nn H locs cells slots hf hC hN hH hL => ?_)
    refine lv_bipush (v := 53) hx hb dX0_add_13 (by decide) ?_
    refine lv_icmp_le (tgt := 19) hx hb dX0_add_15 (by decide) (fun h8 => ?_) (fun h8 => ?_)
    · have hf := vg_ip h8 hf
      refine lv_iconst (v := 0) hx hb dX0_add_19 (by decide) ?_
      refine vg_istore_n (lv' := [(2, .int 0), (0, .ref v0), (1, .ref a19)]) hx hb dX0_add_20 rfl hl (by decide) rfl (fun ls hl => ?_)
      exact wX0_add_21 Z  vg_fuel v0 (some a19) 0 μ21 _ _ _ _ _ _ _ hf hH hL hC hN (hl.sub [1, 2, 0] rfl)
    · have hf := vg_if h8 hf
      exact wX0_add_18 Z   μ21 _ _ _ _ _ _ _ hf hH hL hC hN (hl.sub [] rfl)
def fX0_clear (v0 : Nat) (μ : vg_M) : vg_R Unit :=
  vg_o (vg_p μ v0 3 0 (.int 0)) fun μ1 =>
  vg_o (vg_p μ1 v0 3 1 (.int 0)) fun μ2 =>
  vg_ret () μ2
set_option maxHeartbeats 4000000 in
set_option maxRecDepth 100000 in
theorem cX0_clear_met {l : Launch} {D : va_G} {cy : Nat → ClassId} {H0 : Heap} {r : Unit} {μ μ' : vg_M} {cn nn : Nat} {v0 : Nat} (hf : fX0_clear v0 μ = some (r, μ', cn, nn)) : vg_Met l D cy H0 yX0_clear cX0_clear 1 none 12 μ [.ref v0] none μ' cn nn := by
  refine vg_start (by decide +kernel) (List.forall_mem_cons.mpr ⟨rfl, (fun _ h => nomatch h)⟩) (Nat.le_of_ble_eq_true rfl) ?_
  intro p e s m below meth c ls X hml hr hlk hnm hH hl
  have hl : vg_l ls 1 [(0, .ref v0)] := hl
  have Z : vg_Z D cy H0 p s m _ c cX0_clear RX0 meth 1 none (vg_rm 12 cn nn) 12 cn nn _ := ⟨X, hml, hr, hlk, Nat.le_refl _, Nat.le_refl _, Nat.le_refl _, Nat.le_refl _, hnm⟩
  obtain ⟨-, -, -, -, hfr, hlo, hRc, hRs, -⟩ := id Z
  have hx := X.1
  have hb := X.2.1
  have hL : ∀ z ∈ ([] : List Loc), H0.size ≤ z.base := fun _ h => nomatch h
  have hC : 0 + cn = cn := Nat.zero_add _
  have hN : 0 + nn = nn := Nat.zero_add _
  delta fX0_clear at hf
  refine lv_aload_n hx hb dX0_clear_0 rfl (lv_at hl.1 0 rfl) ?_
  refine lv_iconst (v := 0) hx hb dX0_clear_1 (by decide) ?_
  refine vg_putV X hH hL fF_X0_19 rfl rfl dX0_clear_2 hf (fun μ1 H locs hf hH hL => ?_)
  refine lv_aload_n hx hb dX0_clear_5 rfl (lv_at hl.1 0 rfl) ?_
  refine lv_iconst (v := 0) hx hb dX0_clear_6 (by decide) ?_
  refine vg_putV X hH hL fF_X0_23 rfl rfl dX0_clear_7 hf (fun μ2 H locs hf hH hL => ?_)
  exact vg_retv X hr hlk hH hL dX0_clear_10 hf hC hN
def fX0_init (v0 : Nat) (μ : vg_M) : vg_R Unit :=
  vg_o (vg_len 3180) fun n => vg_nw n μ.2.1 (vg_nA μ 1 n) fun a1 μ2 =>
  vg_o (vg_p μ2 v0 3 2 (.ref a1)) fun μ3 =>
  vg_o (vg_len 60) fun n => vg_nw n μ3.2.1 (vg_nA μ3 2 n) fun a4 μ5 =>
  vg_o (vg_p μ5 v0 3 3 (.ref a4)) fun μ6 =>
  vg_ret () μ6
set_option maxHeartbeats 4000000 in
set_option maxRecDepth 100000 in
theorem cX0_init_met {l : Launch} {D : va_G} {cy : Nat → ClassId} {H0 : Heap} {r : Unit} {μ μ' : vg_M} {cn nn : Nat} {v0 : Nat} (hf : fX0_init v0 μ = some (r, μ', cn, nn)) : vg_Met l D cy H0 yX0_init cX0_init 1 none 12 μ [.ref v0] none μ' cn nn := by
  refine vg_start (by decide +kernel) (List.forall_mem_cons.mpr ⟨rfl, (fun _ h => nomatch h)⟩) (Nat.le_of_ble_eq_true rfl) ?_
  intro p e s m below meth c ls X hml hr hlk hnm hH hl
  have hl : vg_l ls 1 [(0, .ref v0)] := hl
  have Z : vg_Z D cy H0 p s m _ c cX0_init RX0 meth 1 none (vg_rm 12 cn nn) 12 cn nn _ := ⟨X, hml, hr, hlk, Nat.le_refl _, Nat.le_refl _, Nat.le_refl _, Nat.le_refl _, hnm⟩
  obtain ⟨-, -, -, -, hfr, hlo, hRc, hRs, -⟩ := id Z
  have hx := X.1
  have hb := X.2.1
  have hL : ∀ z ∈ ([] : List Loc), H0.size ≤ z.base := fun _ h => nomatch h
  have hC : 0 + cn = cn := Nat.zero_add _
  have hN : 0 + nn = nn := Nat.zero_add _
  delta fX0_init at hf
  refine lv_aload_n hx hb dX0_init_0 rfl (lv_at hl.1 0 rfl) ?_
  refine vg_objInit X hml hl kw_44241676 kw_624348017 kw_835052908 dX0_init_1 (Nat.le_of_ble_eq_true rfl) (Nat.le_trans (by decide) hfr) (Nat.le_trans (by decide) hlo) ?_
  refine lv_aload_n hx hb dX0_init_4 rfl (lv_at hl.1 0 rfl) ?_
  refine lv_sipush (v := 3180) hx hb dX0_init_5 (by decide) ?_
  refine vg_newa X hH (atype := .char) (t := 1) kw_182581735 rfl (by decide) dX0_init_8 hf hC hN hRc hRs (fun _ a1 μ2 cn nn H hf hC hN hH => ?_)
  refine vg_putF X hnm hH hL fF_X0_9 (vg_fitR (by simp) (some a1)).1 (vg_fitR (by simp) (some a1)).2 dX0_init_10 hf (fun μ3 H locs hf hH hL => ?_)
  refine lv_aload_n hx hb dX0_init_13 rfl (lv_at hl.1 0 rfl) ?_
  refine lv_bipush (v := 60) hx hb dX0_init_14 (by decide) ?_
  refine vg_newa X hH (atype := .int) (t := 2) kw_803024247 rfl (by decide) dX0_init_16 hf hC hN hRc hRs (fun _ a4 μ5 cn nn H hf hC hN hH => ?_)
  refine vg_putF X hnm hH hL fF_X0_15 (vg_fitR (by simp) (some a4)).1 (vg_fitR (by simp) (some a4)).2 dX0_init_18 hf (fun μ6 H locs hf hH hL => ?_)
  exact vg_retv X hr hlk hH hL dX0_init_21 hf hC hN
def fX0_letter_26   (μ : vg_M) : vg_R Int32 :=
  vg_ret 0 μ
set_option maxHeartbeats 4000000 in
set_option maxRecDepth 100000 in
theorem wX0_letter_26 {p : Program} {l : Launch} {e : Env} {R : Room} {s : State} {m : MethodId} {args : Array Value} {below : List Frame} {meth : Method} {c : Code} {D : va_G} {cy : Nat → ClassId} {H0 : Heap} {C0 N0 : Nat} {r : Int32} {μ' : vg_M} (Z : vg_Z D cy H0 p s m args c cX0_letter RX0 meth 3 (some .int) R 12 C0 N0 "letter")    (μ : vg_M) : vg_S p l e R s m args below meth c D cy H0 C0 N0 3 (MQ below (vg_Qc D cy H0 μ' (some (.int r))) args s C0 N0 (vg_fr H0)) r μ' (fX0_letter_26   μ) μ [] [] 26 := by
  intro cn nn H locs cells slots ls hf hH hL hC hN hl
  obtain ⟨X, hml, hr, hlk, hfr, hlo, hRc, hRs, hnm⟩ := id Z
  have hx := X.1
  have hb := X.2.1
  delta fX0_letter_26 at hf
  refine lv_iconst (v := 0) hx hb dX0_letter_26 (by decide) ?_
  exact vg_reti X hr hlk hH hL dX0_letter_27 hf hC hN
def fX0_letter (v0 : Nat) (v1 : Int32) (v2 : Int32) (μ : vg_M) : vg_R Int32 :=
  if v1 < 0 then (
   fX0_letter_26   μ
   ) else (
   vg_o (vg_gI μ v0 3 0) fun x1 =>
   if x1 ≤ v1 then (
    fX0_letter_26   μ
    ) else (
    if v2 < 0 then (
     fX0_letter_26   μ
     ) else (
     vg_o (vg_gR μ v0 3 3) fun x2 =>
     vg_o x2 fun a3 =>
     vg_o (vg_aI μ a3 2 v1) fun x4 =>
     if v2 < x4 then (
      vg_o (vg_gR μ v0 3 2) fun x5 =>
      vg_o x5 fun a6 =>
      vg_o (vg_aI μ a6 1 ((v1 * 53) + v2)) fun x7 =>
      vg_ret x7 μ
      ) else (
      fX0_letter_26   μ
      )
     )
    )
   )
set_option maxHeartbeats 4000000 in
set_option maxRecDepth 100000 in
theorem cX0_letter_met {l : Launch} {D : va_G} {cy : Nat → ClassId} {H0 : Heap} {r : Int32} {μ μ' : vg_M} {cn nn : Nat} {v0 : Nat} {v1 : Int32} {v2 : Int32} (hf : fX0_letter v0 v1 v2 μ = some (r, μ', cn, nn)) : vg_Met l D cy H0 yX0_letter cX0_letter 3 (some .int) 12 μ [.ref v0, .int v1, .int v2] (some (.int r)) μ' cn nn := by
  refine vg_start (by decide +kernel) (List.forall_mem_cons.mpr ⟨rfl, (List.forall_mem_cons.mpr ⟨rfl, (List.forall_mem_cons.mpr ⟨rfl, (fun _ h => nomatch h)⟩)⟩)⟩) (Nat.le_of_ble_eq_true rfl) ?_
  intro p e s m below meth c ls X hml hr hlk hnm hH hl
  have hl : vg_l ls 3 [(0, .ref v0), (1, .int v1), (2, .int v2)] := hl
  have Z : vg_Z D cy H0 p s m _ c cX0_letter RX0 meth 3 (some .int) (vg_rm 12 cn nn) 12 cn nn _ := ⟨X, hml, hr, hlk, Nat.le_refl _, Nat.le_refl _, Nat.le_refl _, Nat.le_refl _, hnm⟩
  obtain ⟨-, -, -, -, hfr, hlo, hRc, hRs, -⟩ := id Z
  have hx := X.1
  have hb := X.2.1
  have hL : ∀ z ∈ ([] : List Loc), H0.size ≤ z.base := fun _ h => nomatch h
  have hC : 0 + cn = cn := Nat.zero_add _
  have hN : 0 + nn = nn := Nat.zero_add _
  delta fX0_letter at hf
  refine lv_iload_n hx hb dX0_letter_0 rfl (lv_at hl.1 1 rfl) ?_
  refine lv_if_lt (tgt := 26) hx hb dX0_letter_1 (by decide) (fun h8 => ?_) (fun h8 => ?_)
  · have hf := vg_ip h8 hf
    exact wX0_letter_26 Z   μ _ _ _ _ _ _ _ hf hH hL hC hN (hl.sub [] rfl)
  · have hf := vg_if h8 hf
    refine lv_iload_n hx hb dX0_letter_4 rfl (lv_at hl.1 1 rfl) ?_
    refine lv_aload_n hx hb dX0_letter_5 rfl (lv_at hl.1 0 rfl) ?_
    refine vg_getI X hH fF_X0_19 dX0_letter_6 hf (fun x1 hf => ?_)
    refine lv_icmp_ge (tgt := 26) hx hb dX0_letter_9 (by decide) (fun h8 => ?_) (fun h8 => ?_)
    · have hf := vg_ip h8 hf
      exact wX0_letter_26 Z   μ _ _ _ _ _ _ _ hf hH hL hC hN (hl.sub [] rfl)
    · have hf := vg_if h8 hf
      refine lv_iload_n hx hb dX0_letter_12 rfl (lv_at hl.1 2 rfl) ?_
      refine lv_if_lt (tgt := 26) hx hb dX0_letter_13 (by decide) (fun h8 => ?_) (fun h8 => ?_)
      · have hf := vg_ip h8 hf
        exact wX0_letter_26 Z   μ _ _ _ _ _ _ _ hf hH hL hC hN (hl.sub [] rfl)
      · have hf := vg_if h8 hf
        refine lv_iload_n hx hb dX0_letter_16 rfl (lv_at hl.1 2 rfl) ?_
        refine lv_aload_n hx hb dX0_letter_17 rfl (lv_at hl.1 0 rfl) ?_
        refine vg_getR X hH fF_X0_15 dX0_letter_18 hf (fun x2 hf => ?_)
        refine lv_iload_n hx hb dX0_letter_21 rfl (lv_at hl.1 1 rfl) ?_
        obtain ⟨a3, h9, hg⟩ := vg_o_inv hf
        clear hf
        subst h9
        have hf := hg
        clear hg
        refine vg_iald X hH dX0_letter_22 hf (fun x4 hf => ?_)
        refine lv_icmp_lt (tgt := 28) hx hb dX0_letter_23 (by decide) (fun h8 => ?_) (fun h8 => ?_)
        · have hf := vg_ip h8 hf
          refine lv_aload_n hx hb dX0_letter_28 rfl (lv_at hl.1 0 rfl) ?_
          refine vg_getR X hH fF_X0_9 dX0_letter_29 hf (fun x5 hf => ?_)
          refine lv_iload_n hx hb dX0_letter_32 rfl (lv_at hl.1 1 rfl) ?_
          refine lv_bipush (v := 53) hx hb dX0_letter_33 (by decide) ?_
          refine lv_imul hx hb dX0_letter_35 ?_
          refine lv_iload_n hx hb dX0_letter_36 rfl (lv_at hl.1 2 rfl) ?_
          refine lv_iadd hx hb dX0_letter_37 ?_
          obtain ⟨a6, h9, hg⟩ := vg_o_inv hf
          clear hf
          subst h9
          have hf := hg
          clear hg
          refine vg_cald X hH dX0_letter_38 hf (fun x7 hf => ?_)
          exact vg_reti X hr hlk hH hL dX0_letter_39 hf hC hN
        · have hf := vg_if h8 hf
          exact wX0_letter_26 Z   μ _ _ _ _ _ _ _ hf hH hL hC hN (hl.sub [] rfl)
def fX10_answer (v0 : Nat) (v1 : Int32) (v2 : Int32) (μ : vg_M) : vg_R Int32 :=
  vg_o (vg_gR μ v0 13 3) fun x1 =>
  vg_o x1 fun a2 =>
  vg_o (vg_gR μ a2 12 0) fun x3 =>
  vg_o x3 fun a4 =>
  vg_cv 3 a4 μ (fX0_letter a4 v1 v2 μ) fun x5 μ6 =>
  vg_ret x5 μ6
set_option maxHeartbeats 4000000 in
set_option maxRecDepth 100000 in
theorem cX10_answer_met {l : Launch} {D : va_G} {cy : Nat → ClassId} {H0 : Heap} {r : Int32} {μ μ' : vg_M} {cn nn : Nat} {v0 : Nat} {v1 : Int32} {v2 : Int32} (hf : fX10_answer v0 v1 v2 μ = some (r, μ', cn, nn)) : vg_Met l D cy H0 yX10_answer cX10_answer 3 (some .int) 13 μ [.ref v0, .int v1, .int v2] (some (.int r)) μ' cn nn := by
  refine vg_start (by decide +kernel) (List.forall_mem_cons.mpr ⟨rfl, (List.forall_mem_cons.mpr ⟨rfl, (List.forall_mem_cons.mpr ⟨rfl, (fun _ h => nomatch h)⟩)⟩)⟩) (Nat.le_of_ble_eq_true rfl) ?_
  intro p e s m below meth c ls X hml hr hlk hnm hH hl
  have hl : vg_l ls 3 [(0, .ref v0), (1, .int v1), (2, .int v2)] := hl
  have Z : vg_Z D cy H0 p s m _ c cX10_answer RX10 meth 3 (some .int) (vg_rm 13 cn nn) 13 cn nn _ := ⟨X, hml, hr, hlk, Nat.le_refl _, Nat.le_refl _, Nat.le_refl _, Nat.le_refl _, hnm⟩
  obtain ⟨-, -, -, -, hfr, hlo, hRc, hRs, -⟩ := id Z
  have hx := X.1
  have hb := X.2.1
  have hL : ∀ z ∈ ([] : List Loc), H0.size ≤ z.base := fun _ h => nomatch h
  have hC : 0 + cn = cn := Nat.zero_add _
  have hN : 0 + nn = nn := Nat.zero_add _
  delta fX10_answer at hf
  refine lv_aload_n hx hb dX10_answer_0 rfl (lv_at hl.1 0 rfl) ?_
  refine vg_getR X hH fF_X10_33 dX10_answer_1 hf (fun x1 hf => ?_)
  obtain ⟨a2, h9, hg⟩ := vg_o_inv hf
  clear hf
  subst h9
  have hf := hg
  clear hg
  refine vg_getRr X hH fR_X10_157 dX10_answer_4 hf (fun x3 hf => ?_)
  refine lv_iload_n hx hb dX10_answer_7 rfl (lv_at hl.1 1 rfl) ?_
  refine lv_iload_n hx hb dX10_answer_8 rfl (lv_at hl.1 2 rfl) ?_
  obtain ⟨a4, h9, hg⟩ := vg_o_inv hf
  clear hf
  subst h9
  have hf := hg
  clear hg
  refine vg_callVi (ci := 3) X hml hl hH hL fCV_X10_183 rfl [.int v1, .int v2] rfl rfl (Nat.le_of_ble_eq_true rfl) dX10_answer_9 hf hC hN hRc hRs hfr hlo (by decide) (fun _ _ _ _ h => cX0_letter_met h) (fun x5 μ6 cn nn H locs cells slots hf hC hN hH hL => ?_)
  exact vg_reti X hr hlk hH hL dX10_answer_12 hf hC hN
def fX10_queryAt_30  (k0 : Option Nat) (μ : vg_M) : vg_R (Option Nat) :=
  vg_ret k0 μ
set_option maxHeartbeats 4000000 in
set_option maxRecDepth 100000 in
theorem wX10_queryAt_30 {p : Program} {l : Launch} {e : Env} {R : Room} {s : State} {m : MethodId} {args : Array Value} {below : List Frame} {meth : Method} {c : Code} {D : va_G} {cy : Nat → ClassId} {H0 : Heap} {C0 N0 : Nat} {r : (Option Nat)} {μ' : vg_M} (Z : vg_Z D cy H0 p s m args c cX10_queryAt RX10 meth 2 (some (.object "GlobRows$Query")) R 15 C0 N0 "queryAt")   (k0 : Option Nat) (μ : vg_M) : vg_S p l e R s m args below meth c D cy H0 C0 N0 2 (MQ below (vg_Qc D cy H0 μ' (some (va_rf r))) args s C0 N0 (vg_fr H0)) r μ' (fX10_queryAt_30  k0 μ) μ [] [va_rf k0] 30 := by
  intro cn nn H locs cells slots ls hf hH hL hC hN hl
  obtain ⟨X, hml, hr, hlk, hfr, hlo, hRc, hRs, hnm⟩ := id Z
  have hx := X.1
  have hb := X.2.1
  delta fX10_queryAt_30 at hf
  exact vg_reta X (by simp) hr hlk hH hL dX10_queryAt_30 hf hC hN
def fX10_queryAt_29   (μ : vg_M) : vg_R (Option Nat) :=
  fX10_queryAt_30  none μ
set_option maxHeartbeats 4000000 in
set_option maxRecDepth 100000 in
theorem wX10_queryAt_29 {p : Program} {l : Launch} {e : Env} {R : Room} {s : State} {m : MethodId} {args : Array Value} {below : List Frame} {meth : Method} {c : Code} {D : va_G} {cy : Nat → ClassId} {H0 : Heap} {C0 N0 : Nat} {r : (Option Nat)} {μ' : vg_M} (Z : vg_Z D cy H0 p s m args c cX10_queryAt RX10 meth 2 (some (.object "GlobRows$Query")) R 15 C0 N0 "queryAt")    (μ : vg_M) : vg_S p l e R s m args below meth c D cy H0 C0 N0 2 (MQ below (vg_Qc D cy H0 μ' (some (va_rf r))) args s C0 N0 (vg_fr H0)) r μ' (fX10_queryAt_29   μ) μ [] [] 29 := by
  intro cn nn H locs cells slots ls hf hH hL hC hN hl
  obtain ⟨X, hml, hr, hlk, hfr, hlo, hRc, hRs, hnm⟩ := id Z
  have hx := X.1
  have hb := X.2.1
  delta fX10_queryAt_29 at hf
  refine lv_null hx hb dX10_queryAt_29 ?_
  exact wX10_queryAt_30 Z  none μ _ _ _ _ _ _ _ hf hH hL hC hN (hl.sub [] rfl)
def fX10_queryAt (v0 : Nat) (v1 : Int32) (μ : vg_M) : vg_R (Option Nat) :=
  if v1 < 0 then (
   fX10_queryAt_29   μ
   ) else (
   vg_o (vg_gR μ v0 13 2) fun x1 =>
   vg_o x1 fun a2 =>
   vg_cv 2 a2 μ (fJx4a65c_size_8abf5 a2  μ) fun x3 μ4 =>
   if x3 ≤ v1 then (
    fX10_queryAt_29   μ4
    ) else (
    vg_o (vg_gR μ4 v0 13 2) fun x5 =>
    vg_o x5 fun a6 =>
    vg_cv 2 a6 μ4 (fJx4a65c_get_915e3 a6 v1 μ4) fun x7 μ8 =>
    vg_ck μ8 x7 10 <|
    fX10_queryAt_30  x7 μ8
    )
   )
set_option maxHeartbeats 4000000 in
set_option maxRecDepth 100000 in
theorem cX10_queryAt_met {l : Launch} {D : va_G} {cy : Nat → ClassId} {H0 : Heap} {r : (Option Nat)} {μ μ' : vg_M} {cn nn : Nat} {v0 : Nat} {v1 : Int32} (hf : fX10_queryAt v0 v1 μ = some (r, μ', cn, nn)) : vg_Met l D cy H0 yX10_queryAt cX10_queryAt 2 (some (.object "GlobRows$Query")) 15 μ [.ref v0, .int v1] (some (va_rf r)) μ' cn nn := by
  refine vg_start (by decide +kernel) (List.forall_mem_cons.mpr ⟨rfl, (List.forall_mem_cons.mpr ⟨rfl, (fun _ h => nomatch h)⟩)⟩) (Nat.le_of_ble_eq_true rfl) ?_
  intro p e s m below meth c ls X hml hr hlk hnm hH hl
  have hl : vg_l ls 2 [(0, .ref v0), (1, .int v1)] := hl
  have Z : vg_Z D cy H0 p s m _ c cX10_queryAt RX10 meth 2 (some (.object "GlobRows$Query")) (vg_rm 15 cn nn) 15 cn nn _ := ⟨X, hml, hr, hlk, Nat.le_refl _, Nat.le_refl _, Nat.le_refl _, Nat.le_refl _, hnm⟩
  obtain ⟨-, -, -, -, hfr, hlo, hRc, hRs, -⟩ := id Z
  have hx := X.1
  have hb := X.2.1
  have hL : ∀ z ∈ ([] : List Loc), H0.size ≤ z.base := fun _ h => nomatch h
  have hC : 0 + cn = cn := Nat.zero_add _
  have hN : 0 + nn = nn := Nat.zero_add _
  delta fX10_queryAt at hf
  refine lv_iload_n hx hb dX10_queryAt_0 rfl (lv_at hl.1 1 rfl) ?_
  refine lv_if_lt (tgt := 29) hx hb dX10_queryAt_1 (by decide) (fun h8 => ?_) (fun h8 => ?_)
  · have hf := vg_ip h8 hf
    exact wX10_queryAt_29 Z   μ _ _ _ _ _ _ _ hf hH hL hC hN (hl.sub [] rfl)
  · have hf := vg_if h8 hf
    refine lv_iload_n hx hb dX10_queryAt_4 rfl (lv_at hl.1 1 rfl) ?_
    refine lv_aload_n hx hb dX10_queryAt_5 rfl (lv_at hl.1 0 rfl) ?_
    refine vg_getR X hH fF_X10_26 dX10_queryAt_6 hf (fun x1 hf => ?_)
    obtain ⟨a2, h9, hg⟩ := vg_o_inv hf
    clear hf
    subst h9
    have hf := hg
    clear hg
    refine vg_callVi (ci := 2) X hml hl hH hL fCV_X10_114 rfl [] rfl rfl (Nat.le_of_ble_eq_true rfl) dX10_queryAt_9 hf hC hN hRc hRs hfr hlo (by decide) (fun _ _ _ _ h => cJx4a65c_size_8abf5_met h) (fun x3 μ4 cn nn H locs cells slots hf hC hN hH hL => ?_)
    refine lv_icmp_ge (tgt := 29) hx hb dX10_queryAt_12 (by decide) (fun h8 => ?_) (fun h8 => ?_)
    · have hf := vg_ip h8 hf
      exact wX10_queryAt_29 Z   μ4 _ _ _ _ _ _ _ hf hH hL hC hN (hl.sub [] rfl)
    · have hf := vg_if h8 hf
      refine lv_aload_n hx hb dX10_queryAt_15 rfl (lv_at hl.1 0 rfl) ?_
      refine vg_getR X hH fF_X10_26 dX10_queryAt_16 hf (fun x5 hf => ?_)
      refine lv_iload_n hx hb dX10_queryAt_19 rfl (lv_at hl.1 1 rfl) ?_
      obtain ⟨a6, h9, hg⟩ := vg_o_inv hf
      clear hf
      subst h9
      have hf := hg
      clear hg
      refine vg_callVr (ci := 2) X hml hl hH hL fCV_X10_194 rfl [.int v1] rfl rfl (Nat.le_of_ble_eq_true rfl) dX10_queryAt_20 hf hC hN hRc hRs hfr hlo (by decide) (fun _ _ _ _ h => cJx4a65c_get_915e3_met h) (fun x7 μ8 cn nn H locs cells slots hf hC hN hH hL => ?_)
      refine vg_castC (ci := 10) X hH rfl kw_687336760 (x := x7) dX10_queryAt_23 hf (fun hf => ?_)
      refine lv_goto (tgt := 30) hx hb dX10_queryAt_26 (by decide) ?_
      exact wX10_queryAt_30 Z  x7 μ8 _ _ _ _ _ _ _ hf hH hL hC hN (hl.sub [] rfl)
def fX10_withSkipped_4  : Nat → Int32 → Int32 → Int32 → vg_M → vg_R Int32
  | 0, _, _, _, _ => none
  | n + 1, v1, v2, v3, μ =>
    if 8 ≤ v3 then (
     vg_ret v2 μ
     ) else (
     (fX10_withSkipped_4  n) v1 (v2 ||| ((v2 &&& v1) <<< (1 &&& 31))) (v3 + 1) μ
     )
set_option maxHeartbeats 4000000 in
set_option maxRecDepth 100000 in
theorem wX10_withSkipped_4 {p : Program} {l : Launch} {e : Env} {R : Room} {s : State} {m : MethodId} {args : Array Value} {below : List Frame} {meth : Method} {c : Code} {D : va_G} {cy : Nat → ClassId} {H0 : Heap} {C0 N0 : Nat} {r : Int32} {μ' : vg_M} (Z : vg_Z D cy H0 p s m args c cX10_withSkipped RX10 meth 4 (some .int) R 12 C0 N0 "withSkipped")   : ∀ (n : Nat) (v1 : Int32) (v2 : Int32) (v3 : Int32) (μ : vg_M), vg_S p l e R s m args below meth c D cy H0 C0 N0 4 (MQ below (vg_Qc D cy H0 μ' (some (.int r))) args s C0 N0 (vg_fr H0)) r μ' (fX10_withSkipped_4  n v1 v2 v3 μ) μ [(1, .int v1), (2, .int v2), (3, .int v3)] [] 4 := by
  intro n
  induction n with
  | zero =>
    intro v1 v2 v3 μ cn nn H locs cells slots ls hf
    simp [fX10_withSkipped_4] at hf
  | succ n hk4 =>
    intro v1 v2 v3 μ
    intro cn nn H locs cells slots ls hf hH hL hC hN hl
    obtain ⟨X, hml, hr, hlk, hfr, hlo, hRc, hRs, hnm⟩ := id Z
    have hx := X.1
    have hb := X.2.1
    rw [fX10_withSkipped_4] at hf
    refine lv_iload_n hx hb dX10_withSkipped_4 rfl (lv_at hl.1 2 rfl) ?_
    refine lv_bipush (v := 8) hx hb dX10_withSkipped_5 (by decide) ?_
    refine lv_icmp_ge (tgt := 24) hx hb dX10_withSkipped_7 (by decide) (fun h8 => ?_) (fun h8 => ?_)
    · have hf := vg_ip h8 hf
      refine lv_iload_n hx hb dX10_withSkipped_24 rfl (lv_at hl.1 1 rfl) ?_
      exact vg_reti X hr hlk hH hL dX10_withSkipped_25 hf hC hN
    · have hf := vg_if h8 hf
      refine lv_iload_n hx hb dX10_withSkipped_10 rfl (lv_at hl.1 1 rfl) ?_
      refine lv_iload_n hx hb dX10_withSkipped_11 rfl (lv_at hl.1 1 rfl) ?_
      refine lv_iload_n hx hb dX10_withSkipped_12 rfl (lv_at hl.1 0 rfl) ?_
      refine lv_iand hx hb dX10_withSkipped_13 ?_
      refine lv_iconst (v := 1) hx hb dX10_withSkipped_14 (by decide) ?_
      refine lv_ishl hx hb dX10_withSkipped_15 ?_
      refine lv_ior hx hb dX10_withSkipped_16 ?_
      refine vg_istore_n (lv' := [(2, .int (v2 ||| ((v2 &&& v1) <<< (1 &&& 31)))), (1, .int v1), (3, .int v3)]) hx hb dX10_withSkipped_17 rfl hl (by decide) rfl (fun ls hl => ?_)
      refine vg_iinc (v := v3 + 1) (lv' := [(3, .int (v3 + 1)), (2, .int (v2 ||| ((v2 &&& v1) <<< (1 &&& 31)))), (1, .int v1)]) hx hb dX10_withSkipped_18 hl (k := 2) rfl rfl (by decide) rfl (fun ls hl => ?_)
      refine lv_goto (tgt := 4) hx hb dX10_withSkipped_21 (by decide) ?_
      exact hk4 v1 (v2 ||| ((v2 &&& v1) <<< (1 &&& 31))) (v3 + 1) μ _ _ _ _ _ _ _ hf hH hL hC hN (hl.sub [2, 1, 0] rfl)
def fX10_withSkipped (v0 : Int32) (v1 : Int32) (μ : vg_M) : vg_R Int32 :=
  fX10_withSkipped_4  vg_fuel v1 v0 0 μ
set_option maxHeartbeats 4000000 in
set_option maxRecDepth 100000 in
theorem cX10_withSkipped_met {l : Launch} {D : va_G} {cy : Nat → ClassId} {H0 : Heap} {r : Int32} {μ μ' : vg_M} {cn nn : Nat} {v0 : Int32} {v1 : Int32} (hf : fX10_withSkipped v0 v1 μ = some (r, μ', cn, nn)) : vg_Met l D cy H0 yX10_withSkipped cX10_withSkipped 4 (some .int) 12 μ [.int v0, .int v1] (some (.int r)) μ' cn nn := by
  refine vg_start (by decide +kernel) (List.forall_mem_cons.mpr ⟨rfl, (List.forall_mem_cons.mpr ⟨rfl, (fun _ h => nomatch h)⟩)⟩) (Nat.le_of_ble_eq_true rfl) ?_
  intro p e s m below meth c ls X hml hr hlk hnm hH hl
  have hl : vg_l ls 4 [(0, .int v0), (1, .int v1)] := hl
  have Z : vg_Z D cy H0 p s m _ c cX10_withSkipped RX10 meth 4 (some .int) (vg_rm 12 cn nn) 12 cn nn _ := ⟨X, hml, hr, hlk, Nat.le_refl _, Nat.le_refl _, Nat.le_refl _, Nat.le_refl _, hnm⟩
  obtain ⟨-, -, -, -, hfr, hlo, hRc, hRs, -⟩ := id Z
  have hx := X.1
  have hb := X.2.1
  have hL : ∀ z ∈ ([] : List Loc), H0.size ≤ z.base := fun _ h => nomatch h
  have hC : 0 + cn = cn := Nat.zero_add _
  have hN : 0 + nn = nn := Nat.zero_add _
  delta fX10_withSkipped at hf
  refine lv_iload_n hx hb dX10_withSkipped_0 rfl (lv_at hl.1 0 rfl) ?_
  refine vg_istore_n (lv' := [(2, .int v0), (0, .int v0), (1, .int v1)]) hx hb dX10_withSkipped_1 rfl hl (by decide) rfl (fun ls hl => ?_)
  refine lv_iconst (v := 0) hx hb dX10_withSkipped_2 (by decide) ?_
  refine vg_istore_n (lv' := [(3, .int 0), (2, .int v0), (0, .int v0), (1, .int v1)]) hx hb dX10_withSkipped_3 rfl hl (by decide) rfl (fun ls hl => ?_)
  exact wX10_withSkipped_4 Z  vg_fuel v1 v0 0 μ _ _ _ _ _ _ _ hf hH hL hC hN (hl.sub [3, 1, 0] rfl)
def fX4_begin (v0 : Nat) (μ : vg_M) : vg_R Unit :=
  vg_o (vg_gR μ v0 7 3) fun x1 =>
  vg_o (vg_gI μ v0 7 4) fun x2 =>
  vg_b (fX10_withSkipped 1 x2 μ) fun x3 μ4 =>
  vg_o x1 fun a5 =>
  vg_o (vg_sI μ4 a5 2 0 x3) fun μ6 =>
  vg_ret () μ6
set_option maxHeartbeats 4000000 in
set_option maxRecDepth 100000 in
theorem cX4_begin_met {l : Launch} {D : va_G} {cy : Nat → ClassId} {H0 : Heap} {r : Unit} {μ μ' : vg_M} {cn nn : Nat} {v0 : Nat} (hf : fX4_begin v0 μ = some (r, μ', cn, nn)) : vg_Met l D cy H0 yX4_begin cX4_begin 1 none 13 μ [.ref v0] none μ' cn nn := by
  refine vg_start (by decide +kernel) (List.forall_mem_cons.mpr ⟨rfl, (fun _ h => nomatch h)⟩) (Nat.le_of_ble_eq_true rfl) ?_
  intro p e s m below meth c ls X hml hr hlk hnm hH hl
  have hl : vg_l ls 1 [(0, .ref v0)] := hl
  have Z : vg_Z D cy H0 p s m _ c cX4_begin RX4 meth 1 none (vg_rm 13 cn nn) 13 cn nn _ := ⟨X, hml, hr, hlk, Nat.le_refl _, Nat.le_refl _, Nat.le_refl _, Nat.le_refl _, hnm⟩
  obtain ⟨-, -, -, -, hfr, hlo, hRc, hRs, -⟩ := id Z
  have hx := X.1
  have hb := X.2.1
  have hL : ∀ z ∈ ([] : List Loc), H0.size ≤ z.base := fun _ h => nomatch h
  have hC : 0 + cn = cn := Nat.zero_add _
  have hN : 0 + nn = nn := Nat.zero_add _
  delta fX4_begin at hf
  refine lv_aload_n hx hb dX4_begin_0 rfl (lv_at hl.1 0 rfl) ?_
  refine vg_getR X hH fF_X4_18 dX4_begin_1 hf (fun x1 hf => ?_)
  refine lv_iconst (v := 0) hx hb dX4_begin_4 (by decide) ?_
  refine lv_iconst (v := 1) hx hb dX4_begin_5 (by decide) ?_
  refine lv_aload_n hx hb dX4_begin_6 rfl (lv_at hl.1 0 rfl) ?_
  refine vg_getI X hH fF_X4_43 dX4_begin_7 hf (fun x2 hf => ?_)
  refine vg_callSNi X hml hl hH hL fCSN_X4_51 [.int 1, .int x2] rfl rfl (vg_cs (List.forall_mem_cons.mpr ⟨rfl, (List.forall_mem_cons.mpr ⟨vg_rfc _, (fun _ h => nomatch h)⟩)⟩) (Nat.le_of_ble_eq_true rfl)) dX4_begin_10 hf hC hN hRc hRs hfr hlo (by decide) (fun _ _ _ _ h => cX10_withSkipped_met h) (fun x3 μ4 cn nn H locs cells slots hf hC hN hH hL => ?_)
  obtain ⟨a5, h9, hg⟩ := vg_o_inv hf
  clear hf
  subst h9
  have hf := hg
  clear hg
  refine vg_iast X hH hL dX4_begin_13 hf (fun μ6 H locs hf hH hL => ?_)
  exact vg_retv X hr hlk hH hL dX4_begin_14 hf hC hN
def fX7_beginRound_12  : Nat → Nat → Int32 → vg_M → vg_R Unit
  | 0, _, _, _ => none
  | n + 1, v0, v1, μ =>
    vg_o (vg_gR μ v0 10 2) fun x1 =>
    vg_o x1 fun a2 =>
    vg_cv 2 a2 μ (fJx4a65c_size_8abf5 a2  μ) fun x3 μ4 =>
    if x3 ≤ v1 then (
     vg_ret () μ4
     ) else (
     vg_o (vg_gR μ4 v0 10 2) fun x5 =>
     vg_o x5 fun a6 =>
     vg_cv 2 a6 μ4 (fJx4a65c_get_915e3 a6 v1 μ4) fun x7 μ8 =>
     vg_ck μ8 x7 7 <|
     vg_o x7 fun a9 =>
     vg_cv 7 a9 μ8 (fX4_begin a9  μ8) fun _ μ11 =>
     (fX7_beginRound_12  n) v0 (v1 + 1) μ11
     )
set_option maxHeartbeats 4000000 in
set_option maxRecDepth 100000 in
theorem wX7_beginRound_12 {p : Program} {l : Launch} {e : Env} {R : Room} {s : State} {m : MethodId} {args : Array Value} {below : List Frame} {meth : Method} {c : Code} {D : va_G} {cy : Nat → ClassId} {H0 : Heap} {C0 N0 : Nat} {r : Unit} {μ' : vg_M} (Z : vg_Z D cy H0 p s m args c cX7_beginRound RX7 meth 2 none R 15 C0 N0 "beginRound")   : ∀ (n : Nat) (v0 : Nat) (v1 : Int32) (μ : vg_M), vg_S p l e R s m args below meth c D cy H0 C0 N0 2 (MQ below (vg_Qc D cy H0 μ' none) args s C0 N0 (vg_fr H0)) r μ' (fX7_beginRound_12  n v0 v1 μ) μ [(0, .ref v0), (1, .int v1)] [] 12 := by
  intro n
  induction n with
  | zero =>
    intro v0 v1 μ cn nn H locs cells slots ls hf
    simp [fX7_beginRound_12] at hf
  | succ n hk12 =>
    intro v0 v1 μ
    intro cn nn H locs cells slots ls hf hH hL hC hN hl
    obtain ⟨X, hml, hr, hlk, hfr, hlo, hRc, hRs, hnm⟩ := id Z
    have hx := X.1
    have hb := X.2.1
    rw [fX7_beginRound_12] at hf
    refine lv_iload_n hx hb dX7_beginRound_12 rfl (lv_at hl.1 1 rfl) ?_
    refine lv_aload_n hx hb dX7_beginRound_13 rfl (lv_at hl.1 0 rfl) ?_
    refine vg_getR X hH fF_X7_12 dX7_beginRound_14 hf (fun x1 hf => ?_)
    obtain ⟨a2, h9, hg⟩ := vg_o_inv hf
    clear hf
    subst h9
    have hf := hg
    clear hg
    refine vg_callVi (ci := 2) X hml hl hH hL fCV_X7_29 rfl [] rfl rfl (Nat.le_of_ble_eq_true rfl) dX7_beginRound_17 hf hC hN hRc hRs hfr hlo (by decide) (fun _ _ _ _ h => cJx4a65c_size_8abf5_met h) (fun x3 μ4 cn nn H locs cells slots hf hC hN hH hL => ?_)
    refine lv_icmp_ge (tgt := 43) hx hb dX7_beginRound_20 (by decide) (fun h8 => ?_) (fun h8 => ?_)
    · have hf := vg_ip h8 hf
      exact vg_retv X hr hlk hH hL dX7_beginRound_43 hf hC hN
    · have hf := vg_if h8 hf
      refine lv_aload_n hx hb dX7_beginRound_23 rfl (lv_at hl.1 0 rfl) ?_
      refine vg_getR X hH fF_X7_12 dX7_beginRound_24 hf (fun x5 hf => ?_)
      refine lv_iload_n hx hb dX7_beginRound_27 rfl (lv_at hl.1 1 rfl) ?_
      obtain ⟨a6, h9, hg⟩ := vg_o_inv hf
      clear hf
      subst h9
      have hf := hg
      clear hg
      refine vg_callVr (ci := 2) X hml hl hH hL fCV_X7_33 rfl [.int v1] rfl rfl (Nat.le_of_ble_eq_true rfl) dX7_beginRound_28 hf hC hN hRc hRs hfr hlo (by decide) (fun _ _ _ _ h => cJx4a65c_get_915e3_met h) (fun x7 μ8 cn nn H locs cells slots hf hC hN hH hL => ?_)
      refine vg_castC (ci := 7) X hH rfl kw_481568071 (x := x7) dX7_beginRound_31 hf (fun hf => ?_)
      obtain ⟨a9, h9, hg⟩ := vg_o_inv hf
      clear hf
      subst h9
      have hf := hg
      clear hg
      refine vg_callVv (ci := 7) X hml hl hH hL fCV_X7_47 rfl [] rfl rfl (Nat.le_of_ble_eq_true rfl) dX7_beginRound_34 hf hC hN hRc hRs hfr hlo (by decide) (fun _ _ _ _ h => cX4_begin_met h) (fun _ μ11 cn nn H locs cells slots hf hC hN hH hL => ?_)
      refine vg_iinc (v := v1 + 1) (lv' := [(1, .int (v1 + 1)), (0, .ref v0)]) hx hb dX7_beginRound_37 hl (k := 1) rfl rfl (by decide) rfl (fun ls hl => ?_)
      refine lv_goto (tgt := 12) hx hb dX7_beginRound_40 (by decide) ?_
      exact hk12 v0 (v1 + 1) μ11 _ _ _ _ _ _ _ hf hH hL hC hN (hl.sub [1, 0] rfl)
def fX7_beginRound (v0 : Nat) (μ : vg_M) : vg_R Unit :=
  vg_o (vg_gI μ v0 10 3) fun x12 =>
  vg_o (vg_p μ v0 10 3 (.int (x12 + 1))) fun μ13 =>
  fX7_beginRound_12  vg_fuel v0 0 μ13
set_option maxHeartbeats 4000000 in
set_option maxRecDepth 100000 in
theorem cX7_beginRound_met {l : Launch} {D : va_G} {cy : Nat → ClassId} {H0 : Heap} {r : Unit} {μ μ' : vg_M} {cn nn : Nat} {v0 : Nat} (hf : fX7_beginRound v0 μ = some (r, μ', cn, nn)) : vg_Met l D cy H0 yX7_beginRound cX7_beginRound 2 none 15 μ [.ref v0] none μ' cn nn := by
  refine vg_start (by decide +kernel) (List.forall_mem_cons.mpr ⟨rfl, (fun _ h => nomatch h)⟩) (Nat.le_of_ble_eq_true rfl) ?_
  intro p e s m below meth c ls X hml hr hlk hnm hH hl
  have hl : vg_l ls 2 [(0, .ref v0)] := hl
  have Z : vg_Z D cy H0 p s m _ c cX7_beginRound RX7 meth 2 none (vg_rm 15 cn nn) 15 cn nn _ := ⟨X, hml, hr, hlk, Nat.le_refl _, Nat.le_refl _, Nat.le_refl _, Nat.le_refl _, hnm⟩
  obtain ⟨-, -, -, -, hfr, hlo, hRc, hRs, -⟩ := id Z
  have hx := X.1
  have hb := X.2.1
  have hL : ∀ z ∈ ([] : List Loc), H0.size ≤ z.base := fun _ h => nomatch h
  have hC : 0 + cn = cn := Nat.zero_add _
  have hN : 0 + nn = nn := Nat.zero_add _
  delta fX7_beginRound at hf
  refine lv_aload_n hx hb dX7_beginRound_0 rfl (lv_at hl.1 0 rfl) ?_
  refine lv_dup hx hb dX7_beginRound_1 rfl ?_
  refine vg_getI X hH fF_X7_18 dX7_beginRound_2 hf (fun x12 hf => ?_)
  refine lv_iconst (v := 1) hx hb dX7_beginRound_5 (by decide) ?_
  refine lv_iadd hx hb dX7_beginRound_6 ?_
  refine vg_putV X hH hL fF_X7_18 rfl rfl dX7_beginRound_7 hf (fun μ13 H locs hf hH hL => ?_)
  refine lv_iconst (v := 0) hx hb dX7_beginRound_10 (by decide) ?_
  refine vg_istore_n (lv' := [(1, .int 0), (0, .ref v0)]) hx hb dX7_beginRound_11 rfl hl (by decide) rfl (fun ls hl => ?_)
  exact wX7_beginRound_12 Z  vg_fuel v0 0 μ13 _ _ _ _ _ _ _ hf hH hL hC hN (hl.sub [1, 0] rfl)
def fX1_child_2  : Nat → Nat → Option Nat → Int32 → vg_M → vg_R (Option Nat)
  | 0, _, _, _, _ => none
  | n + 1, v0, v1, v2, μ =>
    vg_o (vg_gR μ v0 4 3) fun x1 =>
    vg_o x1 fun a2 =>
    vg_cv 2 a2 μ (fJx4a65c_size_8abf5 a2  μ) fun x3 μ4 =>
    if x3 ≤ v2 then (
     vg_ret none μ4
     ) else (
     vg_o (vg_gR μ4 v0 4 3) fun x5 =>
     vg_o x5 fun a6 =>
     vg_cv 2 a6 μ4 (fJx4a65c_get_915e3 a6 v2 μ4) fun x7 μ8 =>
     vg_ck μ8 x7 4 <|
     vg_o x7 fun a9 =>
     vg_o (vg_gR μ8 a9 4 0) fun x10 =>
     vg_o x10 fun a11 =>
     vg_cv 0 a11 μ8 (fJ0_equals_9ea2d a11 v1 μ8) fun x12 μ13 =>
     if x12 = 0 then (
      (fX1_child_2  n) v0 v1 (v2 + 1) μ13
      ) else (
      vg_o (vg_gR μ13 v0 4 3) fun x14 =>
      vg_o x14 fun a15 =>
      vg_cv 2 a15 μ13 (fJx4a65c_get_915e3 a15 v2 μ13) fun x16 μ17 =>
      vg_ck μ17 x16 4 <|
      vg_ret x16 μ17
      )
     )
set_option maxHeartbeats 4000000 in
set_option maxRecDepth 100000 in
theorem wX1_child_2 {p : Program} {l : Launch} {e : Env} {R : Room} {s : State} {m : MethodId} {args : Array Value} {below : List Frame} {meth : Method} {c : Code} {D : va_G} {cy : Nat → ClassId} {H0 : Heap} {C0 N0 : Nat} {r : (Option Nat)} {μ' : vg_M} (Z : vg_Z D cy H0 p s m args c cX1_child RX1 meth 3 (some (.object "GlobRows$Node")) R 15 C0 N0 "child")   : ∀ (n : Nat) (v0 : Nat) (v1 : Option Nat) (v2 : Int32) (μ : vg_M), vg_S p l e R s m args below meth c D cy H0 C0 N0 3 (MQ below (vg_Qc D cy H0 μ' (some (va_rf r))) args s C0 N0 (vg_fr H0)) r μ' (fX1_child_2  n v0 v1 v2 μ) μ [(0, .ref v0), (1, va_rf v1), (2, .int v2)] [] 2 := by
  intro n
  induction n with
  | zero =>
    intro v0 v1 v2 μ cn nn H locs cells slots ls hf
    simp [fX1_child_2] at hf
  | succ n hk2 =>
    intro v0 v1 v2 μ
    intro cn nn H locs cells slots ls hf hH hL hC hN hl
    obtain ⟨X, hml, hr, hlk, hfr, hlo, hRc, hRs, hnm⟩ := id Z
    have hx := X.1
    have hb := X.2.1
    rw [fX1_child_2] at hf
    refine lv_iload_n hx hb dX1_child_2 rfl (lv_at hl.1 2 rfl) ?_
    refine lv_aload_n hx hb dX1_child_3 rfl (lv_at hl.1 0 rfl) ?_
    refine vg_getR X hH fF_X1_12 dX1_child_4 hf (fun x1 hf => ?_)
    obtain ⟨a2, h9, hg⟩ := vg_o_inv hf
    clear hf
    subst h9
    have hf := hg
    clear hg
    refine vg_callVi (ci := 2) X hml hl hH hL fCV_X1_34 rfl [] rfl rfl (Nat.le_of_ble_eq_true rfl) dX1_child_7 hf hC hN hRc hRs hfr hlo (by decide) (fun _ _ _ _ h => cJx4a65c_size_8abf5_met h) (fun x3 μ4 cn nn H locs cells slots hf hC hN hH hL => ?_)
    refine lv_icmp_ge (tgt := 52) hx hb dX1_child_10 (by decide) (fun h8 => ?_) (fun h8 => ?_)
    · have hf := vg_ip h8 hf
      refine lv_null hx hb dX1_child_52 ?_
      exact vg_reta X (by simp) hr hlk hH hL dX1_child_53 hf hC hN
    · have hf := vg_if h8 hf
      refine lv_aload_n hx hb dX1_child_13 rfl (lv_at hl.1 0 rfl) ?_
      refine vg_getR X hH fF_X1_12 dX1_child_14 hf (fun x5 hf => ?_)
      refine lv_iload_n hx hb dX1_child_17 rfl (lv_at hl.1 2 rfl) ?_
      obtain ⟨a6, h9, hg⟩ := vg_o_inv hf
      clear hf
      subst h9
      have hf := hg
      clear hg
      refine vg_callVr (ci := 2) X hml hl hH hL fCV_X1_38 rfl [.int v2] rfl rfl (Nat.le_of_ble_eq_true rfl) dX1_child_18 hf hC hN hRc hRs hfr hlo (by decide) (fun _ _ _ _ h => cJx4a65c_get_915e3_met h) (fun x7 μ8 cn nn H locs cells slots hf hC hN hH hL => ?_)
      refine vg_castC (ci := 4) X hH rfl kw_440991394 (x := x7) dX1_child_21 hf (fun hf => ?_)
      obtain ⟨a9, h9, hg⟩ := vg_o_inv hf
      clear hf
      subst h9
      have hf := hg
      clear hg
      refine vg_getR X hH fF_X1_22 dX1_child_24 hf (fun x10 hf => ?_)
      refine vg_aload_n hx hb dX1_child_27 rfl (lv_at hl.1 1 rfl) ?_
      obtain ⟨a11, h9, hg⟩ := vg_o_inv hf
      clear hf
      subst h9
      have hf := hg
      clear hg
      refine vg_callVi (ci := 0) X hml hl hH hL fCV_X1_42 rfl [va_rf v1] rfl rfl (Nat.le_of_ble_eq_true rfl) dX1_child_28 hf hC hN hRc hRs hfr hlo (by decide) (fun _ _ _ _ h => cJ0_equals_9ea2d_met h) (fun x12 μ13 cn nn H locs cells slots hf hC hN hH hL => ?_)
      refine lv_if_eq (tgt := 46) hx hb dX1_child_31 (by decide) (fun h8 => ?_) (fun h8 => ?_)
      · have hf := vg_ip h8 hf
        refine vg_iinc (v := v2 + 1) (lv' := [(2, .int (v2 + 1)), (0, .ref v0), (1, va_rf v1)]) hx hb dX1_child_46 hl (k := 2) rfl rfl (by decide) rfl (fun ls hl => ?_)
        refine lv_goto (tgt := 2) hx hb dX1_child_49 (by decide) ?_
        exact hk2 v0 v1 (v2 + 1) μ13 _ _ _ _ _ _ _ hf hH hL hC hN (hl.sub [1, 2, 0] rfl)
      · have hf := vg_if h8 hf
        refine lv_aload_n hx hb dX1_child_34 rfl (lv_at hl.1 0 rfl) ?_
        refine vg_getR X hH fF_X1_12 dX1_child_35 hf (fun x14 hf => ?_)
        refine lv_iload_n hx hb dX1_child_38 rfl (lv_at hl.1 2 rfl) ?_
        obtain ⟨a15, h9, hg⟩ := vg_o_inv hf
        clear hf
        subst h9
        have hf := hg
        clear hg
        refine vg_callVr (ci := 2) X hml hl hH hL fCV_X1_38 rfl [.int v2] rfl rfl (Nat.le_of_ble_eq_true rfl) dX1_child_39 hf hC hN hRc hRs hfr hlo (by decide) (fun _ _ _ _ h => cJx4a65c_get_915e3_met h) (fun x16 μ17 cn nn H locs cells slots hf hC hN hH hL => ?_)
        refine vg_castC (ci := 4) X hH rfl kw_440991394 (x := x16) dX1_child_42 hf (fun hf => ?_)
        exact vg_reta X (by simp) hr hlk hH hL dX1_child_45 hf hC hN
def fX1_child (v0 : Nat) (v1 : Option Nat) (μ : vg_M) : vg_R (Option Nat) :=
  fX1_child_2  vg_fuel v0 v1 0 μ
set_option maxHeartbeats 4000000 in
set_option maxRecDepth 100000 in
theorem cX1_child_met {l : Launch} {D : va_G} {cy : Nat → ClassId} {H0 : Heap} {r : (Option Nat)} {μ μ' : vg_M} {cn nn : Nat} {v0 : Nat} {v1 : Option Nat} (hf : fX1_child v0 v1 μ = some (r, μ', cn, nn)) : vg_Met l D cy H0 yX1_child cX1_child 3 (some (.object "GlobRows$Node")) 15 μ [.ref v0, va_rf v1] (some (va_rf r)) μ' cn nn := by
  refine vg_start (by decide +kernel) (List.forall_mem_cons.mpr ⟨rfl, (List.forall_mem_cons.mpr ⟨vg_rfc _, (fun _ h => nomatch h)⟩)⟩) (Nat.le_of_ble_eq_true rfl) ?_
  intro p e s m below meth c ls X hml hr hlk hnm hH hl
  have hl : vg_l ls 3 [(0, .ref v0), (1, va_rf v1)] := hl
  have Z : vg_Z D cy H0 p s m _ c cX1_child RX1 meth 3 (some (.object "GlobRows$Node")) (vg_rm 15 cn nn) 15 cn nn _ := ⟨X, hml, hr, hlk, Nat.le_refl _, Nat.le_refl _, Nat.le_refl _, Nat.le_refl _, hnm⟩
  obtain ⟨-, -, -, -, hfr, hlo, hRc, hRs, -⟩ := id Z
  have hx := X.1
  have hb := X.2.1
  have hL : ∀ z ∈ ([] : List Loc), H0.size ≤ z.base := fun _ h => nomatch h
  have hC : 0 + cn = cn := Nat.zero_add _
  have hN : 0 + nn = nn := Nat.zero_add _
  delta fX1_child at hf
  refine lv_iconst (v := 0) hx hb dX1_child_0 (by decide) ?_
  refine vg_istore_n (lv' := [(2, .int 0), (0, .ref v0), (1, va_rf v1)]) hx hb dX1_child_1 rfl hl (by decide) rfl (fun ls hl => ?_)
  exact wX1_child_2 Z  vg_fuel v0 v1 0 μ _ _ _ _ _ _ _ hf hH hL hC hN (hl.sub [1, 2, 0] rfl)
def fX3_name_36  (k0 : Option Nat) (μ : vg_M) : vg_R (Option Nat) :=
  vg_ret k0 μ
set_option maxHeartbeats 4000000 in
set_option maxRecDepth 100000 in
theorem wX3_name_36 {p : Program} {l : Launch} {e : Env} {R : Room} {s : State} {m : MethodId} {args : Array Value} {below : List Frame} {meth : Method} {c : Code} {D : va_G} {cy : Nat → ClassId} {H0 : Heap} {C0 N0 : Nat} {r : (Option Nat)} {μ' : vg_M} (Z : vg_Z D cy H0 p s m args c cX3_name RX3 meth 2 (some (.object "java/lang/String")) R 17 C0 N0 "name")   (k0 : Option Nat) (μ : vg_M) : vg_S p l e R s m args below meth c D cy H0 C0 N0 2 (MQ below (vg_Qc D cy H0 μ' (some (va_rf r))) args s C0 N0 (vg_fr H0)) r μ' (fX3_name_36  k0 μ) μ [] [va_rf k0] 36 := by
  intro cn nn H locs cells slots ls hf hH hL hC hN hl
  obtain ⟨X, hml, hr, hlk, hfr, hlo, hRc, hRs, hnm⟩ := id Z
  have hx := X.1
  have hb := X.2.1
  delta fX3_name_36 at hf
  exact vg_reta X (by simp) hr hlk hH hL dX3_name_36 hf hC hN
def fX3_name_34   (μ : vg_M) : vg_R (Option Nat) :=
  vg_k μ 4 fun a1 =>
  fX3_name_36  (some a1) μ
set_option maxHeartbeats 4000000 in
set_option maxRecDepth 100000 in
theorem wX3_name_34 {p : Program} {l : Launch} {e : Env} {R : Room} {s : State} {m : MethodId} {args : Array Value} {below : List Frame} {meth : Method} {c : Code} {D : va_G} {cy : Nat → ClassId} {H0 : Heap} {C0 N0 : Nat} {r : (Option Nat)} {μ' : vg_M} (Z : vg_Z D cy H0 p s m args c cX3_name RX3 meth 2 (some (.object "java/lang/String")) R 17 C0 N0 "name")    (μ : vg_M) : vg_S p l e R s m args below meth c D cy H0 C0 N0 2 (MQ below (vg_Qc D cy H0 μ' (some (va_rf r))) args s C0 N0 (vg_fr H0)) r μ' (fX3_name_34   μ) μ [] [] 34 := by
  intro cn nn H locs cells slots ls hf hH hL hC hN hl
  obtain ⟨X, hml, hr, hlk, hfr, hlo, hRc, hRs, hnm⟩ := id Z
  have hx := X.1
  have hb := X.2.1
  delta fX3_name_34 at hf
  refine vg_ldcS X hH (show (RX3, 62, "", 4) ∈ vg_lits from List.mem_of_getElem? (i := 4) (by decide +kernel)) dX3_name_34 hf (fun a1 hf => ?_)
  exact wX3_name_36 Z  (some a1) μ _ _ _ _ _ _ _ hf hH hL hC hN (hl.sub [] rfl)
def fX3_name (v0 : Nat) (v1 : Int32) (μ : vg_M) : vg_R (Option Nat) :=
  if v1 < 0 then (
   fX3_name_34   μ
   ) else (
   vg_o (vg_gI μ v0 6 3) fun x2 =>
   if x2 ≤ v1 then (
    fX3_name_34   μ
    ) else (
    vg_o (vg_gR μ v0 6 0) fun x3 =>
    vg_o (vg_gR μ v0 6 1) fun x4 =>
    vg_o x4 fun a5 =>
    vg_o (vg_aI μ a5 2 v1) fun x6 =>
    vg_o (vg_gR μ v0 6 2) fun x7 =>
    vg_o x7 fun a8 =>
    vg_o (vg_aI μ a8 2 v1) fun x9 =>
    vg_o x3 fun a10 =>
    vg_cv 0 a10 μ (fJ0_substring_37a41 a10 x6 x9 μ) fun x11 μ12 =>
    fX3_name_36  x11 μ12
    )
   )
set_option maxHeartbeats 4000000 in
set_option maxRecDepth 100000 in
theorem cX3_name_met {l : Launch} {D : va_G} {cy : Nat → ClassId} {H0 : Heap} {r : (Option Nat)} {μ μ' : vg_M} {cn nn : Nat} {v0 : Nat} {v1 : Int32} (hf : fX3_name v0 v1 μ = some (r, μ', cn, nn)) : vg_Met l D cy H0 yX3_name cX3_name 2 (some (.object "java/lang/String")) 17 μ [.ref v0, .int v1] (some (va_rf r)) μ' cn nn := by
  refine vg_start (by decide +kernel) (List.forall_mem_cons.mpr ⟨rfl, (List.forall_mem_cons.mpr ⟨rfl, (fun _ h => nomatch h)⟩)⟩) (Nat.le_of_ble_eq_true rfl) ?_
  intro p e s m below meth c ls X hml hr hlk hnm hH hl
  have hl : vg_l ls 2 [(0, .ref v0), (1, .int v1)] := hl
  have Z : vg_Z D cy H0 p s m _ c cX3_name RX3 meth 2 (some (.object "java/lang/String")) (vg_rm 17 cn nn) 17 cn nn _ := ⟨X, hml, hr, hlk, Nat.le_refl _, Nat.le_refl _, Nat.le_refl _, Nat.le_refl _, hnm⟩
  obtain ⟨-, -, -, -, hfr, hlo, hRc, hRs, -⟩ := id Z
  have hx := X.1
  have hb := X.2.1
  have hL : ∀ z ∈ ([] : List Loc), H0.size ≤ z.base := fun _ h => nomatch h
  have hC : 0 + cn = cn := Nat.zero_add _
  have hN : 0 + nn = nn := Nat.zero_add _
  delta fX3_name at hf
  refine lv_iload_n hx hb dX3_name_0 rfl (lv_at hl.1 1 rfl) ?_
  refine lv_if_lt (tgt := 34) hx hb dX3_name_1 (by decide) (fun h8 => ?_) (fun h8 => ?_)
  · have hf := vg_ip h8 hf
    exact wX3_name_34 Z   μ _ _ _ _ _ _ _ hf hH hL hC hN (hl.sub [] rfl)
  · have hf := vg_if h8 hf
    refine lv_iload_n hx hb dX3_name_4 rfl (lv_at hl.1 1 rfl) ?_
    refine lv_aload_n hx hb dX3_name_5 rfl (lv_at hl.1 0 rfl) ?_
    refine vg_getI X hH fF_X3_39 dX3_name_6 hf (fun x2 hf => ?_)
    refine lv_icmp_ge (tgt := 34) hx hb dX3_name_9 (by decide) (fun h8 => ?_) (fun h8 => ?_)
    · have hf := vg_ip h8 hf
      exact wX3_name_34 Z   μ _ _ _ _ _ _ _ hf hH hL hC hN (hl.sub [] rfl)
    · have hf := vg_if h8 hf
      refine lv_aload_n hx hb dX3_name_12 rfl (lv_at hl.1 0 rfl) ?_
      refine vg_getR X hH fF_X3_18 dX3_name_13 hf (fun x3 hf => ?_)
      refine lv_aload_n hx hb dX3_name_16 rfl (lv_at hl.1 0 rfl) ?_
      refine vg_getR X hH fF_X3_9 dX3_name_17 hf (fun x4 hf => ?_)
      refine lv_iload_n hx hb dX3_name_20 rfl (lv_at hl.1 1 rfl) ?_
      obtain ⟨a5, h9, hg⟩ := vg_o_inv hf
      clear hf
      subst h9
      have hf := hg
      clear hg
      refine vg_iald X hH dX3_name_21 hf (fun x6 hf => ?_)
      refine lv_aload_n hx hb dX3_name_22 rfl (lv_at hl.1 0 rfl) ?_
      refine vg_getR X hH fF_X3_15 dX3_name_23 hf (fun x7 hf => ?_)
      refine lv_iload_n hx hb dX3_name_26 rfl (lv_at hl.1 1 rfl) ?_
      obtain ⟨a8, h9, hg⟩ := vg_o_inv hf
      clear hf
      subst h9
      have hf := hg
      clear hg
      refine vg_iald X hH dX3_name_27 hf (fun x9 hf => ?_)
      obtain ⟨a10, h9, hg⟩ := vg_o_inv hf
      clear hf
      subst h9
      have hf := hg
      clear hg
      refine vg_callVr (ci := 0) X hml hl hH hL fCV_X3_43 rfl [.int x6, .int x9] rfl rfl (Nat.le_of_ble_eq_true rfl) dX3_name_28 hf hC hN hRc hRs hfr hlo (by decide) (fun _ _ _ _ h => cJ0_substring_37a41_met h) (fun x11 μ12 cn nn H locs cells slots hf hC hN hH hL => ?_)
      refine lv_goto (tgt := 36) hx hb dX3_name_31 (by decide) ?_
      exact wX3_name_36 Z  x11 μ12 _ _ _ _ _ _ _ hf hH hL hC hN (hl.sub [] rfl)
def fX8_at_35  (v2 : Option Nat) (μ : vg_M) : vg_R (Option Nat) :=
  vg_ret v2 μ
set_option maxHeartbeats 4000000 in
set_option maxRecDepth 100000 in
theorem wX8_at_35 {p : Program} {l : Launch} {e : Env} {R : Room} {s : State} {m : MethodId} {args : Array Value} {below : List Frame} {meth : Method} {c : Code} {D : va_G} {cy : Nat → ClassId} {H0 : Heap} {C0 N0 : Nat} {r : (Option Nat)} {μ' : vg_M} (Z : vg_Z D cy H0 p s m args c cX8_at RX8 meth 4 (some (.object "GlobRows$Node")) R 18 C0 N0 "at")   (v2 : Option Nat) (μ : vg_M) : vg_S p l e R s m args below meth c D cy H0 C0 N0 4 (MQ below (vg_Qc D cy H0 μ' (some (va_rf r))) args s C0 N0 (vg_fr H0)) r μ' (fX8_at_35  v2 μ) μ [(2, va_rf v2)] [] 35 := by
  intro cn nn H locs cells slots ls hf hH hL hC hN hl
  obtain ⟨X, hml, hr, hlk, hfr, hlo, hRc, hRs, hnm⟩ := id Z
  have hx := X.1
  have hb := X.2.1
  delta fX8_at_35 at hf
  refine vg_aload_n hx hb dX8_at_35 rfl (lv_at hl.1 0 rfl) ?_
  exact vg_reta X (by simp) hr hlk hH hL dX8_at_36 hf hC hN
def fX8_at_7  : Nat → Option Nat → Option Nat → Int32 → vg_M → vg_R (Option Nat)
  | 0, _, _, _, _ => none
  | n + 1, v1, v2, v3, μ =>
    vg_o v1 fun a1 =>
    vg_o (vg_gI μ a1 6 3) fun x2 =>
    if x2 ≤ v3 then (
     fX8_at_35  v2 μ
     ) else (
     vg_m v2 (
      fX8_at_35  none μ
      ) fun a3 => (
      vg_cv 6 a1 μ (fX3_name a1 v3 μ) fun x4 μ5 =>
      vg_cv 4 a3 μ5 (fX1_child a3 x4 μ5) fun x6 μ7 =>
      (fX8_at_7  n) (some a1) x6 (v3 + 1) μ7
      )
     )
set_option maxHeartbeats 4000000 in
set_option maxRecDepth 100000 in
theorem wX8_at_7 {p : Program} {l : Launch} {e : Env} {R : Room} {s : State} {m : MethodId} {args : Array Value} {below : List Frame} {meth : Method} {c : Code} {D : va_G} {cy : Nat → ClassId} {H0 : Heap} {C0 N0 : Nat} {r : (Option Nat)} {μ' : vg_M} (Z : vg_Z D cy H0 p s m args c cX8_at RX8 meth 4 (some (.object "GlobRows$Node")) R 18 C0 N0 "at")   : ∀ (n : Nat) (v1 : Option Nat) (v2 : Option Nat) (v3 : Int32) (μ : vg_M), vg_S p l e R s m args below meth c D cy H0 C0 N0 4 (MQ below (vg_Qc D cy H0 μ' (some (va_rf r))) args s C0 N0 (vg_fr H0)) r μ' (fX8_at_7  n v1 v2 v3 μ) μ [(1, va_rf v1), (2, va_rf v2), (3, .int v3)] [] 7 := by
  intro n
  induction n with
  | zero =>
    intro v1 v2 v3 μ cn nn H locs cells slots ls hf
    simp [fX8_at_7] at hf
  | succ n hk7 =>
    intro v1 v2 v3 μ
    intro cn nn H locs cells slots ls hf hH hL hC hN hl
    obtain ⟨X, hml, hr, hlk, hfr, hlo, hRc, hRs, hnm⟩ := id Z
    have hx := X.1
    have hb := X.2.1
    rw [fX8_at_7] at hf
    refine lv_iload_n hx hb dX8_at_7 rfl (lv_at hl.1 2 rfl) ?_
    refine vg_aload_n hx hb dX8_at_8 rfl (lv_at hl.1 0 rfl) ?_
    obtain ⟨a1, h9, hg⟩ := vg_o_inv hf
    clear hf
    subst h9
    have hf := hg
    clear hg
    refine vg_getNI (k := 3) (host := "GlobRows") X hH vcl_6 (by decide) (List.mem_of_getElem? (i := 5) (by decide +kernel)) rfl dX8_at_9 hf (fun x2 hf => ?_)
    refine lv_icmp_ge (tgt := 35) hx hb dX8_at_12 (by decide) (fun h8 => ?_) (fun h8 => ?_)
    · have hf := vg_ip h8 hf
      exact wX8_at_35 Z  v2 μ _ _ _ _ _ _ _ hf hH hL hC hN (hl.sub [1] rfl)
    · have hf := vg_if h8 hf
      refine vg_aload_n hx hb dX8_at_15 rfl (lv_at hl.1 1 rfl) ?_
      refine vg_ifnull (tgt := 35) hx hb dX8_at_16 (by decide) hf (fun h9 hg => ?_) (fun a3 h9 hg => ?_)
      · clear hf
        subst h9
        have hf := hg
        clear hg
        exact wX8_at_35 Z  none μ _ _ _ _ _ _ _ hf hH hL hC hN (hl.sub [1] rfl)
      · clear hf
        subst h9
        have hf := hg
        clear hg
        refine lv_aload_n hx hb dX8_at_19 rfl (lv_at hl.1 1 rfl) ?_
        refine lv_aload_n hx hb dX8_at_20 rfl (lv_at hl.1 0 rfl) ?_
        refine lv_iload_n hx hb dX8_at_21 rfl (lv_at hl.1 2 rfl) ?_
        refine vg_callVr (ci := 6) X hml hl hH hL fCV_X8_32 rfl [.int v3] rfl rfl (Nat.le_of_ble_eq_true rfl) dX8_at_22 hf hC hN hRc hRs hfr hlo (by decide) (fun _ _ _ _ h => cX3_name_met h) (fun x4 μ5 cn nn H locs cells slots hf hC hN hH hL => ?_)
        refine vg_callVr (ci := 4) X hml hl hH hL fCV_X8_36 rfl [va_rf x4] rfl rfl (Nat.le_of_ble_eq_true rfl) dX8_at_25 hf hC hN hRc hRs hfr hlo (by decide) (fun _ _ _ _ h => cX1_child_met h) (fun x6 μ7 cn nn H locs cells slots hf hC hN hH hL => ?_)
        refine vg_astore_n (lv' := [(2, va_rf x6), (1, .ref a1), (3, .int v3)]) hx hb dX8_at_28 rfl hl (by decide) rfl (fun ls hl => ?_)
        refine vg_iinc (v := v3 + 1) (lv' := [(3, .int (v3 + 1)), (2, va_rf x6), (1, .ref a1)]) hx hb dX8_at_29 hl (k := 2) rfl rfl (by decide) rfl (fun ls hl => ?_)
        refine lv_goto (tgt := 7) hx hb dX8_at_32 (by decide) ?_
        exact hk7 (some a1) x6 (v3 + 1) μ7 _ _ _ _ _ _ _ hf hH hL hC hN (hl.sub [2, 1, 0] rfl)
def fX8_at (v0 : Nat) (v1 : Option Nat) (μ : vg_M) : vg_R (Option Nat) :=
  vg_o (vg_gR μ v0 11 0) fun x8 =>
  fX8_at_7  vg_fuel v1 x8 0 μ
set_option maxHeartbeats 4000000 in
set_option maxRecDepth 100000 in
theorem cX8_at_met {l : Launch} {D : va_G} {cy : Nat → ClassId} {H0 : Heap} {r : (Option Nat)} {μ μ' : vg_M} {cn nn : Nat} {v0 : Nat} {v1 : Option Nat} (hf : fX8_at v0 v1 μ = some (r, μ', cn, nn)) : vg_Met l D cy H0 yX8_at cX8_at 4 (some (.object "GlobRows$Node")) 18 μ [.ref v0, va_rf v1] (some (va_rf r)) μ' cn nn := by
  refine vg_start (by decide +kernel) (List.forall_mem_cons.mpr ⟨rfl, (List.forall_mem_cons.mpr ⟨vg_rfc _, (fun _ h => nomatch h)⟩)⟩) (Nat.le_of_ble_eq_true rfl) ?_
  intro p e s m below meth c ls X hml hr hlk hnm hH hl
  have hl : vg_l ls 4 [(0, .ref v0), (1, va_rf v1)] := hl
  have Z : vg_Z D cy H0 p s m _ c cX8_at RX8 meth 4 (some (.object "GlobRows$Node")) (vg_rm 18 cn nn) 18 cn nn _ := ⟨X, hml, hr, hlk, Nat.le_refl _, Nat.le_refl _, Nat.le_refl _, Nat.le_refl _, hnm⟩
  obtain ⟨-, -, -, -, hfr, hlo, hRc, hRs, -⟩ := id Z
  have hx := X.1
  have hb := X.2.1
  have hL : ∀ z ∈ ([] : List Loc), H0.size ≤ z.base := fun _ h => nomatch h
  have hC : 0 + cn = cn := Nat.zero_add _
  have hN : 0 + nn = nn := Nat.zero_add _
  delta fX8_at at hf
  refine lv_aload_n hx hb dX8_at_0 rfl (lv_at hl.1 0 rfl) ?_
  refine vg_getR X hH fF_X8_16 dX8_at_1 hf (fun x8 hf => ?_)
  refine vg_astore_n (lv' := [(2, va_rf x8), (0, .ref v0), (1, va_rf v1)]) hx hb dX8_at_4 rfl hl (by decide) rfl (fun ls hl => ?_)
  refine lv_iconst (v := 0) hx hb dX8_at_5 (by decide) ?_
  refine vg_istore_n (lv' := [(3, .int 0), (2, va_rf x8), (0, .ref v0), (1, va_rf v1)]) hx hb dX8_at_6 rfl hl (by decide) rfl (fun ls hl => ?_)
  exact wX8_at_7 Z  vg_fuel v1 x8 0 μ _ _ _ _ _ _ _ hf hH hL hC hN (hl.sub [3, 1, 0] rfl)
def fX7_looksAnewAt_19   (μ : vg_M) : vg_R Int32 :=
  vg_o (vg_z .boolean 1) fun z => vg_ret z μ
set_option maxHeartbeats 4000000 in
set_option maxRecDepth 100000 in
theorem wX7_looksAnewAt_19 {p : Program} {l : Launch} {e : Env} {R : Room} {s : State} {m : MethodId} {args : Array Value} {below : List Frame} {meth : Method} {c : Code} {D : va_G} {cy : Nat → ClassId} {H0 : Heap} {C0 N0 : Nat} {r : Int32} {μ' : vg_M} (Z : vg_Z D cy H0 p s m args c cX7_looksAnewAt RX7 meth 3 (some .boolean) R 12 C0 N0 "looksAnewAt")    (μ : vg_M) : vg_S p l e R s m args below meth c D cy H0 C0 N0 3 (MQ below (vg_Qc D cy H0 μ' (some (.int r))) args s C0 N0 (vg_fr H0)) r μ' (fX7_looksAnewAt_19   μ) μ [] [] 19 := by
  intro cn nn H locs cells slots ls hf hH hL hC hN hl
  obtain ⟨X, hml, hr, hlk, hfr, hlo, hRc, hRs, hnm⟩ := id Z
  have hx := X.1
  have hb := X.2.1
  delta fX7_looksAnewAt_19 at hf
  refine lv_iconst (v := 1) hx hb dX7_looksAnewAt_19 (by decide) ?_
  exact vg_retz X (by simp) hr hlk hH hL dX7_looksAnewAt_20 hf hC hN
def fX7_looksAnewAt_44  (v0 : Nat) (v1 : Option Nat) (k0 : Int32) (μ : vg_M) : vg_R Int32 :=
  vg_o v1 fun a1 =>
  vg_o (vg_gR μ a1 4 4) fun x2 =>
  vg_o (vg_gI μ v0 10 1) fun x3 =>
  vg_o (vg_gI μ v0 10 3) fun x4 =>
  vg_o x2 fun a5 =>
  vg_o (vg_sI μ a5 2 x3 x4) fun μ6 =>
  vg_o (vg_z .boolean k0) fun z => vg_ret z μ6
set_option maxHeartbeats 4000000 in
set_option maxRecDepth 100000 in
theorem wX7_looksAnewAt_44 {p : Program} {l : Launch} {e : Env} {R : Room} {s : State} {m : MethodId} {args : Array Value} {below : List Frame} {meth : Method} {c : Code} {D : va_G} {cy : Nat → ClassId} {H0 : Heap} {C0 N0 : Nat} {r : Int32} {μ' : vg_M} (Z : vg_Z D cy H0 p s m args c cX7_looksAnewAt RX7 meth 3 (some .boolean) R 12 C0 N0 "looksAnewAt")   (v0 : Nat) (v1 : Option Nat) (k0 : Int32) (μ : vg_M) : vg_S p l e R s m args below meth c D cy H0 C0 N0 3 (MQ below (vg_Qc D cy H0 μ' (some (.int r))) args s C0 N0 (vg_fr H0)) r μ' (fX7_looksAnewAt_44  v0 v1 k0 μ) μ [(0, .ref v0), (1, va_rf v1)] [.int k0] 44 := by
  intro cn nn H locs cells slots ls hf hH hL hC hN hl
  obtain ⟨X, hml, hr, hlk, hfr, hlo, hRc, hRs, hnm⟩ := id Z
  have hx := X.1
  have hb := X.2.1
  delta fX7_looksAnewAt_44 at hf
  refine vg_istore_n (lv' := [(2, .int k0), (0, .ref v0), (1, va_rf v1)]) hx hb dX7_looksAnewAt_44 rfl hl (by decide) rfl (fun ls hl => ?_)
  refine vg_aload_n hx hb dX7_looksAnewAt_45 rfl (lv_at hl.1 2 rfl) ?_
  obtain ⟨a1, h9, hg⟩ := vg_o_inv hf
  clear hf
  subst h9
  have hf := hg
  clear hg
  refine vg_getRr X hH fR_X7_50 dX7_looksAnewAt_46 hf (fun x2 hf => ?_)
  refine lv_aload_n hx hb dX7_looksAnewAt_49 rfl (lv_at hl.1 1 rfl) ?_
  refine vg_getI X hH fF_X7_26 dX7_looksAnewAt_50 hf (fun x3 hf => ?_)
  refine lv_aload_n hx hb dX7_looksAnewAt_53 rfl (lv_at hl.1 1 rfl) ?_
  refine vg_getI X hH fF_X7_18 dX7_looksAnewAt_54 hf (fun x4 hf => ?_)
  obtain ⟨a5, h9, hg⟩ := vg_o_inv hf
  clear hf
  subst h9
  have hf := hg
  clear hg
  refine vg_iast X hH hL dX7_looksAnewAt_57 hf (fun μ6 H locs hf hH hL => ?_)
  refine lv_iload_n hx hb dX7_looksAnewAt_58 rfl (lv_at hl.1 0 rfl) ?_
  exact vg_retz X (by simp) hr hlk hH hL dX7_looksAnewAt_59 hf hC hN
def fX7_looksAnewAt (v0 : Nat) (v1 : Option Nat) (μ : vg_M) : vg_R Int32 :=
  vg_o (vg_gI μ v0 10 1) fun x7 =>
  if x7 < 0 then (
   fX7_looksAnewAt_19   μ
   ) else (
   vg_o (vg_gI μ v0 10 1) fun x8 =>
   vg_o v1 fun a9 =>
   vg_o (vg_gR μ a9 4 4) fun x10 =>
   vg_o x10 fun a11 =>
   vg_o (vg_al μ a11) fun x12 =>
   if x8 < x12 then (
    vg_o (vg_gR μ a9 4 4) fun x13 =>
    vg_o (vg_gI μ v0 10 1) fun x14 =>
    vg_o x13 fun a15 =>
    vg_o (vg_aI μ a15 2 x14) fun x16 =>
    vg_o (vg_gI μ v0 10 3) fun x17 =>
    if x16 = (x17 - 1) then (
     fX7_looksAnewAt_44  v0 (some a9) 0 μ
     ) else (
     fX7_looksAnewAt_44  v0 (some a9) 1 μ
     )
    ) else (
    fX7_looksAnewAt_19   μ
    )
   )
set_option maxHeartbeats 4000000 in
set_option maxRecDepth 100000 in
theorem cX7_looksAnewAt_met {l : Launch} {D : va_G} {cy : Nat → ClassId} {H0 : Heap} {r : Int32} {μ μ' : vg_M} {cn nn : Nat} {v0 : Nat} {v1 : Option Nat} (hf : fX7_looksAnewAt v0 v1 μ = some (r, μ', cn, nn)) : vg_Met l D cy H0 yX7_looksAnewAt cX7_looksAnewAt 3 (some .boolean) 12 μ [.ref v0, va_rf v1] (some (.int r)) μ' cn nn := by
  refine vg_start (by decide +kernel) (List.forall_mem_cons.mpr ⟨rfl, (List.forall_mem_cons.mpr ⟨vg_rfc _, (fun _ h => nomatch h)⟩)⟩) (Nat.le_of_ble_eq_true rfl) ?_
  intro p e s m below meth c ls X hml hr hlk hnm hH hl
  have hl : vg_l ls 3 [(0, .ref v0), (1, va_rf v1)] := hl
  have Z : vg_Z D cy H0 p s m _ c cX7_looksAnewAt RX7 meth 3 (some .boolean) (vg_rm 12 cn nn) 12 cn nn _ := ⟨X, hml, hr, hlk, Nat.le_refl _, Nat.le_refl _, Nat.le_refl _, Nat.le_refl _, hnm⟩
  obtain ⟨-, -, -, -, hfr, hlo, hRc, hRs, -⟩ := id Z
  have hx := X.1
  have hb := X.2.1
  have hL : ∀ z ∈ ([] : List Loc), H0.size ≤ z.base := fun _ h => nomatch h
  have hC : 0 + cn = cn := Nat.zero_add _
  have hN : 0 + nn = nn := Nat.zero_add _
  delta fX7_looksAnewAt at hf
  refine lv_aload_n hx hb dX7_looksAnewAt_0 rfl (lv_at hl.1 0 rfl) ?_
  refine vg_getI X hH fF_X7_26 dX7_looksAnewAt_1 hf (fun x7 hf => ?_)
  refine lv_if_lt (tgt := 19) hx hb dX7_looksAnewAt_4 (by decide) (fun h8 => ?_) (fun h8 => ?_)
  · have hf := vg_ip h8 hf
    exact wX7_looksAnewAt_19 Z   μ _ _ _ _ _ _ _ hf hH hL hC hN (hl.sub [] rfl)
  · have hf := vg_if h8 hf
    refine lv_aload_n hx hb dX7_looksAnewAt_7 rfl (lv_at hl.1 0 rfl) ?_
    refine vg_getI X hH fF_X7_26 dX7_looksAnewAt_8 hf (fun x8 hf => ?_)
    refine vg_aload_n hx hb dX7_looksAnewAt_11 rfl (lv_at hl.1 1 rfl) ?_
    obtain ⟨a9, h9, hg⟩ := vg_o_inv hf
    clear hf
    subst h9
    have hf := hg
    clear hg
    refine vg_getRr X hH fR_X7_50 dX7_looksAnewAt_12 hf (fun x10 hf => ?_)
    obtain ⟨a11, h9, hg⟩ := vg_o_inv hf
    clear hf
    subst h9
    have hf := hg
    clear hg
    refine vg_alen X hH dX7_looksAnewAt_15 hf (fun x12 hf => ?_)
    refine lv_icmp_lt (tgt := 21) hx hb dX7_looksAnewAt_16 (by decide) (fun h8 => ?_) (fun h8 => ?_)
    · have hf := vg_ip h8 hf
      refine lv_aload_n hx hb dX7_looksAnewAt_21 rfl (lv_at hl.1 1 rfl) ?_
      refine vg_getRr X hH fR_X7_50 dX7_looksAnewAt_22 hf (fun x13 hf => ?_)
      refine lv_aload_n hx hb dX7_looksAnewAt_25 rfl (lv_at hl.1 0 rfl) ?_
      refine vg_getI X hH fF_X7_26 dX7_looksAnewAt_26 hf (fun x14 hf => ?_)
      obtain ⟨a15, h9, hg⟩ := vg_o_inv hf
      clear hf
      subst h9
      have hf := hg
      clear hg
      refine vg_iald X hH dX7_looksAnewAt_29 hf (fun x16 hf => ?_)
      refine lv_aload_n hx hb dX7_looksAnewAt_30 rfl (lv_at hl.1 0 rfl) ?_
      refine vg_getI X hH fF_X7_18 dX7_looksAnewAt_31 hf (fun x17 hf => ?_)
      refine lv_iconst (v := 1) hx hb dX7_looksAnewAt_34 (by decide) ?_
      refine lv_isub hx hb dX7_looksAnewAt_35 ?_
      refine lv_icmp_eq (tgt := 43) hx hb dX7_looksAnewAt_36 (by decide) (fun h8 => ?_) (fun h8 => ?_)
      · have hf := vg_ip h8 hf
        refine lv_iconst (v := 0) hx hb dX7_looksAnewAt_43 (by decide) ?_
        exact wX7_looksAnewAt_44 Z  v0 (some a9) 0 μ _ _ _ _ _ _ _ hf hH hL hC hN (hl.sub [0, 1] rfl)
      · have hf := vg_if h8 hf
        refine lv_iconst (v := 1) hx hb dX7_looksAnewAt_39 (by decide) ?_
        refine lv_goto (tgt := 44) hx hb dX7_looksAnewAt_40 (by decide) ?_
        exact wX7_looksAnewAt_44 Z  v0 (some a9) 1 μ _ _ _ _ _ _ _ hf hH hL hC hN (hl.sub [0, 1] rfl)
    · have hf := vg_if h8 hf
      exact wX7_looksAnewAt_19 Z   μ _ _ _ _ _ _ _ hf hH hL hC hN (hl.sub [] rfl)
def fX4_statesAt_23  (k0 : Int32) (μ : vg_M) : vg_R Int32 :=
  vg_ret k0 μ
set_option maxHeartbeats 4000000 in
set_option maxRecDepth 100000 in
theorem wX4_statesAt_23 {p : Program} {l : Launch} {e : Env} {R : Room} {s : State} {m : MethodId} {args : Array Value} {below : List Frame} {meth : Method} {c : Code} {D : va_G} {cy : Nat → ClassId} {H0 : Heap} {C0 N0 : Nat} {r : Int32} {μ' : vg_M} (Z : vg_Z D cy H0 p s m args c cX4_statesAt RX4 meth 2 (some .int) R 12 C0 N0 "statesAt")   (k0 : Int32) (μ : vg_M) : vg_S p l e R s m args below meth c D cy H0 C0 N0 2 (MQ below (vg_Qc D cy H0 μ' (some (.int r))) args s C0 N0 (vg_fr H0)) r μ' (fX4_statesAt_23  k0 μ) μ [] [.int k0] 23 := by
  intro cn nn H locs cells slots ls hf hH hL hC hN hl
  obtain ⟨X, hml, hr, hlk, hfr, hlo, hRc, hRs, hnm⟩ := id Z
  have hx := X.1
  have hb := X.2.1
  delta fX4_statesAt_23 at hf
  exact vg_reti X hr hlk hH hL dX4_statesAt_23 hf hC hN
def fX4_statesAt_22   (μ : vg_M) : vg_R Int32 :=
  fX4_statesAt_23  0 μ
set_option maxHeartbeats 4000000 in
set_option maxRecDepth 100000 in
theorem wX4_statesAt_22 {p : Program} {l : Launch} {e : Env} {R : Room} {s : State} {m : MethodId} {args : Array Value} {below : List Frame} {meth : Method} {c : Code} {D : va_G} {cy : Nat → ClassId} {H0 : Heap} {C0 N0 : Nat} {r : Int32} {μ' : vg_M} (Z : vg_Z D cy H0 p s m args c cX4_statesAt RX4 meth 2 (some .int) R 12 C0 N0 "statesAt")    (μ : vg_M) : vg_S p l e R s m args below meth c D cy H0 C0 N0 2 (MQ below (vg_Qc D cy H0 μ' (some (.int r))) args s C0 N0 (vg_fr H0)) r μ' (fX4_statesAt_22   μ) μ [] [] 22 := by
  intro cn nn H locs cells slots ls hf hH hL hC hN hl
  obtain ⟨X, hml, hr, hlk, hfr, hlo, hRc, hRs, hnm⟩ := id Z
  have hx := X.1
  have hb := X.2.1
  delta fX4_statesAt_22 at hf
  refine lv_iconst (v := 0) hx hb dX4_statesAt_22 (by decide) ?_
  exact wX4_statesAt_23 Z  0 μ _ _ _ _ _ _ _ hf hH hL hC hN (hl.sub [] rfl)
def fX4_statesAt (v0 : Nat) (v1 : Int32) (μ : vg_M) : vg_R Int32 :=
  if v1 < 0 then (
   fX4_statesAt_22   μ
   ) else (
   vg_o (vg_gR μ v0 7 3) fun x1 =>
   vg_o x1 fun a2 =>
   vg_o (vg_al μ a2) fun x3 =>
   if x3 ≤ v1 then (
    fX4_statesAt_22   μ
    ) else (
    vg_o (vg_gR μ v0 7 3) fun x4 =>
    vg_o x4 fun a5 =>
    vg_o (vg_aI μ a5 2 v1) fun x6 =>
    fX4_statesAt_23  x6 μ
    )
   )
set_option maxHeartbeats 4000000 in
set_option maxRecDepth 100000 in
theorem cX4_statesAt_met {l : Launch} {D : va_G} {cy : Nat → ClassId} {H0 : Heap} {r : Int32} {μ μ' : vg_M} {cn nn : Nat} {v0 : Nat} {v1 : Int32} (hf : fX4_statesAt v0 v1 μ = some (r, μ', cn, nn)) : vg_Met l D cy H0 yX4_statesAt cX4_statesAt 2 (some .int) 12 μ [.ref v0, .int v1] (some (.int r)) μ' cn nn := by
  refine vg_start (by decide +kernel) (List.forall_mem_cons.mpr ⟨rfl, (List.forall_mem_cons.mpr ⟨rfl, (fun _ h => nomatch h)⟩)⟩) (Nat.le_of_ble_eq_true rfl) ?_
  intro p e s m below meth c ls X hml hr hlk hnm hH hl
  have hl : vg_l ls 2 [(0, .ref v0), (1, .int v1)] := hl
  have Z : vg_Z D cy H0 p s m _ c cX4_statesAt RX4 meth 2 (some .int) (vg_rm 12 cn nn) 12 cn nn _ := ⟨X, hml, hr, hlk, Nat.le_refl _, Nat.le_refl _, Nat.le_refl _, Nat.le_refl _, hnm⟩
  obtain ⟨-, -, -, -, hfr, hlo, hRc, hRs, -⟩ := id Z
  have hx := X.1
  have hb := X.2.1
  have hL : ∀ z ∈ ([] : List Loc), H0.size ≤ z.base := fun _ h => nomatch h
  have hC : 0 + cn = cn := Nat.zero_add _
  have hN : 0 + nn = nn := Nat.zero_add _
  delta fX4_statesAt at hf
  refine lv_iload_n hx hb dX4_statesAt_0 rfl (lv_at hl.1 1 rfl) ?_
  refine lv_if_lt (tgt := 22) hx hb dX4_statesAt_1 (by decide) (fun h8 => ?_) (fun h8 => ?_)
  · have hf := vg_ip h8 hf
    exact wX4_statesAt_22 Z   μ _ _ _ _ _ _ _ hf hH hL hC hN (hl.sub [] rfl)
  · have hf := vg_if h8 hf
    refine lv_iload_n hx hb dX4_statesAt_4 rfl (lv_at hl.1 1 rfl) ?_
    refine lv_aload_n hx hb dX4_statesAt_5 rfl (lv_at hl.1 0 rfl) ?_
    refine vg_getR X hH fF_X4_18 dX4_statesAt_6 hf (fun x1 hf => ?_)
    obtain ⟨a2, h9, hg⟩ := vg_o_inv hf
    clear hf
    subst h9
    have hf := hg
    clear hg
    refine vg_alen X hH dX4_statesAt_9 hf (fun x3 hf => ?_)
    refine lv_icmp_ge (tgt := 22) hx hb dX4_statesAt_10 (by decide) (fun h8 => ?_) (fun h8 => ?_)
    · have hf := vg_ip h8 hf
      exact wX4_statesAt_22 Z   μ _ _ _ _ _ _ _ hf hH hL hC hN (hl.sub [] rfl)
    · have hf := vg_if h8 hf
      refine lv_aload_n hx hb dX4_statesAt_13 rfl (lv_at hl.1 0 rfl) ?_
      refine vg_getR X hH fF_X4_18 dX4_statesAt_14 hf (fun x4 hf => ?_)
      refine lv_iload_n hx hb dX4_statesAt_17 rfl (lv_at hl.1 1 rfl) ?_
      obtain ⟨a5, h9, hg⟩ := vg_o_inv hf
      clear hf
      subst h9
      have hf := hg
      clear hg
      refine vg_iald X hH dX4_statesAt_18 hf (fun x6 hf => ?_)
      refine lv_goto (tgt := 23) hx hb dX4_statesAt_19 (by decide) ?_
      exact wX4_statesAt_23 Z  x6 μ _ _ _ _ _ _ _ hf hH hL hC hN (hl.sub [] rfl)
def fX4_goesOn_25  (k0 : Int32) (μ : vg_M) : vg_R Int32 :=
  vg_o (vg_z .boolean k0) fun z => vg_ret z μ
set_option maxHeartbeats 4000000 in
set_option maxRecDepth 100000 in
theorem wX4_goesOn_25 {p : Program} {l : Launch} {e : Env} {R : Room} {s : State} {m : MethodId} {args : Array Value} {below : List Frame} {meth : Method} {c : Code} {D : va_G} {cy : Nat → ClassId} {H0 : Heap} {C0 N0 : Nat} {r : Int32} {μ' : vg_M} (Z : vg_Z D cy H0 p s m args c cX4_goesOn RX4 meth 2 (some .boolean) R 13 C0 N0 "goesOn")   (k0 : Int32) (μ : vg_M) : vg_S p l e R s m args below meth c D cy H0 C0 N0 2 (MQ below (vg_Qc D cy H0 μ' (some (.int r))) args s C0 N0 (vg_fr H0)) r μ' (fX4_goesOn_25  k0 μ) μ [] [.int k0] 25 := by
  intro cn nn H locs cells slots ls hf hH hL hC hN hl
  obtain ⟨X, hml, hr, hlk, hfr, hlo, hRc, hRs, hnm⟩ := id Z
  have hx := X.1
  have hb := X.2.1
  delta fX4_goesOn_25 at hf
  exact vg_retz X (by simp) hr hlk hH hL dX4_goesOn_25 hf hC hN
def fX4_goesOn (v0 : Nat) (v1 : Int32) (μ : vg_M) : vg_R Int32 :=
  vg_cv 7 v0 μ (fX4_statesAt v0 v1 μ) fun x1 μ2 =>
  vg_o (vg_gR μ2 v0 7 2) fun x3 =>
  vg_o x3 fun a4 =>
  vg_cv 2 a4 μ2 (fJx4a65c_size_8abf5 a4  μ2) fun x5 μ6 =>
  if (x1 &&& ((1 <<< (x5 &&& 31)) - 1)) = 0 then (
   fX4_goesOn_25  0 μ6
   ) else (
   fX4_goesOn_25  1 μ6
   )
set_option maxHeartbeats 4000000 in
set_option maxRecDepth 100000 in
theorem cX4_goesOn_met {l : Launch} {D : va_G} {cy : Nat → ClassId} {H0 : Heap} {r : Int32} {μ μ' : vg_M} {cn nn : Nat} {v0 : Nat} {v1 : Int32} (hf : fX4_goesOn v0 v1 μ = some (r, μ', cn, nn)) : vg_Met l D cy H0 yX4_goesOn cX4_goesOn 2 (some .boolean) 13 μ [.ref v0, .int v1] (some (.int r)) μ' cn nn := by
  refine vg_start (by decide +kernel) (List.forall_mem_cons.mpr ⟨rfl, (List.forall_mem_cons.mpr ⟨rfl, (fun _ h => nomatch h)⟩)⟩) (Nat.le_of_ble_eq_true rfl) ?_
  intro p e s m below meth c ls X hml hr hlk hnm hH hl
  have hl : vg_l ls 2 [(0, .ref v0), (1, .int v1)] := hl
  have Z : vg_Z D cy H0 p s m _ c cX4_goesOn RX4 meth 2 (some .boolean) (vg_rm 13 cn nn) 13 cn nn _ := ⟨X, hml, hr, hlk, Nat.le_refl _, Nat.le_refl _, Nat.le_refl _, Nat.le_refl _, hnm⟩
  obtain ⟨-, -, -, -, hfr, hlo, hRc, hRs, -⟩ := id Z
  have hx := X.1
  have hb := X.2.1
  have hL : ∀ z ∈ ([] : List Loc), H0.size ≤ z.base := fun _ h => nomatch h
  have hC : 0 + cn = cn := Nat.zero_add _
  have hN : 0 + nn = nn := Nat.zero_add _
  delta fX4_goesOn at hf
  refine lv_aload_n hx hb dX4_goesOn_0 rfl (lv_at hl.1 0 rfl) ?_
  refine lv_iload_n hx hb dX4_goesOn_1 rfl (lv_at hl.1 1 rfl) ?_
  refine vg_callVi (ci := 7) X hml hl hH hL fCV_X4_62 rfl [.int v1] rfl rfl (Nat.le_of_ble_eq_true rfl) dX4_goesOn_2 hf hC hN hRc hRs hfr hlo (by decide) (fun _ _ _ _ h => cX4_statesAt_met h) (fun x1 μ2 cn nn H locs cells slots hf hC hN hH hL => ?_)
  refine lv_iconst (v := 1) hx hb dX4_goesOn_5 (by decide) ?_
  refine lv_aload_n hx hb dX4_goesOn_6 rfl (lv_at hl.1 0 rfl) ?_
  refine vg_getR X hH fF_X4_12 dX4_goesOn_7 hf (fun x3 hf => ?_)
  obtain ⟨a4, h9, hg⟩ := vg_o_inv hf
  clear hf
  subst h9
  have hf := hg
  clear hg
  refine vg_callVi (ci := 2) X hml hl hH hL fCV_X4_26 rfl [] rfl rfl (Nat.le_of_ble_eq_true rfl) dX4_goesOn_10 hf hC hN hRc hRs hfr hlo (by decide) (fun _ _ _ _ h => cJx4a65c_size_8abf5_met h) (fun x5 μ6 cn nn H locs cells slots hf hC hN hH hL => ?_)
  refine lv_ishl hx hb dX4_goesOn_13 ?_
  refine lv_iconst (v := 1) hx hb dX4_goesOn_14 (by decide) ?_
  refine lv_isub hx hb dX4_goesOn_15 ?_
  refine lv_iand hx hb dX4_goesOn_16 ?_
  refine lv_if_eq (tgt := 24) hx hb dX4_goesOn_17 (by decide) (fun h8 => ?_) (fun h8 => ?_)
  · have hf := vg_ip h8 hf
    refine lv_iconst (v := 0) hx hb dX4_goesOn_24 (by decide) ?_
    exact wX4_goesOn_25 Z  0 μ6 _ _ _ _ _ _ _ hf hH hL hC hN (hl.sub [] rfl)
  · have hf := vg_if h8 hf
    refine lv_iconst (v := 1) hx hb dX4_goesOn_20 (by decide) ?_
    refine lv_goto (tgt := 25) hx hb dX4_goesOn_21 (by decide) ?_
    exact wX4_goesOn_25 Z  1 μ6 _ _ _ _ _ _ _ hf hH hL hC hN (hl.sub [] rfl)
def fX7_goesOn_42 (q2 : Nat → Int32 → Int32 → vg_M → vg_R Int32) (v0 : Nat) (v1 : Int32) (v2 : Int32) (μ : vg_M) : vg_R Int32 :=
  q2 v0 v1 (v2 + 1) μ
set_option maxHeartbeats 4000000 in
set_option maxRecDepth 100000 in
theorem wX7_goesOn_42 {p : Program} {l : Launch} {e : Env} {R : Room} {s : State} {m : MethodId} {args : Array Value} {below : List Frame} {meth : Method} {c : Code} {D : va_G} {cy : Nat → ClassId} {H0 : Heap} {C0 N0 : Nat} {r : Int32} {μ' : vg_M} (Z : vg_Z D cy H0 p s m args c cX7_goesOn RX7 meth 4 (some .boolean) R 15 C0 N0 "goesOn") {q2 : Nat → Int32 → Int32 → vg_M → vg_R Int32} (hk2 : ∀ (v0 : Nat) (v1 : Int32) (v2 : Int32) (μ : vg_M), vg_S p l e R s m args below meth c D cy H0 C0 N0 4 (MQ below (vg_Qc D cy H0 μ' (some (.int r))) args s C0 N0 (vg_fr H0)) r μ' (q2 v0 v1 v2 μ) μ [(0, .ref v0), (1, .int v1), (2, .int v2)] [] 2) (v0 : Nat) (v1 : Int32) (v2 : Int32) (μ : vg_M) : vg_S p l e R s m args below meth c D cy H0 C0 N0 4 (MQ below (vg_Qc D cy H0 μ' (some (.int r))) args s C0 N0 (vg_fr H0)) r μ' (fX7_goesOn_42 q2 v0 v1 v2 μ) μ [(0, .ref v0), (1, .int v1), (2, .int v2)] [] 42 := by
  intro cn nn H locs cells slots ls hf hH hL hC hN hl
  obtain ⟨X, hml, hr, hlk, hfr, hlo, hRc, hRs, hnm⟩ := id Z
  have hx := X.1
  have hb := X.2.1
  delta fX7_goesOn_42 at hf
  refine vg_iinc (v := v2 + 1) (lv' := [(2, .int (v2 + 1)), (0, .ref v0), (1, .int v1)]) hx hb dX7_goesOn_42 hl (k := 2) rfl rfl (by decide) rfl (fun ls hl => ?_)
  refine lv_goto (tgt := 2) hx hb dX7_goesOn_45 (by decide) ?_
  exact hk2 v0 v1 (v2 + 1) μ _ _ _ _ _ _ _ hf hH hL hC hN (hl.sub [1, 2, 0] rfl)
def fX7_goesOn_2  : Nat → Nat → Int32 → Int32 → vg_M → vg_R Int32
  | 0, _, _, _, _ => none
  | n + 1, v0, v1, v2, μ =>
    vg_o (vg_gR μ v0 10 2) fun x1 =>
    vg_o x1 fun a2 =>
    vg_cv 2 a2 μ (fJx4a65c_size_8abf5 a2  μ) fun x3 μ4 =>
    if x3 ≤ v2 then (
     vg_o (vg_z .boolean 0) fun z => vg_ret z μ4
     ) else (
     vg_o (vg_gR μ4 v0 10 2) fun x5 =>
     vg_o x5 fun a6 =>
     vg_cv 2 a6 μ4 (fJx4a65c_get_915e3 a6 v2 μ4) fun x7 μ8 =>
     vg_ck μ8 x7 7 <|
     vg_o x7 fun a9 =>
     vg_o (vg_gI μ8 a9 7 0) fun x10 =>
     if x10 = 0 then (
      vg_cv 7 a9 μ8 (fX4_goesOn a9 v1 μ8) fun x11 μ12 =>
      if x11 = 0 then (
       fX7_goesOn_42 (fX7_goesOn_2  n) v0 v1 v2 μ12
       ) else (
       vg_o (vg_z .boolean 1) fun z => vg_ret z μ12
       )
      ) else (
      fX7_goesOn_42 (fX7_goesOn_2  n) v0 v1 v2 μ8
      )
     )
set_option maxHeartbeats 4000000 in
set_option maxRecDepth 100000 in
theorem wX7_goesOn_2 {p : Program} {l : Launch} {e : Env} {R : Room} {s : State} {m : MethodId} {args : Array Value} {below : List Frame} {meth : Method} {c : Code} {D : va_G} {cy : Nat → ClassId} {H0 : Heap} {C0 N0 : Nat} {r : Int32} {μ' : vg_M} (Z : vg_Z D cy H0 p s m args c cX7_goesOn RX7 meth 4 (some .boolean) R 15 C0 N0 "goesOn")   : ∀ (n : Nat) (v0 : Nat) (v1 : Int32) (v2 : Int32) (μ : vg_M), vg_S p l e R s m args below meth c D cy H0 C0 N0 4 (MQ below (vg_Qc D cy H0 μ' (some (.int r))) args s C0 N0 (vg_fr H0)) r μ' (fX7_goesOn_2  n v0 v1 v2 μ) μ [(0, .ref v0), (1, .int v1), (2, .int v2)] [] 2 := by
  intro n
  induction n with
  | zero =>
    intro v0 v1 v2 μ cn nn H locs cells slots ls hf
    simp [fX7_goesOn_2] at hf
  | succ n hk2 =>
    intro v0 v1 v2 μ
    intro cn nn H locs cells slots ls hf hH hL hC hN hl
    obtain ⟨X, hml, hr, hlk, hfr, hlo, hRc, hRs, hnm⟩ := id Z
    have hx := X.1
    have hb := X.2.1
    rw [fX7_goesOn_2] at hf
    refine lv_iload_n hx hb dX7_goesOn_2 rfl (lv_at hl.1 2 rfl) ?_
    refine lv_aload_n hx hb dX7_goesOn_3 rfl (lv_at hl.1 0 rfl) ?_
    refine vg_getR X hH fF_X7_12 dX7_goesOn_4 hf (fun x1 hf => ?_)
    obtain ⟨a2, h9, hg⟩ := vg_o_inv hf
    clear hf
    subst h9
    have hf := hg
    clear hg
    refine vg_callVi (ci := 2) X hml hl hH hL fCV_X7_29 rfl [] rfl rfl (Nat.le_of_ble_eq_true rfl) dX7_goesOn_7 hf hC hN hRc hRs hfr hlo (by decide) (fun _ _ _ _ h => cJx4a65c_size_8abf5_met h) (fun x3 μ4 cn nn H locs cells slots hf hC hN hH hL => ?_)
    refine lv_icmp_ge (tgt := 48) hx hb dX7_goesOn_10 (by decide) (fun h8 => ?_) (fun h8 => ?_)
    · have hf := vg_ip h8 hf
      refine lv_iconst (v := 0) hx hb dX7_goesOn_48 (by decide) ?_
      exact vg_retz X (by simp) hr hlk hH hL dX7_goesOn_49 hf hC hN
    · have hf := vg_if h8 hf
      refine lv_aload_n hx hb dX7_goesOn_13 rfl (lv_at hl.1 0 rfl) ?_
      refine vg_getR X hH fF_X7_12 dX7_goesOn_14 hf (fun x5 hf => ?_)
      refine lv_iload_n hx hb dX7_goesOn_17 rfl (lv_at hl.1 2 rfl) ?_
      obtain ⟨a6, h9, hg⟩ := vg_o_inv hf
      clear hf
      subst h9
      have hf := hg
      clear hg
      refine vg_callVr (ci := 2) X hml hl hH hL fCV_X7_33 rfl [.int v2] rfl rfl (Nat.le_of_ble_eq_true rfl) dX7_goesOn_18 hf hC hN hRc hRs hfr hlo (by decide) (fun _ _ _ _ h => cJx4a65c_get_915e3_met h) (fun x7 μ8 cn nn H locs cells slots hf hC hN hH hL => ?_)
      refine vg_castC (ci := 7) X hH rfl kw_481568071 (x := x7) dX7_goesOn_21 hf (fun hf => ?_)
      refine vg_astore_n (lv' := [(3, va_rf x7), (0, .ref v0), (1, .int v1), (2, .int v2)]) hx hb dX7_goesOn_24 rfl hl (by decide) rfl (fun ls hl => ?_)
      refine vg_aload_n hx hb dX7_goesOn_25 rfl (lv_at hl.1 0 rfl) ?_
      obtain ⟨a9, h9, hg⟩ := vg_o_inv hf
      clear hf
      subst h9
      have hf := hg
      clear hg
      refine vg_getIr X hH fR_X7_39 dX7_goesOn_26 hf (fun x10 hf => ?_)
      refine lv_if_ne (tgt := 42) hx hb dX7_goesOn_29 (by decide) (fun h8 => ?_) (fun h8 => ?_)
      · have hf := vg_if h8 hf
        exact wX7_goesOn_42 Z hk2 v0 v1 v2 μ8 _ _ _ _ _ _ _ hf hH hL hC hN (hl.sub [1, 2, 3] rfl)
      · have hf := vg_ip h8 hf
        refine lv_aload_n hx hb dX7_goesOn_32 rfl (lv_at hl.1 0 rfl) ?_
        refine lv_iload_n hx hb dX7_goesOn_33 rfl (lv_at hl.1 2 rfl) ?_
        refine vg_callVi (ci := 7) X hml hl hH hL fCV_X7_68 rfl [.int v1] rfl rfl (Nat.le_of_ble_eq_true rfl) dX7_goesOn_34 hf hC hN hRc hRs hfr hlo (by decide) (fun _ _ _ _ h => cX4_goesOn_met h) (fun x11 μ12 cn nn H locs cells slots hf hC hN hH hL => ?_)
        refine lv_if_eq (tgt := 42) hx hb dX7_goesOn_37 (by decide) (fun h8 => ?_) (fun h8 => ?_)
        · have hf := vg_ip h8 hf
          exact wX7_goesOn_42 Z hk2 v0 v1 v2 μ12 _ _ _ _ _ _ _ hf hH hL hC hN (hl.sub [1, 2, 3] rfl)
        · have hf := vg_if h8 hf
          refine lv_iconst (v := 1) hx hb dX7_goesOn_40 (by decide) ?_
          exact vg_retz X (by simp) hr hlk hH hL dX7_goesOn_41 hf hC hN
def fX7_goesOn (v0 : Nat) (v1 : Int32) (μ : vg_M) : vg_R Int32 :=
  fX7_goesOn_2  vg_fuel v0 v1 0 μ
set_option maxHeartbeats 4000000 in
set_option maxRecDepth 100000 in
theorem cX7_goesOn_met {l : Launch} {D : va_G} {cy : Nat → ClassId} {H0 : Heap} {r : Int32} {μ μ' : vg_M} {cn nn : Nat} {v0 : Nat} {v1 : Int32} (hf : fX7_goesOn v0 v1 μ = some (r, μ', cn, nn)) : vg_Met l D cy H0 yX7_goesOn cX7_goesOn 4 (some .boolean) 15 μ [.ref v0, .int v1] (some (.int r)) μ' cn nn := by
  refine vg_start (by decide +kernel) (List.forall_mem_cons.mpr ⟨rfl, (List.forall_mem_cons.mpr ⟨rfl, (fun _ h => nomatch h)⟩)⟩) (Nat.le_of_ble_eq_true rfl) ?_
  intro p e s m below meth c ls X hml hr hlk hnm hH hl
  have hl : vg_l ls 4 [(0, .ref v0), (1, .int v1)] := hl
  have Z : vg_Z D cy H0 p s m _ c cX7_goesOn RX7 meth 4 (some .boolean) (vg_rm 15 cn nn) 15 cn nn _ := ⟨X, hml, hr, hlk, Nat.le_refl _, Nat.le_refl _, Nat.le_refl _, Nat.le_refl _, hnm⟩
  obtain ⟨-, -, -, -, hfr, hlo, hRc, hRs, -⟩ := id Z
  have hx := X.1
  have hb := X.2.1
  have hL : ∀ z ∈ ([] : List Loc), H0.size ≤ z.base := fun _ h => nomatch h
  have hC : 0 + cn = cn := Nat.zero_add _
  have hN : 0 + nn = nn := Nat.zero_add _
  delta fX7_goesOn at hf
  refine lv_iconst (v := 0) hx hb dX7_goesOn_0 (by decide) ?_
  refine vg_istore_n (lv' := [(2, .int 0), (0, .ref v0), (1, .int v1)]) hx hb dX7_goesOn_1 rfl hl (by decide) rfl (fun ls hl => ?_)
  exact wX7_goesOn_2 Z  vg_fuel v0 v1 0 μ _ _ _ _ _ _ _ hf hH hL hC hN (hl.sub [1, 2, 0] rfl)
def fX6_behind_62 (q10 : Nat → Int32 → Int32 → Int32 → Int32 → vg_M → vg_R Int32) (v0 : Nat) (v1 : Int32) (v2 : Int32) (v3 : Int32) (v4 : Int32) (μ : vg_M) : vg_R Int32 :=
  q10 v0 v1 v2 v3 (v4 + 1) μ
set_option maxHeartbeats 4000000 in
set_option maxRecDepth 100000 in
theorem wX6_behind_62 {p : Program} {l : Launch} {e : Env} {R : Room} {s : State} {m : MethodId} {args : Array Value} {below : List Frame} {meth : Method} {c : Code} {D : va_G} {cy : Nat → ClassId} {H0 : Heap} {C0 N0 : Nat} {r : Int32} {μ' : vg_M} (Z : vg_Z D cy H0 p s m args c cX6_behind RX6 meth 5 (some .int) R 16 C0 N0 "behind") {q10 : Nat → Int32 → Int32 → Int32 → Int32 → vg_M → vg_R Int32} (hk10 : ∀ (v0 : Nat) (v1 : Int32) (v2 : Int32) (v3 : Int32) (v4 : Int32) (μ : vg_M), vg_S p l e R s m args below meth c D cy H0 C0 N0 5 (MQ below (vg_Qc D cy H0 μ' (some (.int r))) args s C0 N0 (vg_fr H0)) r μ' (q10 v0 v1 v2 v3 v4 μ) μ [(0, .ref v0), (1, .int v1), (2, .int v2), (3, .int v3), (4, .int v4)] [] 10) (v0 : Nat) (v1 : Int32) (v2 : Int32) (v3 : Int32) (v4 : Int32) (μ : vg_M) : vg_S p l e R s m args below meth c D cy H0 C0 N0 5 (MQ below (vg_Qc D cy H0 μ' (some (.int r))) args s C0 N0 (vg_fr H0)) r μ' (fX6_behind_62 q10 v0 v1 v2 v3 v4 μ) μ [(0, .ref v0), (1, .int v1), (2, .int v2), (3, .int v3), (4, .int v4)] [] 62 := by
  intro cn nn H locs cells slots ls hf hH hL hC hN hl
  obtain ⟨X, hml, hr, hlk, hfr, hlo, hRc, hRs, hnm⟩ := id Z
  have hx := X.1
  have hb := X.2.1
  delta fX6_behind_62 at hf
  refine vg_iinc (v := v4 + 1) (lv' := [(4, .int (v4 + 1)), (0, .ref v0), (1, .int v1), (2, .int v2), (3, .int v3)]) hx hb dX6_behind_62 hl (k := 4) rfl rfl (by decide) rfl (fun ls hl => ?_)
  refine lv_goto (tgt := 10) hx hb dX6_behind_65 (by decide) ?_
  exact hk10 v0 v1 v2 v3 (v4 + 1) μ _ _ _ _ _ _ _ hf hH hL hC hN (hl.sub [1, 2, 3, 4, 0] rfl)
def fX6_behind_10  : Nat → Nat → Int32 → Int32 → Int32 → Int32 → vg_M → vg_R Int32
  | 0, _, _, _, _, _, _ => none
  | n + 1, v0, v1, v2, v3, v4, μ =>
    vg_o (vg_gR μ v0 9 1) fun x1 =>
    vg_o x1 fun a2 =>
    vg_cv 2 a2 μ (fJx4a65c_size_8abf5 a2  μ) fun x3 μ4 =>
    if x3 ≤ v4 then (
     vg_ret v3 μ4
     ) else (
     if (v1 &&& (1 <<< (v4 &&& 31))) = 0 then (
      fX6_behind_62 (fX6_behind_10  n) v0 v1 v2 v3 v4 μ4
      ) else (
      vg_o (vg_gR μ4 v0 9 1) fun x5 =>
      vg_o x5 fun a6 =>
      vg_cv 2 a6 μ4 (fJx4a65c_get_915e3 a6 v4 μ4) fun x7 μ8 =>
      vg_ck μ8 x7 5 <|
      vg_o x7 fun a9 =>
      vg_o (vg_gR μ8 a9 5 0) fun x10 =>
      vg_o x10 fun a11 =>
      vg_cv 0 a11 μ8 (fJ0_indexOf_0f7a4 a11 v2 μ8) fun x12 μ13 =>
      if x12 < 0 then (
       fX6_behind_62 (fX6_behind_10  n) v0 v1 v2 v3 v4 μ13
       ) else (
       fX6_behind_62 (fX6_behind_10  n) v0 v1 v2 (v3 ||| (1 <<< ((v4 + 1) &&& 31))) v4 μ13
       )
      )
     )
set_option maxHeartbeats 4000000 in
set_option maxRecDepth 100000 in
theorem wX6_behind_10 {p : Program} {l : Launch} {e : Env} {R : Room} {s : State} {m : MethodId} {args : Array Value} {below : List Frame} {meth : Method} {c : Code} {D : va_G} {cy : Nat → ClassId} {H0 : Heap} {C0 N0 : Nat} {r : Int32} {μ' : vg_M} (Z : vg_Z D cy H0 p s m args c cX6_behind RX6 meth 5 (some .int) R 16 C0 N0 "behind")   : ∀ (n : Nat) (v0 : Nat) (v1 : Int32) (v2 : Int32) (v3 : Int32) (v4 : Int32) (μ : vg_M), vg_S p l e R s m args below meth c D cy H0 C0 N0 5 (MQ below (vg_Qc D cy H0 μ' (some (.int r))) args s C0 N0 (vg_fr H0)) r μ' (fX6_behind_10  n v0 v1 v2 v3 v4 μ) μ [(0, .ref v0), (1, .int v1), (2, .int v2), (3, .int v3), (4, .int v4)] [] 10 := by
  intro n
  induction n with
  | zero =>
    intro v0 v1 v2 v3 v4 μ cn nn H locs cells slots ls hf
    simp [fX6_behind_10] at hf
  | succ n hk10 =>
    intro v0 v1 v2 v3 v4 μ
    intro cn nn H locs cells slots ls hf hH hL hC hN hl
    obtain ⟨X, hml, hr, hlk, hfr, hlo, hRc, hRs, hnm⟩ := id Z
    have hx := X.1
    have hb := X.2.1
    rw [fX6_behind_10] at hf
    refine lv_iload hx hb dX6_behind_10 (lv_at hl.1 4 rfl) ?_
    refine lv_aload_n hx hb dX6_behind_12 rfl (lv_at hl.1 0 rfl) ?_
    refine vg_getR X hH fF_X6_12 dX6_behind_13 hf (fun x1 hf => ?_)
    obtain ⟨a2, h9, hg⟩ := vg_o_inv hf
    clear hf
    subst h9
    have hf := hg
    clear hg
    refine vg_callVi (ci := 2) X hml hl hH hL fCV_X6_22 rfl [] rfl rfl (Nat.le_of_ble_eq_true rfl) dX6_behind_16 hf hC hN hRc hRs hfr hlo (by decide) (fun _ _ _ _ h => cJx4a65c_size_8abf5_met h) (fun x3 μ4 cn nn H locs cells slots hf hC hN hH hL => ?_)
    refine lv_icmp_ge (tgt := 68) hx hb dX6_behind_19 (by decide) (fun h8 => ?_) (fun h8 => ?_)
    · have hf := vg_ip h8 hf
      refine lv_iload_n hx hb dX6_behind_68 rfl (lv_at hl.1 3 rfl) ?_
      exact vg_reti X hr hlk hH hL dX6_behind_69 hf hC hN
    · have hf := vg_if h8 hf
      refine lv_iload_n hx hb dX6_behind_22 rfl (lv_at hl.1 1 rfl) ?_
      refine lv_iconst (v := 1) hx hb dX6_behind_23 (by decide) ?_
      refine lv_iload hx hb dX6_behind_24 (lv_at hl.1 4 rfl) ?_
      refine lv_ishl hx hb dX6_behind_26 ?_
      refine lv_iand hx hb dX6_behind_27 ?_
      refine lv_if_eq (tgt := 62) hx hb dX6_behind_28 (by decide) (fun h8 => ?_) (fun h8 => ?_)
      · have hf := vg_ip h8 hf
        exact wX6_behind_62 Z hk10 v0 v1 v2 v3 v4 μ4 _ _ _ _ _ _ _ hf hH hL hC hN (hl.sub [0, 1, 2, 3, 4] rfl)
      · have hf := vg_if h8 hf
        refine lv_aload_n hx hb dX6_behind_31 rfl (lv_at hl.1 0 rfl) ?_
        refine vg_getR X hH fF_X6_12 dX6_behind_32 hf (fun x5 hf => ?_)
        refine lv_iload hx hb dX6_behind_35 (lv_at hl.1 4 rfl) ?_
        obtain ⟨a6, h9, hg⟩ := vg_o_inv hf
        clear hf
        subst h9
        have hf := hg
        clear hg
        refine vg_callVr (ci := 2) X hml hl hH hL fCV_X6_58 rfl [.int v4] rfl rfl (Nat.le_of_ble_eq_true rfl) dX6_behind_37 hf hC hN hRc hRs hfr hlo (by decide) (fun _ _ _ _ h => cJx4a65c_get_915e3_met h) (fun x7 μ8 cn nn H locs cells slots hf hC hN hH hL => ?_)
        refine vg_castC (ci := 5) X hH rfl kw_802802266 (x := x7) dX6_behind_40 hf (fun hf => ?_)
        obtain ⟨a9, h9, hg⟩ := vg_o_inv hf
        clear hf
        subst h9
        have hf := hg
        clear hg
        refine vg_getRr X hH fR_X6_62 dX6_behind_43 hf (fun x10 hf => ?_)
        refine lv_iload_n hx hb dX6_behind_46 rfl (lv_at hl.1 2 rfl) ?_
        obtain ⟨a11, h9, hg⟩ := vg_o_inv hf
        clear hf
        subst h9
        have hf := hg
        clear hg
        refine vg_callVi (ci := 0) X hml hl hH hL fCV_X6_66 rfl [.int v2] rfl rfl (Nat.le_of_ble_eq_true rfl) dX6_behind_47 hf hC hN hRc hRs hfr hlo (by decide) (fun _ _ _ _ h => cJ0_indexOf_0f7a4_met h) (fun x12 μ13 cn nn H locs cells slots hf hC hN hH hL => ?_)
        refine lv_if_lt (tgt := 62) hx hb dX6_behind_50 (by decide) (fun h8 => ?_) (fun h8 => ?_)
        · have hf := vg_ip h8 hf
          exact wX6_behind_62 Z hk10 v0 v1 v2 v3 v4 μ13 _ _ _ _ _ _ _ hf hH hL hC hN (hl.sub [0, 1, 2, 3, 4] rfl)
        · have hf := vg_if h8 hf
          refine lv_iload_n hx hb dX6_behind_53 rfl (lv_at hl.1 3 rfl) ?_
          refine lv_iconst (v := 1) hx hb dX6_behind_54 (by decide) ?_
          refine lv_iload hx hb dX6_behind_55 (lv_at hl.1 4 rfl) ?_
          refine lv_iconst (v := 1) hx hb dX6_behind_57 (by decide) ?_
          refine lv_iadd hx hb dX6_behind_58 ?_
          refine lv_ishl hx hb dX6_behind_59 ?_
          refine lv_ior hx hb dX6_behind_60 ?_
          refine vg_istore_n (lv' := [(3, .int (v3 ||| (1 <<< ((v4 + 1) &&& 31)))), (0, .ref v0), (1, .int v1), (2, .int v2), (4, .int v4)]) hx hb dX6_behind_61 rfl hl (by decide) rfl (fun ls hl => ?_)
          exact wX6_behind_62 Z hk10 v0 v1 v2 (v3 ||| (1 <<< ((v4 + 1) &&& 31))) v4 μ13 _ _ _ _ _ _ _ hf hH hL hC hN (hl.sub [1, 2, 3, 0, 4] rfl)
def fX6_behind (v0 : Nat) (v1 : Int32) (v2 : Int32) (μ : vg_M) : vg_R Int32 :=
  vg_o (vg_gI μ v0 9 2) fun x14 =>
  fX6_behind_10  vg_fuel v0 v1 v2 (v1 &&& x14) 0 μ
set_option maxHeartbeats 4000000 in
set_option maxRecDepth 100000 in
theorem cX6_behind_met {l : Launch} {D : va_G} {cy : Nat → ClassId} {H0 : Heap} {r : Int32} {μ μ' : vg_M} {cn nn : Nat} {v0 : Nat} {v1 : Int32} {v2 : Int32} (hf : fX6_behind v0 v1 v2 μ = some (r, μ', cn, nn)) : vg_Met l D cy H0 yX6_behind cX6_behind 5 (some .int) 16 μ [.ref v0, .int v1, .int v2] (some (.int r)) μ' cn nn := by
  refine vg_start (by decide +kernel) (List.forall_mem_cons.mpr ⟨rfl, (List.forall_mem_cons.mpr ⟨rfl, (List.forall_mem_cons.mpr ⟨rfl, (fun _ h => nomatch h)⟩)⟩)⟩) (Nat.le_of_ble_eq_true rfl) ?_
  intro p e s m below meth c ls X hml hr hlk hnm hH hl
  have hl : vg_l ls 5 [(0, .ref v0), (1, .int v1), (2, .int v2)] := hl
  have Z : vg_Z D cy H0 p s m _ c cX6_behind RX6 meth 5 (some .int) (vg_rm 16 cn nn) 16 cn nn _ := ⟨X, hml, hr, hlk, Nat.le_refl _, Nat.le_refl _, Nat.le_refl _, Nat.le_refl _, hnm⟩
  obtain ⟨-, -, -, -, hfr, hlo, hRc, hRs, -⟩ := id Z
  have hx := X.1
  have hb := X.2.1
  have hL : ∀ z ∈ ([] : List Loc), H0.size ≤ z.base := fun _ h => nomatch h
  have hC : 0 + cn = cn := Nat.zero_add _
  have hN : 0 + nn = nn := Nat.zero_add _
  delta fX6_behind at hf
  refine lv_iload_n hx hb dX6_behind_0 rfl (lv_at hl.1 1 rfl) ?_
  refine lv_aload_n hx hb dX6_behind_1 rfl (lv_at hl.1 0 rfl) ?_
  refine vg_getI X hH fF_X6_26 dX6_behind_2 hf (fun x14 hf => ?_)
  refine lv_iand hx hb dX6_behind_5 ?_
  refine vg_istore_n (lv' := [(3, .int (v1 &&& x14)), (0, .ref v0), (1, .int v1), (2, .int v2)]) hx hb dX6_behind_6 rfl hl (by decide) rfl (fun ls hl => ?_)
  refine lv_iconst (v := 0) hx hb dX6_behind_7 (by decide) ?_
  refine vg_istore (lv' := [(4, .int 0), (3, .int (v1 &&& x14)), (0, .ref v0), (1, .int v1), (2, .int v2)]) hx hb dX6_behind_8 hl (by decide) rfl (fun ls hl => ?_)
  exact wX6_behind_10 Z  vg_fuel v0 v1 v2 (v1 &&& x14) 0 μ _ _ _ _ _ _ _ hf hH hL hC hN (hl.sub [2, 3, 4, 1, 0] rfl)
def fX6_fits_66  (k0 : Int32) (μ : vg_M) : vg_R Int32 :=
  vg_o (vg_z .boolean k0) fun z => vg_ret z μ
set_option maxHeartbeats 4000000 in
set_option maxRecDepth 100000 in
theorem wX6_fits_66 {p : Program} {l : Launch} {e : Env} {R : Room} {s : State} {m : MethodId} {args : Array Value} {below : List Frame} {meth : Method} {c : Code} {D : va_G} {cy : Nat → ClassId} {H0 : Heap} {C0 N0 : Nat} {r : Int32} {μ' : vg_M} (Z : vg_Z D cy H0 p s m args c cX6_fits RX6 meth 4 (some .boolean) R 17 C0 N0 "fits")   (k0 : Int32) (μ : vg_M) : vg_S p l e R s m args below meth c D cy H0 C0 N0 4 (MQ below (vg_Qc D cy H0 μ' (some (.int r))) args s C0 N0 (vg_fr H0)) r μ' (fX6_fits_66  k0 μ) μ [] [.int k0] 66 := by
  intro cn nn H locs cells slots ls hf hH hL hC hN hl
  obtain ⟨X, hml, hr, hlk, hfr, hlo, hRc, hRs, hnm⟩ := id Z
  have hx := X.1
  have hb := X.2.1
  delta fX6_fits_66 at hf
  exact vg_retz X (by simp) hr hlk hH hL dX6_fits_66 hf hC hN
def fX6_fits_47  (v0 : Nat) (v2 : Int32) (μ : vg_M) : vg_R Int32 :=
  vg_o (vg_gR μ v0 9 1) fun x11 =>
  vg_o x11 fun a12 =>
  vg_cv 2 a12 μ (fJx4a65c_size_8abf5 a12  μ) fun x13 μ14 =>
  if (v2 &&& (1 <<< (x13 &&& 31))) = 0 then (
   fX6_fits_66  0 μ14
   ) else (
   fX6_fits_66  1 μ14
   )
set_option maxHeartbeats 4000000 in
set_option maxRecDepth 100000 in
theorem wX6_fits_47 {p : Program} {l : Launch} {e : Env} {R : Room} {s : State} {m : MethodId} {args : Array Value} {below : List Frame} {meth : Method} {c : Code} {D : va_G} {cy : Nat → ClassId} {H0 : Heap} {C0 N0 : Nat} {r : Int32} {μ' : vg_M} (Z : vg_Z D cy H0 p s m args c cX6_fits RX6 meth 4 (some .boolean) R 17 C0 N0 "fits")   (v0 : Nat) (v2 : Int32) (μ : vg_M) : vg_S p l e R s m args below meth c D cy H0 C0 N0 4 (MQ below (vg_Qc D cy H0 μ' (some (.int r))) args s C0 N0 (vg_fr H0)) r μ' (fX6_fits_47  v0 v2 μ) μ [(0, .ref v0), (2, .int v2)] [] 47 := by
  intro cn nn H locs cells slots ls hf hH hL hC hN hl
  obtain ⟨X, hml, hr, hlk, hfr, hlo, hRc, hRs, hnm⟩ := id Z
  have hx := X.1
  have hb := X.2.1
  delta fX6_fits_47 at hf
  refine lv_iload_n hx hb dX6_fits_47 rfl (lv_at hl.1 1 rfl) ?_
  refine lv_iconst (v := 1) hx hb dX6_fits_48 (by decide) ?_
  refine lv_aload_n hx hb dX6_fits_49 rfl (lv_at hl.1 0 rfl) ?_
  refine vg_getR X hH fF_X6_12 dX6_fits_50 hf (fun x11 hf => ?_)
  obtain ⟨a12, h9, hg⟩ := vg_o_inv hf
  clear hf
  subst h9
  have hf := hg
  clear hg
  refine vg_callVi (ci := 2) X hml hl hH hL fCV_X6_22 rfl [] rfl rfl (Nat.le_of_ble_eq_true rfl) dX6_fits_53 hf hC hN hRc hRs hfr hlo (by decide) (fun _ _ _ _ h => cJx4a65c_size_8abf5_met h) (fun x13 μ14 cn nn H locs cells slots hf hC hN hH hL => ?_)
  refine lv_ishl hx hb dX6_fits_56 ?_
  refine lv_iand hx hb dX6_fits_57 ?_
  refine lv_if_eq (tgt := 65) hx hb dX6_fits_58 (by decide) (fun h8 => ?_) (fun h8 => ?_)
  · have hf := vg_ip h8 hf
    refine lv_iconst (v := 0) hx hb dX6_fits_65 (by decide) ?_
    exact wX6_fits_66 Z  0 μ14 _ _ _ _ _ _ _ hf hH hL hC hN (hl.sub [] rfl)
  · have hf := vg_if h8 hf
    refine lv_iconst (v := 1) hx hb dX6_fits_61 (by decide) ?_
    refine lv_goto (tgt := 66) hx hb dX6_fits_62 (by decide) ?_
    exact wX6_fits_66 Z  1 μ14 _ _ _ _ _ _ _ hf hH hL hC hN (hl.sub [] rfl)
def fX6_fits_11  : Nat → Nat → Option Nat → Int32 → Int32 → vg_M → vg_R Int32
  | 0, _, _, _, _, _ => none
  | n + 1, v0, v1, v2, v3, μ =>
    vg_o v1 fun a1 =>
    vg_cv 0 a1 μ (fJ0_length_8abf5 a1  μ) fun x2 μ3 =>
    if x2 ≤ v3 then (
     fX6_fits_47  v0 v2 μ3
     ) else (
     if v2 = 0 then (
      fX6_fits_47  v0 v2 μ3
      ) else (
      vg_cv 0 a1 μ3 (fJ0_charAt_5068e a1 v3 μ3) fun x4 μ5 =>
      vg_cv 9 v0 μ5 (fX6_behind v0 v2 x4 μ5) fun x6 μ7 =>
      vg_o (vg_gI μ7 v0 9 2) fun x8 =>
      vg_b (fX10_withSkipped x6 x8 μ7) fun x9 μ10 =>
      (fX6_fits_11  n) v0 (some a1) x9 (v3 + 1) μ10
      )
     )
set_option maxHeartbeats 4000000 in
set_option maxRecDepth 100000 in
theorem wX6_fits_11 {p : Program} {l : Launch} {e : Env} {R : Room} {s : State} {m : MethodId} {args : Array Value} {below : List Frame} {meth : Method} {c : Code} {D : va_G} {cy : Nat → ClassId} {H0 : Heap} {C0 N0 : Nat} {r : Int32} {μ' : vg_M} (Z : vg_Z D cy H0 p s m args c cX6_fits RX6 meth 4 (some .boolean) R 17 C0 N0 "fits")   : ∀ (n : Nat) (v0 : Nat) (v1 : Option Nat) (v2 : Int32) (v3 : Int32) (μ : vg_M), vg_S p l e R s m args below meth c D cy H0 C0 N0 4 (MQ below (vg_Qc D cy H0 μ' (some (.int r))) args s C0 N0 (vg_fr H0)) r μ' (fX6_fits_11  n v0 v1 v2 v3 μ) μ [(0, .ref v0), (1, va_rf v1), (2, .int v2), (3, .int v3)] [] 11 := by
  intro n
  induction n with
  | zero =>
    intro v0 v1 v2 v3 μ cn nn H locs cells slots ls hf
    simp [fX6_fits_11] at hf
  | succ n hk11 =>
    intro v0 v1 v2 v3 μ
    intro cn nn H locs cells slots ls hf hH hL hC hN hl
    obtain ⟨X, hml, hr, hlk, hfr, hlo, hRc, hRs, hnm⟩ := id Z
    have hx := X.1
    have hb := X.2.1
    rw [fX6_fits_11] at hf
    refine lv_iload_n hx hb dX6_fits_11 rfl (lv_at hl.1 3 rfl) ?_
    refine vg_aload_n hx hb dX6_fits_12 rfl (lv_at hl.1 1 rfl) ?_
    obtain ⟨a1, h9, hg⟩ := vg_o_inv hf
    clear hf
    subst h9
    have hf := hg
    clear hg
    refine vg_callVi (ci := 0) X hml hl hH hL fCV_X6_45 rfl [] rfl rfl (Nat.le_of_ble_eq_true rfl) dX6_fits_13 hf hC hN hRc hRs hfr hlo (by decide) (fun _ _ _ _ h => cJ0_length_8abf5_met h) (fun x2 μ3 cn nn H locs cells slots hf hC hN hH hL => ?_)
    refine lv_icmp_ge (tgt := 47) hx hb dX6_fits_16 (by decide) (fun h8 => ?_) (fun h8 => ?_)
    · have hf := vg_ip h8 hf
      exact wX6_fits_47 Z  v0 v2 μ3 _ _ _ _ _ _ _ hf hH hL hC hN (hl.sub [0, 2] rfl)
    · have hf := vg_if h8 hf
      refine lv_iload_n hx hb dX6_fits_19 rfl (lv_at hl.1 2 rfl) ?_
      refine lv_if_eq (tgt := 47) hx hb dX6_fits_20 (by decide) (fun h8 => ?_) (fun h8 => ?_)
      · have hf := vg_ip h8 hf
        exact wX6_fits_47 Z  v0 v2 μ3 _ _ _ _ _ _ _ hf hH hL hC hN (hl.sub [0, 2] rfl)
      · have hf := vg_if h8 hf
        refine lv_aload_n hx hb dX6_fits_23 rfl (lv_at hl.1 0 rfl) ?_
        refine lv_iload_n hx hb dX6_fits_24 rfl (lv_at hl.1 2 rfl) ?_
        refine lv_aload_n hx hb dX6_fits_25 rfl (lv_at hl.1 1 rfl) ?_
        refine lv_iload_n hx hb dX6_fits_26 rfl (lv_at hl.1 3 rfl) ?_
        refine vg_callVi (ci := 0) X hml hl hH hL fCV_X6_50 rfl [.int v3] rfl rfl (Nat.le_of_ble_eq_true rfl) dX6_fits_27 hf hC hN hRc hRs hfr hlo (by decide) (fun _ _ _ _ h => cJ0_charAt_5068e_met h) (fun x4 μ5 cn nn H locs cells slots hf hC hN hH hL => ?_)
        refine vg_callVi (ci := 9) X hml hl hH hL fCV_X6_54 rfl [.int v2, .int x4] rfl rfl (Nat.le_of_ble_eq_true rfl) dX6_fits_30 hf hC hN hRc hRs hfr hlo (by decide) (fun _ _ _ _ h => cX6_behind_met h) (fun x6 μ7 cn nn H locs cells slots hf hC hN hH hL => ?_)
        refine lv_aload_n hx hb dX6_fits_33 rfl (lv_at hl.1 0 rfl) ?_
        refine vg_getI X hH fF_X6_26 dX6_fits_34 hf (fun x8 hf => ?_)
        refine vg_callSNi X hml hl hH hL fCSN_X6_41 [.int x6, .int x8] rfl rfl (Nat.le_of_ble_eq_true rfl) dX6_fits_37 hf hC hN hRc hRs hfr hlo (by decide) (fun _ _ _ _ h => cX10_withSkipped_met h) (fun x9 μ10 cn nn H locs cells slots hf hC hN hH hL => ?_)
        refine vg_istore_n (lv' := [(2, .int x9), (0, .ref v0), (1, .ref a1), (3, .int v3)]) hx hb dX6_fits_40 rfl hl (by decide) rfl (fun ls hl => ?_)
        refine vg_iinc (v := v3 + 1) (lv' := [(3, .int (v3 + 1)), (2, .int x9), (0, .ref v0), (1, .ref a1)]) hx hb dX6_fits_41 hl (k := 3) rfl rfl (by decide) rfl (fun ls hl => ?_)
        refine lv_goto (tgt := 11) hx hb dX6_fits_44 (by decide) ?_
        exact hk11 v0 (some a1) x9 (v3 + 1) μ10 _ _ _ _ _ _ _ hf hH hL hC hN (hl.sub [2, 3, 1, 0] rfl)
def fX6_fits (v0 : Nat) (v1 : Option Nat) (μ : vg_M) : vg_R Int32 :=
  vg_o (vg_gI μ v0 9 2) fun x15 =>
  vg_b (fX10_withSkipped 1 x15 μ) fun x16 μ17 =>
  fX6_fits_11  vg_fuel v0 v1 x16 0 μ17
set_option maxHeartbeats 4000000 in
set_option maxRecDepth 100000 in
theorem cX6_fits_met {l : Launch} {D : va_G} {cy : Nat → ClassId} {H0 : Heap} {r : Int32} {μ μ' : vg_M} {cn nn : Nat} {v0 : Nat} {v1 : Option Nat} (hf : fX6_fits v0 v1 μ = some (r, μ', cn, nn)) : vg_Met l D cy H0 yX6_fits cX6_fits 4 (some .boolean) 17 μ [.ref v0, va_rf v1] (some (.int r)) μ' cn nn := by
  refine vg_start (by decide +kernel) (List.forall_mem_cons.mpr ⟨rfl, (List.forall_mem_cons.mpr ⟨vg_rfc _, (fun _ h => nomatch h)⟩)⟩) (Nat.le_of_ble_eq_true rfl) ?_
  intro p e s m below meth c ls X hml hr hlk hnm hH hl
  have hl : vg_l ls 4 [(0, .ref v0), (1, va_rf v1)] := hl
  have Z : vg_Z D cy H0 p s m _ c cX6_fits RX6 meth 4 (some .boolean) (vg_rm 17 cn nn) 17 cn nn _ := ⟨X, hml, hr, hlk, Nat.le_refl _, Nat.le_refl _, Nat.le_refl _, Nat.le_refl _, hnm⟩
  obtain ⟨-, -, -, -, hfr, hlo, hRc, hRs, -⟩ := id Z
  have hx := X.1
  have hb := X.2.1
  have hL : ∀ z ∈ ([] : List Loc), H0.size ≤ z.base := fun _ h => nomatch h
  have hC : 0 + cn = cn := Nat.zero_add _
  have hN : 0 + nn = nn := Nat.zero_add _
  delta fX6_fits at hf
  refine lv_iconst (v := 1) hx hb dX6_fits_0 (by decide) ?_
  refine lv_aload_n hx hb dX6_fits_1 rfl (lv_at hl.1 0 rfl) ?_
  refine vg_getI X hH fF_X6_26 dX6_fits_2 hf (fun x15 hf => ?_)
  refine vg_callSNi X hml hl hH hL fCSN_X6_41 [.int 1, .int x15] rfl rfl (Nat.le_of_ble_eq_true rfl) dX6_fits_5 hf hC hN hRc hRs hfr hlo (by decide) (fun _ _ _ _ h => cX10_withSkipped_met h) (fun x16 μ17 cn nn H locs cells slots hf hC hN hH hL => ?_)
  refine vg_istore_n (lv' := [(2, .int x16), (0, .ref v0), (1, va_rf v1)]) hx hb dX6_fits_8 rfl hl (by decide) rfl (fun ls hl => ?_)
  refine lv_iconst (v := 0) hx hb dX6_fits_9 (by decide) ?_
  refine vg_istore_n (lv' := [(3, .int 0), (2, .int x16), (0, .ref v0), (1, va_rf v1)]) hx hb dX6_fits_10 rfl hl (by decide) rfl (fun ls hl => ?_)
  exact wX6_fits_11 Z  vg_fuel v0 v1 x16 0 μ17 _ _ _ _ _ _ _ hf hH hL hC hN (hl.sub [2, 3, 1, 0] rfl)
def fX4_pass_14   (μ : vg_M) : vg_R Unit :=
  vg_ret () μ
set_option maxHeartbeats 4000000 in
set_option maxRecDepth 100000 in
theorem wX4_pass_14 {p : Program} {l : Launch} {e : Env} {R : Room} {s : State} {m : MethodId} {args : Array Value} {below : List Frame} {meth : Method} {c : Code} {D : va_G} {cy : Nat → ClassId} {H0 : Heap} {C0 N0 : Nat} {r : Unit} {μ' : vg_M} (Z : vg_Z D cy H0 p s m args c cX4_pass RX4 meth 7 none R 18 C0 N0 "pass")    (μ : vg_M) : vg_S p l e R s m args below meth c D cy H0 C0 N0 7 (MQ below (vg_Qc D cy H0 μ' none) args s C0 N0 (vg_fr H0)) r μ' (fX4_pass_14   μ) μ [] [] 14 := by
  intro cn nn H locs cells slots ls hf hH hL hC hN hl
  obtain ⟨X, hml, hr, hlk, hfr, hlo, hRc, hRs, hnm⟩ := id Z
  have hx := X.1
  have hb := X.2.1
  delta fX4_pass_14 at hf
  exact vg_retv X hr hlk hH hL dX4_pass_14 hf hC hN
def fX4_pass_98 (q35 : Nat → Option Nat → Int32 → Int32 → Int32 → Int32 → vg_M → vg_R Unit) (v0 : Nat) (v1 : Option Nat) (v2 : Int32) (v3 : Int32) (v4 : Int32) (v5 : Int32) (μ : vg_M) : vg_R Unit :=
  q35 v0 v1 v2 v3 v4 (v5 + 1) μ
set_option maxHeartbeats 4000000 in
set_option maxRecDepth 100000 in
theorem wX4_pass_98 {p : Program} {l : Launch} {e : Env} {R : Room} {s : State} {m : MethodId} {args : Array Value} {below : List Frame} {meth : Method} {c : Code} {D : va_G} {cy : Nat → ClassId} {H0 : Heap} {C0 N0 : Nat} {r : Unit} {μ' : vg_M} (Z : vg_Z D cy H0 p s m args c cX4_pass RX4 meth 7 none R 18 C0 N0 "pass") {q35 : Nat → Option Nat → Int32 → Int32 → Int32 → Int32 → vg_M → vg_R Unit} (hk35 : ∀ (v0 : Nat) (v1 : Option Nat) (v2 : Int32) (v3 : Int32) (v4 : Int32) (v5 : Int32) (μ : vg_M), vg_S p l e R s m args below meth c D cy H0 C0 N0 7 (MQ below (vg_Qc D cy H0 μ' none) args s C0 N0 (vg_fr H0)) r μ' (q35 v0 v1 v2 v3 v4 v5 μ) μ [(0, .ref v0), (1, va_rf v1), (2, .int v2), (3, .int v3), (4, .int v4), (5, .int v5)] [] 35) (v0 : Nat) (v1 : Option Nat) (v2 : Int32) (v3 : Int32) (v4 : Int32) (v5 : Int32) (μ : vg_M) : vg_S p l e R s m args below meth c D cy H0 C0 N0 7 (MQ below (vg_Qc D cy H0 μ' none) args s C0 N0 (vg_fr H0)) r μ' (fX4_pass_98 q35 v0 v1 v2 v3 v4 v5 μ) μ [(0, .ref v0), (1, va_rf v1), (2, .int v2), (3, .int v3), (4, .int v4), (5, .int v5)] [] 98 := by
  intro cn nn H locs cells slots ls hf hH hL hC hN hl
  obtain ⟨X, hml, hr, hlk, hfr, hlo, hRc, hRs, hnm⟩ := id Z
  have hx := X.1
  have hb := X.2.1
  delta fX4_pass_98 at hf
  refine vg_iinc (v := v5 + 1) (lv' := [(5, .int (v5 + 1)), (0, .ref v0), (1, va_rf v1), (2, .int v2), (3, .int v3), (4, .int v4)]) hx hb dX4_pass_98 hl (k := 5) rfl rfl (by decide) rfl (fun ls hl => ?_)
  refine lv_goto (tgt := 35) hx hb dX4_pass_101 (by decide) ?_
  exact hk35 v0 v1 v2 v3 v4 (v5 + 1) μ _ _ _ _ _ _ _ hf hH hL hC hN (hl.sub [1, 2, 3, 4, 5, 0] rfl)
def fX4_pass_35  : Nat → Nat → Option Nat → Int32 → Int32 → Int32 → Int32 → vg_M → vg_R Unit
  | 0, _, _, _, _, _, _, _ => none
  | n + 1, v0, v1, v2, v3, v4, v5, μ =>
    vg_o (vg_gR μ v0 7 2) fun x1 =>
    vg_o x1 fun a2 =>
    vg_cv 2 a2 μ (fJx4a65c_size_8abf5 a2  μ) fun x3 μ4 =>
    if x3 ≤ v5 then (
     vg_o (vg_gR μ4 v0 7 3) fun x5 =>
     vg_o (vg_gI μ4 v0 7 4) fun x6 =>
     vg_b (fX10_withSkipped v4 x6 μ4) fun x7 μ8 =>
     vg_o x5 fun a9 =>
     vg_o (vg_sI μ8 a9 2 v2 x7) fun μ10 =>
     vg_ret () μ10
     ) else (
     vg_o (vg_gR μ4 v0 7 2) fun x11 =>
     vg_o x11 fun a12 =>
     vg_cv 2 a12 μ4 (fJx4a65c_get_915e3 a12 v5 μ4) fun x13 μ14 =>
     vg_ck μ14 x13 9 <|
     if (v3 &&& (1 <<< (v5 &&& 31))) = 0 then (
      fX4_pass_98 (fX4_pass_35  n) v0 v1 v2 v3 v4 v5 μ14
      ) else (
      vg_o x13 fun a15 =>
      vg_o (vg_gI μ14 a15 9 0) fun x16 =>
      if x16 = 0 then (
       vg_cv 9 a15 μ14 (fX6_fits a15 v1 μ14) fun x17 μ18 =>
       if x17 = 0 then (
        fX4_pass_98 (fX4_pass_35  n) v0 v1 v2 v3 v4 v5 μ18
        ) else (
        fX4_pass_98 (fX4_pass_35  n) v0 v1 v2 v3 (v4 ||| (1 <<< ((v5 + 1) &&& 31))) v5 μ18
        )
       ) else (
       fX4_pass_98 (fX4_pass_35  n) v0 v1 v2 v3 v4 v5 μ14
       )
      )
     )
set_option maxHeartbeats 4000000 in
set_option maxRecDepth 100000 in
theorem wX4_pass_35 {p : Program} {l : Launch} {e : Env} {R : Room} {s : State} {m : MethodId} {args : Array Value} {below : List Frame} {meth : Method} {c : Code} {D : va_G} {cy : Nat → ClassId} {H0 : Heap} {C0 N0 : Nat} {r : Unit} {μ' : vg_M} (Z : vg_Z D cy H0 p s m args c cX4_pass RX4 meth 7 none R 18 C0 N0 "pass")   : ∀ (n : Nat) (v0 : Nat) (v1 : Option Nat) (v2 : Int32) (v3 : Int32) (v4 : Int32) (v5 : Int32) (μ : vg_M), vg_S p l e R s m args below meth c D cy H0 C0 N0 7 (MQ below (vg_Qc D cy H0 μ' none) args s C0 N0 (vg_fr H0)) r μ' (fX4_pass_35  n v0 v1 v2 v3 v4 v5 μ) μ [(0, .ref v0), (1, va_rf v1), (2, .int v2), (3, .int v3), (4, .int v4), (5, .int v5)] [] 35 := by
  intro n
  induction n with
  | zero =>
    intro v0 v1 v2 v3 v4 v5 μ cn nn H locs cells slots ls hf
    simp [fX4_pass_35] at hf
  | succ n hk35 =>
    intro v0 v1 v2 v3 v4 v5 μ
    intro cn nn H locs cells slots ls hf hH hL hC hN hl
    obtain ⟨X, hml, hr, hlk, hfr, hlo, hRc, hRs, hnm⟩ := id Z
    have hx := X.1
    have hb := X.2.1
    rw [fX4_pass_35] at hf
    refine lv_iload hx hb dX4_pass_35 (lv_at hl.1 5 rfl) ?_
    refine lv_aload_n hx hb dX4_pass_37 rfl (lv_at hl.1 0 rfl) ?_
    refine vg_getR X hH fF_X4_12 dX4_pass_38 hf (fun x1 hf => ?_)
    obtain ⟨a2, h9, hg⟩ := vg_o_inv hf
    clear hf
    subst h9
    have hf := hg
    clear hg
    refine vg_callVi (ci := 2) X hml hl hH hL fCV_X4_26 rfl [] rfl rfl (Nat.le_of_ble_eq_true rfl) dX4_pass_41 hf hC hN hRc hRs hfr hlo (by decide) (fun _ _ _ _ h => cJx4a65c_size_8abf5_met h) (fun x3 μ4 cn nn H locs cells slots hf hC hN hH hL => ?_)
    refine lv_icmp_ge (tgt := 104) hx hb dX4_pass_44 (by decide) (fun h8 => ?_) (fun h8 => ?_)
    · have hf := vg_ip h8 hf
      refine lv_aload_n hx hb dX4_pass_104 rfl (lv_at hl.1 0 rfl) ?_
      refine vg_getR X hH fF_X4_18 dX4_pass_105 hf (fun x5 hf => ?_)
      refine lv_iload_n hx hb dX4_pass_108 rfl (lv_at hl.1 2 rfl) ?_
      refine lv_iload hx hb dX4_pass_109 (lv_at hl.1 4 rfl) ?_
      refine lv_aload_n hx hb dX4_pass_111 rfl (lv_at hl.1 0 rfl) ?_
      refine vg_getI X hH fF_X4_43 dX4_pass_112 hf (fun x6 hf => ?_)
      refine vg_callSNi X hml hl hH hL fCSN_X4_51 [.int v4, .int x6] rfl rfl (vg_cs (List.forall_mem_cons.mpr ⟨rfl, (List.forall_mem_cons.mpr ⟨vg_rfc _, (fun _ h => nomatch h)⟩)⟩) (Nat.le_of_ble_eq_true rfl)) dX4_pass_115 hf hC hN hRc hRs hfr hlo (by decide) (fun _ _ _ _ h => cX10_withSkipped_met h) (fun x7 μ8 cn nn H locs cells slots hf hC hN hH hL => ?_)
      obtain ⟨a9, h9, hg⟩ := vg_o_inv hf
      clear hf
      subst h9
      have hf := hg
      clear hg
      refine vg_iast X hH hL dX4_pass_118 hf (fun μ10 H locs hf hH hL => ?_)
      exact vg_retv X hr hlk hH hL dX4_pass_119 hf hC hN
    · have hf := vg_if h8 hf
      refine lv_aload_n hx hb dX4_pass_47 rfl (lv_at hl.1 0 rfl) ?_
      refine vg_getR X hH fF_X4_12 dX4_pass_48 hf (fun x11 hf => ?_)
      refine lv_iload hx hb dX4_pass_51 (lv_at hl.1 5 rfl) ?_
      obtain ⟨a12, h9, hg⟩ := vg_o_inv hf
      clear hf
      subst h9
      have hf := hg
      clear hg
      refine vg_callVr (ci := 2) X hml hl hH hL fCV_X4_34 rfl [.int v5] rfl rfl (Nat.le_of_ble_eq_true rfl) dX4_pass_53 hf hC hN hRc hRs hfr hlo (by decide) (fun _ _ _ _ h => cJx4a65c_get_915e3_met h) (fun x13 μ14 cn nn H locs cells slots hf hC hN hH hL => ?_)
      refine vg_castC (ci := 9) X hH rfl kw_924268877 (x := x13) dX4_pass_56 hf (fun hf => ?_)
      refine vg_astore (lv' := [(6, va_rf x13), (0, .ref v0), (1, va_rf v1), (2, .int v2), (3, .int v3), (4, .int v4), (5, .int v5)]) hx hb dX4_pass_59 hl (by decide) rfl (fun ls hl => ?_)
      refine lv_iload_n hx hb dX4_pass_61 rfl (lv_at hl.1 4 rfl) ?_
      refine lv_iconst (v := 1) hx hb dX4_pass_62 (by decide) ?_
      refine lv_iload hx hb dX4_pass_63 (lv_at hl.1 6 rfl) ?_
      refine lv_ishl hx hb dX4_pass_65 ?_
      refine lv_iand hx hb dX4_pass_66 ?_
      refine lv_if_eq (tgt := 98) hx hb dX4_pass_67 (by decide) (fun h8 => ?_) (fun h8 => ?_)
      · have hf := vg_ip h8 hf
        exact wX4_pass_98 Z hk35 v0 v1 v2 v3 v4 v5 μ14 _ _ _ _ _ _ _ hf hH hL hC hN (hl.sub [1, 2, 3, 4, 5, 6] rfl)
      · have hf := vg_if h8 hf
        refine vg_aload hx hb dX4_pass_70 (lv_at hl.1 0 rfl) ?_
        obtain ⟨a15, h9, hg⟩ := vg_o_inv hf
        clear hf
        subst h9
        have hf := hg
        clear hg
        refine vg_getIr X hH fR_X4_40 dX4_pass_72 hf (fun x16 hf => ?_)
        refine lv_if_ne (tgt := 98) hx hb dX4_pass_75 (by decide) (fun h8 => ?_) (fun h8 => ?_)
        · have hf := vg_if h8 hf
          exact wX4_pass_98 Z hk35 v0 v1 v2 v3 v4 v5 μ14 _ _ _ _ _ _ _ hf hH hL hC hN (hl.sub [1, 2, 3, 4, 5, 6] rfl)
        · have hf := vg_ip h8 hf
          refine lv_aload hx hb dX4_pass_78 (lv_at hl.1 0 rfl) ?_
          refine vg_aload_n hx hb dX4_pass_80 rfl (lv_at hl.1 2 rfl) ?_
          refine vg_callVi (ci := 9) X hml hl hH hL fCV_X4_55 rfl [va_rf v1] rfl rfl (Nat.le_of_ble_eq_true rfl) dX4_pass_81 hf hC hN hRc hRs hfr hlo (by decide) (fun _ _ _ _ h => cX6_fits_met h) (fun x17 μ18 cn nn H locs cells slots hf hC hN hH hL => ?_)
          refine lv_if_eq (tgt := 98) hx hb dX4_pass_84 (by decide) (fun h8 => ?_) (fun h8 => ?_)
          · have hf := vg_ip h8 hf
            exact wX4_pass_98 Z hk35 v0 v1 v2 v3 v4 v5 μ18 _ _ _ _ _ _ _ hf hH hL hC hN (hl.sub [1, 2, 3, 4, 5, 6] rfl)
          · have hf := vg_if h8 hf
            refine lv_iload hx hb dX4_pass_87 (lv_at hl.1 5 rfl) ?_
            refine lv_iconst (v := 1) hx hb dX4_pass_89 (by decide) ?_
            refine lv_iload hx hb dX4_pass_90 (lv_at hl.1 6 rfl) ?_
            refine lv_iconst (v := 1) hx hb dX4_pass_92 (by decide) ?_
            refine lv_iadd hx hb dX4_pass_93 ?_
            refine lv_ishl hx hb dX4_pass_94 ?_
            refine lv_ior hx hb dX4_pass_95 ?_
            refine vg_istore (lv' := [(4, .int (v4 ||| (1 <<< ((v5 + 1) &&& 31)))), (6, .ref a15), (0, .ref v0), (1, va_rf v1), (2, .int v2), (3, .int v3), (5, .int v5)]) hx hb dX4_pass_96 hl (by decide) rfl (fun ls hl => ?_)
            exact wX4_pass_98 Z hk35 v0 v1 v2 v3 (v4 ||| (1 <<< ((v5 + 1) &&& 31))) v5 μ18 _ _ _ _ _ _ _ hf hH hL hC hN (hl.sub [2, 3, 4, 5, 0, 6] rfl)
def fX4_pass (v0 : Nat) (v1 : Option Nat) (v2 : Int32) (μ : vg_M) : vg_R Unit :=
  if v2 < 1 then (
   fX4_pass_14   μ
   ) else (
   vg_o (vg_gR μ v0 7 3) fun x19 =>
   vg_o x19 fun a20 =>
   vg_o (vg_al μ a20) fun x21 =>
   if v2 < x21 then (
    vg_o (vg_gR μ v0 7 3) fun x22 =>
    vg_o x22 fun a23 =>
    vg_o (vg_aI μ a23 2 (v2 - 1)) fun x24 =>
    vg_o (vg_gI μ v0 7 4) fun x25 =>
    fX4_pass_35  vg_fuel v0 v1 v2 x24 (x24 &&& x25) 0 μ
    ) else (
    fX4_pass_14   μ
    )
   )
set_option maxHeartbeats 4000000 in
set_option maxRecDepth 100000 in
theorem cX4_pass_met {l : Launch} {D : va_G} {cy : Nat → ClassId} {H0 : Heap} {r : Unit} {μ μ' : vg_M} {cn nn : Nat} {v0 : Nat} {v1 : Option Nat} {v2 : Int32} (hf : fX4_pass v0 v1 v2 μ = some (r, μ', cn, nn)) : vg_Met l D cy H0 yX4_pass cX4_pass 7 none 18 μ [.ref v0, va_rf v1, .int v2] none μ' cn nn := by
  refine vg_start (by decide +kernel) (List.forall_mem_cons.mpr ⟨rfl, (List.forall_mem_cons.mpr ⟨vg_rfc _, (List.forall_mem_cons.mpr ⟨rfl, (fun _ h => nomatch h)⟩)⟩)⟩) (Nat.le_of_ble_eq_true rfl) ?_
  intro p e s m below meth c ls X hml hr hlk hnm hH hl
  have hl : vg_l ls 7 [(0, .ref v0), (1, va_rf v1), (2, .int v2)] := hl
  have Z : vg_Z D cy H0 p s m _ c cX4_pass RX4 meth 7 none (vg_rm 18 cn nn) 18 cn nn _ := ⟨X, hml, hr, hlk, Nat.le_refl _, Nat.le_refl _, Nat.le_refl _, Nat.le_refl _, hnm⟩
  obtain ⟨-, -, -, -, hfr, hlo, hRc, hRs, -⟩ := id Z
  have hx := X.1
  have hb := X.2.1
  have hL : ∀ z ∈ ([] : List Loc), H0.size ≤ z.base := fun _ h => nomatch h
  have hC : 0 + cn = cn := Nat.zero_add _
  have hN : 0 + nn = nn := Nat.zero_add _
  delta fX4_pass at hf
  refine lv_iload_n hx hb dX4_pass_0 rfl (lv_at hl.1 2 rfl) ?_
  refine lv_iconst (v := 1) hx hb dX4_pass_1 (by decide) ?_
  refine lv_icmp_lt (tgt := 14) hx hb dX4_pass_2 (by decide) (fun h8 => ?_) (fun h8 => ?_)
  · have hf := vg_ip h8 hf
    exact wX4_pass_14 Z   μ _ _ _ _ _ _ _ hf hH hL hC hN (hl.sub [] rfl)
  · have hf := vg_if h8 hf
    refine lv_iload_n hx hb dX4_pass_5 rfl (lv_at hl.1 2 rfl) ?_
    refine lv_aload_n hx hb dX4_pass_6 rfl (lv_at hl.1 0 rfl) ?_
    refine vg_getR X hH fF_X4_18 dX4_pass_7 hf (fun x19 hf => ?_)
    obtain ⟨a20, h9, hg⟩ := vg_o_inv hf
    clear hf
    subst h9
    have hf := hg
    clear hg
    refine vg_alen X hH dX4_pass_10 hf (fun x21 hf => ?_)
    refine lv_icmp_lt (tgt := 15) hx hb dX4_pass_11 (by decide) (fun h8 => ?_) (fun h8 => ?_)
    · have hf := vg_ip h8 hf
      refine lv_aload_n hx hb dX4_pass_15 rfl (lv_at hl.1 0 rfl) ?_
      refine vg_getR X hH fF_X4_18 dX4_pass_16 hf (fun x22 hf => ?_)
      refine lv_iload_n hx hb dX4_pass_19 rfl (lv_at hl.1 2 rfl) ?_
      refine lv_iconst (v := 1) hx hb dX4_pass_20 (by decide) ?_
      refine lv_isub hx hb dX4_pass_21 ?_
      obtain ⟨a23, h9, hg⟩ := vg_o_inv hf
      clear hf
      subst h9
      have hf := hg
      clear hg
      refine vg_iald X hH dX4_pass_22 hf (fun x24 hf => ?_)
      refine vg_istore_n (lv' := [(3, .int x24), (0, .ref v0), (1, va_rf v1), (2, .int v2)]) hx hb dX4_pass_23 rfl hl (by decide) rfl (fun ls hl => ?_)
      refine lv_iload_n hx hb dX4_pass_24 rfl (lv_at hl.1 0 rfl) ?_
      refine lv_aload_n hx hb dX4_pass_25 rfl (lv_at hl.1 1 rfl) ?_
      refine vg_getI X hH fF_X4_43 dX4_pass_26 hf (fun x25 hf => ?_)
      refine lv_iand hx hb dX4_pass_29 ?_
      refine vg_istore (lv' := [(4, .int (x24 &&& x25)), (3, .int x24), (0, .ref v0), (1, va_rf v1), (2, .int v2)]) hx hb dX4_pass_30 hl (by decide) rfl (fun ls hl => ?_)
      refine lv_iconst (v := 0) hx hb dX4_pass_32 (by decide) ?_
      refine vg_istore (lv' := [(5, .int 0), (4, .int (x24 &&& x25)), (3, .int x24), (0, .ref v0), (1, va_rf v1), (2, .int v2)]) hx hb dX4_pass_33 hl (by decide) rfl (fun ls hl => ?_)
      exact wX4_pass_35 Z  vg_fuel v0 v1 v2 x24 (x24 &&& x25) 0 μ _ _ _ _ _ _ _ hf hH hL hC hN (hl.sub [3, 4, 5, 2, 1, 0] rfl)
    · have hf := vg_if h8 hf
      exact wX4_pass_14 Z   μ _ _ _ _ _ _ _ hf hH hL hC hN (hl.sub [] rfl)
def fX7_pass_2  : Nat → Nat → Option Nat → Int32 → Int32 → vg_M → vg_R Unit
  | 0, _, _, _, _, _ => none
  | n + 1, v0, v1, v2, v3, μ =>
    vg_o (vg_gR μ v0 10 2) fun x1 =>
    vg_o x1 fun a2 =>
    vg_cv 2 a2 μ (fJx4a65c_size_8abf5 a2  μ) fun x3 μ4 =>
    if x3 ≤ v3 then (
     vg_ret () μ4
     ) else (
     vg_o (vg_gR μ4 v0 10 2) fun x5 =>
     vg_o x5 fun a6 =>
     vg_cv 2 a6 μ4 (fJx4a65c_get_915e3 a6 v3 μ4) fun x7 μ8 =>
     vg_ck μ8 x7 7 <|
     vg_o x7 fun a9 =>
     vg_cv 7 a9 μ8 (fX4_pass a9 v1 v2 μ8) fun _ μ11 =>
     (fX7_pass_2  n) v0 v1 v2 (v3 + 1) μ11
     )
set_option maxHeartbeats 4000000 in
set_option maxRecDepth 100000 in
theorem wX7_pass_2 {p : Program} {l : Launch} {e : Env} {R : Room} {s : State} {m : MethodId} {args : Array Value} {below : List Frame} {meth : Method} {c : Code} {D : va_G} {cy : Nat → ClassId} {H0 : Heap} {C0 N0 : Nat} {r : Unit} {μ' : vg_M} (Z : vg_Z D cy H0 p s m args c cX7_pass RX7 meth 4 none R 19 C0 N0 "pass")   : ∀ (n : Nat) (v0 : Nat) (v1 : Option Nat) (v2 : Int32) (v3 : Int32) (μ : vg_M), vg_S p l e R s m args below meth c D cy H0 C0 N0 4 (MQ below (vg_Qc D cy H0 μ' none) args s C0 N0 (vg_fr H0)) r μ' (fX7_pass_2  n v0 v1 v2 v3 μ) μ [(0, .ref v0), (1, va_rf v1), (2, .int v2), (3, .int v3)] [] 2 := by
  intro n
  induction n with
  | zero =>
    intro v0 v1 v2 v3 μ cn nn H locs cells slots ls hf
    simp [fX7_pass_2] at hf
  | succ n hk2 =>
    intro v0 v1 v2 v3 μ
    intro cn nn H locs cells slots ls hf hH hL hC hN hl
    obtain ⟨X, hml, hr, hlk, hfr, hlo, hRc, hRs, hnm⟩ := id Z
    have hx := X.1
    have hb := X.2.1
    rw [fX7_pass_2] at hf
    refine lv_iload_n hx hb dX7_pass_2 rfl (lv_at hl.1 3 rfl) ?_
    refine lv_aload_n hx hb dX7_pass_3 rfl (lv_at hl.1 0 rfl) ?_
    refine vg_getR X hH fF_X7_12 dX7_pass_4 hf (fun x1 hf => ?_)
    obtain ⟨a2, h9, hg⟩ := vg_o_inv hf
    clear hf
    subst h9
    have hf := hg
    clear hg
    refine vg_callVi (ci := 2) X hml hl hH hL fCV_X7_29 rfl [] rfl rfl (Nat.le_of_ble_eq_true rfl) dX7_pass_7 hf hC hN hRc hRs hfr hlo (by decide) (fun _ _ _ _ h => cJx4a65c_size_8abf5_met h) (fun x3 μ4 cn nn H locs cells slots hf hC hN hH hL => ?_)
    refine lv_icmp_ge (tgt := 35) hx hb dX7_pass_10 (by decide) (fun h8 => ?_) (fun h8 => ?_)
    · have hf := vg_ip h8 hf
      exact vg_retv X hr hlk hH hL dX7_pass_35 hf hC hN
    · have hf := vg_if h8 hf
      refine lv_aload_n hx hb dX7_pass_13 rfl (lv_at hl.1 0 rfl) ?_
      refine vg_getR X hH fF_X7_12 dX7_pass_14 hf (fun x5 hf => ?_)
      refine lv_iload_n hx hb dX7_pass_17 rfl (lv_at hl.1 3 rfl) ?_
      obtain ⟨a6, h9, hg⟩ := vg_o_inv hf
      clear hf
      subst h9
      have hf := hg
      clear hg
      refine vg_callVr (ci := 2) X hml hl hH hL fCV_X7_33 rfl [.int v3] rfl rfl (Nat.le_of_ble_eq_true rfl) dX7_pass_18 hf hC hN hRc hRs hfr hlo (by decide) (fun _ _ _ _ h => cJx4a65c_get_915e3_met h) (fun x7 μ8 cn nn H locs cells slots hf hC hN hH hL => ?_)
      refine vg_castC (ci := 7) X hH rfl kw_481568071 (x := x7) dX7_pass_21 hf (fun hf => ?_)
      refine vg_aload_n hx hb dX7_pass_24 rfl (lv_at hl.1 1 rfl) ?_
      refine lv_iload_n hx hb dX7_pass_25 rfl (lv_at hl.1 2 rfl) ?_
      obtain ⟨a9, h9, hg⟩ := vg_o_inv hf
      clear hf
      subst h9
      have hf := hg
      clear hg
      refine vg_callVv (ci := 7) X hml hl hH hL fCV_X7_56 rfl [va_rf v1, .int v2] rfl rfl (Nat.le_of_ble_eq_true rfl) dX7_pass_26 hf hC hN hRc hRs hfr hlo (by decide) (fun _ _ _ _ h => cX4_pass_met h) (fun _ μ11 cn nn H locs cells slots hf hC hN hH hL => ?_)
      refine vg_iinc (v := v3 + 1) (lv' := [(3, .int (v3 + 1)), (0, .ref v0), (1, va_rf v1), (2, .int v2)]) hx hb dX7_pass_29 hl (k := 3) rfl rfl (by decide) rfl (fun ls hl => ?_)
      refine lv_goto (tgt := 2) hx hb dX7_pass_32 (by decide) ?_
      exact hk2 v0 v1 v2 (v3 + 1) μ11 _ _ _ _ _ _ _ hf hH hL hC hN (hl.sub [1, 2, 3, 0] rfl)
def fX7_pass (v0 : Nat) (v1 : Option Nat) (v2 : Int32) (μ : vg_M) : vg_R Unit :=
  fX7_pass_2  vg_fuel v0 v1 v2 0 μ
set_option maxHeartbeats 4000000 in
set_option maxRecDepth 100000 in
theorem cX7_pass_met {l : Launch} {D : va_G} {cy : Nat → ClassId} {H0 : Heap} {r : Unit} {μ μ' : vg_M} {cn nn : Nat} {v0 : Nat} {v1 : Option Nat} {v2 : Int32} (hf : fX7_pass v0 v1 v2 μ = some (r, μ', cn, nn)) : vg_Met l D cy H0 yX7_pass cX7_pass 4 none 19 μ [.ref v0, va_rf v1, .int v2] none μ' cn nn := by
  refine vg_start (by decide +kernel) (List.forall_mem_cons.mpr ⟨rfl, (List.forall_mem_cons.mpr ⟨vg_rfc _, (List.forall_mem_cons.mpr ⟨rfl, (fun _ h => nomatch h)⟩)⟩)⟩) (Nat.le_of_ble_eq_true rfl) ?_
  intro p e s m below meth c ls X hml hr hlk hnm hH hl
  have hl : vg_l ls 4 [(0, .ref v0), (1, va_rf v1), (2, .int v2)] := hl
  have Z : vg_Z D cy H0 p s m _ c cX7_pass RX7 meth 4 none (vg_rm 19 cn nn) 19 cn nn _ := ⟨X, hml, hr, hlk, Nat.le_refl _, Nat.le_refl _, Nat.le_refl _, Nat.le_refl _, hnm⟩
  obtain ⟨-, -, -, -, hfr, hlo, hRc, hRs, -⟩ := id Z
  have hx := X.1
  have hb := X.2.1
  have hL : ∀ z ∈ ([] : List Loc), H0.size ≤ z.base := fun _ h => nomatch h
  have hC : 0 + cn = cn := Nat.zero_add _
  have hN : 0 + nn = nn := Nat.zero_add _
  delta fX7_pass at hf
  refine lv_iconst (v := 0) hx hb dX7_pass_0 (by decide) ?_
  refine vg_istore_n (lv' := [(3, .int 0), (0, .ref v0), (1, va_rf v1), (2, .int v2)]) hx hb dX7_pass_1 rfl hl (by decide) rfl (fun ls hl => ?_)
  exact wX7_pass_2 Z  vg_fuel v0 v1 v2 0 μ _ _ _ _ _ _ _ hf hH hL hC hN (hl.sub [1, 2, 3, 0] rfl)
def fX4_fits_31  (k0 : Int32) (μ : vg_M) : vg_R Int32 :=
  vg_o (vg_z .boolean k0) fun z => vg_ret z μ
set_option maxHeartbeats 4000000 in
set_option maxRecDepth 100000 in
theorem wX4_fits_31 {p : Program} {l : Launch} {e : Env} {R : Room} {s : State} {m : MethodId} {args : Array Value} {below : List Frame} {meth : Method} {c : Code} {D : va_G} {cy : Nat → ClassId} {H0 : Heap} {C0 N0 : Nat} {r : Int32} {μ' : vg_M} (Z : vg_Z D cy H0 p s m args c cX4_fits RX4 meth 3 (some .boolean) R 13 C0 N0 "fits")   (k0 : Int32) (μ : vg_M) : vg_S p l e R s m args below meth c D cy H0 C0 N0 3 (MQ below (vg_Qc D cy H0 μ' (some (.int r))) args s C0 N0 (vg_fr H0)) r μ' (fX4_fits_31  k0 μ) μ [] [.int k0] 31 := by
  intro cn nn H locs cells slots ls hf hH hL hC hN hl
  obtain ⟨X, hml, hr, hlk, hfr, hlo, hRc, hRs, hnm⟩ := id Z
  have hx := X.1
  have hb := X.2.1
  delta fX4_fits_31 at hf
  exact vg_retz X (by simp) hr hlk hH hL dX4_fits_31 hf hC hN
def fX4_fits_30   (μ : vg_M) : vg_R Int32 :=
  fX4_fits_31  0 μ
set_option maxHeartbeats 4000000 in
set_option maxRecDepth 100000 in
theorem wX4_fits_30 {p : Program} {l : Launch} {e : Env} {R : Room} {s : State} {m : MethodId} {args : Array Value} {below : List Frame} {meth : Method} {c : Code} {D : va_G} {cy : Nat → ClassId} {H0 : Heap} {C0 N0 : Nat} {r : Int32} {μ' : vg_M} (Z : vg_Z D cy H0 p s m args c cX4_fits RX4 meth 3 (some .boolean) R 13 C0 N0 "fits")    (μ : vg_M) : vg_S p l e R s m args below meth c D cy H0 C0 N0 3 (MQ below (vg_Qc D cy H0 μ' (some (.int r))) args s C0 N0 (vg_fr H0)) r μ' (fX4_fits_30   μ) μ [] [] 30 := by
  intro cn nn H locs cells slots ls hf hH hL hC hN hl
  obtain ⟨X, hml, hr, hlk, hfr, hlo, hRc, hRs, hnm⟩ := id Z
  have hx := X.1
  have hb := X.2.1
  delta fX4_fits_30 at hf
  refine lv_iconst (v := 0) hx hb dX4_fits_30 (by decide) ?_
  exact wX4_fits_31 Z  0 μ _ _ _ _ _ _ _ hf hH hL hC hN (hl.sub [] rfl)
def fX4_fits (v0 : Nat) (v1 : Int32) (v2 : Int32) (μ : vg_M) : vg_R Int32 :=
  vg_o (vg_gI μ v0 7 1) fun x1 =>
  if v1 = x1 then (
   vg_cv 7 v0 μ (fX4_statesAt v0 v2 μ) fun x2 μ3 =>
   vg_o (vg_gR μ3 v0 7 2) fun x4 =>
   vg_o x4 fun a5 =>
   vg_cv 2 a5 μ3 (fJx4a65c_size_8abf5 a5  μ3) fun x6 μ7 =>
   if (x2 &&& (1 <<< (x6 &&& 31))) = 0 then (
    fX4_fits_30   μ7
    ) else (
    fX4_fits_31  1 μ7
    )
   ) else (
   fX4_fits_30   μ
   )
set_option maxHeartbeats 4000000 in
set_option maxRecDepth 100000 in
theorem cX4_fits_met {l : Launch} {D : va_G} {cy : Nat → ClassId} {H0 : Heap} {r : Int32} {μ μ' : vg_M} {cn nn : Nat} {v0 : Nat} {v1 : Int32} {v2 : Int32} (hf : fX4_fits v0 v1 v2 μ = some (r, μ', cn, nn)) : vg_Met l D cy H0 yX4_fits cX4_fits 3 (some .boolean) 13 μ [.ref v0, .int v1, .int v2] (some (.int r)) μ' cn nn := by
  refine vg_start (by decide +kernel) (List.forall_mem_cons.mpr ⟨rfl, (List.forall_mem_cons.mpr ⟨rfl, (List.forall_mem_cons.mpr ⟨rfl, (fun _ h => nomatch h)⟩)⟩)⟩) (Nat.le_of_ble_eq_true rfl) ?_
  intro p e s m below meth c ls X hml hr hlk hnm hH hl
  have hl : vg_l ls 3 [(0, .ref v0), (1, .int v1), (2, .int v2)] := hl
  have Z : vg_Z D cy H0 p s m _ c cX4_fits RX4 meth 3 (some .boolean) (vg_rm 13 cn nn) 13 cn nn _ := ⟨X, hml, hr, hlk, Nat.le_refl _, Nat.le_refl _, Nat.le_refl _, Nat.le_refl _, hnm⟩
  obtain ⟨-, -, -, -, hfr, hlo, hRc, hRs, -⟩ := id Z
  have hx := X.1
  have hb := X.2.1
  have hL : ∀ z ∈ ([] : List Loc), H0.size ≤ z.base := fun _ h => nomatch h
  have hC : 0 + cn = cn := Nat.zero_add _
  have hN : 0 + nn = nn := Nat.zero_add _
  delta fX4_fits at hf
  refine lv_iload_n hx hb dX4_fits_0 rfl (lv_at hl.1 1 rfl) ?_
  refine lv_aload_n hx hb dX4_fits_1 rfl (lv_at hl.1 0 rfl) ?_
  refine vg_getI X hH fF_X4_59 dX4_fits_2 hf (fun x1 hf => ?_)
  refine lv_icmp_ne (tgt := 30) hx hb dX4_fits_5 (by decide) (fun h8 => ?_) (fun h8 => ?_)
  · have hf := vg_if h8 hf
    exact wX4_fits_30 Z   μ _ _ _ _ _ _ _ hf hH hL hC hN (hl.sub [] rfl)
  · have hf := vg_ip h8 hf
    refine lv_aload_n hx hb dX4_fits_8 rfl (lv_at hl.1 0 rfl) ?_
    refine lv_iload_n hx hb dX4_fits_9 rfl (lv_at hl.1 2 rfl) ?_
    refine vg_callVi (ci := 7) X hml hl hH hL fCV_X4_62 rfl [.int v2] rfl rfl (Nat.le_of_ble_eq_true rfl) dX4_fits_10 hf hC hN hRc hRs hfr hlo (by decide) (fun _ _ _ _ h => cX4_statesAt_met h) (fun x2 μ3 cn nn H locs cells slots hf hC hN hH hL => ?_)
    refine lv_iconst (v := 1) hx hb dX4_fits_13 (by decide) ?_
    refine lv_aload_n hx hb dX4_fits_14 rfl (lv_at hl.1 0 rfl) ?_
    refine vg_getR X hH fF_X4_12 dX4_fits_15 hf (fun x4 hf => ?_)
    obtain ⟨a5, h9, hg⟩ := vg_o_inv hf
    clear hf
    subst h9
    have hf := hg
    clear hg
    refine vg_callVi (ci := 2) X hml hl hH hL fCV_X4_26 rfl [] rfl rfl (Nat.le_of_ble_eq_true rfl) dX4_fits_18 hf hC hN hRc hRs hfr hlo (by decide) (fun _ _ _ _ h => cJx4a65c_size_8abf5_met h) (fun x6 μ7 cn nn H locs cells slots hf hC hN hH hL => ?_)
    refine lv_ishl hx hb dX4_fits_21 ?_
    refine lv_iand hx hb dX4_fits_22 ?_
    refine lv_if_eq (tgt := 30) hx hb dX4_fits_23 (by decide) (fun h8 => ?_) (fun h8 => ?_)
    · have hf := vg_ip h8 hf
      exact wX4_fits_30 Z   μ7 _ _ _ _ _ _ _ hf hH hL hC hN (hl.sub [] rfl)
    · have hf := vg_if h8 hf
      refine lv_iconst (v := 1) hx hb dX4_fits_26 (by decide) ?_
      refine lv_goto (tgt := 31) hx hb dX4_fits_27 (by decide) ?_
      exact wX4_fits_31 Z  1 μ7 _ _ _ _ _ _ _ hf hH hL hC hN (hl.sub [] rfl)
def fX7_fitsOne_50 (q3 : Nat → Int32 → Int32 → Int32 → Int32 → vg_M → vg_R Int32) (v0 : Nat) (v1 : Int32) (v2 : Int32) (v3 : Int32) (v4 : Int32) (μ : vg_M) : vg_R Int32 :=
  q3 v0 v1 v2 v3 (v4 + 1) μ
set_option maxHeartbeats 4000000 in
set_option maxRecDepth 100000 in
theorem wX7_fitsOne_50 {p : Program} {l : Launch} {e : Env} {R : Room} {s : State} {m : MethodId} {args : Array Value} {below : List Frame} {meth : Method} {c : Code} {D : va_G} {cy : Nat → ClassId} {H0 : Heap} {C0 N0 : Nat} {r : Int32} {μ' : vg_M} (Z : vg_Z D cy H0 p s m args c cX7_fitsOne RX7 meth 6 (some .boolean) R 15 C0 N0 "fitsOne") {q3 : Nat → Int32 → Int32 → Int32 → Int32 → vg_M → vg_R Int32} (hk3 : ∀ (v0 : Nat) (v1 : Int32) (v2 : Int32) (v3 : Int32) (v4 : Int32) (μ : vg_M), vg_S p l e R s m args below meth c D cy H0 C0 N0 6 (MQ below (vg_Qc D cy H0 μ' (some (.int r))) args s C0 N0 (vg_fr H0)) r μ' (q3 v0 v1 v2 v3 v4 μ) μ [(0, .ref v0), (1, .int v1), (2, .int v2), (3, .int v3), (4, .int v4)] [] 3) (v0 : Nat) (v1 : Int32) (v2 : Int32) (v3 : Int32) (v4 : Int32) (μ : vg_M) : vg_S p l e R s m args below meth c D cy H0 C0 N0 6 (MQ below (vg_Qc D cy H0 μ' (some (.int r))) args s C0 N0 (vg_fr H0)) r μ' (fX7_fitsOne_50 q3 v0 v1 v2 v3 v4 μ) μ [(0, .ref v0), (1, .int v1), (2, .int v2), (3, .int v3), (4, .int v4)] [] 50 := by
  intro cn nn H locs cells slots ls hf hH hL hC hN hl
  obtain ⟨X, hml, hr, hlk, hfr, hlo, hRc, hRs, hnm⟩ := id Z
  have hx := X.1
  have hb := X.2.1
  delta fX7_fitsOne_50 at hf
  refine vg_iinc (v := v4 + 1) (lv' := [(4, .int (v4 + 1)), (0, .ref v0), (1, .int v1), (2, .int v2), (3, .int v3)]) hx hb dX7_fitsOne_50 hl (k := 4) rfl rfl (by decide) rfl (fun ls hl => ?_)
  refine lv_goto (tgt := 3) hx hb dX7_fitsOne_53 (by decide) ?_
  exact hk3 v0 v1 v2 v3 (v4 + 1) μ _ _ _ _ _ _ _ hf hH hL hC hN (hl.sub [1, 2, 3, 4, 0] rfl)
def fX7_fitsOne_3  : Nat → Nat → Int32 → Int32 → Int32 → Int32 → vg_M → vg_R Int32
  | 0, _, _, _, _, _, _ => none
  | n + 1, v0, v1, v2, v3, v4, μ =>
    vg_o (vg_gR μ v0 10 2) fun x1 =>
    vg_o x1 fun a2 =>
    vg_cv 2 a2 μ (fJx4a65c_size_8abf5 a2  μ) fun x3 μ4 =>
    if x3 ≤ v4 then (
     vg_o (vg_z .boolean 0) fun z => vg_ret z μ4
     ) else (
     vg_o (vg_gR μ4 v0 10 2) fun x5 =>
     vg_o x5 fun a6 =>
     vg_cv 2 a6 μ4 (fJx4a65c_get_915e3 a6 v4 μ4) fun x7 μ8 =>
     vg_ck μ8 x7 7 <|
     vg_o x7 fun a9 =>
     vg_o (vg_gI μ8 a9 7 0) fun x10 =>
     if x10 = v1 then (
      vg_cv 7 a9 μ8 (fX4_fits a9 v2 v3 μ8) fun x11 μ12 =>
      if x11 = 0 then (
       fX7_fitsOne_50 (fX7_fitsOne_3  n) v0 v1 v2 v3 v4 μ12
       ) else (
       vg_o (vg_z .boolean 1) fun z => vg_ret z μ12
       )
      ) else (
      fX7_fitsOne_50 (fX7_fitsOne_3  n) v0 v1 v2 v3 v4 μ8
      )
     )
set_option maxHeartbeats 4000000 in
set_option maxRecDepth 100000 in
theorem wX7_fitsOne_3 {p : Program} {l : Launch} {e : Env} {R : Room} {s : State} {m : MethodId} {args : Array Value} {below : List Frame} {meth : Method} {c : Code} {D : va_G} {cy : Nat → ClassId} {H0 : Heap} {C0 N0 : Nat} {r : Int32} {μ' : vg_M} (Z : vg_Z D cy H0 p s m args c cX7_fitsOne RX7 meth 6 (some .boolean) R 15 C0 N0 "fitsOne")   : ∀ (n : Nat) (v0 : Nat) (v1 : Int32) (v2 : Int32) (v3 : Int32) (v4 : Int32) (μ : vg_M), vg_S p l e R s m args below meth c D cy H0 C0 N0 6 (MQ below (vg_Qc D cy H0 μ' (some (.int r))) args s C0 N0 (vg_fr H0)) r μ' (fX7_fitsOne_3  n v0 v1 v2 v3 v4 μ) μ [(0, .ref v0), (1, .int v1), (2, .int v2), (3, .int v3), (4, .int v4)] [] 3 := by
  intro n
  induction n with
  | zero =>
    intro v0 v1 v2 v3 v4 μ cn nn H locs cells slots ls hf
    simp [fX7_fitsOne_3] at hf
  | succ n hk3 =>
    intro v0 v1 v2 v3 v4 μ
    intro cn nn H locs cells slots ls hf hH hL hC hN hl
    obtain ⟨X, hml, hr, hlk, hfr, hlo, hRc, hRs, hnm⟩ := id Z
    have hx := X.1
    have hb := X.2.1
    rw [fX7_fitsOne_3] at hf
    refine lv_iload hx hb dX7_fitsOne_3 (lv_at hl.1 4 rfl) ?_
    refine lv_aload_n hx hb dX7_fitsOne_5 rfl (lv_at hl.1 0 rfl) ?_
    refine vg_getR X hH fF_X7_12 dX7_fitsOne_6 hf (fun x1 hf => ?_)
    obtain ⟨a2, h9, hg⟩ := vg_o_inv hf
    clear hf
    subst h9
    have hf := hg
    clear hg
    refine vg_callVi (ci := 2) X hml hl hH hL fCV_X7_29 rfl [] rfl rfl (Nat.le_of_ble_eq_true rfl) dX7_fitsOne_9 hf hC hN hRc hRs hfr hlo (by decide) (fun _ _ _ _ h => cJx4a65c_size_8abf5_met h) (fun x3 μ4 cn nn H locs cells slots hf hC hN hH hL => ?_)
    refine lv_icmp_ge (tgt := 56) hx hb dX7_fitsOne_12 (by decide) (fun h8 => ?_) (fun h8 => ?_)
    · have hf := vg_ip h8 hf
      refine lv_iconst (v := 0) hx hb dX7_fitsOne_56 (by decide) ?_
      exact vg_retz X (by simp) hr hlk hH hL dX7_fitsOne_57 hf hC hN
    · have hf := vg_if h8 hf
      refine lv_aload_n hx hb dX7_fitsOne_15 rfl (lv_at hl.1 0 rfl) ?_
      refine vg_getR X hH fF_X7_12 dX7_fitsOne_16 hf (fun x5 hf => ?_)
      refine lv_iload hx hb dX7_fitsOne_19 (lv_at hl.1 4 rfl) ?_
      obtain ⟨a6, h9, hg⟩ := vg_o_inv hf
      clear hf
      subst h9
      have hf := hg
      clear hg
      refine vg_callVr (ci := 2) X hml hl hH hL fCV_X7_33 rfl [.int v4] rfl rfl (Nat.le_of_ble_eq_true rfl) dX7_fitsOne_21 hf hC hN hRc hRs hfr hlo (by decide) (fun _ _ _ _ h => cJx4a65c_get_915e3_met h) (fun x7 μ8 cn nn H locs cells slots hf hC hN hH hL => ?_)
      refine vg_castC (ci := 7) X hH rfl kw_481568071 (x := x7) dX7_fitsOne_24 hf (fun hf => ?_)
      refine vg_astore (lv' := [(5, va_rf x7), (0, .ref v0), (1, .int v1), (2, .int v2), (3, .int v3), (4, .int v4)]) hx hb dX7_fitsOne_27 hl (by decide) rfl (fun ls hl => ?_)
      refine vg_aload hx hb dX7_fitsOne_29 (lv_at hl.1 0 rfl) ?_
      obtain ⟨a9, h9, hg⟩ := vg_o_inv hf
      clear hf
      subst h9
      have hf := hg
      clear hg
      refine vg_getIr X hH fR_X7_39 dX7_fitsOne_31 hf (fun x10 hf => ?_)
      refine lv_iload_n hx hb dX7_fitsOne_34 rfl (lv_at hl.1 2 rfl) ?_
      refine lv_icmp_ne (tgt := 50) hx hb dX7_fitsOne_35 (by decide) (fun h8 => ?_) (fun h8 => ?_)
      · have hf := vg_if h8 hf
        exact wX7_fitsOne_50 Z hk3 v0 v1 v2 v3 v4 μ8 _ _ _ _ _ _ _ hf hH hL hC hN (hl.sub [1, 2, 3, 4, 5] rfl)
      · have hf := vg_ip h8 hf
        refine lv_aload hx hb dX7_fitsOne_38 (lv_at hl.1 0 rfl) ?_
        refine lv_iload_n hx hb dX7_fitsOne_40 rfl (lv_at hl.1 3 rfl) ?_
        refine lv_iload_n hx hb dX7_fitsOne_41 rfl (lv_at hl.1 4 rfl) ?_
        refine vg_callVi (ci := 7) X hml hl hH hL fCV_X7_64 rfl [.int v2, .int v3] rfl rfl (Nat.le_of_ble_eq_true rfl) dX7_fitsOne_42 hf hC hN hRc hRs hfr hlo (by decide) (fun _ _ _ _ h => cX4_fits_met h) (fun x11 μ12 cn nn H locs cells slots hf hC hN hH hL => ?_)
        refine lv_if_eq (tgt := 50) hx hb dX7_fitsOne_45 (by decide) (fun h8 => ?_) (fun h8 => ?_)
        · have hf := vg_ip h8 hf
          exact wX7_fitsOne_50 Z hk3 v0 v1 v2 v3 v4 μ12 _ _ _ _ _ _ _ hf hH hL hC hN (hl.sub [1, 2, 3, 4, 5] rfl)
        · have hf := vg_if h8 hf
          refine lv_iconst (v := 1) hx hb dX7_fitsOne_48 (by decide) ?_
          exact vg_retz X (by simp) hr hlk hH hL dX7_fitsOne_49 hf hC hN
def fX7_fitsOne (v0 : Nat) (v1 : Int32) (v2 : Int32) (v3 : Int32) (μ : vg_M) : vg_R Int32 :=
  fX7_fitsOne_3  vg_fuel v0 v1 v2 v3 0 μ
set_option maxHeartbeats 4000000 in
set_option maxRecDepth 100000 in
theorem cX7_fitsOne_met {l : Launch} {D : va_G} {cy : Nat → ClassId} {H0 : Heap} {r : Int32} {μ μ' : vg_M} {cn nn : Nat} {v0 : Nat} {v1 : Int32} {v2 : Int32} {v3 : Int32} (hf : fX7_fitsOne v0 v1 v2 v3 μ = some (r, μ', cn, nn)) : vg_Met l D cy H0 yX7_fitsOne cX7_fitsOne 6 (some .boolean) 15 μ [.ref v0, .int v1, .int v2, .int v3] (some (.int r)) μ' cn nn := by
  refine vg_start (by decide +kernel) (List.forall_mem_cons.mpr ⟨rfl, (List.forall_mem_cons.mpr ⟨rfl, (List.forall_mem_cons.mpr ⟨rfl, (List.forall_mem_cons.mpr ⟨rfl, (fun _ h => nomatch h)⟩)⟩)⟩)⟩) (Nat.le_of_ble_eq_true rfl) ?_
  intro p e s m below meth c ls X hml hr hlk hnm hH hl
  have hl : vg_l ls 6 [(0, .ref v0), (1, .int v1), (2, .int v2), (3, .int v3)] := hl
  have Z : vg_Z D cy H0 p s m _ c cX7_fitsOne RX7 meth 6 (some .boolean) (vg_rm 15 cn nn) 15 cn nn _ := ⟨X, hml, hr, hlk, Nat.le_refl _, Nat.le_refl _, Nat.le_refl _, Nat.le_refl _, hnm⟩
  obtain ⟨-, -, -, -, hfr, hlo, hRc, hRs, -⟩ := id Z
  have hx := X.1
  have hb := X.2.1
  have hL : ∀ z ∈ ([] : List Loc), H0.size ≤ z.base := fun _ h => nomatch h
  have hC : 0 + cn = cn := Nat.zero_add _
  have hN : 0 + nn = nn := Nat.zero_add _
  delta fX7_fitsOne at hf
  refine lv_iconst (v := 0) hx hb dX7_fitsOne_0 (by decide) ?_
  refine vg_istore (lv' := [(4, .int 0), (0, .ref v0), (1, .int v1), (2, .int v2), (3, .int v3)]) hx hb dX7_fitsOne_1 hl (by decide) rfl (fun ls hl => ?_)
  exact wX7_fitsOne_3 Z  vg_fuel v0 v1 v2 v3 0 μ _ _ _ _ _ _ _ hf hH hL hC hN (hl.sub [1, 2, 3, 4, 0] rfl)
def fX7_takes_25  (k0 : Int32) (μ : vg_M) : vg_R Int32 :=
  vg_o (vg_z .boolean k0) fun z => vg_ret z μ
set_option maxHeartbeats 4000000 in
set_option maxRecDepth 100000 in
theorem wX7_takes_25 {p : Program} {l : Launch} {e : Env} {R : Room} {s : State} {m : MethodId} {args : Array Value} {below : List Frame} {meth : Method} {c : Code} {D : va_G} {cy : Nat → ClassId} {H0 : Heap} {C0 N0 : Nat} {r : Int32} {μ' : vg_M} (Z : vg_Z D cy H0 p s m args c cX7_takes RX7 meth 3 (some .boolean) R 16 C0 N0 "takes")   (k0 : Int32) (μ : vg_M) : vg_S p l e R s m args below meth c D cy H0 C0 N0 3 (MQ below (vg_Qc D cy H0 μ' (some (.int r))) args s C0 N0 (vg_fr H0)) r μ' (fX7_takes_25  k0 μ) μ [] [.int k0] 25 := by
  intro cn nn H locs cells slots ls hf hH hL hC hN hl
  obtain ⟨X, hml, hr, hlk, hfr, hlo, hRc, hRs, hnm⟩ := id Z
  have hx := X.1
  have hb := X.2.1
  delta fX7_takes_25 at hf
  exact vg_retz X (by simp) hr hlk hH hL dX7_takes_25 hf hC hN
def fX7_takes_24   (μ : vg_M) : vg_R Int32 :=
  fX7_takes_25  0 μ
set_option maxHeartbeats 4000000 in
set_option maxRecDepth 100000 in
theorem wX7_takes_24 {p : Program} {l : Launch} {e : Env} {R : Room} {s : State} {m : MethodId} {args : Array Value} {below : List Frame} {meth : Method} {c : Code} {D : va_G} {cy : Nat → ClassId} {H0 : Heap} {C0 N0 : Nat} {r : Int32} {μ' : vg_M} (Z : vg_Z D cy H0 p s m args c cX7_takes RX7 meth 3 (some .boolean) R 16 C0 N0 "takes")    (μ : vg_M) : vg_S p l e R s m args below meth c D cy H0 C0 N0 3 (MQ below (vg_Qc D cy H0 μ' (some (.int r))) args s C0 N0 (vg_fr H0)) r μ' (fX7_takes_24   μ) μ [] [] 24 := by
  intro cn nn H locs cells slots ls hf hH hL hC hN hl
  obtain ⟨X, hml, hr, hlk, hfr, hlo, hRc, hRs, hnm⟩ := id Z
  have hx := X.1
  have hb := X.2.1
  delta fX7_takes_24 at hf
  refine lv_iconst (v := 0) hx hb dX7_takes_24 (by decide) ?_
  exact wX7_takes_25 Z  0 μ _ _ _ _ _ _ _ hf hH hL hC hN (hl.sub [] rfl)
def fX7_takes (v0 : Nat) (v1 : Int32) (v2 : Int32) (μ : vg_M) : vg_R Int32 :=
  vg_cv 10 v0 μ (fX7_fitsOne v0 0 v1 v2 μ) fun x1 μ2 =>
  if x1 = 0 then (
   fX7_takes_24   μ2
   ) else (
   vg_cv 10 v0 μ2 (fX7_fitsOne v0 1 v1 v2 μ2) fun x3 μ4 =>
   if x3 = 0 then (
    fX7_takes_25  1 μ4
    ) else (
    fX7_takes_24   μ4
    )
   )
set_option maxHeartbeats 4000000 in
set_option maxRecDepth 100000 in
theorem cX7_takes_met {l : Launch} {D : va_G} {cy : Nat → ClassId} {H0 : Heap} {r : Int32} {μ μ' : vg_M} {cn nn : Nat} {v0 : Nat} {v1 : Int32} {v2 : Int32} (hf : fX7_takes v0 v1 v2 μ = some (r, μ', cn, nn)) : vg_Met l D cy H0 yX7_takes cX7_takes 3 (some .boolean) 16 μ [.ref v0, .int v1, .int v2] (some (.int r)) μ' cn nn := by
  refine vg_start (by decide +kernel) (List.forall_mem_cons.mpr ⟨rfl, (List.forall_mem_cons.mpr ⟨rfl, (List.forall_mem_cons.mpr ⟨rfl, (fun _ h => nomatch h)⟩)⟩)⟩) (Nat.le_of_ble_eq_true rfl) ?_
  intro p e s m below meth c ls X hml hr hlk hnm hH hl
  have hl : vg_l ls 3 [(0, .ref v0), (1, .int v1), (2, .int v2)] := hl
  have Z : vg_Z D cy H0 p s m _ c cX7_takes RX7 meth 3 (some .boolean) (vg_rm 16 cn nn) 16 cn nn _ := ⟨X, hml, hr, hlk, Nat.le_refl _, Nat.le_refl _, Nat.le_refl _, Nat.le_refl _, hnm⟩
  obtain ⟨-, -, -, -, hfr, hlo, hRc, hRs, -⟩ := id Z
  have hx := X.1
  have hb := X.2.1
  have hL : ∀ z ∈ ([] : List Loc), H0.size ≤ z.base := fun _ h => nomatch h
  have hC : 0 + cn = cn := Nat.zero_add _
  have hN : 0 + nn = nn := Nat.zero_add _
  delta fX7_takes at hf
  refine lv_aload_n hx hb dX7_takes_0 rfl (lv_at hl.1 0 rfl) ?_
  refine lv_iconst (v := 0) hx hb dX7_takes_1 (by decide) ?_
  refine lv_iload_n hx hb dX7_takes_2 rfl (lv_at hl.1 1 rfl) ?_
  refine lv_iload_n hx hb dX7_takes_3 rfl (lv_at hl.1 2 rfl) ?_
  refine vg_callVi (ci := 10) X hml hl hH hL fCV_X7_60 rfl [.int 0, .int v1, .int v2] rfl rfl (Nat.le_of_ble_eq_true rfl) dX7_takes_4 hf hC hN hRc hRs hfr hlo (by decide) (fun _ _ _ _ h => cX7_fitsOne_met h) (fun x1 μ2 cn nn H locs cells slots hf hC hN hH hL => ?_)
  refine lv_if_eq (tgt := 24) hx hb dX7_takes_7 (by decide) (fun h8 => ?_) (fun h8 => ?_)
  · have hf := vg_ip h8 hf
    exact wX7_takes_24 Z   μ2 _ _ _ _ _ _ _ hf hH hL hC hN (hl.sub [] rfl)
  · have hf := vg_if h8 hf
    refine lv_aload_n hx hb dX7_takes_10 rfl (lv_at hl.1 0 rfl) ?_
    refine lv_iconst (v := 1) hx hb dX7_takes_11 (by decide) ?_
    refine lv_iload_n hx hb dX7_takes_12 rfl (lv_at hl.1 1 rfl) ?_
    refine lv_iload_n hx hb dX7_takes_13 rfl (lv_at hl.1 2 rfl) ?_
    refine vg_callVi (ci := 10) X hml hl hH hL fCV_X7_60 rfl [.int 1, .int v1, .int v2] rfl rfl (Nat.le_of_ble_eq_true rfl) dX7_takes_14 hf hC hN hRc hRs hfr hlo (by decide) (fun _ _ _ _ h => cX7_fitsOne_met h) (fun x3 μ4 cn nn H locs cells slots hf hC hN hH hL => ?_)
    refine lv_if_ne (tgt := 24) hx hb dX7_takes_17 (by decide) (fun h8 => ?_) (fun h8 => ?_)
    · have hf := vg_if h8 hf
      exact wX7_takes_24 Z   μ4 _ _ _ _ _ _ _ hf hH hL hC hN (hl.sub [] rfl)
    · have hf := vg_ip h8 hf
      refine lv_iconst (v := 1) hx hb dX7_takes_20 (by decide) ?_
      refine lv_goto (tgt := 25) hx hb dX7_takes_21 (by decide) ?_
      exact wX7_takes_25 Z  1 μ4 _ _ _ _ _ _ _ hf hH hL hC hN (hl.sub [] rfl)
def fX1_init (v0 : Nat) (v1 : Option Nat) (v2 : Option Nat) (v3 : Int32) (μ : vg_M) : vg_R Unit :=
  vg_nw 3 μ.2.1 (vg_nO μ 2 [.int 0, .null, .int 0]) fun a1 μ2 =>
  vg_b (fJx4a65c_init_da8c8 a1  μ2) fun _ μ4 =>
  vg_o (vg_p μ4 v0 4 3 (.ref a1)) fun μ5 =>
  vg_o (vg_len 6) fun n => vg_nw n μ5.2.1 (vg_nA μ5 2 n) fun a6 μ7 =>
  vg_o (vg_p μ7 v0 4 4 (.ref a6)) fun μ8 =>
  vg_o (vg_p μ8 v0 4 0 (va_rf v1)) fun μ9 =>
  vg_o (vg_p μ9 v0 4 1 (va_rf v2)) fun μ10 =>
  vg_o (vg_z .boolean v3) fun z => vg_o (vg_p μ10 v0 4 2 (.int z)) fun μ11 =>
  vg_ret () μ11
set_option maxHeartbeats 4000000 in
set_option maxRecDepth 100000 in
theorem cX1_init_met {l : Launch} {D : va_G} {cy : Nat → ClassId} {H0 : Heap} {r : Unit} {μ μ' : vg_M} {cn nn : Nat} {v0 : Nat} {v1 : Option Nat} {v2 : Option Nat} {v3 : Int32} (hf : fX1_init v0 v1 v2 v3 μ = some (r, μ', cn, nn)) : vg_Met l D cy H0 yX1_init cX1_init 4 none 15 μ [.ref v0, va_rf v1, va_rf v2, .int v3] none μ' cn nn := by
  refine vg_start (by decide +kernel) (List.forall_mem_cons.mpr ⟨rfl, (List.forall_mem_cons.mpr ⟨vg_rfc _, (List.forall_mem_cons.mpr ⟨vg_rfc _, (List.forall_mem_cons.mpr ⟨rfl, (fun _ h => nomatch h)⟩)⟩)⟩)⟩) (Nat.le_of_ble_eq_true rfl) ?_
  intro p e s m below meth c ls X hml hr hlk hnm hH hl
  have hl : vg_l ls 4 [(0, .ref v0), (1, va_rf v1), (2, va_rf v2), (3, .int v3)] := hl
  have Z : vg_Z D cy H0 p s m _ c cX1_init RX1 meth 4 none (vg_rm 15 cn nn) 15 cn nn _ := ⟨X, hml, hr, hlk, Nat.le_refl _, Nat.le_refl _, Nat.le_refl _, Nat.le_refl _, hnm⟩
  obtain ⟨-, -, -, -, hfr, hlo, hRc, hRs, -⟩ := id Z
  have hx := X.1
  have hb := X.2.1
  have hL : ∀ z ∈ ([] : List Loc), H0.size ≤ z.base := fun _ h => nomatch h
  have hC : 0 + cn = cn := Nat.zero_add _
  have hN : 0 + nn = nn := Nat.zero_add _
  delta fX1_init at hf
  refine lv_aload_n hx hb dX1_init_0 rfl (lv_at hl.1 0 rfl) ?_
  refine vg_objInit X hml hl kw_780940778 kw_624348017 kw_835052908 dX1_init_1 (Nat.le_of_ble_eq_true rfl) (Nat.le_trans (by decide) hfr) (Nat.le_trans (by decide) hlo) ?_
  refine lv_aload_n hx hb dX1_init_4 rfl (lv_at hl.1 0 rfl) ?_
  refine vg_new X hH fN_X1_9 dX1_init_5 hf hC hN hRc hRs (fun a1 μ2 cn nn H hf hC hN hH => ?_)
  refine lv_dup hx hb dX1_init_8 rfl ?_
  refine vg_callIv X hml hl hH hL fCI_X1_11 [] rfl rfl (Nat.le_of_ble_eq_true rfl) dX1_init_9 hf hC hN hRc hRs hfr hlo (by decide) (fun _ _ _ _ h => cJx4a65c_init_da8c8_met h) (fun _ μ4 cn nn H locs cells slots hf hC hN hH hL => ?_)
  refine vg_putF X hnm hH hL fF_X1_12 (vg_fitR (by simp) (some a1)).1 (vg_fitR (by simp) (some a1)).2 dX1_init_12 hf (fun μ5 H locs hf hH hL => ?_)
  refine lv_aload_n hx hb dX1_init_15 rfl (lv_at hl.1 0 rfl) ?_
  refine lv_bipush (v := 6) hx hb dX1_init_16 (by decide) ?_
  refine vg_newa X hH (atype := .int) (t := 2) kw_803024247 rfl (by decide) dX1_init_18 hf hC hN hRc hRs (fun _ a6 μ7 cn nn H hf hC hN hH => ?_)
  refine vg_putF X hnm hH hL fF_X1_18 (vg_fitR (by simp) (some a6)).1 (vg_fitR (by simp) (some a6)).2 dX1_init_20 hf (fun μ8 H locs hf hH hL => ?_)
  refine lv_aload_n hx hb dX1_init_23 rfl (lv_at hl.1 0 rfl) ?_
  refine vg_aload_n hx hb dX1_init_24 rfl (lv_at hl.1 1 rfl) ?_
  refine vg_putF X hnm hH hL fF_X1_22 (vg_fitR (by simp) v1).1 (vg_fitR (by simp) v1).2 dX1_init_25 hf (fun μ9 H locs hf hH hL => ?_)
  refine lv_aload_n hx hb dX1_init_28 rfl (lv_at hl.1 0 rfl) ?_
  refine vg_aload_n hx hb dX1_init_29 rfl (lv_at hl.1 2 rfl) ?_
  refine vg_putF X hnm hH hL fF_X1_26 (vg_fitR (by simp) v2).1 (vg_fitR (by simp) v2).2 dX1_init_30 hf (fun μ10 H locs hf hH hL => ?_)
  refine lv_aload_n hx hb dX1_init_33 rfl (lv_at hl.1 0 rfl) ?_
  refine lv_iload_n hx hb dX1_init_34 rfl (lv_at hl.1 3 rfl) ?_
  refine vg_putFZ X hnm hH hL (by simp) fF_X1_30 dX1_init_35 hf (fun μ11 H locs hf hH hL => ?_)
  exact vg_retv X hr hlk hH hL dX1_init_38 hf hC hN
def fX8_init (v0 : Nat) (μ : vg_M) : vg_R Unit :=
  vg_nw 6 μ.2.1 (vg_nO μ 4 [.null, .null, .int 0, .null, .null, .int 0]) fun a1 μ2 =>
  vg_k μ2 0 fun a3 =>
  vg_b (fX1_init a1 (some a3) none 1 μ2) fun _ μ5 =>
  vg_o (vg_p μ5 v0 11 0 (.ref a1)) fun μ6 =>
  vg_o (vg_gR μ6 v0 11 0) fun x7 =>
  vg_o x7 fun a8 =>
  vg_o (vg_z .boolean 1) fun z => vg_o (vg_p μ6 a8 4 5 (.int z)) fun μ9 =>
  vg_ret () μ9
set_option maxHeartbeats 4000000 in
set_option maxRecDepth 100000 in
theorem cX8_init_met {l : Launch} {D : va_G} {cy : Nat → ClassId} {H0 : Heap} {r : Unit} {μ μ' : vg_M} {cn nn : Nat} {v0 : Nat} (hf : fX8_init v0 μ = some (r, μ', cn, nn)) : vg_Met l D cy H0 yX8_init cX8_init 1 none 16 μ [.ref v0] none μ' cn nn := by
  refine vg_start (by decide +kernel) (List.forall_mem_cons.mpr ⟨rfl, (fun _ h => nomatch h)⟩) (Nat.le_of_ble_eq_true rfl) ?_
  intro p e s m below meth c ls X hml hr hlk hnm hH hl
  have hl : vg_l ls 1 [(0, .ref v0)] := hl
  have Z : vg_Z D cy H0 p s m _ c cX8_init RX8 meth 1 none (vg_rm 16 cn nn) 16 cn nn _ := ⟨X, hml, hr, hlk, Nat.le_refl _, Nat.le_refl _, Nat.le_refl _, Nat.le_refl _, hnm⟩
  obtain ⟨-, -, -, -, hfr, hlo, hRc, hRs, -⟩ := id Z
  have hx := X.1
  have hb := X.2.1
  have hL : ∀ z ∈ ([] : List Loc), H0.size ≤ z.base := fun _ h => nomatch h
  have hC : 0 + cn = cn := Nat.zero_add _
  have hN : 0 + nn = nn := Nat.zero_add _
  delta fX8_init at hf
  refine lv_aload_n hx hb dX8_init_0 rfl (lv_at hl.1 0 rfl) ?_
  refine vg_objInit X hml hl kw_937834457 kw_624348017 kw_835052908 dX8_init_1 (Nat.le_of_ble_eq_true rfl) (Nat.le_trans (by decide) hfr) (Nat.le_trans (by decide) hlo) ?_
  refine lv_aload_n hx hb dX8_init_4 rfl (lv_at hl.1 0 rfl) ?_
  refine vg_new X hH fN_X8_9 dX8_init_5 hf hC hN hRc hRs (fun a1 μ2 cn nn H hf hC hN hH => ?_)
  refine lv_dup hx hb dX8_init_8 rfl ?_
  refine vg_ldcS X hH (show (RX8, 11, "", 0) ∈ vg_lits from List.mem_of_getElem? (i := 0) (by decide +kernel)) dX8_init_9 hf (fun a3 hf => ?_)
  refine lv_null hx hb dX8_init_11 ?_
  refine lv_iconst (v := 1) hx hb dX8_init_12 (by decide) ?_
  refine vg_callIv X hml hl hH hL fCI_X8_13 [.ref a3, .null, .int 1] rfl rfl (Nat.le_of_ble_eq_true rfl) dX8_init_13 hf hC hN hRc hRs hfr hlo (by decide) (fun _ _ _ _ h => cX1_init_met h) (fun _ μ5 cn nn H locs cells slots hf hC hN hH hL => ?_)
  refine vg_putF X hnm hH hL fF_X8_16 (vg_fitR (by simp) (some a1)).1 (vg_fitR (by simp) (some a1)).2 dX8_init_16 hf (fun μ6 H locs hf hH hL => ?_)
  refine lv_aload_n hx hb dX8_init_19 rfl (lv_at hl.1 0 rfl) ?_
  refine vg_getR X hH fF_X8_16 dX8_init_20 hf (fun x7 hf => ?_)
  refine lv_iconst (v := 1) hx hb dX8_init_23 (by decide) ?_
  obtain ⟨a8, h9, hg⟩ := vg_o_inv hf
  clear hf
  subst h9
  have hf := hg
  clear hg
  refine vg_putZ X hH hL (by simp) fF_X8_22 dX8_init_24 hf (fun μ9 H locs hf hH hL => ?_)
  exact vg_retv X hr hlk hH hL dX8_init_27 hf hC hN
def fX9_init (v0 : Nat) (μ : vg_M) : vg_R Unit :=
  vg_nw 4 μ.2.1 (vg_nO μ 3 [.int 0, .int 0, .null, .null]) fun a1 μ2 =>
  vg_b (fX0_init a1  μ2) fun _ μ4 =>
  vg_o (vg_p μ4 v0 12 0 (.ref a1)) fun μ5 =>
  vg_nw 4 μ5.2.1 (vg_nO μ5 1 [.null, .int 0, .int 0, .int 0]) fun a6 μ7 =>
  vg_b (fJ4_init_da8c8 a6  μ7) fun _ μ9 =>
  vg_o (vg_p μ9 v0 12 1 (.ref a6)) fun μ10 =>
  vg_ret () μ10
set_option maxHeartbeats 4000000 in
set_option maxRecDepth 100000 in
theorem cX9_init_met {l : Launch} {D : va_G} {cy : Nat → ClassId} {H0 : Heap} {r : Unit} {μ μ' : vg_M} {cn nn : Nat} {v0 : Nat} (hf : fX9_init v0 μ = some (r, μ', cn, nn)) : vg_Met l D cy H0 yX9_init cX9_init 1 none 14 μ [.ref v0] none μ' cn nn := by
  refine vg_start (by decide +kernel) (List.forall_mem_cons.mpr ⟨rfl, (fun _ h => nomatch h)⟩) (Nat.le_of_ble_eq_true rfl) ?_
  intro p e s m below meth c ls X hml hr hlk hnm hH hl
  have hl : vg_l ls 1 [(0, .ref v0)] := hl
  have Z : vg_Z D cy H0 p s m _ c cX9_init RX9 meth 1 none (vg_rm 14 cn nn) 14 cn nn _ := ⟨X, hml, hr, hlk, Nat.le_refl _, Nat.le_refl _, Nat.le_refl _, Nat.le_refl _, hnm⟩
  obtain ⟨-, -, -, -, hfr, hlo, hRc, hRs, -⟩ := id Z
  have hx := X.1
  have hb := X.2.1
  have hL : ∀ z ∈ ([] : List Loc), H0.size ≤ z.base := fun _ h => nomatch h
  have hC : 0 + cn = cn := Nat.zero_add _
  have hN : 0 + nn = nn := Nat.zero_add _
  delta fX9_init at hf
  refine lv_aload_n hx hb dX9_init_0 rfl (lv_at hl.1 0 rfl) ?_
  refine vg_objInit X hml hl kw_674533552 kw_624348017 kw_835052908 dX9_init_1 (Nat.le_of_ble_eq_true rfl) (Nat.le_trans (by decide) hfr) (Nat.le_trans (by decide) hlo) ?_
  refine lv_aload_n hx hb dX9_init_4 rfl (lv_at hl.1 0 rfl) ?_
  refine vg_new X hH fN_X9_9 dX9_init_5 hf hC hN hRc hRs (fun a1 μ2 cn nn H hf hC hN hH => ?_)
  refine lv_dup hx hb dX9_init_8 rfl ?_
  refine vg_callINv X hml hl hH hL fCIN_X9_11 [] rfl rfl (Nat.le_of_ble_eq_true rfl) dX9_init_9 hf hC hN hRc hRs hfr hlo (by decide) (fun _ _ _ _ h => cX0_init_met h) (fun _ μ4 cn nn H locs cells slots hf hC hN hH hL => ?_)
  refine vg_putF X hnm hH hL fF_X9_12 (vg_fitR (by simp) (some a1)).1 (vg_fitR (by simp) (some a1)).2 dX9_init_12 hf (fun μ5 H locs hf hH hL => ?_)
  refine lv_aload_n hx hb dX9_init_15 rfl (lv_at hl.1 0 rfl) ?_
  refine vg_new X hH fN_X9_18 dX9_init_16 hf hC hN hRc hRs (fun a6 μ7 cn nn H hf hC hN hH => ?_)
  refine lv_dup hx hb dX9_init_19 rfl ?_
  refine vg_callIv X hml hl hH hL fCI_X9_20 [] rfl rfl (Nat.le_of_ble_eq_true rfl) dX9_init_20 hf hC hN hRc hRs hfr hlo (by decide) (fun _ _ _ _ h => cJ4_init_da8c8_met h) (fun _ μ9 cn nn H locs cells slots hf hC hN hH hL => ?_)
  refine vg_putF X hnm hH hL fF_X9_21 (vg_fitR (by simp) (some a6)).1 (vg_fitR (by simp) (some a6)).2 dX9_init_23 hf (fun μ10 H locs hf hH hL => ?_)
  exact vg_retv X hr hlk hH hL dX9_init_26 hf hC hN
def fX10_init (v0 : Nat) (μ : vg_M) : vg_R Unit :=
  vg_nw 4 μ.2.1 (vg_nO μ 1 [.null, .int 0, .int 0, .int 0]) fun a1 μ2 =>
  vg_b (fJ4_init_da8c8 a1  μ2) fun _ μ4 =>
  vg_o (vg_p μ4 v0 13 0 (.ref a1)) fun μ5 =>
  vg_nw 2 μ5.2.1 (vg_nO μ5 11 [.null, .int 0]) fun a6 μ7 =>
  vg_b (fX8_init a6  μ7) fun _ μ9 =>
  vg_o (vg_p μ9 v0 13 1 (.ref a6)) fun μ10 =>
  vg_nw 3 μ10.2.1 (vg_nO μ10 2 [.int 0, .null, .int 0]) fun a11 μ12 =>
  vg_b (fJx4a65c_init_da8c8 a11  μ12) fun _ μ14 =>
  vg_o (vg_p μ14 v0 13 2 (.ref a11)) fun μ15 =>
  vg_nw 2 μ15.2.1 (vg_nO μ15 12 [.null, .null]) fun a16 μ17 =>
  vg_b (fX9_init a16  μ17) fun _ μ19 =>
  vg_o (vg_p μ19 v0 13 3 (.ref a16)) fun μ20 =>
  vg_o (vg_p μ20 v0 13 4 (.int ((-1)))) fun μ21 =>
  vg_ret () μ21
set_option maxHeartbeats 4000000 in
set_option maxRecDepth 100000 in
theorem cX10_init_met {l : Launch} {D : va_G} {cy : Nat → ClassId} {H0 : Heap} {r : Unit} {μ μ' : vg_M} {cn nn : Nat} {v0 : Nat} (hf : fX10_init v0 μ = some (r, μ', cn, nn)) : vg_Met l D cy H0 yX10_init cX10_init 1 none 17 μ [.ref v0] none μ' cn nn := by
  refine vg_start (by decide +kernel) (List.forall_mem_cons.mpr ⟨rfl, (fun _ h => nomatch h)⟩) (Nat.le_of_ble_eq_true rfl) ?_
  intro p e s m below meth c ls X hml hr hlk hnm hH hl
  have hl : vg_l ls 1 [(0, .ref v0)] := hl
  have Z : vg_Z D cy H0 p s m _ c cX10_init RX10 meth 1 none (vg_rm 17 cn nn) 17 cn nn _ := ⟨X, hml, hr, hlk, Nat.le_refl _, Nat.le_refl _, Nat.le_refl _, Nat.le_refl _, hnm⟩
  obtain ⟨-, -, -, -, hfr, hlo, hRc, hRs, -⟩ := id Z
  have hx := X.1
  have hb := X.2.1
  have hL : ∀ z ∈ ([] : List Loc), H0.size ≤ z.base := fun _ h => nomatch h
  have hC : 0 + cn = cn := Nat.zero_add _
  have hN : 0 + nn = nn := Nat.zero_add _
  delta fX10_init at hf
  refine lv_aload_n hx hb dX10_init_0 rfl (lv_at hl.1 0 rfl) ?_
  refine vg_objInit X hml hl kw_253024168 kw_624348017 kw_835052908 dX10_init_1 (Nat.le_of_ble_eq_true rfl) (Nat.le_trans (by decide) hfr) (Nat.le_trans (by decide) hlo) ?_
  refine lv_aload_n hx hb dX10_init_4 rfl (lv_at hl.1 0 rfl) ?_
  refine vg_new X hH fN_X10_9 dX10_init_5 hf hC hN hRc hRs (fun a1 μ2 cn nn H hf hC hN hH => ?_)
  refine lv_dup hx hb dX10_init_8 rfl ?_
  refine vg_callIv X hml hl hH hL fCI_X10_11 [] rfl rfl (Nat.le_of_ble_eq_true rfl) dX10_init_9 hf hC hN hRc hRs hfr hlo (by decide) (fun _ _ _ _ h => cJ4_init_da8c8_met h) (fun _ μ4 cn nn H locs cells slots hf hC hN hH hL => ?_)
  refine vg_putF X hnm hH hL fF_X10_12 (vg_fitR (by simp) (some a1)).1 (vg_fitR (by simp) (some a1)).2 dX10_init_12 hf (fun μ5 H locs hf hH hL => ?_)
  refine lv_aload_n hx hb dX10_init_15 rfl (lv_at hl.1 0 rfl) ?_
  refine vg_new X hH fN_X10_16 dX10_init_16 hf hC hN hRc hRs (fun a6 μ7 cn nn H hf hC hN hH => ?_)
  refine lv_dup hx hb dX10_init_19 rfl ?_
  refine vg_callIv X hml hl hH hL fCI_X10_18 [] rfl rfl (Nat.le_of_ble_eq_true rfl) dX10_init_20 hf hC hN hRc hRs hfr hlo (by decide) (fun _ _ _ _ h => cX8_init_met h) (fun _ μ9 cn nn H locs cells slots hf hC hN hH hL => ?_)
  refine vg_putF X hnm hH hL fF_X10_19 (vg_fitR (by simp) (some a6)).1 (vg_fitR (by simp) (some a6)).2 dX10_init_23 hf (fun μ10 H locs hf hH hL => ?_)
  refine lv_aload_n hx hb dX10_init_26 rfl (lv_at hl.1 0 rfl) ?_
  refine vg_new X hH fN_X10_23 dX10_init_27 hf hC hN hRc hRs (fun a11 μ12 cn nn H hf hC hN hH => ?_)
  refine lv_dup hx hb dX10_init_30 rfl ?_
  refine vg_callIv X hml hl hH hL fCI_X10_25 [] rfl rfl (Nat.le_of_ble_eq_true rfl) dX10_init_31 hf hC hN hRc hRs hfr hlo (by decide) (fun _ _ _ _ h => cJx4a65c_init_da8c8_met h) (fun _ μ14 cn nn H locs cells slots hf hC hN hH hL => ?_)
  refine vg_putF X hnm hH hL fF_X10_26 (vg_fitR (by simp) (some a11)).1 (vg_fitR (by simp) (some a11)).2 dX10_init_34 hf (fun μ15 H locs hf hH hL => ?_)
  refine lv_aload_n hx hb dX10_init_37 rfl (lv_at hl.1 0 rfl) ?_
  refine vg_new X hH fN_X10_30 dX10_init_38 hf hC hN hRc hRs (fun a16 μ17 cn nn H hf hC hN hH => ?_)
  refine lv_dup hx hb dX10_init_41 rfl ?_
  refine vg_callINv X hml hl hH hL fCIN_X10_32 [] rfl rfl (Nat.le_of_ble_eq_true rfl) dX10_init_42 hf hC hN hRc hRs hfr hlo (by decide) (fun _ _ _ _ h => cX9_init_met h) (fun _ μ19 cn nn H locs cells slots hf hC hN hH hL => ?_)
  refine vg_putF X hnm hH hL fF_X10_33 (vg_fitR (by simp) (some a16)).1 (vg_fitR (by simp) (some a16)).2 dX10_init_45 hf (fun μ20 H locs hf hH hL => ?_)
  refine lv_aload_n hx hb dX10_init_48 rfl (lv_at hl.1 0 rfl) ?_
  refine lv_iconst (v := (-1)) hx hb dX10_init_49 (by decide) ?_
  refine vg_putV X hH hL fF_X10_37 rfl rfl dX10_init_50 hf (fun μ21 H locs hf hH hL => ?_)
  exact vg_retv X hr hlk hH hL dX10_init_53 hf hC hN
def fX10_isDots_23  (k0 : Int32) (μ : vg_M) : vg_R Int32 :=
  vg_o (vg_z .boolean k0) fun z => vg_ret z μ
set_option maxHeartbeats 4000000 in
set_option maxRecDepth 100000 in
theorem wX10_isDots_23 {p : Program} {l : Launch} {e : Env} {R : Room} {s : State} {m : MethodId} {args : Array Value} {below : List Frame} {meth : Method} {c : Code} {D : va_G} {cy : Nat → ClassId} {H0 : Heap} {C0 N0 : Nat} {r : Int32} {μ' : vg_M} (Z : vg_Z D cy H0 p s m args c cX10_isDots RX10 meth 1 (some .boolean) R 14 C0 N0 "isDots")   (k0 : Int32) (μ : vg_M) : vg_S p l e R s m args below meth c D cy H0 C0 N0 1 (MQ below (vg_Qc D cy H0 μ' (some (.int r))) args s C0 N0 (vg_fr H0)) r μ' (fX10_isDots_23  k0 μ) μ [] [.int k0] 23 := by
  intro cn nn H locs cells slots ls hf hH hL hC hN hl
  obtain ⟨X, hml, hr, hlk, hfr, hlo, hRc, hRs, hnm⟩ := id Z
  have hx := X.1
  have hb := X.2.1
  delta fX10_isDots_23 at hf
  exact vg_retz X (by simp) hr hlk hH hL dX10_isDots_23 hf hC hN
def fX10_isDots_18   (μ : vg_M) : vg_R Int32 :=
  fX10_isDots_23  1 μ
set_option maxHeartbeats 4000000 in
set_option maxRecDepth 100000 in
theorem wX10_isDots_18 {p : Program} {l : Launch} {e : Env} {R : Room} {s : State} {m : MethodId} {args : Array Value} {below : List Frame} {meth : Method} {c : Code} {D : va_G} {cy : Nat → ClassId} {H0 : Heap} {C0 N0 : Nat} {r : Int32} {μ' : vg_M} (Z : vg_Z D cy H0 p s m args c cX10_isDots RX10 meth 1 (some .boolean) R 14 C0 N0 "isDots")    (μ : vg_M) : vg_S p l e R s m args below meth c D cy H0 C0 N0 1 (MQ below (vg_Qc D cy H0 μ' (some (.int r))) args s C0 N0 (vg_fr H0)) r μ' (fX10_isDots_18   μ) μ [] [] 18 := by
  intro cn nn H locs cells slots ls hf hH hL hC hN hl
  obtain ⟨X, hml, hr, hlk, hfr, hlo, hRc, hRs, hnm⟩ := id Z
  have hx := X.1
  have hb := X.2.1
  delta fX10_isDots_18 at hf
  refine lv_iconst (v := 1) hx hb dX10_isDots_18 (by decide) ?_
  refine lv_goto (tgt := 23) hx hb dX10_isDots_19 (by decide) ?_
  exact wX10_isDots_23 Z  1 μ _ _ _ _ _ _ _ hf hH hL hC hN (hl.sub [] rfl)
def fX10_isDots (v0 : Option Nat) (μ : vg_M) : vg_R Int32 :=
  vg_k μ 8 fun a1 =>
  vg_o v0 fun a2 =>
  vg_cv 0 a2 μ (fJ0_equals_9ea2d a2 (some a1) μ) fun x3 μ4 =>
  if x3 = 0 then (
   vg_k μ4 9 fun a5 =>
   vg_cv 0 a2 μ4 (fJ0_equals_9ea2d a2 (some a5) μ4) fun x6 μ7 =>
   if x6 = 0 then (
    fX10_isDots_23  0 μ7
    ) else (
    fX10_isDots_18   μ7
    )
   ) else (
   fX10_isDots_18   μ4
   )
set_option maxHeartbeats 4000000 in
set_option maxRecDepth 100000 in
theorem cX10_isDots_met {l : Launch} {D : va_G} {cy : Nat → ClassId} {H0 : Heap} {r : Int32} {μ μ' : vg_M} {cn nn : Nat} {v0 : Option Nat} (hf : fX10_isDots v0 μ = some (r, μ', cn, nn)) : vg_Met l D cy H0 yX10_isDots cX10_isDots 1 (some .boolean) 14 μ [va_rf v0] (some (.int r)) μ' cn nn := by
  refine vg_start (by decide +kernel) (List.forall_mem_cons.mpr ⟨vg_rfc _, (fun _ h => nomatch h)⟩) (Nat.le_of_ble_eq_true rfl) ?_
  intro p e s m below meth c ls X hml hr hlk hnm hH hl
  have hl : vg_l ls 1 [(0, va_rf v0)] := hl
  have Z : vg_Z D cy H0 p s m _ c cX10_isDots RX10 meth 1 (some .boolean) (vg_rm 14 cn nn) 14 cn nn _ := ⟨X, hml, hr, hlk, Nat.le_refl _, Nat.le_refl _, Nat.le_refl _, Nat.le_refl _, hnm⟩
  obtain ⟨-, -, -, -, hfr, hlo, hRc, hRs, -⟩ := id Z
  have hx := X.1
  have hb := X.2.1
  have hL : ∀ z ∈ ([] : List Loc), H0.size ≤ z.base := fun _ h => nomatch h
  have hC : 0 + cn = cn := Nat.zero_add _
  have hN : 0 + nn = nn := Nat.zero_add _
  delta fX10_isDots at hf
  refine vg_aload_n hx hb dX10_isDots_0 rfl (lv_at hl.1 0 rfl) ?_
  refine vg_ldcS X hH (show (RX10, 198, ".", 8) ∈ vg_lits from List.mem_of_getElem? (i := 8) (by decide +kernel)) dX10_isDots_1 hf (fun a1 hf => ?_)
  obtain ⟨a2, h9, hg⟩ := vg_o_inv hf
  clear hf
  subst h9
  have hf := hg
  clear hg
  refine vg_callVi (ci := 0) X hml hl hH hL fCV_X10_200 rfl [.ref a1] rfl rfl (Nat.le_of_ble_eq_true rfl) dX10_isDots_3 hf hC hN hRc hRs hfr hlo (by decide) (fun _ _ _ _ h => cJ0_equals_9ea2d_met h) (fun x3 μ4 cn nn H locs cells slots hf hC hN hH hL => ?_)
  refine lv_if_ne (tgt := 18) hx hb dX10_isDots_6 (by decide) (fun h8 => ?_) (fun h8 => ?_)
  · have hf := vg_if h8 hf
    exact wX10_isDots_18 Z   μ4 _ _ _ _ _ _ _ hf hH hL hC hN (hl.sub [] rfl)
  · have hf := vg_ip h8 hf
    refine lv_aload_n hx hb dX10_isDots_9 rfl (lv_at hl.1 0 rfl) ?_
    refine vg_ldcS X hH (show (RX10, 203, "..", 9) ∈ vg_lits from List.mem_of_getElem? (i := 9) (by decide +kernel)) dX10_isDots_10 hf (fun a5 hf => ?_)
    refine vg_callVi (ci := 0) X hml hl hH hL fCV_X10_200 rfl [.ref a5] rfl rfl (Nat.le_of_ble_eq_true rfl) dX10_isDots_12 hf hC hN hRc hRs hfr hlo (by decide) (fun _ _ _ _ h => cJ0_equals_9ea2d_met h) (fun x6 μ7 cn nn H locs cells slots hf hC hN hH hL => ?_)
    refine lv_if_eq (tgt := 22) hx hb dX10_isDots_15 (by decide) (fun h8 => ?_) (fun h8 => ?_)
    · have hf := vg_ip h8 hf
      refine lv_iconst (v := 0) hx hb dX10_isDots_22 (by decide) ?_
      exact wX10_isDots_23 Z  0 μ7 _ _ _ _ _ _ _ hf hH hL hC hN (hl.sub [] rfl)
    · have hf := vg_if h8 hf
      exact wX10_isDots_18 Z   μ7 _ _ _ _ _ _ _ hf hH hL hC hN (hl.sub [] rfl)
def fX10_isLetter_53  (k0 : Int32) (μ : vg_M) : vg_R Int32 :=
  vg_o (vg_z .boolean k0) fun z => vg_ret z μ
set_option maxHeartbeats 4000000 in
set_option maxRecDepth 100000 in
theorem wX10_isLetter_53 {p : Program} {l : Launch} {e : Env} {R : Room} {s : State} {m : MethodId} {args : Array Value} {below : List Frame} {meth : Method} {c : Code} {D : va_G} {cy : Nat → ClassId} {H0 : Heap} {C0 N0 : Nat} {r : Int32} {μ' : vg_M} (Z : vg_Z D cy H0 p s m args c cX10_isLetter RX10 meth 1 (some .boolean) R 12 C0 N0 "isLetter")   (k0 : Int32) (μ : vg_M) : vg_S p l e R s m args below meth c D cy H0 C0 N0 1 (MQ below (vg_Qc D cy H0 μ' (some (.int r))) args s C0 N0 (vg_fr H0)) r μ' (fX10_isLetter_53  k0 μ) μ [] [.int k0] 53 := by
  intro cn nn H locs cells slots ls hf hH hL hC hN hl
  obtain ⟨X, hml, hr, hlk, hfr, hlo, hRc, hRs, hnm⟩ := id Z
  have hx := X.1
  have hb := X.2.1
  delta fX10_isLetter_53 at hf
  exact vg_retz X (by simp) hr hlk hH hL dX10_isLetter_53 hf hC hN
def fX10_isLetter_48   (μ : vg_M) : vg_R Int32 :=
  fX10_isLetter_53  1 μ
set_option maxHeartbeats 4000000 in
set_option maxRecDepth 100000 in
theorem wX10_isLetter_48 {p : Program} {l : Launch} {e : Env} {R : Room} {s : State} {m : MethodId} {args : Array Value} {below : List Frame} {meth : Method} {c : Code} {D : va_G} {cy : Nat → ClassId} {H0 : Heap} {C0 N0 : Nat} {r : Int32} {μ' : vg_M} (Z : vg_Z D cy H0 p s m args c cX10_isLetter RX10 meth 1 (some .boolean) R 12 C0 N0 "isLetter")    (μ : vg_M) : vg_S p l e R s m args below meth c D cy H0 C0 N0 1 (MQ below (vg_Qc D cy H0 μ' (some (.int r))) args s C0 N0 (vg_fr H0)) r μ' (fX10_isLetter_48   μ) μ [] [] 48 := by
  intro cn nn H locs cells slots ls hf hH hL hC hN hl
  obtain ⟨X, hml, hr, hlk, hfr, hlo, hRc, hRs, hnm⟩ := id Z
  have hx := X.1
  have hb := X.2.1
  delta fX10_isLetter_48 at hf
  refine lv_iconst (v := 1) hx hb dX10_isLetter_48 (by decide) ?_
  refine lv_goto (tgt := 53) hx hb dX10_isLetter_49 (by decide) ?_
  exact wX10_isLetter_53 Z  1 μ _ _ _ _ _ _ _ hf hH hL hC hN (hl.sub [] rfl)
def fX10_isLetter_36  (v0 : Int32) (μ : vg_M) : vg_R Int32 :=
  if v0 = 46 then (
   fX10_isLetter_48   μ
   ) else (
   if v0 = 95 then (
    fX10_isLetter_48   μ
    ) else (
    fX10_isLetter_53  0 μ
    )
   )
set_option maxHeartbeats 4000000 in
set_option maxRecDepth 100000 in
theorem wX10_isLetter_36 {p : Program} {l : Launch} {e : Env} {R : Room} {s : State} {m : MethodId} {args : Array Value} {below : List Frame} {meth : Method} {c : Code} {D : va_G} {cy : Nat → ClassId} {H0 : Heap} {C0 N0 : Nat} {r : Int32} {μ' : vg_M} (Z : vg_Z D cy H0 p s m args c cX10_isLetter RX10 meth 1 (some .boolean) R 12 C0 N0 "isLetter")   (v0 : Int32) (μ : vg_M) : vg_S p l e R s m args below meth c D cy H0 C0 N0 1 (MQ below (vg_Qc D cy H0 μ' (some (.int r))) args s C0 N0 (vg_fr H0)) r μ' (fX10_isLetter_36  v0 μ) μ [(0, .int v0)] [] 36 := by
  intro cn nn H locs cells slots ls hf hH hL hC hN hl
  obtain ⟨X, hml, hr, hlk, hfr, hlo, hRc, hRs, hnm⟩ := id Z
  have hx := X.1
  have hb := X.2.1
  delta fX10_isLetter_36 at hf
  refine lv_iload_n hx hb dX10_isLetter_36 rfl (lv_at hl.1 0 rfl) ?_
  refine lv_bipush (v := 46) hx hb dX10_isLetter_37 (by decide) ?_
  refine lv_icmp_eq (tgt := 48) hx hb dX10_isLetter_39 (by decide) (fun h8 => ?_) (fun h8 => ?_)
  · have hf := vg_ip h8 hf
    exact wX10_isLetter_48 Z   μ _ _ _ _ _ _ _ hf hH hL hC hN (hl.sub [] rfl)
  · have hf := vg_if h8 hf
    refine lv_iload_n hx hb dX10_isLetter_42 rfl (lv_at hl.1 0 rfl) ?_
    refine lv_bipush (v := 95) hx hb dX10_isLetter_43 (by decide) ?_
    refine lv_icmp_ne (tgt := 52) hx hb dX10_isLetter_45 (by decide) (fun h8 => ?_) (fun h8 => ?_)
    · have hf := vg_if h8 hf
      refine lv_iconst (v := 0) hx hb dX10_isLetter_52 (by decide) ?_
      exact wX10_isLetter_53 Z  0 μ _ _ _ _ _ _ _ hf hH hL hC hN (hl.sub [] rfl)
    · have hf := vg_ip h8 hf
      exact wX10_isLetter_48 Z   μ _ _ _ _ _ _ _ hf hH hL hC hN (hl.sub [] rfl)
def fX10_isLetter_24  (v0 : Int32) (μ : vg_M) : vg_R Int32 :=
  if v0 < 48 then (
   fX10_isLetter_36  v0 μ
   ) else (
   if v0 ≤ 57 then (
    fX10_isLetter_48   μ
    ) else (
    fX10_isLetter_36  v0 μ
    )
   )
set_option maxHeartbeats 4000000 in
set_option maxRecDepth 100000 in
theorem wX10_isLetter_24 {p : Program} {l : Launch} {e : Env} {R : Room} {s : State} {m : MethodId} {args : Array Value} {below : List Frame} {meth : Method} {c : Code} {D : va_G} {cy : Nat → ClassId} {H0 : Heap} {C0 N0 : Nat} {r : Int32} {μ' : vg_M} (Z : vg_Z D cy H0 p s m args c cX10_isLetter RX10 meth 1 (some .boolean) R 12 C0 N0 "isLetter")   (v0 : Int32) (μ : vg_M) : vg_S p l e R s m args below meth c D cy H0 C0 N0 1 (MQ below (vg_Qc D cy H0 μ' (some (.int r))) args s C0 N0 (vg_fr H0)) r μ' (fX10_isLetter_24  v0 μ) μ [(0, .int v0)] [] 24 := by
  intro cn nn H locs cells slots ls hf hH hL hC hN hl
  obtain ⟨X, hml, hr, hlk, hfr, hlo, hRc, hRs, hnm⟩ := id Z
  have hx := X.1
  have hb := X.2.1
  delta fX10_isLetter_24 at hf
  refine lv_iload_n hx hb dX10_isLetter_24 rfl (lv_at hl.1 0 rfl) ?_
  refine lv_bipush (v := 48) hx hb dX10_isLetter_25 (by decide) ?_
  refine lv_icmp_lt (tgt := 36) hx hb dX10_isLetter_27 (by decide) (fun h8 => ?_) (fun h8 => ?_)
  · have hf := vg_ip h8 hf
    exact wX10_isLetter_36 Z  v0 μ _ _ _ _ _ _ _ hf hH hL hC hN (hl.sub [0] rfl)
  · have hf := vg_if h8 hf
    refine lv_iload_n hx hb dX10_isLetter_30 rfl (lv_at hl.1 0 rfl) ?_
    refine lv_bipush (v := 57) hx hb dX10_isLetter_31 (by decide) ?_
    refine lv_icmp_le (tgt := 48) hx hb dX10_isLetter_33 (by decide) (fun h8 => ?_) (fun h8 => ?_)
    · have hf := vg_ip h8 hf
      exact wX10_isLetter_48 Z   μ _ _ _ _ _ _ _ hf hH hL hC hN (hl.sub [] rfl)
    · have hf := vg_if h8 hf
      exact wX10_isLetter_36 Z  v0 μ _ _ _ _ _ _ _ hf hH hL hC hN (hl.sub [0] rfl)
def fX10_isLetter_12  (v0 : Int32) (μ : vg_M) : vg_R Int32 :=
  if v0 < 65 then (
   fX10_isLetter_24  v0 μ
   ) else (
   if v0 ≤ 90 then (
    fX10_isLetter_48   μ
    ) else (
    fX10_isLetter_24  v0 μ
    )
   )
set_option maxHeartbeats 4000000 in
set_option maxRecDepth 100000 in
theorem wX10_isLetter_12 {p : Program} {l : Launch} {e : Env} {R : Room} {s : State} {m : MethodId} {args : Array Value} {below : List Frame} {meth : Method} {c : Code} {D : va_G} {cy : Nat → ClassId} {H0 : Heap} {C0 N0 : Nat} {r : Int32} {μ' : vg_M} (Z : vg_Z D cy H0 p s m args c cX10_isLetter RX10 meth 1 (some .boolean) R 12 C0 N0 "isLetter")   (v0 : Int32) (μ : vg_M) : vg_S p l e R s m args below meth c D cy H0 C0 N0 1 (MQ below (vg_Qc D cy H0 μ' (some (.int r))) args s C0 N0 (vg_fr H0)) r μ' (fX10_isLetter_12  v0 μ) μ [(0, .int v0)] [] 12 := by
  intro cn nn H locs cells slots ls hf hH hL hC hN hl
  obtain ⟨X, hml, hr, hlk, hfr, hlo, hRc, hRs, hnm⟩ := id Z
  have hx := X.1
  have hb := X.2.1
  delta fX10_isLetter_12 at hf
  refine lv_iload_n hx hb dX10_isLetter_12 rfl (lv_at hl.1 0 rfl) ?_
  refine lv_bipush (v := 65) hx hb dX10_isLetter_13 (by decide) ?_
  refine lv_icmp_lt (tgt := 24) hx hb dX10_isLetter_15 (by decide) (fun h8 => ?_) (fun h8 => ?_)
  · have hf := vg_ip h8 hf
    exact wX10_isLetter_24 Z  v0 μ _ _ _ _ _ _ _ hf hH hL hC hN (hl.sub [0] rfl)
  · have hf := vg_if h8 hf
    refine lv_iload_n hx hb dX10_isLetter_18 rfl (lv_at hl.1 0 rfl) ?_
    refine lv_bipush (v := 90) hx hb dX10_isLetter_19 (by decide) ?_
    refine lv_icmp_le (tgt := 48) hx hb dX10_isLetter_21 (by decide) (fun h8 => ?_) (fun h8 => ?_)
    · have hf := vg_ip h8 hf
      exact wX10_isLetter_48 Z   μ _ _ _ _ _ _ _ hf hH hL hC hN (hl.sub [] rfl)
    · have hf := vg_if h8 hf
      exact wX10_isLetter_24 Z  v0 μ _ _ _ _ _ _ _ hf hH hL hC hN (hl.sub [0] rfl)
def fX10_isLetter (v0 : Int32) (μ : vg_M) : vg_R Int32 :=
  if v0 < 97 then (
   fX10_isLetter_12  v0 μ
   ) else (
   if v0 ≤ 122 then (
    fX10_isLetter_48   μ
    ) else (
    fX10_isLetter_12  v0 μ
    )
   )
set_option maxHeartbeats 4000000 in
set_option maxRecDepth 100000 in
theorem cX10_isLetter_met {l : Launch} {D : va_G} {cy : Nat → ClassId} {H0 : Heap} {r : Int32} {μ μ' : vg_M} {cn nn : Nat} {v0 : Int32} (hf : fX10_isLetter v0 μ = some (r, μ', cn, nn)) : vg_Met l D cy H0 yX10_isLetter cX10_isLetter 1 (some .boolean) 12 μ [.int v0] (some (.int r)) μ' cn nn := by
  refine vg_start (by decide +kernel) (List.forall_mem_cons.mpr ⟨rfl, (fun _ h => nomatch h)⟩) (Nat.le_of_ble_eq_true rfl) ?_
  intro p e s m below meth c ls X hml hr hlk hnm hH hl
  have hl : vg_l ls 1 [(0, .int v0)] := hl
  have Z : vg_Z D cy H0 p s m _ c cX10_isLetter RX10 meth 1 (some .boolean) (vg_rm 12 cn nn) 12 cn nn _ := ⟨X, hml, hr, hlk, Nat.le_refl _, Nat.le_refl _, Nat.le_refl _, Nat.le_refl _, hnm⟩
  obtain ⟨-, -, -, -, hfr, hlo, hRc, hRs, -⟩ := id Z
  have hx := X.1
  have hb := X.2.1
  have hL : ∀ z ∈ ([] : List Loc), H0.size ≤ z.base := fun _ h => nomatch h
  have hC : 0 + cn = cn := Nat.zero_add _
  have hN : 0 + nn = nn := Nat.zero_add _
  delta fX10_isLetter at hf
  refine lv_iload_n hx hb dX10_isLetter_0 rfl (lv_at hl.1 0 rfl) ?_
  refine lv_bipush (v := 97) hx hb dX10_isLetter_1 (by decide) ?_
  refine lv_icmp_lt (tgt := 12) hx hb dX10_isLetter_3 (by decide) (fun h8 => ?_) (fun h8 => ?_)
  · have hf := vg_ip h8 hf
    exact wX10_isLetter_12 Z  v0 μ _ _ _ _ _ _ _ hf hH hL hC hN (hl.sub [0] rfl)
  · have hf := vg_if h8 hf
    refine lv_iload_n hx hb dX10_isLetter_6 rfl (lv_at hl.1 0 rfl) ?_
    refine lv_bipush (v := 122) hx hb dX10_isLetter_7 (by decide) ?_
    refine lv_icmp_le (tgt := 48) hx hb dX10_isLetter_9 (by decide) (fun h8 => ?_) (fun h8 => ?_)
    · have hf := vg_ip h8 hf
      exact wX10_isLetter_48 Z   μ _ _ _ _ _ _ _ hf hH hL hC hN (hl.sub [] rfl)
    · have hf := vg_if h8 hf
      exact wX10_isLetter_12 Z  v0 μ _ _ _ _ _ _ _ hf hH hL hC hN (hl.sub [0] rfl)
def fX10_looked (v0 : Nat) (μ : vg_M) : vg_R Int32 :=
  vg_o (vg_gR μ v0 13 3) fun x1 =>
  vg_o x1 fun a2 =>
  vg_o (vg_gR μ a2 12 0) fun x3 =>
  vg_o x3 fun a4 =>
  vg_o (vg_gI μ a4 3 1) fun x5 =>
  vg_ret x5 μ
set_option maxHeartbeats 4000000 in
set_option maxRecDepth 100000 in
theorem cX10_looked_met {l : Launch} {D : va_G} {cy : Nat → ClassId} {H0 : Heap} {r : Int32} {μ μ' : vg_M} {cn nn : Nat} {v0 : Nat} (hf : fX10_looked v0 μ = some (r, μ', cn, nn)) : vg_Met l D cy H0 yX10_looked cX10_looked 1 (some .int) 12 μ [.ref v0] (some (.int r)) μ' cn nn := by
  refine vg_start (by decide +kernel) (List.forall_mem_cons.mpr ⟨rfl, (fun _ h => nomatch h)⟩) (Nat.le_of_ble_eq_true rfl) ?_
  intro p e s m below meth c ls X hml hr hlk hnm hH hl
  have hl : vg_l ls 1 [(0, .ref v0)] := hl
  have Z : vg_Z D cy H0 p s m _ c cX10_looked RX10 meth 1 (some .int) (vg_rm 12 cn nn) 12 cn nn _ := ⟨X, hml, hr, hlk, Nat.le_refl _, Nat.le_refl _, Nat.le_refl _, Nat.le_refl _, hnm⟩
  obtain ⟨-, -, -, -, hfr, hlo, hRc, hRs, -⟩ := id Z
  have hx := X.1
  have hb := X.2.1
  have hL : ∀ z ∈ ([] : List Loc), H0.size ≤ z.base := fun _ h => nomatch h
  have hC : 0 + cn = cn := Nat.zero_add _
  have hN : 0 + nn = nn := Nat.zero_add _
  delta fX10_looked at hf
  refine lv_aload_n hx hb dX10_looked_0 rfl (lv_at hl.1 0 rfl) ?_
  refine vg_getR X hH fF_X10_33 dX10_looked_1 hf (fun x1 hf => ?_)
  obtain ⟨a2, h9, hg⟩ := vg_o_inv hf
  clear hf
  subst h9
  have hf := hg
  clear hg
  refine vg_getRr X hH fR_X10_157 dX10_looked_4 hf (fun x3 hf => ?_)
  obtain ⟨a4, h9, hg⟩ := vg_o_inv hf
  clear hf
  subst h9
  have hf := hg
  clear hg
  refine vg_getI X hH fF_X10_180 dX10_looked_7 hf (fun x5 hf => ?_)
  exact vg_reti X hr hlk hH hL dX10_looked_10 hf hC hN
def fX10_place (v0 : Nat) (μ : vg_M) : vg_R Int32 :=
  vg_o (vg_gI μ v0 13 4) fun x1 =>
  vg_ret x1 μ
set_option maxHeartbeats 4000000 in
set_option maxRecDepth 100000 in
theorem cX10_place_met {l : Launch} {D : va_G} {cy : Nat → ClassId} {H0 : Heap} {r : Int32} {μ μ' : vg_M} {cn nn : Nat} {v0 : Nat} (hf : fX10_place v0 μ = some (r, μ', cn, nn)) : vg_Met l D cy H0 yX10_place cX10_place 1 (some .int) 12 μ [.ref v0] (some (.int r)) μ' cn nn := by
  refine vg_start (by decide +kernel) (List.forall_mem_cons.mpr ⟨rfl, (fun _ h => nomatch h)⟩) (Nat.le_of_ble_eq_true rfl) ?_
  intro p e s m below meth c ls X hml hr hlk hnm hH hl
  have hl : vg_l ls 1 [(0, .ref v0)] := hl
  have Z : vg_Z D cy H0 p s m _ c cX10_place RX10 meth 1 (some .int) (vg_rm 12 cn nn) 12 cn nn _ := ⟨X, hml, hr, hlk, Nat.le_refl _, Nat.le_refl _, Nat.le_refl _, Nat.le_refl _, hnm⟩
  obtain ⟨-, -, -, -, hfr, hlo, hRc, hRs, -⟩ := id Z
  have hx := X.1
  have hb := X.2.1
  have hL : ∀ z ∈ ([] : List Loc), H0.size ≤ z.base := fun _ h => nomatch h
  have hC : 0 + cn = cn := Nat.zero_add _
  have hN : 0 + nn = nn := Nat.zero_add _
  delta fX10_place at hf
  refine lv_aload_n hx hb dX10_place_0 rfl (lv_at hl.1 0 rfl) ?_
  refine vg_getI X hH fF_X10_37 dX10_place_1 hf (fun x1 hf => ?_)
  exact vg_reti X hr hlk hH hL dX10_place_4 hf hC hN
def fX10_takeText (v0 : Nat) (μ : vg_M) : vg_R (Option Nat) :=
  vg_o (vg_gR μ v0 13 0) fun x1 =>
  vg_o x1 fun a2 =>
  vg_cv 1 a2 μ (fJ4_toString_0e30d a2  μ) fun x3 μ4 =>
  vg_o (vg_gR μ4 v0 13 0) fun x5 =>
  vg_o x5 fun a6 =>
  vg_cv 1 a6 μ4 (fJ4_setLength_d00df a6 0 μ4) fun _ μ8 =>
  vg_ret x3 μ8
set_option maxHeartbeats 4000000 in
set_option maxRecDepth 100000 in
theorem cX10_takeText_met {l : Launch} {D : va_G} {cy : Nat → ClassId} {H0 : Heap} {r : (Option Nat)} {μ μ' : vg_M} {cn nn : Nat} {v0 : Nat} (hf : fX10_takeText v0 μ = some (r, μ', cn, nn)) : vg_Met l D cy H0 yX10_takeText cX10_takeText 2 (some (.object "java/lang/String")) 18 μ [.ref v0] (some (va_rf r)) μ' cn nn := by
  refine vg_start (by decide +kernel) (List.forall_mem_cons.mpr ⟨rfl, (fun _ h => nomatch h)⟩) (Nat.le_of_ble_eq_true rfl) ?_
  intro p e s m below meth c ls X hml hr hlk hnm hH hl
  have hl : vg_l ls 2 [(0, .ref v0)] := hl
  have Z : vg_Z D cy H0 p s m _ c cX10_takeText RX10 meth 2 (some (.object "java/lang/String")) (vg_rm 18 cn nn) 18 cn nn _ := ⟨X, hml, hr, hlk, Nat.le_refl _, Nat.le_refl _, Nat.le_refl _, Nat.le_refl _, hnm⟩
  obtain ⟨-, -, -, -, hfr, hlo, hRc, hRs, -⟩ := id Z
  have hx := X.1
  have hb := X.2.1
  have hL : ∀ z ∈ ([] : List Loc), H0.size ≤ z.base := fun _ h => nomatch h
  have hC : 0 + cn = cn := Nat.zero_add _
  have hN : 0 + nn = nn := Nat.zero_add _
  delta fX10_takeText at hf
  refine lv_aload_n hx hb dX10_takeText_0 rfl (lv_at hl.1 0 rfl) ?_
  refine vg_getR X hH fF_X10_12 dX10_takeText_1 hf (fun x1 hf => ?_)
  obtain ⟨a2, h9, hg⟩ := vg_o_inv hf
  clear hf
  subst h9
  have hf := hg
  clear hg
  refine vg_callVr (ci := 1) X hml hl hH hL fCV_X10_187 rfl [] rfl rfl (Nat.le_of_ble_eq_true rfl) dX10_takeText_4 hf hC hN hRc hRs hfr hlo (by decide) (fun _ _ _ _ h => cJ4_toString_0e30d_met h) (fun x3 μ4 cn nn H locs cells slots hf hC hN hH hL => ?_)
  refine vg_astore_n (lv' := [(1, va_rf x3), (0, .ref v0)]) hx hb dX10_takeText_7 rfl hl (by decide) rfl (fun ls hl => ?_)
  refine lv_aload_n hx hb dX10_takeText_8 rfl (lv_at hl.1 1 rfl) ?_
  refine vg_getR X hH fF_X10_12 dX10_takeText_9 hf (fun x5 hf => ?_)
  refine lv_iconst (v := 0) hx hb dX10_takeText_12 (by decide) ?_
  obtain ⟨a6, h9, hg⟩ := vg_o_inv hf
  clear hf
  subst h9
  have hf := hg
  clear hg
  refine vg_callVv (ci := 1) X hml hl hH hL fCV_X10_190 rfl [.int 0] rfl rfl (Nat.le_of_ble_eq_true rfl) dX10_takeText_13 hf hC hN hRc hRs hfr hlo (by decide) (fun _ _ _ _ h => cJ4_setLength_d00df_met h) (fun _ μ8 cn nn H locs cells slots hf hC hN hH hL => ?_)
  refine vg_aload_n hx hb dX10_takeText_16 rfl (lv_at hl.1 0 rfl) ?_
  exact vg_reta X (by simp) hr hlk hH hL dX10_takeText_17 hf hC hN
def fX10_type_24   (μ : vg_M) : vg_R Int32 :=
  vg_o (vg_z .boolean 0) fun z => vg_ret z μ
set_option maxHeartbeats 4000000 in
set_option maxRecDepth 100000 in
theorem wX10_type_24 {p : Program} {l : Launch} {e : Env} {R : Room} {s : State} {m : MethodId} {args : Array Value} {below : List Frame} {meth : Method} {c : Code} {D : va_G} {cy : Nat → ClassId} {H0 : Heap} {C0 N0 : Nat} {r : Int32} {μ' : vg_M} (Z : vg_Z D cy H0 p s m args c cX10_type RX10 meth 2 (some .boolean) R 17 C0 N0 "type")    (μ : vg_M) : vg_S p l e R s m args below meth c D cy H0 C0 N0 2 (MQ below (vg_Qc D cy H0 μ' (some (.int r))) args s C0 N0 (vg_fr H0)) r μ' (fX10_type_24   μ) μ [] [] 24 := by
  intro cn nn H locs cells slots ls hf hH hL hC hN hl
  obtain ⟨X, hml, hr, hlk, hfr, hlo, hRc, hRs, hnm⟩ := id Z
  have hx := X.1
  have hb := X.2.1
  delta fX10_type_24 at hf
  refine lv_iconst (v := 0) hx hb dX10_type_24 (by decide) ?_
  exact vg_retz X (by simp) hr hlk hH hL dX10_type_25 hf hC hN
def fX10_type (v0 : Nat) (v1 : Int32) (μ : vg_M) : vg_R Int32 :=
  if v1 < 32 then (
   fX10_type_24   μ
   ) else (
   if 126 < v1 then (
    fX10_type_24   μ
    ) else (
    vg_o (vg_gR μ v0 13 0) fun x1 =>
    vg_o x1 fun a2 =>
    vg_cv 1 a2 μ (fJ4_length_8abf5 a2  μ) fun x3 μ4 =>
    if x3 < 60 then (
     vg_o (vg_gR μ4 v0 13 0) fun x5 =>
     vg_o x5 fun a6 =>
     vg_cv 1 a6 μ4 (fJ4_append_cf468 a6 v1 μ4) fun x7 μ8 =>
     vg_o (vg_z .boolean 1) fun z => vg_ret z μ8
     ) else (
     fX10_type_24   μ4
     )
    )
   )
set_option maxHeartbeats 4000000 in
set_option maxRecDepth 100000 in
theorem cX10_type_met {l : Launch} {D : va_G} {cy : Nat → ClassId} {H0 : Heap} {r : Int32} {μ μ' : vg_M} {cn nn : Nat} {v0 : Nat} {v1 : Int32} (hf : fX10_type v0 v1 μ = some (r, μ', cn, nn)) : vg_Met l D cy H0 yX10_type cX10_type 2 (some .boolean) 17 μ [.ref v0, .int v1] (some (.int r)) μ' cn nn := by
  refine vg_start (by decide +kernel) (List.forall_mem_cons.mpr ⟨rfl, (List.forall_mem_cons.mpr ⟨rfl, (fun _ h => nomatch h)⟩)⟩) (Nat.le_of_ble_eq_true rfl) ?_
  intro p e s m below meth c ls X hml hr hlk hnm hH hl
  have hl : vg_l ls 2 [(0, .ref v0), (1, .int v1)] := hl
  have Z : vg_Z D cy H0 p s m _ c cX10_type RX10 meth 2 (some .boolean) (vg_rm 17 cn nn) 17 cn nn _ := ⟨X, hml, hr, hlk, Nat.le_refl _, Nat.le_refl _, Nat.le_refl _, Nat.le_refl _, hnm⟩
  obtain ⟨-, -, -, -, hfr, hlo, hRc, hRs, -⟩ := id Z
  have hx := X.1
  have hb := X.2.1
  have hL : ∀ z ∈ ([] : List Loc), H0.size ≤ z.base := fun _ h => nomatch h
  have hC : 0 + cn = cn := Nat.zero_add _
  have hN : 0 + nn = nn := Nat.zero_add _
  delta fX10_type at hf
  refine lv_iload_n hx hb dX10_type_0 rfl (lv_at hl.1 1 rfl) ?_
  refine lv_bipush (v := 32) hx hb dX10_type_1 (by decide) ?_
  refine lv_icmp_lt (tgt := 24) hx hb dX10_type_3 (by decide) (fun h8 => ?_) (fun h8 => ?_)
  · have hf := vg_ip h8 hf
    exact wX10_type_24 Z   μ _ _ _ _ _ _ _ hf hH hL hC hN (hl.sub [] rfl)
  · have hf := vg_if h8 hf
    refine lv_iload_n hx hb dX10_type_6 rfl (lv_at hl.1 1 rfl) ?_
    refine lv_bipush (v := 126) hx hb dX10_type_7 (by decide) ?_
    refine lv_icmp_gt (tgt := 24) hx hb dX10_type_9 (by decide) (fun h8 => ?_) (fun h8 => ?_)
    · have hf := vg_ip h8 hf
      exact wX10_type_24 Z   μ _ _ _ _ _ _ _ hf hH hL hC hN (hl.sub [] rfl)
    · have hf := vg_if h8 hf
      refine lv_aload_n hx hb dX10_type_12 rfl (lv_at hl.1 0 rfl) ?_
      refine vg_getR X hH fF_X10_12 dX10_type_13 hf (fun x1 hf => ?_)
      obtain ⟨a2, h9, hg⟩ := vg_o_inv hf
      clear hf
      subst h9
      have hf := hg
      clear hg
      refine vg_callVi (ci := 1) X hml hl hH hL fCV_X10_41 rfl [] rfl rfl (Nat.le_of_ble_eq_true rfl) dX10_type_16 hf hC hN hRc hRs hfr hlo (by decide) (fun _ _ _ _ h => cJ4_length_8abf5_met h) (fun x3 μ4 cn nn H locs cells slots hf hC hN hH hL => ?_)
      refine lv_bipush (v := 60) hx hb dX10_type_19 (by decide) ?_
      refine lv_icmp_lt (tgt := 26) hx hb dX10_type_21 (by decide) (fun h8 => ?_) (fun h8 => ?_)
      · have hf := vg_ip h8 hf
        refine lv_aload_n hx hb dX10_type_26 rfl (lv_at hl.1 0 rfl) ?_
        refine vg_getR X hH fF_X10_12 dX10_type_27 hf (fun x5 hf => ?_)
        refine lv_iload_n hx hb dX10_type_30 rfl (lv_at hl.1 1 rfl) ?_
        obtain ⟨a6, h9, hg⟩ := vg_o_inv hf
        clear hf
        subst h9
        have hf := hg
        clear hg
        refine vg_callVr (ci := 1) X hml hl hH hL fCV_X10_45 rfl [.int v1] rfl rfl (Nat.le_of_ble_eq_true rfl) dX10_type_31 hf hC hN hRc hRs hfr hlo (by decide) (fun _ _ _ _ h => cJ4_append_cf468_met h) (fun x7 μ8 cn nn H locs cells slots hf hC hN hH hL => ?_)
        refine lv_pop hx hb dX10_type_34 (vg_rfc _) ?_
        refine lv_iconst (v := 1) hx hb dX10_type_35 (by decide) ?_
        exact vg_retz X (by simp) hr hlk hH hL dX10_type_36 hf hC hN
      · have hf := vg_if h8 hf
        exact wX10_type_24 Z   μ4 _ _ _ _ _ _ _ hf hH hL hC hN (hl.sub [] rfl)
def fX1_comesBefore_50  (k0 : Int32) (μ : vg_M) : vg_R Int32 :=
  vg_o (vg_z .boolean k0) fun z => vg_ret z μ
set_option maxHeartbeats 4000000 in
set_option maxRecDepth 100000 in
theorem wX1_comesBefore_50 {p : Program} {l : Launch} {e : Env} {R : Room} {s : State} {m : MethodId} {args : Array Value} {below : List Frame} {meth : Method} {c : Code} {D : va_G} {cy : Nat → ClassId} {H0 : Heap} {C0 N0 : Nat} {r : Int32} {μ' : vg_M} (Z : vg_Z D cy H0 p s m args c cX1_comesBefore RX1 meth 4 (some .boolean) R 16 C0 N0 "comesBefore")   (k0 : Int32) (μ : vg_M) : vg_S p l e R s m args below meth c D cy H0 C0 N0 4 (MQ below (vg_Qc D cy H0 μ' (some (.int r))) args s C0 N0 (vg_fr H0)) r μ' (fX1_comesBefore_50  k0 μ) μ [] [.int k0] 50 := by
  intro cn nn H locs cells slots ls hf hH hL hC hN hl
  obtain ⟨X, hml, hr, hlk, hfr, hlo, hRc, hRs, hnm⟩ := id Z
  have hx := X.1
  have hb := X.2.1
  delta fX1_comesBefore_50 at hf
  exact vg_retz X (by simp) hr hlk hH hL dX1_comesBefore_50 hf hC hN
def fX1_comesBefore_73  (k0 : Int32) (μ : vg_M) : vg_R Int32 :=
  vg_o (vg_z .boolean k0) fun z => vg_ret z μ
set_option maxHeartbeats 4000000 in
set_option maxRecDepth 100000 in
theorem wX1_comesBefore_73 {p : Program} {l : Launch} {e : Env} {R : Room} {s : State} {m : MethodId} {args : Array Value} {below : List Frame} {meth : Method} {c : Code} {D : va_G} {cy : Nat → ClassId} {H0 : Heap} {C0 N0 : Nat} {r : Int32} {μ' : vg_M} (Z : vg_Z D cy H0 p s m args c cX1_comesBefore RX1 meth 4 (some .boolean) R 16 C0 N0 "comesBefore")   (k0 : Int32) (μ : vg_M) : vg_S p l e R s m args below meth c D cy H0 C0 N0 4 (MQ below (vg_Qc D cy H0 μ' (some (.int r))) args s C0 N0 (vg_fr H0)) r μ' (fX1_comesBefore_73  k0 μ) μ [] [.int k0] 73 := by
  intro cn nn H locs cells slots ls hf hH hL hC hN hl
  obtain ⟨X, hml, hr, hlk, hfr, hlo, hRc, hRs, hnm⟩ := id Z
  have hx := X.1
  have hb := X.2.1
  delta fX1_comesBefore_73 at hf
  exact vg_retz X (by simp) hr hlk hH hL dX1_comesBefore_73 hf hC hN
def fX1_comesBefore_14  : Nat → Option Nat → Option Nat → Int32 → Int32 → vg_M → vg_R Int32
  | 0, _, _, _, _, _ => none
  | n + 1, v0, v1, v2, v3, μ =>
    if v2 ≤ v3 then (
     vg_o v0 fun a1 =>
     vg_cv 0 a1 μ (fJ0_length_8abf5 a1  μ) fun x2 μ3 =>
     vg_o v1 fun a4 =>
     vg_cv 0 a4 μ3 (fJ0_length_8abf5 a4  μ3) fun x5 μ6 =>
     if x5 ≤ x2 then (
      fX1_comesBefore_73  0 μ6
      ) else (
      fX1_comesBefore_73  1 μ6
      )
     ) else (
     vg_o v0 fun a7 =>
     vg_cv 0 a7 μ (fJ0_charAt_5068e a7 v3 μ) fun x8 μ9 =>
     vg_o v1 fun a10 =>
     vg_cv 0 a10 μ9 (fJ0_charAt_5068e a10 v3 μ9) fun x11 μ12 =>
     if x8 = x11 then (
      (fX1_comesBefore_14  n) (some a7) (some a10) v2 (v3 + 1) μ12
      ) else (
      vg_cv 0 a7 μ12 (fJ0_charAt_5068e a7 v3 μ12) fun x13 μ14 =>
      vg_cv 0 a10 μ14 (fJ0_charAt_5068e a10 v3 μ14) fun x15 μ16 =>
      if x15 ≤ x13 then (
       fX1_comesBefore_50  0 μ16
       ) else (
       fX1_comesBefore_50  1 μ16
       )
      )
     )
set_option maxHeartbeats 4000000 in
set_option maxRecDepth 100000 in
theorem wX1_comesBefore_14 {p : Program} {l : Launch} {e : Env} {R : Room} {s : State} {m : MethodId} {args : Array Value} {below : List Frame} {meth : Method} {c : Code} {D : va_G} {cy : Nat → ClassId} {H0 : Heap} {C0 N0 : Nat} {r : Int32} {μ' : vg_M} (Z : vg_Z D cy H0 p s m args c cX1_comesBefore RX1 meth 4 (some .boolean) R 16 C0 N0 "comesBefore")   : ∀ (n : Nat) (v0 : Option Nat) (v1 : Option Nat) (v2 : Int32) (v3 : Int32) (μ : vg_M), vg_S p l e R s m args below meth c D cy H0 C0 N0 4 (MQ below (vg_Qc D cy H0 μ' (some (.int r))) args s C0 N0 (vg_fr H0)) r μ' (fX1_comesBefore_14  n v0 v1 v2 v3 μ) μ [(0, va_rf v0), (1, va_rf v1), (2, .int v2), (3, .int v3)] [] 14 := by
  intro n
  induction n with
  | zero =>
    intro v0 v1 v2 v3 μ cn nn H locs cells slots ls hf
    simp [fX1_comesBefore_14] at hf
  | succ n hk14 =>
    intro v0 v1 v2 v3 μ
    intro cn nn H locs cells slots ls hf hH hL hC hN hl
    obtain ⟨X, hml, hr, hlk, hfr, hlo, hRc, hRs, hnm⟩ := id Z
    have hx := X.1
    have hb := X.2.1
    rw [fX1_comesBefore_14] at hf
    refine lv_iload_n hx hb dX1_comesBefore_14 rfl (lv_at hl.1 3 rfl) ?_
    refine lv_iload_n hx hb dX1_comesBefore_15 rfl (lv_at hl.1 2 rfl) ?_
    refine lv_icmp_ge (tgt := 57) hx hb dX1_comesBefore_16 (by decide) (fun h8 => ?_) (fun h8 => ?_)
    · have hf := vg_ip h8 hf
      refine vg_aload_n hx hb dX1_comesBefore_57 rfl (lv_at hl.1 0 rfl) ?_
      obtain ⟨a1, h9, hg⟩ := vg_o_inv hf
      clear hf
      subst h9
      have hf := hg
      clear hg
      refine vg_callVi (ci := 0) X hml hl hH hL fCV_X1_68 rfl [] rfl rfl (Nat.le_of_ble_eq_true rfl) dX1_comesBefore_58 hf hC hN hRc hRs hfr hlo (by decide) (fun _ _ _ _ h => cJ0_length_8abf5_met h) (fun x2 μ3 cn nn H locs cells slots hf hC hN hH hL => ?_)
      refine vg_aload_n hx hb dX1_comesBefore_61 rfl (lv_at hl.1 1 rfl) ?_
      obtain ⟨a4, h9, hg⟩ := vg_o_inv hf
      clear hf
      subst h9
      have hf := hg
      clear hg
      refine vg_callVi (ci := 0) X hml hl hH hL fCV_X1_68 rfl [] rfl rfl (Nat.le_of_ble_eq_true rfl) dX1_comesBefore_62 hf hC hN hRc hRs hfr hlo (by decide) (fun _ _ _ _ h => cJ0_length_8abf5_met h) (fun x5 μ6 cn nn H locs cells slots hf hC hN hH hL => ?_)
      refine lv_icmp_ge (tgt := 72) hx hb dX1_comesBefore_65 (by decide) (fun h8 => ?_) (fun h8 => ?_)
      · have hf := vg_ip h8 hf
        refine lv_iconst (v := 0) hx hb dX1_comesBefore_72 (by decide) ?_
        exact wX1_comesBefore_73 Z  0 μ6 _ _ _ _ _ _ _ hf hH hL hC hN (hl.sub [] rfl)
      · have hf := vg_if h8 hf
        refine lv_iconst (v := 1) hx hb dX1_comesBefore_68 (by decide) ?_
        refine lv_goto (tgt := 73) hx hb dX1_comesBefore_69 (by decide) ?_
        exact wX1_comesBefore_73 Z  1 μ6 _ _ _ _ _ _ _ hf hH hL hC hN (hl.sub [] rfl)
    · have hf := vg_if h8 hf
      refine vg_aload_n hx hb dX1_comesBefore_19 rfl (lv_at hl.1 0 rfl) ?_
      refine lv_iload_n hx hb dX1_comesBefore_20 rfl (lv_at hl.1 3 rfl) ?_
      obtain ⟨a7, h9, hg⟩ := vg_o_inv hf
      clear hf
      subst h9
      have hf := hg
      clear hg
      refine vg_callVi (ci := 0) X hml hl hH hL fCV_X1_77 rfl [.int v3] rfl rfl (Nat.le_of_ble_eq_true rfl) dX1_comesBefore_21 hf hC hN hRc hRs hfr hlo (by decide) (fun _ _ _ _ h => cJ0_charAt_5068e_met h) (fun x8 μ9 cn nn H locs cells slots hf hC hN hH hL => ?_)
      refine vg_aload_n hx hb dX1_comesBefore_24 rfl (lv_at hl.1 1 rfl) ?_
      refine lv_iload_n hx hb dX1_comesBefore_25 rfl (lv_at hl.1 3 rfl) ?_
      obtain ⟨a10, h9, hg⟩ := vg_o_inv hf
      clear hf
      subst h9
      have hf := hg
      clear hg
      refine vg_callVi (ci := 0) X hml hl hH hL fCV_X1_77 rfl [.int v3] rfl rfl (Nat.le_of_ble_eq_true rfl) dX1_comesBefore_26 hf hC hN hRc hRs hfr hlo (by decide) (fun _ _ _ _ h => cJ0_charAt_5068e_met h) (fun x11 μ12 cn nn H locs cells slots hf hC hN hH hL => ?_)
      refine lv_icmp_eq (tgt := 51) hx hb dX1_comesBefore_29 (by decide) (fun h8 => ?_) (fun h8 => ?_)
      · have hf := vg_ip h8 hf
        refine vg_iinc (v := v3 + 1) (lv' := [(3, .int (v3 + 1)), (0, .ref a7), (1, .ref a10), (2, .int v2)]) hx hb dX1_comesBefore_51 hl (k := 3) rfl rfl (by decide) rfl (fun ls hl => ?_)
        refine lv_goto (tgt := 14) hx hb dX1_comesBefore_54 (by decide) ?_
        exact hk14 (some a7) (some a10) v2 (v3 + 1) μ12 _ _ _ _ _ _ _ hf hH hL hC hN (hl.sub [1, 2, 3, 0] rfl)
      · have hf := vg_if h8 hf
        refine lv_aload_n hx hb dX1_comesBefore_32 rfl (lv_at hl.1 0 rfl) ?_
        refine lv_iload_n hx hb dX1_comesBefore_33 rfl (lv_at hl.1 3 rfl) ?_
        refine vg_callVi (ci := 0) X hml hl hH hL fCV_X1_77 rfl [.int v3] rfl rfl (Nat.le_of_ble_eq_true rfl) dX1_comesBefore_34 hf hC hN hRc hRs hfr hlo (by decide) (fun _ _ _ _ h => cJ0_charAt_5068e_met h) (fun x13 μ14 cn nn H locs cells slots hf hC hN hH hL => ?_)
        refine lv_aload_n hx hb dX1_comesBefore_37 rfl (lv_at hl.1 1 rfl) ?_
        refine lv_iload_n hx hb dX1_comesBefore_38 rfl (lv_at hl.1 3 rfl) ?_
        refine vg_callVi (ci := 0) X hml hl hH hL fCV_X1_77 rfl [.int v3] rfl rfl (Nat.le_of_ble_eq_true rfl) dX1_comesBefore_39 hf hC hN hRc hRs hfr hlo (by decide) (fun _ _ _ _ h => cJ0_charAt_5068e_met h) (fun x15 μ16 cn nn H locs cells slots hf hC hN hH hL => ?_)
        refine lv_icmp_ge (tgt := 49) hx hb dX1_comesBefore_42 (by decide) (fun h8 => ?_) (fun h8 => ?_)
        · have hf := vg_ip h8 hf
          refine lv_iconst (v := 0) hx hb dX1_comesBefore_49 (by decide) ?_
          exact wX1_comesBefore_50 Z  0 μ16 _ _ _ _ _ _ _ hf hH hL hC hN (hl.sub [] rfl)
        · have hf := vg_if h8 hf
          refine lv_iconst (v := 1) hx hb dX1_comesBefore_45 (by decide) ?_
          refine lv_goto (tgt := 50) hx hb dX1_comesBefore_46 (by decide) ?_
          exact wX1_comesBefore_50 Z  1 μ16 _ _ _ _ _ _ _ hf hH hL hC hN (hl.sub [] rfl)
def fX1_comesBefore (v0 : Option Nat) (v1 : Option Nat) (μ : vg_M) : vg_R Int32 :=
  vg_o v0 fun a17 =>
  vg_cv 0 a17 μ (fJ0_length_8abf5 a17  μ) fun x18 μ19 =>
  vg_o v1 fun a20 =>
  vg_cv 0 a20 μ19 (fJ0_length_8abf5 a20  μ19) fun x21 μ22 =>
  fX1_comesBefore_14  vg_fuel (some a17) (some a20) (if x21 < x18 then x21 else x18) 0 μ22
set_option maxHeartbeats 4000000 in
set_option maxRecDepth 100000 in
theorem cX1_comesBefore_met {l : Launch} {D : va_G} {cy : Nat → ClassId} {H0 : Heap} {r : Int32} {μ μ' : vg_M} {cn nn : Nat} {v0 : Option Nat} {v1 : Option Nat} (hf : fX1_comesBefore v0 v1 μ = some (r, μ', cn, nn)) : vg_Met l D cy H0 yX1_comesBefore cX1_comesBefore 4 (some .boolean) 16 μ [va_rf v0, va_rf v1] (some (.int r)) μ' cn nn := by
  refine vg_start (by decide +kernel) (List.forall_mem_cons.mpr ⟨vg_rfc _, (List.forall_mem_cons.mpr ⟨vg_rfc _, (fun _ h => nomatch h)⟩)⟩) (Nat.le_of_ble_eq_true rfl) ?_
  intro p e s m below meth c ls X hml hr hlk hnm hH hl
  have hl : vg_l ls 4 [(0, va_rf v0), (1, va_rf v1)] := hl
  have Z : vg_Z D cy H0 p s m _ c cX1_comesBefore RX1 meth 4 (some .boolean) (vg_rm 16 cn nn) 16 cn nn _ := ⟨X, hml, hr, hlk, Nat.le_refl _, Nat.le_refl _, Nat.le_refl _, Nat.le_refl _, hnm⟩
  obtain ⟨-, -, -, -, hfr, hlo, hRc, hRs, -⟩ := id Z
  have hx := X.1
  have hb := X.2.1
  have hL : ∀ z ∈ ([] : List Loc), H0.size ≤ z.base := fun _ h => nomatch h
  have hC : 0 + cn = cn := Nat.zero_add _
  have hN : 0 + nn = nn := Nat.zero_add _
  delta fX1_comesBefore at hf
  refine vg_aload_n hx hb dX1_comesBefore_0 rfl (lv_at hl.1 0 rfl) ?_
  obtain ⟨a17, h9, hg⟩ := vg_o_inv hf
  clear hf
  subst h9
  have hf := hg
  clear hg
  refine vg_callVi (ci := 0) X hml hl hH hL fCV_X1_68 rfl [] rfl rfl (Nat.le_of_ble_eq_true rfl) dX1_comesBefore_1 hf hC hN hRc hRs hfr hlo (by decide) (fun _ _ _ _ h => cJ0_length_8abf5_met h) (fun x18 μ19 cn nn H locs cells slots hf hC hN hH hL => ?_)
  refine vg_aload_n hx hb dX1_comesBefore_4 rfl (lv_at hl.1 1 rfl) ?_
  obtain ⟨a20, h9, hg⟩ := vg_o_inv hf
  clear hf
  subst h9
  have hf := hg
  clear hg
  refine vg_callVi (ci := 0) X hml hl hH hL fCV_X1_68 rfl [] rfl rfl (Nat.le_of_ble_eq_true rfl) dX1_comesBefore_5 hf hC hN hRc hRs hfr hlo (by decide) (fun _ _ _ _ h => cJ0_length_8abf5_met h) (fun x21 μ22 cn nn H locs cells slots hf hC hN hH hL => ?_)
  refine vg_mmin X hml hl kw_852682290 kw_875827865 kw_386489653 kw_394918299 (Nat.le_of_ble_eq_true rfl) hC hN hRc hRs (Nat.le_trans (by decide) hfr) (Nat.le_trans (by decide) hlo) dX1_comesBefore_8 ?_
  refine vg_istore_n (lv' := [(2, .int (if x21 < x18 then x21 else x18)), (0, .ref a17), (1, .ref a20)]) hx hb dX1_comesBefore_11 rfl hl (by decide) rfl (fun ls hl => ?_)
  refine lv_iconst (v := 0) hx hb dX1_comesBefore_12 (by decide) ?_
  refine vg_istore_n (lv' := [(3, .int 0), (2, .int (if x21 < x18 then x21 else x18)), (0, .ref a17), (1, .ref a20)]) hx hb dX1_comesBefore_13 rfl hl (by decide) rfl (fun ls hl => ?_)
  exact wX1_comesBefore_14 Z  vg_fuel (some a17) (some a20) (if x21 < x18 then x21 else x18) 0 μ22 _ _ _ _ _ _ _ hf hH hL hC hN (hl.sub [2, 3, 1, 0] rfl)
def fX1_touch (v0 : Nat) (μ : vg_M) : vg_R Unit :=
  vg_o (vg_gR μ v0 4 4) fun x1 =>
  vg_b (fJ7_fill_53178 x1 0 μ) fun _ μ3 =>
  vg_ret () μ3
set_option maxHeartbeats 4000000 in
set_option maxRecDepth 100000 in
theorem cX1_touch_met {l : Launch} {D : va_G} {cy : Nat → ClassId} {H0 : Heap} {r : Unit} {μ μ' : vg_M} {cn nn : Nat} {v0 : Nat} (hf : fX1_touch v0 μ = some (r, μ', cn, nn)) : vg_Met l D cy H0 yX1_touch cX1_touch 1 none 13 μ [.ref v0] none μ' cn nn := by
  refine vg_start (by decide +kernel) (List.forall_mem_cons.mpr ⟨rfl, (fun _ h => nomatch h)⟩) (Nat.le_of_ble_eq_true rfl) ?_
  intro p e s m below meth c ls X hml hr hlk hnm hH hl
  have hl : vg_l ls 1 [(0, .ref v0)] := hl
  have Z : vg_Z D cy H0 p s m _ c cX1_touch RX1 meth 1 none (vg_rm 13 cn nn) 13 cn nn _ := ⟨X, hml, hr, hlk, Nat.le_refl _, Nat.le_refl _, Nat.le_refl _, Nat.le_refl _, hnm⟩
  obtain ⟨-, -, -, -, hfr, hlo, hRc, hRs, -⟩ := id Z
  have hx := X.1
  have hb := X.2.1
  have hL : ∀ z ∈ ([] : List Loc), H0.size ≤ z.base := fun _ h => nomatch h
  have hC : 0 + cn = cn := Nat.zero_add _
  have hN : 0 + nn = nn := Nat.zero_add _
  delta fX1_touch at hf
  refine lv_aload_n hx hb dX1_touch_0 rfl (lv_at hl.1 0 rfl) ?_
  refine vg_getR X hH fF_X1_18 dX1_touch_1 hf (fun x1 hf => ?_)
  refine lv_iconst (v := 0) hx hb dX1_touch_4 (by decide) ?_
  refine vg_callSv X hml hl hH hL fCS_X1_62 [va_rf x1, .int 0] rfl rfl (Nat.le_of_ble_eq_true rfl) dX1_touch_5 hf hC hN hRc hRs hfr hlo (by decide) (fun _ _ _ _ h => cJ7_fill_53178_met h) (fun _ μ3 cn nn H locs cells slots hf hC hN hH hL => ?_)
  exact vg_retv X hr hlk hH hL dX1_touch_8 hf hC hN
def fX1_drop_2  : Nat → Nat → Option Nat → Int32 → vg_M → vg_R Unit
  | 0, _, _, _, _ => none
  | n + 1, v0, v1, v2, μ =>
    vg_o (vg_gR μ v0 4 3) fun x1 =>
    vg_o x1 fun a2 =>
    vg_cv 2 a2 μ (fJx4a65c_size_8abf5 a2  μ) fun x3 μ4 =>
    if x3 ≤ v2 then (
     vg_ret () μ4
     ) else (
     vg_o (vg_gR μ4 v0 4 3) fun x5 =>
     vg_o x5 fun a6 =>
     vg_cv 2 a6 μ4 (fJx4a65c_get_915e3 a6 v2 μ4) fun x7 μ8 =>
     if x7 = v1 then (
      vg_o (vg_gR μ8 v0 4 3) fun x9 =>
      vg_o x9 fun a10 =>
      vg_cv 2 a10 μ8 (fJx4a65c_remove_915e3 a10 v2 μ8) fun x11 μ12 =>
      vg_cv 4 v0 μ12 (fX1_touch v0  μ12) fun _ μ14 =>
      vg_ret () μ14
      ) else (
      (fX1_drop_2  n) v0 v1 (v2 + 1) μ8
      )
     )
set_option maxHeartbeats 4000000 in
set_option maxRecDepth 100000 in
theorem wX1_drop_2 {p : Program} {l : Launch} {e : Env} {R : Room} {s : State} {m : MethodId} {args : Array Value} {below : List Frame} {meth : Method} {c : Code} {D : va_G} {cy : Nat → ClassId} {H0 : Heap} {C0 N0 : Nat} {r : Unit} {μ' : vg_M} (Z : vg_Z D cy H0 p s m args c cX1_drop RX1 meth 3 none R 15 C0 N0 "drop")   : ∀ (n : Nat) (v0 : Nat) (v1 : Option Nat) (v2 : Int32) (μ : vg_M), vg_S p l e R s m args below meth c D cy H0 C0 N0 3 (MQ below (vg_Qc D cy H0 μ' none) args s C0 N0 (vg_fr H0)) r μ' (fX1_drop_2  n v0 v1 v2 μ) μ [(0, .ref v0), (1, va_rf v1), (2, .int v2)] [] 2 := by
  intro n
  induction n with
  | zero =>
    intro v0 v1 v2 μ cn nn H locs cells slots ls hf
    simp [fX1_drop_2] at hf
  | succ n hk2 =>
    intro v0 v1 v2 μ
    intro cn nn H locs cells slots ls hf hH hL hC hN hl
    obtain ⟨X, hml, hr, hlk, hfr, hlo, hRc, hRs, hnm⟩ := id Z
    have hx := X.1
    have hb := X.2.1
    rw [fX1_drop_2] at hf
    refine lv_iload_n hx hb dX1_drop_2 rfl (lv_at hl.1 2 rfl) ?_
    refine lv_aload_n hx hb dX1_drop_3 rfl (lv_at hl.1 0 rfl) ?_
    refine vg_getR X hH fF_X1_12 dX1_drop_4 hf (fun x1 hf => ?_)
    obtain ⟨a2, h9, hg⟩ := vg_o_inv hf
    clear hf
    subst h9
    have hf := hg
    clear hg
    refine vg_callVi (ci := 2) X hml hl hH hL fCV_X1_34 rfl [] rfl rfl (Nat.le_of_ble_eq_true rfl) dX1_drop_7 hf hC hN hRc hRs hfr hlo (by decide) (fun _ _ _ _ h => cJx4a65c_size_8abf5_met h) (fun x3 μ4 cn nn H locs cells slots hf hC hN hH hL => ?_)
    refine lv_icmp_ge (tgt := 45) hx hb dX1_drop_10 (by decide) (fun h8 => ?_) (fun h8 => ?_)
    · have hf := vg_ip h8 hf
      exact vg_retv X hr hlk hH hL dX1_drop_45 hf hC hN
    · have hf := vg_if h8 hf
      refine lv_aload_n hx hb dX1_drop_13 rfl (lv_at hl.1 0 rfl) ?_
      refine vg_getR X hH fF_X1_12 dX1_drop_14 hf (fun x5 hf => ?_)
      refine lv_iload_n hx hb dX1_drop_17 rfl (lv_at hl.1 2 rfl) ?_
      obtain ⟨a6, h9, hg⟩ := vg_o_inv hf
      clear hf
      subst h9
      have hf := hg
      clear hg
      refine vg_callVr (ci := 2) X hml hl hH hL fCV_X1_38 rfl [.int v2] rfl rfl (Nat.le_of_ble_eq_true rfl) dX1_drop_18 hf hC hN hRc hRs hfr hlo (by decide) (fun _ _ _ _ h => cJx4a65c_get_915e3_met h) (fun x7 μ8 cn nn H locs cells slots hf hC hN hH hL => ?_)
      refine vg_aload_n hx hb dX1_drop_21 rfl (lv_at hl.1 1 rfl) ?_
      refine lv_acmp_ne (rx := x7) (ry := v1) (tgt := 39) hx hb dX1_drop_22 (by decide) (fun h8 => ?_) (fun h8 => ?_)
      · have hf := vg_if h8 hf
        refine vg_iinc (v := v2 + 1) (lv' := [(2, .int (v2 + 1)), (0, .ref v0), (1, va_rf v1)]) hx hb dX1_drop_39 hl (k := 2) rfl rfl (by decide) rfl (fun ls hl => ?_)
        refine lv_goto (tgt := 2) hx hb dX1_drop_42 (by decide) ?_
        exact hk2 v0 v1 (v2 + 1) μ8 _ _ _ _ _ _ _ hf hH hL hC hN (hl.sub [1, 2, 0] rfl)
      · have hf := vg_ip h8 hf
        refine lv_aload_n hx hb dX1_drop_25 rfl (lv_at hl.1 0 rfl) ?_
        refine vg_getR X hH fF_X1_12 dX1_drop_26 hf (fun x9 hf => ?_)
        refine lv_iload_n hx hb dX1_drop_29 rfl (lv_at hl.1 2 rfl) ?_
        obtain ⟨a10, h9, hg⟩ := vg_o_inv hf
        clear hf
        subst h9
        have hf := hg
        clear hg
        refine vg_callVr (ci := 2) X hml hl hH hL fCV_X1_59 rfl [.int v2] rfl rfl (Nat.le_of_ble_eq_true rfl) dX1_drop_30 hf hC hN hRc hRs hfr hlo (by decide) (fun _ _ _ _ h => cJx4a65c_remove_915e3_met h) (fun x11 μ12 cn nn H locs cells slots hf hC hN hH hL => ?_)
        refine lv_pop hx hb dX1_drop_33 (vg_rfc _) ?_
        refine lv_aload_n hx hb dX1_drop_34 rfl (lv_at hl.1 0 rfl) ?_
        refine vg_callVv (ci := 4) X hml hl hH hL fCV_X1_56 rfl [] rfl rfl (Nat.le_of_ble_eq_true rfl) dX1_drop_35 hf hC hN hRc hRs hfr hlo (by decide) (fun _ _ _ _ h => cX1_touch_met h) (fun _ μ14 cn nn H locs cells slots hf hC hN hH hL => ?_)
        exact vg_retv X hr hlk hH hL dX1_drop_38 hf hC hN
def fX1_drop (v0 : Nat) (v1 : Option Nat) (μ : vg_M) : vg_R Unit :=
  fX1_drop_2  vg_fuel v0 v1 0 μ
set_option maxHeartbeats 4000000 in
set_option maxRecDepth 100000 in
theorem cX1_drop_met {l : Launch} {D : va_G} {cy : Nat → ClassId} {H0 : Heap} {r : Unit} {μ μ' : vg_M} {cn nn : Nat} {v0 : Nat} {v1 : Option Nat} (hf : fX1_drop v0 v1 μ = some (r, μ', cn, nn)) : vg_Met l D cy H0 yX1_drop cX1_drop 3 none 15 μ [.ref v0, va_rf v1] none μ' cn nn := by
  refine vg_start (by decide +kernel) (List.forall_mem_cons.mpr ⟨rfl, (List.forall_mem_cons.mpr ⟨vg_rfc _, (fun _ h => nomatch h)⟩)⟩) (Nat.le_of_ble_eq_true rfl) ?_
  intro p e s m below meth c ls X hml hr hlk hnm hH hl
  have hl : vg_l ls 3 [(0, .ref v0), (1, va_rf v1)] := hl
  have Z : vg_Z D cy H0 p s m _ c cX1_drop RX1 meth 3 none (vg_rm 15 cn nn) 15 cn nn _ := ⟨X, hml, hr, hlk, Nat.le_refl _, Nat.le_refl _, Nat.le_refl _, Nat.le_refl _, hnm⟩
  obtain ⟨-, -, -, -, hfr, hlo, hRc, hRs, -⟩ := id Z
  have hx := X.1
  have hb := X.2.1
  have hL : ∀ z ∈ ([] : List Loc), H0.size ≤ z.base := fun _ h => nomatch h
  have hC : 0 + cn = cn := Nat.zero_add _
  have hN : 0 + nn = nn := Nat.zero_add _
  delta fX1_drop at hf
  refine lv_iconst (v := 0) hx hb dX1_drop_0 (by decide) ?_
  refine vg_istore_n (lv' := [(2, .int 0), (0, .ref v0), (1, va_rf v1)]) hx hb dX1_drop_1 rfl hl (by decide) rfl (fun ls hl => ?_)
  exact wX1_drop_2 Z  vg_fuel v0 v1 0 μ _ _ _ _ _ _ _ hf hH hL hC hN (hl.sub [1, 2, 0] rfl)
def fX1_insert_43  (v0 : Nat) (v1 : Option Nat) (v2 : Int32) (μ : vg_M) : vg_R Unit :=
  vg_o (vg_gR μ v0 4 3) fun x15 =>
  vg_o x15 fun a16 =>
  vg_cv 2 a16 μ (fJx4a65c_add_7a177 a16 v2 v1 μ) fun _ μ18 =>
  vg_cv 4 v0 μ18 (fX1_touch v0  μ18) fun _ μ20 =>
  vg_ret () μ20
set_option maxHeartbeats 4000000 in
set_option maxRecDepth 100000 in
theorem wX1_insert_43 {p : Program} {l : Launch} {e : Env} {R : Room} {s : State} {m : MethodId} {args : Array Value} {below : List Frame} {meth : Method} {c : Code} {D : va_G} {cy : Nat → ClassId} {H0 : Heap} {C0 N0 : Nat} {r : Unit} {μ' : vg_M} (Z : vg_Z D cy H0 p s m args c cX1_insert RX1 meth 3 none R 17 C0 N0 "insert")   (v0 : Nat) (v1 : Option Nat) (v2 : Int32) (μ : vg_M) : vg_S p l e R s m args below meth c D cy H0 C0 N0 3 (MQ below (vg_Qc D cy H0 μ' none) args s C0 N0 (vg_fr H0)) r μ' (fX1_insert_43  v0 v1 v2 μ) μ [(0, .ref v0), (1, va_rf v1), (2, .int v2)] [] 43 := by
  intro cn nn H locs cells slots ls hf hH hL hC hN hl
  obtain ⟨X, hml, hr, hlk, hfr, hlo, hRc, hRs, hnm⟩ := id Z
  have hx := X.1
  have hb := X.2.1
  delta fX1_insert_43 at hf
  refine lv_aload_n hx hb dX1_insert_43 rfl (lv_at hl.1 0 rfl) ?_
  refine vg_getR X hH fF_X1_12 dX1_insert_44 hf (fun x15 hf => ?_)
  refine lv_iload_n hx hb dX1_insert_47 rfl (lv_at hl.1 2 rfl) ?_
  refine vg_aload_n hx hb dX1_insert_48 rfl (lv_at hl.1 1 rfl) ?_
  obtain ⟨a16, h9, hg⟩ := vg_o_inv hf
  clear hf
  subst h9
  have hf := hg
  clear hg
  refine vg_callVv (ci := 2) X hml hl hH hL fCV_X1_52 rfl [.int v2, va_rf v1] rfl rfl (Nat.le_of_ble_eq_true rfl) dX1_insert_49 hf hC hN hRc hRs hfr hlo (by decide) (fun _ _ _ _ h => cJx4a65c_add_7a177_met h) (fun _ μ18 cn nn H locs cells slots hf hC hN hH hL => ?_)
  refine lv_aload_n hx hb dX1_insert_52 rfl (lv_at hl.1 0 rfl) ?_
  refine vg_callVv (ci := 4) X hml hl hH hL fCV_X1_56 rfl [] rfl rfl (Nat.le_of_ble_eq_true rfl) dX1_insert_53 hf hC hN hRc hRs hfr hlo (by decide) (fun _ _ _ _ h => cX1_touch_met h) (fun _ μ20 cn nn H locs cells slots hf hC hN hH hL => ?_)
  exact vg_retv X hr hlk hH hL dX1_insert_56 hf hC hN
def fX1_insert_2  : Nat → Nat → Option Nat → Int32 → vg_M → vg_R Unit
  | 0, _, _, _, _ => none
  | n + 1, v0, v1, v2, μ =>
    vg_o (vg_gR μ v0 4 3) fun x1 =>
    vg_o x1 fun a2 =>
    vg_cv 2 a2 μ (fJx4a65c_size_8abf5 a2  μ) fun x3 μ4 =>
    if x3 ≤ v2 then (
     fX1_insert_43  v0 v1 v2 μ4
     ) else (
     vg_o (vg_gR μ4 v0 4 3) fun x5 =>
     vg_o x5 fun a6 =>
     vg_cv 2 a6 μ4 (fJx4a65c_get_915e3 a6 v2 μ4) fun x7 μ8 =>
     vg_ck μ8 x7 4 <|
     vg_o x7 fun a9 =>
     vg_o (vg_gR μ8 a9 4 0) fun x10 =>
     vg_o v1 fun a11 =>
     vg_o (vg_gR μ8 a11 4 0) fun x12 =>
     vg_b (fX1_comesBefore x10 x12 μ8) fun x13 μ14 =>
     if x13 = 0 then (
      fX1_insert_43  v0 (some a11) v2 μ14
      ) else (
      (fX1_insert_2  n) v0 (some a11) (v2 + 1) μ14
      )
     )
set_option maxHeartbeats 4000000 in
set_option maxRecDepth 100000 in
theorem wX1_insert_2 {p : Program} {l : Launch} {e : Env} {R : Room} {s : State} {m : MethodId} {args : Array Value} {below : List Frame} {meth : Method} {c : Code} {D : va_G} {cy : Nat → ClassId} {H0 : Heap} {C0 N0 : Nat} {r : Unit} {μ' : vg_M} (Z : vg_Z D cy H0 p s m args c cX1_insert RX1 meth 3 none R 17 C0 N0 "insert")   : ∀ (n : Nat) (v0 : Nat) (v1 : Option Nat) (v2 : Int32) (μ : vg_M), vg_S p l e R s m args below meth c D cy H0 C0 N0 3 (MQ below (vg_Qc D cy H0 μ' none) args s C0 N0 (vg_fr H0)) r μ' (fX1_insert_2  n v0 v1 v2 μ) μ [(0, .ref v0), (1, va_rf v1), (2, .int v2)] [] 2 := by
  intro n
  induction n with
  | zero =>
    intro v0 v1 v2 μ cn nn H locs cells slots ls hf
    simp [fX1_insert_2] at hf
  | succ n hk2 =>
    intro v0 v1 v2 μ
    intro cn nn H locs cells slots ls hf hH hL hC hN hl
    obtain ⟨X, hml, hr, hlk, hfr, hlo, hRc, hRs, hnm⟩ := id Z
    have hx := X.1
    have hb := X.2.1
    rw [fX1_insert_2] at hf
    refine lv_iload_n hx hb dX1_insert_2 rfl (lv_at hl.1 2 rfl) ?_
    refine lv_aload_n hx hb dX1_insert_3 rfl (lv_at hl.1 0 rfl) ?_
    refine vg_getR X hH fF_X1_12 dX1_insert_4 hf (fun x1 hf => ?_)
    obtain ⟨a2, h9, hg⟩ := vg_o_inv hf
    clear hf
    subst h9
    have hf := hg
    clear hg
    refine vg_callVi (ci := 2) X hml hl hH hL fCV_X1_34 rfl [] rfl rfl (Nat.le_of_ble_eq_true rfl) dX1_insert_7 hf hC hN hRc hRs hfr hlo (by decide) (fun _ _ _ _ h => cJx4a65c_size_8abf5_met h) (fun x3 μ4 cn nn H locs cells slots hf hC hN hH hL => ?_)
    refine lv_icmp_ge (tgt := 43) hx hb dX1_insert_10 (by decide) (fun h8 => ?_) (fun h8 => ?_)
    · have hf := vg_ip h8 hf
      exact wX1_insert_43 Z  v0 v1 v2 μ4 _ _ _ _ _ _ _ hf hH hL hC hN (hl.sub [0, 1, 2] rfl)
    · have hf := vg_if h8 hf
      refine lv_aload_n hx hb dX1_insert_13 rfl (lv_at hl.1 0 rfl) ?_
      refine vg_getR X hH fF_X1_12 dX1_insert_14 hf (fun x5 hf => ?_)
      refine lv_iload_n hx hb dX1_insert_17 rfl (lv_at hl.1 2 rfl) ?_
      obtain ⟨a6, h9, hg⟩ := vg_o_inv hf
      clear hf
      subst h9
      have hf := hg
      clear hg
      refine vg_callVr (ci := 2) X hml hl hH hL fCV_X1_38 rfl [.int v2] rfl rfl (Nat.le_of_ble_eq_true rfl) dX1_insert_18 hf hC hN hRc hRs hfr hlo (by decide) (fun _ _ _ _ h => cJx4a65c_get_915e3_met h) (fun x7 μ8 cn nn H locs cells slots hf hC hN hH hL => ?_)
      refine vg_castC (ci := 4) X hH rfl kw_440991394 (x := x7) dX1_insert_21 hf (fun hf => ?_)
      obtain ⟨a9, h9, hg⟩ := vg_o_inv hf
      clear hf
      subst h9
      have hf := hg
      clear hg
      refine vg_getR X hH fF_X1_22 dX1_insert_24 hf (fun x10 hf => ?_)
      refine vg_aload_n hx hb dX1_insert_27 rfl (lv_at hl.1 1 rfl) ?_
      obtain ⟨a11, h9, hg⟩ := vg_o_inv hf
      clear hf
      subst h9
      have hf := hg
      clear hg
      refine vg_getR X hH fF_X1_22 dX1_insert_28 hf (fun x12 hf => ?_)
      refine vg_callSi X hml hl hH hL fCS_X1_48 [va_rf x10, va_rf x12] rfl rfl (Nat.le_of_ble_eq_true rfl) dX1_insert_31 hf hC hN hRc hRs hfr hlo (by decide) (fun _ _ _ _ h => cX1_comesBefore_met h) (fun x13 μ14 cn nn H locs cells slots hf hC hN hH hL => ?_)
      refine lv_if_eq (tgt := 43) hx hb dX1_insert_34 (by decide) (fun h8 => ?_) (fun h8 => ?_)
      · have hf := vg_ip h8 hf
        exact wX1_insert_43 Z  v0 (some a11) v2 μ14 _ _ _ _ _ _ _ hf hH hL hC hN (hl.sub [0, 1, 2] rfl)
      · have hf := vg_if h8 hf
        refine vg_iinc (v := v2 + 1) (lv' := [(2, .int (v2 + 1)), (0, .ref v0), (1, .ref a11)]) hx hb dX1_insert_37 hl (k := 2) rfl rfl (by decide) rfl (fun ls hl => ?_)
        refine lv_goto (tgt := 2) hx hb dX1_insert_40 (by decide) ?_
        exact hk2 v0 (some a11) (v2 + 1) μ14 _ _ _ _ _ _ _ hf hH hL hC hN (hl.sub [1, 2, 0] rfl)
def fX1_insert (v0 : Nat) (v1 : Option Nat) (μ : vg_M) : vg_R Unit :=
  fX1_insert_2  vg_fuel v0 v1 0 μ
set_option maxHeartbeats 4000000 in
set_option maxRecDepth 100000 in
theorem cX1_insert_met {l : Launch} {D : va_G} {cy : Nat → ClassId} {H0 : Heap} {r : Unit} {μ μ' : vg_M} {cn nn : Nat} {v0 : Nat} {v1 : Option Nat} (hf : fX1_insert v0 v1 μ = some (r, μ', cn, nn)) : vg_Met l D cy H0 yX1_insert cX1_insert 3 none 17 μ [.ref v0, va_rf v1] none μ' cn nn := by
  refine vg_start (by decide +kernel) (List.forall_mem_cons.mpr ⟨rfl, (List.forall_mem_cons.mpr ⟨vg_rfc _, (fun _ h => nomatch h)⟩)⟩) (Nat.le_of_ble_eq_true rfl) ?_
  intro p e s m below meth c ls X hml hr hlk hnm hH hl
  have hl : vg_l ls 3 [(0, .ref v0), (1, va_rf v1)] := hl
  have Z : vg_Z D cy H0 p s m _ c cX1_insert RX1 meth 3 none (vg_rm 17 cn nn) 17 cn nn _ := ⟨X, hml, hr, hlk, Nat.le_refl _, Nat.le_refl _, Nat.le_refl _, Nat.le_refl _, hnm⟩
  obtain ⟨-, -, -, -, hfr, hlo, hRc, hRs, -⟩ := id Z
  have hx := X.1
  have hb := X.2.1
  have hL : ∀ z ∈ ([] : List Loc), H0.size ≤ z.base := fun _ h => nomatch h
  have hC : 0 + cn = cn := Nat.zero_add _
  have hN : 0 + nn = nn := Nat.zero_add _
  delta fX1_insert at hf
  refine lv_iconst (v := 0) hx hb dX1_insert_0 (by decide) ?_
  refine vg_istore_n (lv' := [(2, .int 0), (0, .ref v0), (1, va_rf v1)]) hx hb dX1_insert_1 rfl hl (by decide) rfl (fun ls hl => ?_)
  exact wX1_insert_2 Z  vg_fuel v0 v1 0 μ _ _ _ _ _ _ _ hf hH hL hC hN (hl.sub [1, 2, 0] rfl)
def fX2_init (v0 : Nat) (v1 : Option Nat) (μ : vg_M) : vg_R Unit :=
  vg_o (vg_p μ v0 5 0 (va_rf v1)) fun μ1 =>
  vg_ret () μ1
set_option maxHeartbeats 4000000 in
set_option maxRecDepth 100000 in
theorem cX2_init_met {l : Launch} {D : va_G} {cy : Nat → ClassId} {H0 : Heap} {r : Unit} {μ μ' : vg_M} {cn nn : Nat} {v0 : Nat} {v1 : Option Nat} (hf : fX2_init v0 v1 μ = some (r, μ', cn, nn)) : vg_Met l D cy H0 yX2_init cX2_init 2 none 12 μ [.ref v0, va_rf v1] none μ' cn nn := by
  refine vg_start (by decide +kernel) (List.forall_mem_cons.mpr ⟨rfl, (List.forall_mem_cons.mpr ⟨vg_rfc _, (fun _ h => nomatch h)⟩)⟩) (Nat.le_of_ble_eq_true rfl) ?_
  intro p e s m below meth c ls X hml hr hlk hnm hH hl
  have hl : vg_l ls 2 [(0, .ref v0), (1, va_rf v1)] := hl
  have Z : vg_Z D cy H0 p s m _ c cX2_init RX2 meth 2 none (vg_rm 12 cn nn) 12 cn nn _ := ⟨X, hml, hr, hlk, Nat.le_refl _, Nat.le_refl _, Nat.le_refl _, Nat.le_refl _, hnm⟩
  obtain ⟨-, -, -, -, hfr, hlo, hRc, hRs, -⟩ := id Z
  have hx := X.1
  have hb := X.2.1
  have hL : ∀ z ∈ ([] : List Loc), H0.size ≤ z.base := fun _ h => nomatch h
  have hC : 0 + cn = cn := Nat.zero_add _
  have hN : 0 + nn = nn := Nat.zero_add _
  delta fX2_init at hf
  refine lv_aload_n hx hb dX2_init_0 rfl (lv_at hl.1 0 rfl) ?_
  refine vg_objInit X hml hl kw_537716011 kw_624348017 kw_835052908 dX2_init_1 (Nat.le_of_ble_eq_true rfl) (Nat.le_trans (by decide) hfr) (Nat.le_trans (by decide) hlo) ?_
  refine lv_aload_n hx hb dX2_init_4 rfl (lv_at hl.1 0 rfl) ?_
  refine vg_aload_n hx hb dX2_init_5 rfl (lv_at hl.1 1 rfl) ?_
  refine vg_putF X hnm hH hL fF_X2_7 (vg_fitR (by simp) v1).1 (vg_fitR (by simp) v1).2 dX2_init_6 hf (fun μ1 H locs hf hH hL => ?_)
  exact vg_retv X hr hlk hH hL dX2_init_9 hf hC hN
def fX3_isName_23   (μ : vg_M) : vg_R Int32 :=
  vg_o (vg_z .boolean 0) fun z => vg_ret z μ
set_option maxHeartbeats 4000000 in
set_option maxRecDepth 100000 in
theorem wX3_isName_23 {p : Program} {l : Launch} {e : Env} {R : Room} {s : State} {m : MethodId} {args : Array Value} {below : List Frame} {meth : Method} {c : Code} {D : va_G} {cy : Nat → ClassId} {H0 : Heap} {C0 N0 : Nat} {r : Int32} {μ' : vg_M} (Z : vg_Z D cy H0 p s m args c cX3_isName RX3 meth 2 (some .boolean) R 16 C0 N0 "isName")    (μ : vg_M) : vg_S p l e R s m args below meth c D cy H0 C0 N0 2 (MQ below (vg_Qc D cy H0 μ' (some (.int r))) args s C0 N0 (vg_fr H0)) r μ' (fX3_isName_23   μ) μ [] [] 23 := by
  intro cn nn H locs cells slots ls hf hH hL hC hN hl
  obtain ⟨X, hml, hr, hlk, hfr, hlo, hRc, hRs, hnm⟩ := id Z
  have hx := X.1
  have hb := X.2.1
  delta fX3_isName_23 at hf
  refine lv_iconst (v := 0) hx hb dX3_isName_23 (by decide) ?_
  exact vg_retz X (by simp) hr hlk hH hL dX3_isName_24 hf hC hN
def fX3_isName_27  : Nat → Option Nat → Int32 → vg_M → vg_R Int32
  | 0, _, _, _ => none
  | n + 1, v0, v1, μ =>
    vg_o v0 fun a1 =>
    vg_cv 0 a1 μ (fJ0_length_8abf5 a1  μ) fun x2 μ3 =>
    if x2 ≤ v1 then (
     vg_o (vg_z .boolean 1) fun z => vg_ret z μ3
     ) else (
     vg_cv 0 a1 μ3 (fJ0_charAt_5068e a1 v1 μ3) fun x4 μ5 =>
     vg_b (fX10_isLetter x4 μ5) fun x6 μ7 =>
     if x6 = 0 then (
      vg_o (vg_z .boolean 0) fun z => vg_ret z μ7
      ) else (
      (fX3_isName_27  n) (some a1) (v1 + 1) μ7
      )
     )
set_option maxHeartbeats 4000000 in
set_option maxRecDepth 100000 in
theorem wX3_isName_27 {p : Program} {l : Launch} {e : Env} {R : Room} {s : State} {m : MethodId} {args : Array Value} {below : List Frame} {meth : Method} {c : Code} {D : va_G} {cy : Nat → ClassId} {H0 : Heap} {C0 N0 : Nat} {r : Int32} {μ' : vg_M} (Z : vg_Z D cy H0 p s m args c cX3_isName RX3 meth 2 (some .boolean) R 16 C0 N0 "isName")   : ∀ (n : Nat) (v0 : Option Nat) (v1 : Int32) (μ : vg_M), vg_S p l e R s m args below meth c D cy H0 C0 N0 2 (MQ below (vg_Qc D cy H0 μ' (some (.int r))) args s C0 N0 (vg_fr H0)) r μ' (fX3_isName_27  n v0 v1 μ) μ [(0, va_rf v0), (1, .int v1)] [] 27 := by
  intro n
  induction n with
  | zero =>
    intro v0 v1 μ cn nn H locs cells slots ls hf
    simp [fX3_isName_27] at hf
  | succ n hk27 =>
    intro v0 v1 μ
    intro cn nn H locs cells slots ls hf hH hL hC hN hl
    obtain ⟨X, hml, hr, hlk, hfr, hlo, hRc, hRs, hnm⟩ := id Z
    have hx := X.1
    have hb := X.2.1
    rw [fX3_isName_27] at hf
    refine lv_iload_n hx hb dX3_isName_27 rfl (lv_at hl.1 1 rfl) ?_
    refine vg_aload_n hx hb dX3_isName_28 rfl (lv_at hl.1 0 rfl) ?_
    obtain ⟨a1, h9, hg⟩ := vg_o_inv hf
    clear hf
    subst h9
    have hf := hg
    clear hg
    refine vg_callVi (ci := 0) X hml hl hH hL fCV_X3_25 rfl [] rfl rfl (Nat.le_of_ble_eq_true rfl) dX3_isName_29 hf hC hN hRc hRs hfr hlo (by decide) (fun _ _ _ _ h => cJ0_length_8abf5_met h) (fun x2 μ3 cn nn H locs cells slots hf hC hN hH hL => ?_)
    refine lv_icmp_ge (tgt := 54) hx hb dX3_isName_32 (by decide) (fun h8 => ?_) (fun h8 => ?_)
    · have hf := vg_ip h8 hf
      refine lv_iconst (v := 1) hx hb dX3_isName_54 (by decide) ?_
      exact vg_retz X (by simp) hr hlk hH hL dX3_isName_55 hf hC hN
    · have hf := vg_if h8 hf
      refine lv_aload_n hx hb dX3_isName_35 rfl (lv_at hl.1 0 rfl) ?_
      refine lv_iload_n hx hb dX3_isName_36 rfl (lv_at hl.1 1 rfl) ?_
      refine vg_callVi (ci := 0) X hml hl hH hL fCV_X3_31 rfl [.int v1] rfl rfl (Nat.le_of_ble_eq_true rfl) dX3_isName_37 hf hC hN hRc hRs hfr hlo (by decide) (fun _ _ _ _ h => cJ0_charAt_5068e_met h) (fun x4 μ5 cn nn H locs cells slots hf hC hN hH hL => ?_)
      refine vg_callSNi X hml hl hH hL fCSN_X3_58 [.int x4] rfl rfl (Nat.le_of_ble_eq_true rfl) dX3_isName_40 hf hC hN hRc hRs hfr hlo (by decide) (fun _ _ _ _ h => cX10_isLetter_met h) (fun x6 μ7 cn nn H locs cells slots hf hC hN hH hL => ?_)
      refine lv_if_ne (tgt := 48) hx hb dX3_isName_43 (by decide) (fun h8 => ?_) (fun h8 => ?_)
      · have hf := vg_if h8 hf
        refine vg_iinc (v := v1 + 1) (lv' := [(1, .int (v1 + 1)), (0, .ref a1)]) hx hb dX3_isName_48 hl (k := 1) rfl rfl (by decide) rfl (fun ls hl => ?_)
        refine lv_goto (tgt := 27) hx hb dX3_isName_51 (by decide) ?_
        exact hk27 (some a1) (v1 + 1) μ7 _ _ _ _ _ _ _ hf hH hL hC hN (hl.sub [1, 0] rfl)
      · have hf := vg_ip h8 hf
        refine lv_iconst (v := 0) hx hb dX3_isName_46 (by decide) ?_
        exact vg_retz X (by simp) hr hlk hH hL dX3_isName_47 hf hC hN
def fX3_isName (v0 : Option Nat) (μ : vg_M) : vg_R Int32 :=
  vg_o v0 fun a8 =>
  vg_cv 0 a8 μ (fJ0_isEmpty_aae02 a8  μ) fun x9 μ10 =>
  if x9 = 0 then (
   vg_cv 0 a8 μ10 (fJ0_length_8abf5 a8  μ10) fun x11 μ12 =>
   if 8 < x11 then (
    fX3_isName_23   μ12
    ) else (
    vg_b (fX10_isDots (some a8) μ12) fun x13 μ14 =>
    if x13 = 0 then (
     fX3_isName_27  vg_fuel (some a8) 0 μ14
     ) else (
     fX3_isName_23   μ14
     )
    )
   ) else (
   fX3_isName_23   μ10
   )
set_option maxHeartbeats 4000000 in
set_option maxRecDepth 100000 in
theorem cX3_isName_met {l : Launch} {D : va_G} {cy : Nat → ClassId} {H0 : Heap} {r : Int32} {μ μ' : vg_M} {cn nn : Nat} {v0 : Option Nat} (hf : fX3_isName v0 μ = some (r, μ', cn, nn)) : vg_Met l D cy H0 yX3_isName cX3_isName 2 (some .boolean) 16 μ [va_rf v0] (some (.int r)) μ' cn nn := by
  refine vg_start (by decide +kernel) (List.forall_mem_cons.mpr ⟨vg_rfc _, (fun _ h => nomatch h)⟩) (Nat.le_of_ble_eq_true rfl) ?_
  intro p e s m below meth c ls X hml hr hlk hnm hH hl
  have hl : vg_l ls 2 [(0, va_rf v0)] := hl
  have Z : vg_Z D cy H0 p s m _ c cX3_isName RX3 meth 2 (some .boolean) (vg_rm 16 cn nn) 16 cn nn _ := ⟨X, hml, hr, hlk, Nat.le_refl _, Nat.le_refl _, Nat.le_refl _, Nat.le_refl _, hnm⟩
  obtain ⟨-, -, -, -, hfr, hlo, hRc, hRs, -⟩ := id Z
  have hx := X.1
  have hb := X.2.1
  have hL : ∀ z ∈ ([] : List Loc), H0.size ≤ z.base := fun _ h => nomatch h
  have hC : 0 + cn = cn := Nat.zero_add _
  have hN : 0 + nn = nn := Nat.zero_add _
  delta fX3_isName at hf
  refine vg_aload_n hx hb dX3_isName_0 rfl (lv_at hl.1 0 rfl) ?_
  obtain ⟨a8, h9, hg⟩ := vg_o_inv hf
  clear hf
  subst h9
  have hf := hg
  clear hg
  refine vg_callVi (ci := 0) X hml hl hH hL fCV_X3_51 rfl [] rfl rfl (Nat.le_of_ble_eq_true rfl) dX3_isName_1 hf hC hN hRc hRs hfr hlo (by decide) (fun _ _ _ _ h => cJ0_isEmpty_aae02_met h) (fun x9 μ10 cn nn H locs cells slots hf hC hN hH hL => ?_)
  refine lv_if_ne (tgt := 23) hx hb dX3_isName_4 (by decide) (fun h8 => ?_) (fun h8 => ?_)
  · have hf := vg_if h8 hf
    exact wX3_isName_23 Z   μ10 _ _ _ _ _ _ _ hf hH hL hC hN (hl.sub [] rfl)
  · have hf := vg_ip h8 hf
    refine lv_aload_n hx hb dX3_isName_7 rfl (lv_at hl.1 0 rfl) ?_
    refine vg_callVi (ci := 0) X hml hl hH hL fCV_X3_25 rfl [] rfl rfl (Nat.le_of_ble_eq_true rfl) dX3_isName_8 hf hC hN hRc hRs hfr hlo (by decide) (fun _ _ _ _ h => cJ0_length_8abf5_met h) (fun x11 μ12 cn nn H locs cells slots hf hC hN hH hL => ?_)
    refine lv_bipush (v := 8) hx hb dX3_isName_11 (by decide) ?_
    refine lv_icmp_gt (tgt := 23) hx hb dX3_isName_13 (by decide) (fun h8 => ?_) (fun h8 => ?_)
    · have hf := vg_ip h8 hf
      exact wX3_isName_23 Z   μ12 _ _ _ _ _ _ _ hf hH hL hC hN (hl.sub [] rfl)
    · have hf := vg_if h8 hf
      refine lv_aload_n hx hb dX3_isName_16 rfl (lv_at hl.1 0 rfl) ?_
      refine vg_callSNi X hml hl hH hL fCSN_X3_55 [.ref a8] rfl rfl (Nat.le_of_ble_eq_true rfl) dX3_isName_17 hf hC hN hRc hRs hfr hlo (by decide) (fun _ _ _ _ h => cX10_isDots_met h) (fun x13 μ14 cn nn H locs cells slots hf hC hN hH hL => ?_)
      refine lv_if_eq (tgt := 25) hx hb dX3_isName_20 (by decide) (fun h8 => ?_) (fun h8 => ?_)
      · have hf := vg_ip h8 hf
        refine lv_iconst (v := 0) hx hb dX3_isName_25 (by decide) ?_
        refine vg_istore_n (lv' := [(1, .int 0), (0, .ref a8)]) hx hb dX3_isName_26 rfl hl (by decide) rfl (fun ls hl => ?_)
        exact wX3_isName_27 Z  vg_fuel (some a8) 0 μ14 _ _ _ _ _ _ _ hf hH hL hC hN (hl.sub [1, 0] rfl)
      · have hf := vg_if h8 hf
        exact wX3_isName_23 Z   μ14 _ _ _ _ _ _ _ hf hH hL hC hN (hl.sub [] rfl)
def fX3_add_24   (μ : vg_M) : vg_R Int32 :=
  vg_o (vg_z .boolean 0) fun z => vg_ret z μ
set_option maxHeartbeats 4000000 in
set_option maxRecDepth 100000 in
theorem wX3_add_24 {p : Program} {l : Launch} {e : Env} {R : Room} {s : State} {m : MethodId} {args : Array Value} {below : List Frame} {meth : Method} {c : Code} {D : va_G} {cy : Nat → ClassId} {H0 : Heap} {C0 N0 : Nat} {r : Int32} {μ' : vg_M} (Z : vg_Z D cy H0 p s m args c cX3_add RX3 meth 3 (some .boolean) R 17 C0 N0 "add")    (μ : vg_M) : vg_S p l e R s m args below meth c D cy H0 C0 N0 3 (MQ below (vg_Qc D cy H0 μ' (some (.int r))) args s C0 N0 (vg_fr H0)) r μ' (fX3_add_24   μ) μ [] [] 24 := by
  intro cn nn H locs cells slots ls hf hH hL hC hN hl
  obtain ⟨X, hml, hr, hlk, hfr, hlo, hRc, hRs, hnm⟩ := id Z
  have hx := X.1
  have hb := X.2.1
  delta fX3_add_24 at hf
  refine lv_iconst (v := 0) hx hb dX3_add_24 (by decide) ?_
  exact vg_retz X (by simp) hr hlk hH hL dX3_add_25 hf hC hN
def fX3_add (v0 : Nat) (v1 : Int32) (v2 : Int32) (μ : vg_M) : vg_R Int32 :=
  vg_o (vg_gI μ v0 6 3) fun x1 =>
  if 6 ≤ x1 then (
   fX3_add_24   μ
   ) else (
   vg_o (vg_gR μ v0 6 0) fun x2 =>
   vg_o x2 fun a3 =>
   vg_cv 0 a3 μ (fJ0_substring_37a41 a3 v1 v2 μ) fun x4 μ5 =>
   vg_b (fX3_isName x4 μ5) fun x6 μ7 =>
   if x6 = 0 then (
    fX3_add_24   μ7
    ) else (
    vg_o (vg_gR μ7 v0 6 1) fun x8 =>
    vg_o (vg_gI μ7 v0 6 3) fun x9 =>
    vg_o x8 fun a10 =>
    vg_o (vg_sI μ7 a10 2 x9 v1) fun μ11 =>
    vg_o (vg_gR μ11 v0 6 2) fun x12 =>
    vg_o (vg_gI μ11 v0 6 3) fun x13 =>
    vg_o x12 fun a14 =>
    vg_o (vg_sI μ11 a14 2 x13 v2) fun μ15 =>
    vg_o (vg_gI μ15 v0 6 3) fun x16 =>
    vg_o (vg_p μ15 v0 6 3 (.int (x16 + 1))) fun μ17 =>
    vg_o (vg_z .boolean 1) fun z => vg_ret z μ17
    )
   )
set_option maxHeartbeats 4000000 in
set_option maxRecDepth 100000 in
theorem cX3_add_met {l : Launch} {D : va_G} {cy : Nat → ClassId} {H0 : Heap} {r : Int32} {μ μ' : vg_M} {cn nn : Nat} {v0 : Nat} {v1 : Int32} {v2 : Int32} (hf : fX3_add v0 v1 v2 μ = some (r, μ', cn, nn)) : vg_Met l D cy H0 yX3_add cX3_add 3 (some .boolean) 17 μ [.ref v0, .int v1, .int v2] (some (.int r)) μ' cn nn := by
  refine vg_start (by decide +kernel) (List.forall_mem_cons.mpr ⟨rfl, (List.forall_mem_cons.mpr ⟨rfl, (List.forall_mem_cons.mpr ⟨rfl, (fun _ h => nomatch h)⟩)⟩)⟩) (Nat.le_of_ble_eq_true rfl) ?_
  intro p e s m below meth c ls X hml hr hlk hnm hH hl
  have hl : vg_l ls 3 [(0, .ref v0), (1, .int v1), (2, .int v2)] := hl
  have Z : vg_Z D cy H0 p s m _ c cX3_add RX3 meth 3 (some .boolean) (vg_rm 17 cn nn) 17 cn nn _ := ⟨X, hml, hr, hlk, Nat.le_refl _, Nat.le_refl _, Nat.le_refl _, Nat.le_refl _, hnm⟩
  obtain ⟨-, -, -, -, hfr, hlo, hRc, hRs, -⟩ := id Z
  have hx := X.1
  have hb := X.2.1
  have hL : ∀ z ∈ ([] : List Loc), H0.size ≤ z.base := fun _ h => nomatch h
  have hC : 0 + cn = cn := Nat.zero_add _
  have hN : 0 + nn = nn := Nat.zero_add _
  delta fX3_add at hf
  refine lv_aload_n hx hb dX3_add_0 rfl (lv_at hl.1 0 rfl) ?_
  refine vg_getI X hH fF_X3_39 dX3_add_1 hf (fun x1 hf => ?_)
  refine lv_bipush (v := 6) hx hb dX3_add_4 (by decide) ?_
  refine lv_icmp_ge (tgt := 24) hx hb dX3_add_6 (by decide) (fun h8 => ?_) (fun h8 => ?_)
  · have hf := vg_ip h8 hf
    exact wX3_add_24 Z   μ _ _ _ _ _ _ _ hf hH hL hC hN (hl.sub [] rfl)
  · have hf := vg_if h8 hf
    refine lv_aload_n hx hb dX3_add_9 rfl (lv_at hl.1 0 rfl) ?_
    refine vg_getR X hH fF_X3_18 dX3_add_10 hf (fun x2 hf => ?_)
    refine lv_iload_n hx hb dX3_add_13 rfl (lv_at hl.1 1 rfl) ?_
    refine lv_iload_n hx hb dX3_add_14 rfl (lv_at hl.1 2 rfl) ?_
    obtain ⟨a3, h9, hg⟩ := vg_o_inv hf
    clear hf
    subst h9
    have hf := hg
    clear hg
    refine vg_callVr (ci := 0) X hml hl hH hL fCV_X3_43 rfl [.int v1, .int v2] rfl rfl (Nat.le_of_ble_eq_true rfl) dX3_add_15 hf hC hN hRc hRs hfr hlo (by decide) (fun _ _ _ _ h => cJ0_substring_37a41_met h) (fun x4 μ5 cn nn H locs cells slots hf hC hN hH hL => ?_)
    refine vg_callSi X hml hl hH hL fCS_X3_47 [va_rf x4] rfl rfl (Nat.le_of_ble_eq_true rfl) dX3_add_18 hf hC hN hRc hRs hfr hlo (by decide) (fun _ _ _ _ h => cX3_isName_met h) (fun x6 μ7 cn nn H locs cells slots hf hC hN hH hL => ?_)
    refine lv_if_ne (tgt := 26) hx hb dX3_add_21 (by decide) (fun h8 => ?_) (fun h8 => ?_)
    · have hf := vg_if h8 hf
      refine lv_aload_n hx hb dX3_add_26 rfl (lv_at hl.1 0 rfl) ?_
      refine vg_getR X hH fF_X3_9 dX3_add_27 hf (fun x8 hf => ?_)
      refine lv_aload_n hx hb dX3_add_30 rfl (lv_at hl.1 0 rfl) ?_
      refine vg_getI X hH fF_X3_39 dX3_add_31 hf (fun x9 hf => ?_)
      refine lv_iload_n hx hb dX3_add_34 rfl (lv_at hl.1 1 rfl) ?_
      obtain ⟨a10, h9, hg⟩ := vg_o_inv hf
      clear hf
      subst h9
      have hf := hg
      clear hg
      refine vg_iast X hH hL dX3_add_35 hf (fun μ11 H locs hf hH hL => ?_)
      refine lv_aload_n hx hb dX3_add_36 rfl (lv_at hl.1 0 rfl) ?_
      refine vg_getR X hH fF_X3_15 dX3_add_37 hf (fun x12 hf => ?_)
      refine lv_aload_n hx hb dX3_add_40 rfl (lv_at hl.1 0 rfl) ?_
      refine vg_getI X hH fF_X3_39 dX3_add_41 hf (fun x13 hf => ?_)
      refine lv_iload_n hx hb dX3_add_44 rfl (lv_at hl.1 2 rfl) ?_
      obtain ⟨a14, h9, hg⟩ := vg_o_inv hf
      clear hf
      subst h9
      have hf := hg
      clear hg
      refine vg_iast X hH hL dX3_add_45 hf (fun μ15 H locs hf hH hL => ?_)
      refine lv_aload_n hx hb dX3_add_46 rfl (lv_at hl.1 0 rfl) ?_
      refine lv_dup hx hb dX3_add_47 rfl ?_
      refine vg_getI X hH fF_X3_39 dX3_add_48 hf (fun x16 hf => ?_)
      refine lv_iconst (v := 1) hx hb dX3_add_51 (by decide) ?_
      refine lv_iadd hx hb dX3_add_52 ?_
      refine vg_putV X hH hL fF_X3_39 rfl rfl dX3_add_53 hf (fun μ17 H locs hf hH hL => ?_)
      refine lv_iconst (v := 1) hx hb dX3_add_56 (by decide) ?_
      exact vg_retz X (by simp) hr hlk hH hL dX3_add_57 hf hC hN
    · have hf := vg_ip h8 hf
      exact wX3_add_24 Z   μ7 _ _ _ _ _ _ _ hf hH hL hC hN (hl.sub [] rfl)
def fX3_init (v0 : Nat) (v1 : Option Nat) (μ : vg_M) : vg_R Unit :=
  vg_o (vg_len 6) fun n => vg_nw n μ.2.1 (vg_nA μ 2 n) fun a1 μ2 =>
  vg_o (vg_p μ2 v0 6 1 (.ref a1)) fun μ3 =>
  vg_o (vg_len 6) fun n => vg_nw n μ3.2.1 (vg_nA μ3 2 n) fun a4 μ5 =>
  vg_o (vg_p μ5 v0 6 2 (.ref a4)) fun μ6 =>
  vg_o (vg_p μ6 v0 6 0 (va_rf v1)) fun μ7 =>
  vg_ret () μ7
set_option maxHeartbeats 4000000 in
set_option maxRecDepth 100000 in
theorem cX3_init_met {l : Launch} {D : va_G} {cy : Nat → ClassId} {H0 : Heap} {r : Unit} {μ μ' : vg_M} {cn nn : Nat} {v0 : Nat} {v1 : Option Nat} (hf : fX3_init v0 v1 μ = some (r, μ', cn, nn)) : vg_Met l D cy H0 yX3_init cX3_init 2 none 12 μ [.ref v0, va_rf v1] none μ' cn nn := by
  refine vg_start (by decide +kernel) (List.forall_mem_cons.mpr ⟨rfl, (List.forall_mem_cons.mpr ⟨vg_rfc _, (fun _ h => nomatch h)⟩)⟩) (Nat.le_of_ble_eq_true rfl) ?_
  intro p e s m below meth c ls X hml hr hlk hnm hH hl
  have hl : vg_l ls 2 [(0, .ref v0), (1, va_rf v1)] := hl
  have Z : vg_Z D cy H0 p s m _ c cX3_init RX3 meth 2 none (vg_rm 12 cn nn) 12 cn nn _ := ⟨X, hml, hr, hlk, Nat.le_refl _, Nat.le_refl _, Nat.le_refl _, Nat.le_refl _, hnm⟩
  obtain ⟨-, -, -, -, hfr, hlo, hRc, hRs, -⟩ := id Z
  have hx := X.1
  have hb := X.2.1
  have hL : ∀ z ∈ ([] : List Loc), H0.size ≤ z.base := fun _ h => nomatch h
  have hC : 0 + cn = cn := Nat.zero_add _
  have hN : 0 + nn = nn := Nat.zero_add _
  delta fX3_init at hf
  refine lv_aload_n hx hb dX3_init_0 rfl (lv_at hl.1 0 rfl) ?_
  refine vg_objInit X hml hl kw_254338968 kw_624348017 kw_835052908 dX3_init_1 (Nat.le_of_ble_eq_true rfl) (Nat.le_trans (by decide) hfr) (Nat.le_trans (by decide) hlo) ?_
  refine lv_aload_n hx hb dX3_init_4 rfl (lv_at hl.1 0 rfl) ?_
  refine lv_bipush (v := 6) hx hb dX3_init_5 (by decide) ?_
  refine vg_newa X hH (atype := .int) (t := 2) kw_803024247 rfl (by decide) dX3_init_7 hf hC hN hRc hRs (fun _ a1 μ2 cn nn H hf hC hN hH => ?_)
  refine vg_putF X hnm hH hL fF_X3_9 (vg_fitR (by simp) (some a1)).1 (vg_fitR (by simp) (some a1)).2 dX3_init_9 hf (fun μ3 H locs hf hH hL => ?_)
  refine lv_aload_n hx hb dX3_init_12 rfl (lv_at hl.1 0 rfl) ?_
  refine lv_bipush (v := 6) hx hb dX3_init_13 (by decide) ?_
  refine vg_newa X hH (atype := .int) (t := 2) kw_803024247 rfl (by decide) dX3_init_15 hf hC hN hRc hRs (fun _ a4 μ5 cn nn H hf hC hN hH => ?_)
  refine vg_putF X hnm hH hL fF_X3_15 (vg_fitR (by simp) (some a4)).1 (vg_fitR (by simp) (some a4)).2 dX3_init_17 hf (fun μ6 H locs hf hH hL => ?_)
  refine lv_aload_n hx hb dX3_init_20 rfl (lv_at hl.1 0 rfl) ?_
  refine vg_aload_n hx hb dX3_init_21 rfl (lv_at hl.1 1 rfl) ?_
  refine vg_putF X hnm hH hL fF_X3_18 (vg_fitR (by simp) v1).1 (vg_fitR (by simp) v1).2 dX3_init_22 hf (fun μ7 H locs hf hH hL => ?_)
  exact vg_retv X hr hlk hH hL dX3_init_25 hf hC hN
def fX3_read_54 (q13 : Option Nat → Option Nat → Int32 → Int32 → vg_M → vg_R (Option Nat)) (v0 : Option Nat) (v1 : Option Nat) (v2 : Int32) (v3 : Int32) (μ : vg_M) : vg_R (Option Nat) :=
  q13 v0 v1 v2 (v3 + 1) μ
set_option maxHeartbeats 4000000 in
set_option maxRecDepth 100000 in
theorem wX3_read_54 {p : Program} {l : Launch} {e : Env} {R : Room} {s : State} {m : MethodId} {args : Array Value} {below : List Frame} {meth : Method} {c : Code} {D : va_G} {cy : Nat → ClassId} {H0 : Heap} {C0 N0 : Nat} {r : (Option Nat)} {μ' : vg_M} (Z : vg_Z D cy H0 p s m args c cX3_read RX3 meth 4 (some (.object "GlobRows$Path")) R 18 C0 N0 "read") {q13 : Option Nat → Option Nat → Int32 → Int32 → vg_M → vg_R (Option Nat)} (hk13 : ∀ (v0 : Option Nat) (v1 : Option Nat) (v2 : Int32) (v3 : Int32) (μ : vg_M), vg_S p l e R s m args below meth c D cy H0 C0 N0 4 (MQ below (vg_Qc D cy H0 μ' (some (va_rf r))) args s C0 N0 (vg_fr H0)) r μ' (q13 v0 v1 v2 v3 μ) μ [(0, va_rf v0), (1, va_rf v1), (2, .int v2), (3, .int v3)] [] 13) (v0 : Option Nat) (v1 : Option Nat) (v2 : Int32) (v3 : Int32) (μ : vg_M) : vg_S p l e R s m args below meth c D cy H0 C0 N0 4 (MQ below (vg_Qc D cy H0 μ' (some (va_rf r))) args s C0 N0 (vg_fr H0)) r μ' (fX3_read_54 q13 v0 v1 v2 v3 μ) μ [(0, va_rf v0), (1, va_rf v1), (2, .int v2), (3, .int v3)] [] 54 := by
  intro cn nn H locs cells slots ls hf hH hL hC hN hl
  obtain ⟨X, hml, hr, hlk, hfr, hlo, hRc, hRs, hnm⟩ := id Z
  have hx := X.1
  have hb := X.2.1
  delta fX3_read_54 at hf
  refine vg_iinc (v := v3 + 1) (lv' := [(3, .int (v3 + 1)), (0, va_rf v0), (1, va_rf v1), (2, .int v2)]) hx hb dX3_read_54 hl (k := 3) rfl rfl (by decide) rfl (fun ls hl => ?_)
  refine lv_goto (tgt := 13) hx hb dX3_read_57 (by decide) ?_
  exact hk13 v0 v1 v2 (v3 + 1) μ _ _ _ _ _ _ _ hf hH hL hC hN (hl.sub [1, 2, 3, 0] rfl)
def fX3_read_39 (q13 : Option Nat → Option Nat → Int32 → Int32 → vg_M → vg_R (Option Nat)) (v0 : Option Nat) (v1 : Option Nat) (v2 : Int32) (v3 : Int32) (μ : vg_M) : vg_R (Option Nat) :=
  vg_o v1 fun a8 =>
  vg_cv 6 a8 μ (fX3_add a8 v2 v3 μ) fun x9 μ10 =>
  if x9 = 0 then (
   vg_ret none μ10
   ) else (
   fX3_read_54 q13 v0 (some a8) (v3 + 1) v3 μ10
   )
set_option maxHeartbeats 4000000 in
set_option maxRecDepth 100000 in
theorem wX3_read_39 {p : Program} {l : Launch} {e : Env} {R : Room} {s : State} {m : MethodId} {args : Array Value} {below : List Frame} {meth : Method} {c : Code} {D : va_G} {cy : Nat → ClassId} {H0 : Heap} {C0 N0 : Nat} {r : (Option Nat)} {μ' : vg_M} (Z : vg_Z D cy H0 p s m args c cX3_read RX3 meth 4 (some (.object "GlobRows$Path")) R 18 C0 N0 "read") {q13 : Option Nat → Option Nat → Int32 → Int32 → vg_M → vg_R (Option Nat)} (hk13 : ∀ (v0 : Option Nat) (v1 : Option Nat) (v2 : Int32) (v3 : Int32) (μ : vg_M), vg_S p l e R s m args below meth c D cy H0 C0 N0 4 (MQ below (vg_Qc D cy H0 μ' (some (va_rf r))) args s C0 N0 (vg_fr H0)) r μ' (q13 v0 v1 v2 v3 μ) μ [(0, va_rf v0), (1, va_rf v1), (2, .int v2), (3, .int v3)] [] 13) (v0 : Option Nat) (v1 : Option Nat) (v2 : Int32) (v3 : Int32) (μ : vg_M) : vg_S p l e R s m args below meth c D cy H0 C0 N0 4 (MQ below (vg_Qc D cy H0 μ' (some (va_rf r))) args s C0 N0 (vg_fr H0)) r μ' (fX3_read_39 q13 v0 v1 v2 v3 μ) μ [(0, va_rf v0), (1, va_rf v1), (2, .int v2), (3, .int v3)] [] 39 := by
  intro cn nn H locs cells slots ls hf hH hL hC hN hl
  obtain ⟨X, hml, hr, hlk, hfr, hlo, hRc, hRs, hnm⟩ := id Z
  have hx := X.1
  have hb := X.2.1
  delta fX3_read_39 at hf
  refine vg_aload_n hx hb dX3_read_39 rfl (lv_at hl.1 1 rfl) ?_
  refine lv_iload_n hx hb dX3_read_40 rfl (lv_at hl.1 2 rfl) ?_
  refine lv_iload_n hx hb dX3_read_41 rfl (lv_at hl.1 3 rfl) ?_
  obtain ⟨a8, h9, hg⟩ := vg_o_inv hf
  clear hf
  subst h9
  have hf := hg
  clear hg
  refine vg_callVi (ci := 6) X hml hl hH hL fCV_X3_35 rfl [.int v2, .int v3] rfl rfl (Nat.le_of_ble_eq_true rfl) dX3_read_42 hf hC hN hRc hRs hfr hlo (by decide) (fun _ _ _ _ h => cX3_add_met h) (fun x9 μ10 cn nn H locs cells slots hf hC hN hH hL => ?_)
  refine lv_if_ne (tgt := 50) hx hb dX3_read_45 (by decide) (fun h8 => ?_) (fun h8 => ?_)
  · have hf := vg_if h8 hf
    refine lv_iload_n hx hb dX3_read_50 rfl (lv_at hl.1 3 rfl) ?_
    refine lv_iconst (v := 1) hx hb dX3_read_51 (by decide) ?_
    refine lv_iadd hx hb dX3_read_52 ?_
    refine vg_istore_n (lv' := [(2, .int (v3 + 1)), (0, va_rf v0), (1, .ref a8), (3, .int v3)]) hx hb dX3_read_53 rfl hl (by decide) rfl (fun ls hl => ?_)
    exact wX3_read_54 Z hk13 v0 (some a8) (v3 + 1) v3 μ10 _ _ _ _ _ _ _ hf hH hL hC hN (hl.sub [1, 2, 0, 3] rfl)
  · have hf := vg_ip h8 hf
    refine lv_null hx hb dX3_read_48 ?_
    exact vg_reta X (by simp) hr hlk hH hL dX3_read_49 hf hC hN
def fX3_read_13  : Nat → Option Nat → Option Nat → Int32 → Int32 → vg_M → vg_R (Option Nat)
  | 0, _, _, _, _, _ => none
  | n + 1, v0, v1, v2, v3, μ =>
    vg_o v0 fun a1 =>
    vg_cv 0 a1 μ (fJ0_length_8abf5 a1  μ) fun x2 μ3 =>
    if x2 < v3 then (
     vg_ret v1 μ3
     ) else (
     vg_cv 0 a1 μ3 (fJ0_length_8abf5 a1  μ3) fun x4 μ5 =>
     if v3 = x4 then (
      fX3_read_39 (fX3_read_13  n) (some a1) v1 v2 v3 μ5
      ) else (
      vg_cv 0 a1 μ5 (fJ0_charAt_5068e a1 v3 μ5) fun x6 μ7 =>
      if x6 = 47 then (
       fX3_read_39 (fX3_read_13  n) (some a1) v1 v2 v3 μ7
       ) else (
       fX3_read_54 (fX3_read_13  n) (some a1) v1 v2 v3 μ7
       )
      )
     )
set_option maxHeartbeats 4000000 in
set_option maxRecDepth 100000 in
theorem wX3_read_13 {p : Program} {l : Launch} {e : Env} {R : Room} {s : State} {m : MethodId} {args : Array Value} {below : List Frame} {meth : Method} {c : Code} {D : va_G} {cy : Nat → ClassId} {H0 : Heap} {C0 N0 : Nat} {r : (Option Nat)} {μ' : vg_M} (Z : vg_Z D cy H0 p s m args c cX3_read RX3 meth 4 (some (.object "GlobRows$Path")) R 18 C0 N0 "read")   : ∀ (n : Nat) (v0 : Option Nat) (v1 : Option Nat) (v2 : Int32) (v3 : Int32) (μ : vg_M), vg_S p l e R s m args below meth c D cy H0 C0 N0 4 (MQ below (vg_Qc D cy H0 μ' (some (va_rf r))) args s C0 N0 (vg_fr H0)) r μ' (fX3_read_13  n v0 v1 v2 v3 μ) μ [(0, va_rf v0), (1, va_rf v1), (2, .int v2), (3, .int v3)] [] 13 := by
  intro n
  induction n with
  | zero =>
    intro v0 v1 v2 v3 μ cn nn H locs cells slots ls hf
    simp [fX3_read_13] at hf
  | succ n hk13 =>
    intro v0 v1 v2 v3 μ
    intro cn nn H locs cells slots ls hf hH hL hC hN hl
    obtain ⟨X, hml, hr, hlk, hfr, hlo, hRc, hRs, hnm⟩ := id Z
    have hx := X.1
    have hb := X.2.1
    rw [fX3_read_13] at hf
    refine lv_iload_n hx hb dX3_read_13 rfl (lv_at hl.1 3 rfl) ?_
    refine vg_aload_n hx hb dX3_read_14 rfl (lv_at hl.1 0 rfl) ?_
    obtain ⟨a1, h9, hg⟩ := vg_o_inv hf
    clear hf
    subst h9
    have hf := hg
    clear hg
    refine vg_callVi (ci := 0) X hml hl hH hL fCV_X3_25 rfl [] rfl rfl (Nat.le_of_ble_eq_true rfl) dX3_read_15 hf hC hN hRc hRs hfr hlo (by decide) (fun _ _ _ _ h => cJ0_length_8abf5_met h) (fun x2 μ3 cn nn H locs cells slots hf hC hN hH hL => ?_)
    refine lv_icmp_gt (tgt := 60) hx hb dX3_read_18 (by decide) (fun h8 => ?_) (fun h8 => ?_)
    · have hf := vg_ip h8 hf
      refine vg_aload_n hx hb dX3_read_60 rfl (lv_at hl.1 1 rfl) ?_
      exact vg_reta X (by simp) hr hlk hH hL dX3_read_61 hf hC hN
    · have hf := vg_if h8 hf
      refine lv_iload_n hx hb dX3_read_21 rfl (lv_at hl.1 3 rfl) ?_
      refine lv_aload_n hx hb dX3_read_22 rfl (lv_at hl.1 0 rfl) ?_
      refine vg_callVi (ci := 0) X hml hl hH hL fCV_X3_25 rfl [] rfl rfl (Nat.le_of_ble_eq_true rfl) dX3_read_23 hf hC hN hRc hRs hfr hlo (by decide) (fun _ _ _ _ h => cJ0_length_8abf5_met h) (fun x4 μ5 cn nn H locs cells slots hf hC hN hH hL => ?_)
      refine lv_icmp_eq (tgt := 39) hx hb dX3_read_26 (by decide) (fun h8 => ?_) (fun h8 => ?_)
      · have hf := vg_ip h8 hf
        exact wX3_read_39 Z hk13 (some a1) v1 v2 v3 μ5 _ _ _ _ _ _ _ hf hH hL hC hN (hl.sub [0, 1, 2, 3] rfl)
      · have hf := vg_if h8 hf
        refine lv_aload_n hx hb dX3_read_29 rfl (lv_at hl.1 0 rfl) ?_
        refine lv_iload_n hx hb dX3_read_30 rfl (lv_at hl.1 3 rfl) ?_
        refine vg_callVi (ci := 0) X hml hl hH hL fCV_X3_31 rfl [.int v3] rfl rfl (Nat.le_of_ble_eq_true rfl) dX3_read_31 hf hC hN hRc hRs hfr hlo (by decide) (fun _ _ _ _ h => cJ0_charAt_5068e_met h) (fun x6 μ7 cn nn H locs cells slots hf hC hN hH hL => ?_)
        refine lv_bipush (v := 47) hx hb dX3_read_34 (by decide) ?_
        refine lv_icmp_ne (tgt := 54) hx hb dX3_read_36 (by decide) (fun h8 => ?_) (fun h8 => ?_)
        · have hf := vg_if h8 hf
          exact wX3_read_54 Z hk13 (some a1) v1 v2 v3 μ7 _ _ _ _ _ _ _ hf hH hL hC hN (hl.sub [0, 1, 2, 3] rfl)
        · have hf := vg_ip h8 hf
          exact wX3_read_39 Z hk13 (some a1) v1 v2 v3 μ7 _ _ _ _ _ _ _ hf hH hL hC hN (hl.sub [0, 1, 2, 3] rfl)
def fX3_read (v0 : Option Nat) (μ : vg_M) : vg_R (Option Nat) :=
  vg_nw 4 μ.2.1 (vg_nO μ 6 [.null, .null, .null, .int 0]) fun a11 μ12 =>
  vg_b (fX3_init a11 v0 μ12) fun _ μ14 =>
  fX3_read_13  vg_fuel v0 (some a11) 0 0 μ14
set_option maxHeartbeats 4000000 in
set_option maxRecDepth 100000 in
theorem cX3_read_met {l : Launch} {D : va_G} {cy : Nat → ClassId} {H0 : Heap} {r : (Option Nat)} {μ μ' : vg_M} {cn nn : Nat} {v0 : Option Nat} (hf : fX3_read v0 μ = some (r, μ', cn, nn)) : vg_Met l D cy H0 yX3_read cX3_read 4 (some (.object "GlobRows$Path")) 18 μ [va_rf v0] (some (va_rf r)) μ' cn nn := by
  refine vg_start (by decide +kernel) (List.forall_mem_cons.mpr ⟨vg_rfc _, (fun _ h => nomatch h)⟩) (Nat.le_of_ble_eq_true rfl) ?_
  intro p e s m below meth c ls X hml hr hlk hnm hH hl
  have hl : vg_l ls 4 [(0, va_rf v0)] := hl
  have Z : vg_Z D cy H0 p s m _ c cX3_read RX3 meth 4 (some (.object "GlobRows$Path")) (vg_rm 18 cn nn) 18 cn nn _ := ⟨X, hml, hr, hlk, Nat.le_refl _, Nat.le_refl _, Nat.le_refl _, Nat.le_refl _, hnm⟩
  obtain ⟨-, -, -, -, hfr, hlo, hRc, hRs, -⟩ := id Z
  have hx := X.1
  have hb := X.2.1
  have hL : ∀ z ∈ ([] : List Loc), H0.size ≤ z.base := fun _ h => nomatch h
  have hC : 0 + cn = cn := Nat.zero_add _
  have hN : 0 + nn = nn := Nat.zero_add _
  delta fX3_read at hf
  refine vg_new X hH fN_X3_10 dX3_read_0 hf hC hN hRc hRs (fun a11 μ12 cn nn H hf hC hN hH => ?_)
  refine lv_dup hx hb dX3_read_3 rfl ?_
  refine vg_aload_n hx hb dX3_read_4 rfl (lv_at hl.1 0 rfl) ?_
  refine vg_callIv X hml hl hH hL fCI_X3_22 [va_rf v0] rfl rfl (Nat.le_of_ble_eq_true rfl) dX3_read_5 hf hC hN hRc hRs hfr hlo (by decide) (fun _ _ _ _ h => cX3_init_met h) (fun _ μ14 cn nn H locs cells slots hf hC hN hH hL => ?_)
  refine vg_astore_n (x := some a11) (lv' := [(1, .ref a11), (0, va_rf v0)]) hx hb dX3_read_8 rfl hl (by decide) rfl (fun ls hl => ?_)
  refine lv_iconst (v := 0) hx hb dX3_read_9 (by decide) ?_
  refine vg_istore_n (lv' := [(2, .int 0), (1, .ref a11), (0, va_rf v0)]) hx hb dX3_read_10 rfl hl (by decide) rfl (fun ls hl => ?_)
  refine lv_iconst (v := 0) hx hb dX3_read_11 (by decide) ?_
  refine vg_istore_n (lv' := [(3, .int 0), (2, .int 0), (1, .ref a11), (0, va_rf v0)]) hx hb dX3_read_12 rfl hl (by decide) rfl (fun ls hl => ?_)
  exact wX3_read_13 Z  vg_fuel v0 (some a11) 0 0 μ14 _ _ _ _ _ _ _ hf hH hL hC hN (hl.sub [3, 2, 1, 0] rfl)
def fX4_add_25  (v0 : Nat) (v1 : Option Nat) (μ : vg_M) : vg_R Unit :=
  vg_o (vg_gR μ v0 7 2) fun x1 =>
  vg_o x1 fun a2 =>
  vg_cv 2 a2 μ (fJx4a65c_add_9ea2d a2 v1 μ) fun x3 μ4 =>
  vg_ret () μ4
set_option maxHeartbeats 4000000 in
set_option maxRecDepth 100000 in
theorem wX4_add_25 {p : Program} {l : Launch} {e : Env} {R : Room} {s : State} {m : MethodId} {args : Array Value} {below : List Frame} {meth : Method} {c : Code} {D : va_G} {cy : Nat → ClassId} {H0 : Heap} {C0 N0 : Nat} {r : Unit} {μ' : vg_M} (Z : vg_Z D cy H0 p s m args c cX4_add RX4 meth 2 none R 18 C0 N0 "add")   (v0 : Nat) (v1 : Option Nat) (μ : vg_M) : vg_S p l e R s m args below meth c D cy H0 C0 N0 2 (MQ below (vg_Qc D cy H0 μ' none) args s C0 N0 (vg_fr H0)) r μ' (fX4_add_25  v0 v1 μ) μ [(0, .ref v0), (1, va_rf v1)] [] 25 := by
  intro cn nn H locs cells slots ls hf hH hL hC hN hl
  obtain ⟨X, hml, hr, hlk, hfr, hlo, hRc, hRs, hnm⟩ := id Z
  have hx := X.1
  have hb := X.2.1
  delta fX4_add_25 at hf
  refine lv_aload_n hx hb dX4_add_25 rfl (lv_at hl.1 0 rfl) ?_
  refine vg_getR X hH fF_X4_12 dX4_add_26 hf (fun x1 hf => ?_)
  refine vg_aload_n hx hb dX4_add_29 rfl (lv_at hl.1 1 rfl) ?_
  obtain ⟨a2, h9, hg⟩ := vg_o_inv hf
  clear hf
  subst h9
  have hf := hg
  clear hg
  refine vg_callVi (ci := 2) X hml hl hH hL fCV_X4_47 rfl [va_rf v1] rfl rfl (Nat.le_of_ble_eq_true rfl) dX4_add_30 hf hC hN hRc hRs hfr hlo (by decide) (fun _ _ _ _ h => cJx4a65c_add_9ea2d_met h) (fun x3 μ4 cn nn H locs cells slots hf hC hN hH hL => ?_)
  refine lv_pop hx hb dX4_add_33 rfl ?_
  exact vg_retv X hr hlk hH hL dX4_add_34 hf hC hN
def fX4_add (v0 : Nat) (v1 : Option Nat) (μ : vg_M) : vg_R Unit :=
  vg_o v1 fun a5 =>
  vg_o (vg_gI μ a5 9 0) fun x6 =>
  if x6 = 0 then (
   fX4_add_25  v0 (some a5) μ
   ) else (
   vg_o (vg_gI μ v0 7 4) fun x7 =>
   vg_o (vg_gR μ v0 7 2) fun x8 =>
   vg_o x8 fun a9 =>
   vg_cv 2 a9 μ (fJx4a65c_size_8abf5 a9  μ) fun x10 μ11 =>
   vg_o (vg_p μ11 v0 7 4 (.int (x7 ||| (1 <<< (x10 &&& 31))))) fun μ12 =>
   fX4_add_25  v0 (some a5) μ12
   )
set_option maxHeartbeats 4000000 in
set_option maxRecDepth 100000 in
theorem cX4_add_met {l : Launch} {D : va_G} {cy : Nat → ClassId} {H0 : Heap} {r : Unit} {μ μ' : vg_M} {cn nn : Nat} {v0 : Nat} {v1 : Option Nat} (hf : fX4_add v0 v1 μ = some (r, μ', cn, nn)) : vg_Met l D cy H0 yX4_add cX4_add 2 none 18 μ [.ref v0, va_rf v1] none μ' cn nn := by
  refine vg_start (by decide +kernel) (List.forall_mem_cons.mpr ⟨rfl, (List.forall_mem_cons.mpr ⟨vg_rfc _, (fun _ h => nomatch h)⟩)⟩) (Nat.le_of_ble_eq_true rfl) ?_
  intro p e s m below meth c ls X hml hr hlk hnm hH hl
  have hl : vg_l ls 2 [(0, .ref v0), (1, va_rf v1)] := hl
  have Z : vg_Z D cy H0 p s m _ c cX4_add RX4 meth 2 none (vg_rm 18 cn nn) 18 cn nn _ := ⟨X, hml, hr, hlk, Nat.le_refl _, Nat.le_refl _, Nat.le_refl _, Nat.le_refl _, hnm⟩
  obtain ⟨-, -, -, -, hfr, hlo, hRc, hRs, -⟩ := id Z
  have hx := X.1
  have hb := X.2.1
  have hL : ∀ z ∈ ([] : List Loc), H0.size ≤ z.base := fun _ h => nomatch h
  have hC : 0 + cn = cn := Nat.zero_add _
  have hN : 0 + nn = nn := Nat.zero_add _
  delta fX4_add at hf
  refine vg_aload_n hx hb dX4_add_0 rfl (lv_at hl.1 1 rfl) ?_
  obtain ⟨a5, h9, hg⟩ := vg_o_inv hf
  clear hf
  subst h9
  have hf := hg
  clear hg
  refine vg_getIr X hH fR_X4_40 dX4_add_1 hf (fun x6 hf => ?_)
  refine lv_if_eq (tgt := 25) hx hb dX4_add_4 (by decide) (fun h8 => ?_) (fun h8 => ?_)
  · have hf := vg_ip h8 hf
    exact wX4_add_25 Z  v0 (some a5) μ _ _ _ _ _ _ _ hf hH hL hC hN (hl.sub [0, 1] rfl)
  · have hf := vg_if h8 hf
    refine lv_aload_n hx hb dX4_add_7 rfl (lv_at hl.1 0 rfl) ?_
    refine lv_dup hx hb dX4_add_8 rfl ?_
    refine vg_getI X hH fF_X4_43 dX4_add_9 hf (fun x7 hf => ?_)
    refine lv_iconst (v := 1) hx hb dX4_add_12 (by decide) ?_
    refine lv_aload_n hx hb dX4_add_13 rfl (lv_at hl.1 0 rfl) ?_
    refine vg_getR X hH fF_X4_12 dX4_add_14 hf (fun x8 hf => ?_)
    obtain ⟨a9, h9, hg⟩ := vg_o_inv hf
    clear hf
    subst h9
    have hf := hg
    clear hg
    refine vg_callVi (ci := 2) X hml hl hH hL fCV_X4_26 rfl [] rfl rfl (Nat.le_of_ble_eq_true rfl) dX4_add_17 hf hC hN hRc hRs hfr hlo (by decide) (fun _ _ _ _ h => cJx4a65c_size_8abf5_met h) (fun x10 μ11 cn nn H locs cells slots hf hC hN hH hL => ?_)
    refine lv_ishl hx hb dX4_add_20 ?_
    refine lv_ior hx hb dX4_add_21 ?_
    refine vg_putV X hH hL fF_X4_43 rfl rfl dX4_add_22 hf (fun μ12 H locs hf hH hL => ?_)
    exact wX4_add_25 Z  v0 (some a5) μ12 _ _ _ _ _ _ _ hf hH hL hC hN (hl.sub [0, 1] rfl)
def fX4_endsDeep_40  (k0 : Int32) (μ : vg_M) : vg_R Int32 :=
  vg_o (vg_z .boolean k0) fun z => vg_ret z μ
set_option maxHeartbeats 4000000 in
set_option maxRecDepth 100000 in
theorem wX4_endsDeep_40 {p : Program} {l : Launch} {e : Env} {R : Room} {s : State} {m : MethodId} {args : Array Value} {below : List Frame} {meth : Method} {c : Code} {D : va_G} {cy : Nat → ClassId} {H0 : Heap} {C0 N0 : Nat} {r : Int32} {μ' : vg_M} (Z : vg_Z D cy H0 p s m args c cX4_endsDeep RX4 meth 1 (some .boolean) R 15 C0 N0 "endsDeep")   (k0 : Int32) (μ : vg_M) : vg_S p l e R s m args below meth c D cy H0 C0 N0 1 (MQ below (vg_Qc D cy H0 μ' (some (.int r))) args s C0 N0 (vg_fr H0)) r μ' (fX4_endsDeep_40  k0 μ) μ [] [.int k0] 40 := by
  intro cn nn H locs cells slots ls hf hH hL hC hN hl
  obtain ⟨X, hml, hr, hlk, hfr, hlo, hRc, hRs, hnm⟩ := id Z
  have hx := X.1
  have hb := X.2.1
  delta fX4_endsDeep_40 at hf
  exact vg_retz X (by simp) hr hlk hH hL dX4_endsDeep_40 hf hC hN
def fX4_endsDeep_39   (μ : vg_M) : vg_R Int32 :=
  fX4_endsDeep_40  0 μ
set_option maxHeartbeats 4000000 in
set_option maxRecDepth 100000 in
theorem wX4_endsDeep_39 {p : Program} {l : Launch} {e : Env} {R : Room} {s : State} {m : MethodId} {args : Array Value} {below : List Frame} {meth : Method} {c : Code} {D : va_G} {cy : Nat → ClassId} {H0 : Heap} {C0 N0 : Nat} {r : Int32} {μ' : vg_M} (Z : vg_Z D cy H0 p s m args c cX4_endsDeep RX4 meth 1 (some .boolean) R 15 C0 N0 "endsDeep")    (μ : vg_M) : vg_S p l e R s m args below meth c D cy H0 C0 N0 1 (MQ below (vg_Qc D cy H0 μ' (some (.int r))) args s C0 N0 (vg_fr H0)) r μ' (fX4_endsDeep_39   μ) μ [] [] 39 := by
  intro cn nn H locs cells slots ls hf hH hL hC hN hl
  obtain ⟨X, hml, hr, hlk, hfr, hlo, hRc, hRs, hnm⟩ := id Z
  have hx := X.1
  have hb := X.2.1
  delta fX4_endsDeep_39 at hf
  refine lv_iconst (v := 0) hx hb dX4_endsDeep_39 (by decide) ?_
  exact wX4_endsDeep_40 Z  0 μ _ _ _ _ _ _ _ hf hH hL hC hN (hl.sub [] rfl)
def fX4_endsDeep (v0 : Nat) (μ : vg_M) : vg_R Int32 :=
  vg_o (vg_gR μ v0 7 2) fun x1 =>
  vg_o x1 fun a2 =>
  vg_cv 2 a2 μ (fJx4a65c_isEmpty_aae02 a2  μ) fun x3 μ4 =>
  if x3 = 0 then (
   vg_o (vg_gR μ4 v0 7 2) fun x5 =>
   vg_o (vg_gR μ4 v0 7 2) fun x6 =>
   vg_o x6 fun a7 =>
   vg_cv 2 a7 μ4 (fJx4a65c_size_8abf5 a7  μ4) fun x8 μ9 =>
   vg_o x5 fun a10 =>
   vg_cv 2 a10 μ9 (fJx4a65c_get_915e3 a10 (x8 - 1) μ9) fun x11 μ12 =>
   vg_ck μ12 x11 9 <|
   vg_o x11 fun a13 =>
   vg_o (vg_gI μ12 a13 9 0) fun x14 =>
   if x14 = 0 then (
    fX4_endsDeep_39   μ12
    ) else (
    fX4_endsDeep_40  1 μ12
    )
   ) else (
   fX4_endsDeep_39   μ4
   )
set_option maxHeartbeats 4000000 in
set_option maxRecDepth 100000 in
theorem cX4_endsDeep_met {l : Launch} {D : va_G} {cy : Nat → ClassId} {H0 : Heap} {r : Int32} {μ μ' : vg_M} {cn nn : Nat} {v0 : Nat} (hf : fX4_endsDeep v0 μ = some (r, μ', cn, nn)) : vg_Met l D cy H0 yX4_endsDeep cX4_endsDeep 1 (some .boolean) 15 μ [.ref v0] (some (.int r)) μ' cn nn := by
  refine vg_start (by decide +kernel) (List.forall_mem_cons.mpr ⟨rfl, (fun _ h => nomatch h)⟩) (Nat.le_of_ble_eq_true rfl) ?_
  intro p e s m below meth c ls X hml hr hlk hnm hH hl
  have hl : vg_l ls 1 [(0, .ref v0)] := hl
  have Z : vg_Z D cy H0 p s m _ c cX4_endsDeep RX4 meth 1 (some .boolean) (vg_rm 15 cn nn) 15 cn nn _ := ⟨X, hml, hr, hlk, Nat.le_refl _, Nat.le_refl _, Nat.le_refl _, Nat.le_refl _, hnm⟩
  obtain ⟨-, -, -, -, hfr, hlo, hRc, hRs, -⟩ := id Z
  have hx := X.1
  have hb := X.2.1
  have hL : ∀ z ∈ ([] : List Loc), H0.size ≤ z.base := fun _ h => nomatch h
  have hC : 0 + cn = cn := Nat.zero_add _
  have hN : 0 + nn = nn := Nat.zero_add _
  delta fX4_endsDeep at hf
  refine lv_aload_n hx hb dX4_endsDeep_0 rfl (lv_at hl.1 0 rfl) ?_
  refine vg_getR X hH fF_X4_12 dX4_endsDeep_1 hf (fun x1 hf => ?_)
  obtain ⟨a2, h9, hg⟩ := vg_o_inv hf
  clear hf
  subst h9
  have hf := hg
  clear hg
  refine vg_callVi (ci := 2) X hml hl hH hL fCV_X4_30 rfl [] rfl rfl (Nat.le_of_ble_eq_true rfl) dX4_endsDeep_4 hf hC hN hRc hRs hfr hlo (by decide) (fun _ _ _ _ h => cJx4a65c_isEmpty_aae02_met h) (fun x3 μ4 cn nn H locs cells slots hf hC hN hH hL => ?_)
  refine lv_if_ne (tgt := 39) hx hb dX4_endsDeep_7 (by decide) (fun h8 => ?_) (fun h8 => ?_)
  · have hf := vg_if h8 hf
    exact wX4_endsDeep_39 Z   μ4 _ _ _ _ _ _ _ hf hH hL hC hN (hl.sub [] rfl)
  · have hf := vg_ip h8 hf
    refine lv_aload_n hx hb dX4_endsDeep_10 rfl (lv_at hl.1 0 rfl) ?_
    refine vg_getR X hH fF_X4_12 dX4_endsDeep_11 hf (fun x5 hf => ?_)
    refine lv_aload_n hx hb dX4_endsDeep_14 rfl (lv_at hl.1 0 rfl) ?_
    refine vg_getR X hH fF_X4_12 dX4_endsDeep_15 hf (fun x6 hf => ?_)
    obtain ⟨a7, h9, hg⟩ := vg_o_inv hf
    clear hf
    subst h9
    have hf := hg
    clear hg
    refine vg_callVi (ci := 2) X hml hl hH hL fCV_X4_26 rfl [] rfl rfl (vg_cs (List.forall_mem_cons.mpr ⟨vg_rfc _, (fun _ h => nomatch h)⟩) (Nat.le_of_ble_eq_true rfl)) dX4_endsDeep_18 hf hC hN hRc hRs hfr hlo (by decide) (fun _ _ _ _ h => cJx4a65c_size_8abf5_met h) (fun x8 μ9 cn nn H locs cells slots hf hC hN hH hL => ?_)
    refine lv_iconst (v := 1) hx hb dX4_endsDeep_21 (by decide) ?_
    refine lv_isub hx hb dX4_endsDeep_22 ?_
    obtain ⟨a10, h9, hg⟩ := vg_o_inv hf
    clear hf
    subst h9
    have hf := hg
    clear hg
    refine vg_callVr (ci := 2) X hml hl hH hL fCV_X4_34 rfl [.int (x8 - 1)] rfl rfl (Nat.le_of_ble_eq_true rfl) dX4_endsDeep_23 hf hC hN hRc hRs hfr hlo (by decide) (fun _ _ _ _ h => cJx4a65c_get_915e3_met h) (fun x11 μ12 cn nn H locs cells slots hf hC hN hH hL => ?_)
    refine vg_castC (ci := 9) X hH rfl kw_924268877 (x := x11) dX4_endsDeep_26 hf (fun hf => ?_)
    obtain ⟨a13, h9, hg⟩ := vg_o_inv hf
    clear hf
    subst h9
    have hf := hg
    clear hg
    refine vg_getIr X hH fR_X4_40 dX4_endsDeep_29 hf (fun x14 hf => ?_)
    refine lv_if_eq (tgt := 39) hx hb dX4_endsDeep_32 (by decide) (fun h8 => ?_) (fun h8 => ?_)
    · have hf := vg_ip h8 hf
      exact wX4_endsDeep_39 Z   μ12 _ _ _ _ _ _ _ hf hH hL hC hN (hl.sub [] rfl)
    · have hf := vg_if h8 hf
      refine lv_iconst (v := 1) hx hb dX4_endsDeep_35 (by decide) ?_
      refine lv_goto (tgt := 40) hx hb dX4_endsDeep_36 (by decide) ?_
      exact wX4_endsDeep_40 Z  1 μ12 _ _ _ _ _ _ _ hf hH hL hC hN (hl.sub [] rfl)
def fX4_init (v0 : Nat) (v1 : Int32) (μ : vg_M) : vg_R Unit :=
  vg_nw 3 μ.2.1 (vg_nO μ 2 [.int 0, .null, .int 0]) fun a1 μ2 =>
  vg_b (fJx4a65c_init_da8c8 a1  μ2) fun _ μ4 =>
  vg_o (vg_p μ4 v0 7 2 (.ref a1)) fun μ5 =>
  vg_o (vg_len 7) fun n => vg_nw n μ5.2.1 (vg_nA μ5 2 n) fun a6 μ7 =>
  vg_o (vg_p μ7 v0 7 3 (.ref a6)) fun μ8 =>
  vg_o (vg_z .boolean v1) fun z => vg_o (vg_p μ8 v0 7 0 (.int z)) fun μ9 =>
  vg_ret () μ9
set_option maxHeartbeats 4000000 in
set_option maxRecDepth 100000 in
theorem cX4_init_met {l : Launch} {D : va_G} {cy : Nat → ClassId} {H0 : Heap} {r : Unit} {μ μ' : vg_M} {cn nn : Nat} {v0 : Nat} {v1 : Int32} (hf : fX4_init v0 v1 μ = some (r, μ', cn, nn)) : vg_Met l D cy H0 yX4_init cX4_init 2 none 15 μ [.ref v0, .int v1] none μ' cn nn := by
  refine vg_start (by decide +kernel) (List.forall_mem_cons.mpr ⟨rfl, (List.forall_mem_cons.mpr ⟨rfl, (fun _ h => nomatch h)⟩)⟩) (Nat.le_of_ble_eq_true rfl) ?_
  intro p e s m below meth c ls X hml hr hlk hnm hH hl
  have hl : vg_l ls 2 [(0, .ref v0), (1, .int v1)] := hl
  have Z : vg_Z D cy H0 p s m _ c cX4_init RX4 meth 2 none (vg_rm 15 cn nn) 15 cn nn _ := ⟨X, hml, hr, hlk, Nat.le_refl _, Nat.le_refl _, Nat.le_refl _, Nat.le_refl _, hnm⟩
  obtain ⟨-, -, -, -, hfr, hlo, hRc, hRs, -⟩ := id Z
  have hx := X.1
  have hb := X.2.1
  have hL : ∀ z ∈ ([] : List Loc), H0.size ≤ z.base := fun _ h => nomatch h
  have hC : 0 + cn = cn := Nat.zero_add _
  have hN : 0 + nn = nn := Nat.zero_add _
  delta fX4_init at hf
  refine lv_aload_n hx hb dX4_init_0 rfl (lv_at hl.1 0 rfl) ?_
  refine vg_objInit X hml hl kw_991038070 kw_624348017 kw_835052908 dX4_init_1 (Nat.le_of_ble_eq_true rfl) (Nat.le_trans (by decide) hfr) (Nat.le_trans (by decide) hlo) ?_
  refine lv_aload_n hx hb dX4_init_4 rfl (lv_at hl.1 0 rfl) ?_
  refine vg_new X hH fN_X4_9 dX4_init_5 hf hC hN hRc hRs (fun a1 μ2 cn nn H hf hC hN hH => ?_)
  refine lv_dup hx hb dX4_init_8 rfl ?_
  refine vg_callIv X hml hl hH hL fCI_X4_11 [] rfl rfl (Nat.le_of_ble_eq_true rfl) dX4_init_9 hf hC hN hRc hRs hfr hlo (by decide) (fun _ _ _ _ h => cJx4a65c_init_da8c8_met h) (fun _ μ4 cn nn H locs cells slots hf hC hN hH hL => ?_)
  refine vg_putF X hnm hH hL fF_X4_12 (vg_fitR (by simp) (some a1)).1 (vg_fitR (by simp) (some a1)).2 dX4_init_12 hf (fun μ5 H locs hf hH hL => ?_)
  refine lv_aload_n hx hb dX4_init_15 rfl (lv_at hl.1 0 rfl) ?_
  refine lv_bipush (v := 7) hx hb dX4_init_16 (by decide) ?_
  refine vg_newa X hH (atype := .int) (t := 2) kw_803024247 rfl (by decide) dX4_init_18 hf hC hN hRc hRs (fun _ a6 μ7 cn nn H hf hC hN hH => ?_)
  refine vg_putF X hnm hH hL fF_X4_18 (vg_fitR (by simp) (some a6)).1 (vg_fitR (by simp) (some a6)).2 dX4_init_20 hf (fun μ8 H locs hf hH hL => ?_)
  refine lv_aload_n hx hb dX4_init_23 rfl (lv_at hl.1 0 rfl) ?_
  refine lv_iload_n hx hb dX4_init_24 rfl (lv_at hl.1 1 rfl) ?_
  refine vg_putFZ X hnm hH hL (by simp) fF_X4_22 dX4_init_25 hf (fun μ9 H locs hf hH hL => ?_)
  exact vg_retv X hr hlk hH hL dX4_init_28 hf hC hN
def fX4_isFull_17  (k0 : Int32) (μ : vg_M) : vg_R Int32 :=
  vg_o (vg_z .boolean k0) fun z => vg_ret z μ
set_option maxHeartbeats 4000000 in
set_option maxRecDepth 100000 in
theorem wX4_isFull_17 {p : Program} {l : Launch} {e : Env} {R : Room} {s : State} {m : MethodId} {args : Array Value} {below : List Frame} {meth : Method} {c : Code} {D : va_G} {cy : Nat → ClassId} {H0 : Heap} {C0 N0 : Nat} {r : Int32} {μ' : vg_M} (Z : vg_Z D cy H0 p s m args c cX4_isFull RX4 meth 1 (some .boolean) R 13 C0 N0 "isFull")   (k0 : Int32) (μ : vg_M) : vg_S p l e R s m args below meth c D cy H0 C0 N0 1 (MQ below (vg_Qc D cy H0 μ' (some (.int r))) args s C0 N0 (vg_fr H0)) r μ' (fX4_isFull_17  k0 μ) μ [] [.int k0] 17 := by
  intro cn nn H locs cells slots ls hf hH hL hC hN hl
  obtain ⟨X, hml, hr, hlk, hfr, hlo, hRc, hRs, hnm⟩ := id Z
  have hx := X.1
  have hb := X.2.1
  delta fX4_isFull_17 at hf
  exact vg_retz X (by simp) hr hlk hH hL dX4_isFull_17 hf hC hN
def fX4_isFull (v0 : Nat) (μ : vg_M) : vg_R Int32 :=
  vg_o (vg_gR μ v0 7 2) fun x1 =>
  vg_o x1 fun a2 =>
  vg_cv 2 a2 μ (fJx4a65c_size_8abf5 a2  μ) fun x3 μ4 =>
  if x3 < 6 then (
   fX4_isFull_17  0 μ4
   ) else (
   fX4_isFull_17  1 μ4
   )
set_option maxHeartbeats 4000000 in
set_option maxRecDepth 100000 in
theorem cX4_isFull_met {l : Launch} {D : va_G} {cy : Nat → ClassId} {H0 : Heap} {r : Int32} {μ μ' : vg_M} {cn nn : Nat} {v0 : Nat} (hf : fX4_isFull v0 μ = some (r, μ', cn, nn)) : vg_Met l D cy H0 yX4_isFull cX4_isFull 1 (some .boolean) 13 μ [.ref v0] (some (.int r)) μ' cn nn := by
  refine vg_start (by decide +kernel) (List.forall_mem_cons.mpr ⟨rfl, (fun _ h => nomatch h)⟩) (Nat.le_of_ble_eq_true rfl) ?_
  intro p e s m below meth c ls X hml hr hlk hnm hH hl
  have hl : vg_l ls 1 [(0, .ref v0)] := hl
  have Z : vg_Z D cy H0 p s m _ c cX4_isFull RX4 meth 1 (some .boolean) (vg_rm 13 cn nn) 13 cn nn _ := ⟨X, hml, hr, hlk, Nat.le_refl _, Nat.le_refl _, Nat.le_refl _, Nat.le_refl _, hnm⟩
  obtain ⟨-, -, -, -, hfr, hlo, hRc, hRs, -⟩ := id Z
  have hx := X.1
  have hb := X.2.1
  have hL : ∀ z ∈ ([] : List Loc), H0.size ≤ z.base := fun _ h => nomatch h
  have hC : 0 + cn = cn := Nat.zero_add _
  have hN : 0 + nn = nn := Nat.zero_add _
  delta fX4_isFull at hf
  refine lv_aload_n hx hb dX4_isFull_0 rfl (lv_at hl.1 0 rfl) ?_
  refine vg_getR X hH fF_X4_12 dX4_isFull_1 hf (fun x1 hf => ?_)
  obtain ⟨a2, h9, hg⟩ := vg_o_inv hf
  clear hf
  subst h9
  have hf := hg
  clear hg
  refine vg_callVi (ci := 2) X hml hl hH hL fCV_X4_26 rfl [] rfl rfl (Nat.le_of_ble_eq_true rfl) dX4_isFull_4 hf hC hN hRc hRs hfr hlo (by decide) (fun _ _ _ _ h => cJx4a65c_size_8abf5_met h) (fun x3 μ4 cn nn H locs cells slots hf hC hN hH hL => ?_)
  refine lv_bipush (v := 6) hx hb dX4_isFull_7 (by decide) ?_
  refine lv_icmp_lt (tgt := 16) hx hb dX4_isFull_9 (by decide) (fun h8 => ?_) (fun h8 => ?_)
  · have hf := vg_ip h8 hf
    refine lv_iconst (v := 0) hx hb dX4_isFull_16 (by decide) ?_
    exact wX4_isFull_17 Z  0 μ4 _ _ _ _ _ _ _ hf hH hL hC hN (hl.sub [] rfl)
  · have hf := vg_if h8 hf
    refine lv_iconst (v := 1) hx hb dX4_isFull_12 (by decide) ?_
    refine lv_goto (tgt := 17) hx hb dX4_isFull_13 (by decide) ?_
    exact wX4_isFull_17 Z  1 μ4 _ _ _ _ _ _ _ hf hH hL hC hN (hl.sub [] rfl)
def fX5_init (v0 : Nat) (v1 : Option Nat) (v2 : Int32) (μ : vg_M) : vg_R Unit :=
  vg_o (vg_p μ v0 8 1 (.int ((-1)))) fun μ1 =>
  vg_o (vg_p μ1 v0 8 2 (va_rf v1)) fun μ2 =>
  vg_nw 5 μ2.2.1 (vg_nO μ2 7 [.int 0, .int 0, .null, .null, .int 0]) fun a3 μ4 =>
  vg_b (fX4_init a3 v2 μ4) fun _ μ6 =>
  vg_o (vg_p μ6 v0 8 0 (.ref a3)) fun μ7 =>
  vg_ret () μ7
set_option maxHeartbeats 4000000 in
set_option maxRecDepth 100000 in
theorem cX5_init_met {l : Launch} {D : va_G} {cy : Nat → ClassId} {H0 : Heap} {r : Unit} {μ μ' : vg_M} {cn nn : Nat} {v0 : Nat} {v1 : Option Nat} {v2 : Int32} (hf : fX5_init v0 v1 v2 μ = some (r, μ', cn, nn)) : vg_Met l D cy H0 yX5_init cX5_init 3 none 16 μ [.ref v0, va_rf v1, .int v2] none μ' cn nn := by
  refine vg_start (by decide +kernel) (List.forall_mem_cons.mpr ⟨rfl, (List.forall_mem_cons.mpr ⟨vg_rfc _, (List.forall_mem_cons.mpr ⟨rfl, (fun _ h => nomatch h)⟩)⟩)⟩) (Nat.le_of_ble_eq_true rfl) ?_
  intro p e s m below meth c ls X hml hr hlk hnm hH hl
  have hl : vg_l ls 3 [(0, .ref v0), (1, va_rf v1), (2, .int v2)] := hl
  have Z : vg_Z D cy H0 p s m _ c cX5_init RX5 meth 3 none (vg_rm 16 cn nn) 16 cn nn _ := ⟨X, hml, hr, hlk, Nat.le_refl _, Nat.le_refl _, Nat.le_refl _, Nat.le_refl _, hnm⟩
  obtain ⟨-, -, -, -, hfr, hlo, hRc, hRs, -⟩ := id Z
  have hx := X.1
  have hb := X.2.1
  have hL : ∀ z ∈ ([] : List Loc), H0.size ≤ z.base := fun _ h => nomatch h
  have hC : 0 + cn = cn := Nat.zero_add _
  have hN : 0 + nn = nn := Nat.zero_add _
  delta fX5_init at hf
  refine lv_aload_n hx hb dX5_init_0 rfl (lv_at hl.1 0 rfl) ?_
  refine vg_objInit X hml hl kw_727737165 kw_624348017 kw_835052908 dX5_init_1 (Nat.le_of_ble_eq_true rfl) (Nat.le_trans (by decide) hfr) (Nat.le_trans (by decide) hlo) ?_
  refine lv_aload_n hx hb dX5_init_4 rfl (lv_at hl.1 0 rfl) ?_
  refine lv_iconst (v := (-1)) hx hb dX5_init_5 (by decide) ?_
  refine vg_putV X hH hL fF_X5_9 rfl rfl dX5_init_6 hf (fun μ1 H locs hf hH hL => ?_)
  refine lv_aload_n hx hb dX5_init_9 rfl (lv_at hl.1 0 rfl) ?_
  refine vg_aload_n hx hb dX5_init_10 rfl (lv_at hl.1 1 rfl) ?_
  refine vg_putF X hnm hH hL fF_X5_15 (vg_fitR (by simp) v1).1 (vg_fitR (by simp) v1).2 dX5_init_11 hf (fun μ2 H locs hf hH hL => ?_)
  refine lv_aload_n hx hb dX5_init_14 rfl (lv_at hl.1 0 rfl) ?_
  refine vg_new X hH fN_X5_19 dX5_init_15 hf hC hN hRc hRs (fun a3 μ4 cn nn H hf hC hN hH => ?_)
  refine lv_dup hx hb dX5_init_18 rfl ?_
  refine lv_iload_n hx hb dX5_init_19 rfl (lv_at hl.1 2 rfl) ?_
  refine vg_callIv X hml hl hH hL fCI_X5_21 [.int v2] rfl rfl (Nat.le_of_ble_eq_true rfl) dX5_init_20 hf hC hN hRc hRs hfr hlo (by decide) (fun _ _ _ _ h => cX4_init_met h) (fun _ μ6 cn nn H locs cells slots hf hC hN hH hL => ?_)
  refine vg_putF X hnm hH hL fF_X5_24 (vg_fitR (by simp) (some a3)).1 (vg_fitR (by simp) (some a3)).2 dX5_init_23 hf (fun μ7 H locs hf hH hL => ?_)
  exact vg_retv X hr hlk hH hL dX5_init_26 hf hC hN
def fX5_isInPiece_35  (k0 : Int32) (μ : vg_M) : vg_R Int32 :=
  vg_o (vg_z .boolean k0) fun z => vg_ret z μ
set_option maxHeartbeats 4000000 in
set_option maxRecDepth 100000 in
theorem wX5_isInPiece_35 {p : Program} {l : Launch} {e : Env} {R : Room} {s : State} {m : MethodId} {args : Array Value} {below : List Frame} {meth : Method} {c : Code} {D : va_G} {cy : Nat → ClassId} {H0 : Heap} {C0 N0 : Nat} {r : Int32} {μ' : vg_M} (Z : vg_Z D cy H0 p s m args c cX5_isInPiece RX5 meth 1 (some .boolean) R 16 C0 N0 "isInPiece")   (k0 : Int32) (μ : vg_M) : vg_S p l e R s m args below meth c D cy H0 C0 N0 1 (MQ below (vg_Qc D cy H0 μ' (some (.int r))) args s C0 N0 (vg_fr H0)) r μ' (fX5_isInPiece_35  k0 μ) μ [] [.int k0] 35 := by
  intro cn nn H locs cells slots ls hf hH hL hC hN hl
  obtain ⟨X, hml, hr, hlk, hfr, hlo, hRc, hRs, hnm⟩ := id Z
  have hx := X.1
  have hb := X.2.1
  delta fX5_isInPiece_35 at hf
  exact vg_retz X (by simp) hr hlk hH hL dX5_isInPiece_35 hf hC hN
def fX5_isInPiece_34   (μ : vg_M) : vg_R Int32 :=
  fX5_isInPiece_35  0 μ
set_option maxHeartbeats 4000000 in
set_option maxRecDepth 100000 in
theorem wX5_isInPiece_34 {p : Program} {l : Launch} {e : Env} {R : Room} {s : State} {m : MethodId} {args : Array Value} {below : List Frame} {meth : Method} {c : Code} {D : va_G} {cy : Nat → ClassId} {H0 : Heap} {C0 N0 : Nat} {r : Int32} {μ' : vg_M} (Z : vg_Z D cy H0 p s m args c cX5_isInPiece RX5 meth 1 (some .boolean) R 16 C0 N0 "isInPiece")    (μ : vg_M) : vg_S p l e R s m args below meth c D cy H0 C0 N0 1 (MQ below (vg_Qc D cy H0 μ' (some (.int r))) args s C0 N0 (vg_fr H0)) r μ' (fX5_isInPiece_34   μ) μ [] [] 34 := by
  intro cn nn H locs cells slots ls hf hH hL hC hN hl
  obtain ⟨X, hml, hr, hlk, hfr, hlo, hRc, hRs, hnm⟩ := id Z
  have hx := X.1
  have hb := X.2.1
  delta fX5_isInPiece_34 at hf
  refine lv_iconst (v := 0) hx hb dX5_isInPiece_34 (by decide) ?_
  exact wX5_isInPiece_35 Z  0 μ _ _ _ _ _ _ _ hf hH hL hC hN (hl.sub [] rfl)
def fX5_isInPiece (v0 : Nat) (μ : vg_M) : vg_R Int32 :=
  vg_o (vg_gI μ v0 8 3) fun x1 =>
  vg_o (vg_gR μ v0 8 2) fun x2 =>
  vg_o x2 fun a3 =>
  vg_cv 0 a3 μ (fJ0_length_8abf5 a3  μ) fun x4 μ5 =>
  if x4 ≤ x1 then (
   fX5_isInPiece_34   μ5
   ) else (
   vg_o (vg_gR μ5 v0 8 2) fun x6 =>
   vg_o (vg_gI μ5 v0 8 3) fun x7 =>
   vg_o x6 fun a8 =>
   vg_cv 0 a8 μ5 (fJ0_charAt_5068e a8 x7 μ5) fun x9 μ10 =>
   if x9 = 47 then (
    fX5_isInPiece_34   μ10
    ) else (
    fX5_isInPiece_35  1 μ10
    )
   )
set_option maxHeartbeats 4000000 in
set_option maxRecDepth 100000 in
theorem cX5_isInPiece_met {l : Launch} {D : va_G} {cy : Nat → ClassId} {H0 : Heap} {r : Int32} {μ μ' : vg_M} {cn nn : Nat} {v0 : Nat} (hf : fX5_isInPiece v0 μ = some (r, μ', cn, nn)) : vg_Met l D cy H0 yX5_isInPiece cX5_isInPiece 1 (some .boolean) 16 μ [.ref v0] (some (.int r)) μ' cn nn := by
  refine vg_start (by decide +kernel) (List.forall_mem_cons.mpr ⟨rfl, (fun _ h => nomatch h)⟩) (Nat.le_of_ble_eq_true rfl) ?_
  intro p e s m below meth c ls X hml hr hlk hnm hH hl
  have hl : vg_l ls 1 [(0, .ref v0)] := hl
  have Z : vg_Z D cy H0 p s m _ c cX5_isInPiece RX5 meth 1 (some .boolean) (vg_rm 16 cn nn) 16 cn nn _ := ⟨X, hml, hr, hlk, Nat.le_refl _, Nat.le_refl _, Nat.le_refl _, Nat.le_refl _, hnm⟩
  obtain ⟨-, -, -, -, hfr, hlo, hRc, hRs, -⟩ := id Z
  have hx := X.1
  have hb := X.2.1
  have hL : ∀ z ∈ ([] : List Loc), H0.size ≤ z.base := fun _ h => nomatch h
  have hC : 0 + cn = cn := Nat.zero_add _
  have hN : 0 + nn = nn := Nat.zero_add _
  delta fX5_isInPiece at hf
  refine lv_aload_n hx hb dX5_isInPiece_0 rfl (lv_at hl.1 0 rfl) ?_
  refine vg_getI X hH fF_X5_35 dX5_isInPiece_1 hf (fun x1 hf => ?_)
  refine lv_aload_n hx hb dX5_isInPiece_4 rfl (lv_at hl.1 0 rfl) ?_
  refine vg_getR X hH fF_X5_15 dX5_isInPiece_5 hf (fun x2 hf => ?_)
  obtain ⟨a3, h9, hg⟩ := vg_o_inv hf
  clear hf
  subst h9
  have hf := hg
  clear hg
  refine vg_callVi (ci := 0) X hml hl hH hL fCV_X5_38 rfl [] rfl rfl (Nat.le_of_ble_eq_true rfl) dX5_isInPiece_8 hf hC hN hRc hRs hfr hlo (by decide) (fun _ _ _ _ h => cJ0_length_8abf5_met h) (fun x4 μ5 cn nn H locs cells slots hf hC hN hH hL => ?_)
  refine lv_icmp_ge (tgt := 34) hx hb dX5_isInPiece_11 (by decide) (fun h8 => ?_) (fun h8 => ?_)
  · have hf := vg_ip h8 hf
    exact wX5_isInPiece_34 Z   μ5 _ _ _ _ _ _ _ hf hH hL hC hN (hl.sub [] rfl)
  · have hf := vg_if h8 hf
    refine lv_aload_n hx hb dX5_isInPiece_14 rfl (lv_at hl.1 0 rfl) ?_
    refine vg_getR X hH fF_X5_15 dX5_isInPiece_15 hf (fun x6 hf => ?_)
    refine lv_aload_n hx hb dX5_isInPiece_18 rfl (lv_at hl.1 0 rfl) ?_
    refine vg_getI X hH fF_X5_35 dX5_isInPiece_19 hf (fun x7 hf => ?_)
    obtain ⟨a8, h9, hg⟩ := vg_o_inv hf
    clear hf
    subst h9
    have hf := hg
    clear hg
    refine vg_callVi (ci := 0) X hml hl hH hL fCV_X5_51 rfl [.int x7] rfl rfl (Nat.le_of_ble_eq_true rfl) dX5_isInPiece_22 hf hC hN hRc hRs hfr hlo (by decide) (fun _ _ _ _ h => cJ0_charAt_5068e_met h) (fun x9 μ10 cn nn H locs cells slots hf hC hN hH hL => ?_)
    refine lv_bipush (v := 47) hx hb dX5_isInPiece_25 (by decide) ?_
    refine lv_icmp_eq (tgt := 34) hx hb dX5_isInPiece_27 (by decide) (fun h8 => ?_) (fun h8 => ?_)
    · have hf := vg_ip h8 hf
      exact wX5_isInPiece_34 Z   μ10 _ _ _ _ _ _ _ hf hH hL hC hN (hl.sub [] rfl)
    · have hf := vg_if h8 hf
      refine lv_iconst (v := 1) hx hb dX5_isInPiece_30 (by decide) ?_
      refine lv_goto (tgt := 35) hx hb dX5_isInPiece_31 (by decide) ?_
      exact wX5_isInPiece_35 Z  1 μ10 _ _ _ _ _ _ _ hf hH hL hC hN (hl.sub [] rfl)
def fX5_passSlash_67  (k0 : Int32) (μ : vg_M) : vg_R Int32 :=
  vg_o (vg_z .boolean k0) fun z => vg_ret z μ
set_option maxHeartbeats 4000000 in
set_option maxRecDepth 100000 in
theorem wX5_passSlash_67 {p : Program} {l : Launch} {e : Env} {R : Room} {s : State} {m : MethodId} {args : Array Value} {below : List Frame} {meth : Method} {c : Code} {D : va_G} {cy : Nat → ClassId} {H0 : Heap} {C0 N0 : Nat} {r : Int32} {μ' : vg_M} (Z : vg_Z D cy H0 p s m args c cX5_passSlash RX5 meth 1 (some .boolean) R 14 C0 N0 "passSlash")   (k0 : Int32) (μ : vg_M) : vg_S p l e R s m args below meth c D cy H0 C0 N0 1 (MQ below (vg_Qc D cy H0 μ' (some (.int r))) args s C0 N0 (vg_fr H0)) r μ' (fX5_passSlash_67  k0 μ) μ [] [.int k0] 67 := by
  intro cn nn H locs cells slots ls hf hH hL hC hN hl
  obtain ⟨X, hml, hr, hlk, hfr, hlo, hRc, hRs, hnm⟩ := id Z
  have hx := X.1
  have hb := X.2.1
  delta fX5_passSlash_67 at hf
  exact vg_retz X (by simp) hr hlk hH hL dX5_passSlash_67 hf hC hN
def fX5_passSlash_49  (v0 : Nat) (k0 : Option Nat) (k1 : Int32) (μ : vg_M) : vg_R Int32 :=
  vg_o k0 fun a1 =>
  vg_o (vg_z .boolean k1) fun z => vg_o (vg_p μ a1 7 1 (.int z)) fun μ2 =>
  vg_o (vg_gR μ2 v0 8 0) fun x3 =>
  vg_o x3 fun a4 =>
  vg_o (vg_gI μ2 a4 7 1) fun x5 =>
  if x5 = 0 then (
   fX5_passSlash_67  1 μ2
   ) else (
   fX5_passSlash_67  0 μ2
   )
set_option maxHeartbeats 4000000 in
set_option maxRecDepth 100000 in
theorem wX5_passSlash_49 {p : Program} {l : Launch} {e : Env} {R : Room} {s : State} {m : MethodId} {args : Array Value} {below : List Frame} {meth : Method} {c : Code} {D : va_G} {cy : Nat → ClassId} {H0 : Heap} {C0 N0 : Nat} {r : Int32} {μ' : vg_M} (Z : vg_Z D cy H0 p s m args c cX5_passSlash RX5 meth 1 (some .boolean) R 14 C0 N0 "passSlash")   (v0 : Nat) (k0 : Option Nat) (k1 : Int32) (μ : vg_M) : vg_S p l e R s m args below meth c D cy H0 C0 N0 1 (MQ below (vg_Qc D cy H0 μ' (some (.int r))) args s C0 N0 (vg_fr H0)) r μ' (fX5_passSlash_49  v0 k0 k1 μ) μ [(0, .ref v0)] [.int k1, va_rf k0] 49 := by
  intro cn nn H locs cells slots ls hf hH hL hC hN hl
  obtain ⟨X, hml, hr, hlk, hfr, hlo, hRc, hRs, hnm⟩ := id Z
  have hx := X.1
  have hb := X.2.1
  delta fX5_passSlash_49 at hf
  obtain ⟨a1, h9, hg⟩ := vg_o_inv hf
  clear hf
  subst h9
  have hf := hg
  clear hg
  refine vg_putZ X hH hL (by simp) fF_X5_44 dX5_passSlash_49 hf (fun μ2 H locs hf hH hL => ?_)
  refine lv_aload_n hx hb dX5_passSlash_52 rfl (lv_at hl.1 0 rfl) ?_
  refine vg_getR X hH fF_X5_24 dX5_passSlash_53 hf (fun x3 hf => ?_)
  obtain ⟨a4, h9, hg⟩ := vg_o_inv hf
  clear hf
  subst h9
  have hf := hg
  clear hg
  refine vg_getI X hH fF_X5_44 dX5_passSlash_56 hf (fun x5 hf => ?_)
  refine lv_if_ne (tgt := 66) hx hb dX5_passSlash_59 (by decide) (fun h8 => ?_) (fun h8 => ?_)
  · have hf := vg_if h8 hf
    refine lv_iconst (v := 0) hx hb dX5_passSlash_66 (by decide) ?_
    exact wX5_passSlash_67 Z  0 μ2 _ _ _ _ _ _ _ hf hH hL hC hN (hl.sub [] rfl)
  · have hf := vg_ip h8 hf
    refine lv_iconst (v := 1) hx hb dX5_passSlash_62 (by decide) ?_
    refine lv_goto (tgt := 67) hx hb dX5_passSlash_63 (by decide) ?_
    exact wX5_passSlash_67 Z  1 μ2 _ _ _ _ _ _ _ hf hH hL hC hN (hl.sub [] rfl)
def fX5_passSlash (v0 : Nat) (μ : vg_M) : vg_R Int32 :=
  vg_o (vg_gI μ v0 8 3) fun x6 =>
  vg_o (vg_gR μ v0 8 2) fun x7 =>
  vg_o x7 fun a8 =>
  vg_cv 0 a8 μ (fJ0_length_8abf5 a8  μ) fun x9 μ10 =>
  if x6 < x9 then (
   vg_o (vg_gI μ10 v0 8 3) fun x11 =>
   vg_o (vg_p μ10 v0 8 3 (.int (x11 + 1))) fun μ12 =>
   vg_o (vg_gR μ12 v0 8 0) fun x13 =>
   vg_o (vg_gI μ12 v0 8 3) fun x14 =>
   vg_o (vg_gR μ12 v0 8 2) fun x15 =>
   vg_o x15 fun a16 =>
   vg_cv 0 a16 μ12 (fJ0_length_8abf5 a16  μ12) fun x17 μ18 =>
   if x14 < x17 then (
    fX5_passSlash_49  v0 x13 0 μ18
    ) else (
    fX5_passSlash_49  v0 x13 1 μ18
    )
   ) else (
   vg_o (vg_z .boolean 0) fun z => vg_ret z μ10
   )
set_option maxHeartbeats 4000000 in
set_option maxRecDepth 100000 in
theorem cX5_passSlash_met {l : Launch} {D : va_G} {cy : Nat → ClassId} {H0 : Heap} {r : Int32} {μ μ' : vg_M} {cn nn : Nat} {v0 : Nat} (hf : fX5_passSlash v0 μ = some (r, μ', cn, nn)) : vg_Met l D cy H0 yX5_passSlash cX5_passSlash 1 (some .boolean) 14 μ [.ref v0] (some (.int r)) μ' cn nn := by
  refine vg_start (by decide +kernel) (List.forall_mem_cons.mpr ⟨rfl, (fun _ h => nomatch h)⟩) (Nat.le_of_ble_eq_true rfl) ?_
  intro p e s m below meth c ls X hml hr hlk hnm hH hl
  have hl : vg_l ls 1 [(0, .ref v0)] := hl
  have Z : vg_Z D cy H0 p s m _ c cX5_passSlash RX5 meth 1 (some .boolean) (vg_rm 14 cn nn) 14 cn nn _ := ⟨X, hml, hr, hlk, Nat.le_refl _, Nat.le_refl _, Nat.le_refl _, Nat.le_refl _, hnm⟩
  obtain ⟨-, -, -, -, hfr, hlo, hRc, hRs, -⟩ := id Z
  have hx := X.1
  have hb := X.2.1
  have hL : ∀ z ∈ ([] : List Loc), H0.size ≤ z.base := fun _ h => nomatch h
  have hC : 0 + cn = cn := Nat.zero_add _
  have hN : 0 + nn = nn := Nat.zero_add _
  delta fX5_passSlash at hf
  refine lv_aload_n hx hb dX5_passSlash_0 rfl (lv_at hl.1 0 rfl) ?_
  refine vg_getI X hH fF_X5_35 dX5_passSlash_1 hf (fun x6 hf => ?_)
  refine lv_aload_n hx hb dX5_passSlash_4 rfl (lv_at hl.1 0 rfl) ?_
  refine vg_getR X hH fF_X5_15 dX5_passSlash_5 hf (fun x7 hf => ?_)
  obtain ⟨a8, h9, hg⟩ := vg_o_inv hf
  clear hf
  subst h9
  have hf := hg
  clear hg
  refine vg_callVi (ci := 0) X hml hl hH hL fCV_X5_38 rfl [] rfl rfl (Nat.le_of_ble_eq_true rfl) dX5_passSlash_8 hf hC hN hRc hRs hfr hlo (by decide) (fun _ _ _ _ h => cJ0_length_8abf5_met h) (fun x9 μ10 cn nn H locs cells slots hf hC hN hH hL => ?_)
  refine lv_icmp_lt (tgt := 16) hx hb dX5_passSlash_11 (by decide) (fun h8 => ?_) (fun h8 => ?_)
  · have hf := vg_ip h8 hf
    refine lv_aload_n hx hb dX5_passSlash_16 rfl (lv_at hl.1 0 rfl) ?_
    refine lv_dup hx hb dX5_passSlash_17 rfl ?_
    refine vg_getI X hH fF_X5_35 dX5_passSlash_18 hf (fun x11 hf => ?_)
    refine lv_iconst (v := 1) hx hb dX5_passSlash_21 (by decide) ?_
    refine lv_iadd hx hb dX5_passSlash_22 ?_
    refine vg_putV X hH hL fF_X5_35 rfl rfl dX5_passSlash_23 hf (fun μ12 H locs hf hH hL => ?_)
    refine lv_aload_n hx hb dX5_passSlash_26 rfl (lv_at hl.1 0 rfl) ?_
    refine vg_getR X hH fF_X5_24 dX5_passSlash_27 hf (fun x13 hf => ?_)
    refine lv_aload_n hx hb dX5_passSlash_30 rfl (lv_at hl.1 0 rfl) ?_
    refine vg_getI X hH fF_X5_35 dX5_passSlash_31 hf (fun x14 hf => ?_)
    refine lv_aload_n hx hb dX5_passSlash_34 rfl (lv_at hl.1 0 rfl) ?_
    refine vg_getR X hH fF_X5_15 dX5_passSlash_35 hf (fun x15 hf => ?_)
    obtain ⟨a16, h9, hg⟩ := vg_o_inv hf
    clear hf
    subst h9
    have hf := hg
    clear hg
    refine vg_callVi (ci := 0) X hml hl hH hL fCV_X5_38 rfl [] rfl rfl (vg_cs (List.forall_mem_cons.mpr ⟨rfl, (List.forall_mem_cons.mpr ⟨vg_rfc _, (fun _ h => nomatch h)⟩)⟩) (Nat.le_of_ble_eq_true rfl)) dX5_passSlash_38 hf hC hN hRc hRs hfr hlo (by decide) (fun _ _ _ _ h => cJ0_length_8abf5_met h) (fun x17 μ18 cn nn H locs cells slots hf hC hN hH hL => ?_)
    refine lv_icmp_lt (tgt := 48) hx hb dX5_passSlash_41 (by decide) (fun h8 => ?_) (fun h8 => ?_)
    · have hf := vg_ip h8 hf
      refine lv_iconst (v := 0) hx hb dX5_passSlash_48 (by decide) ?_
      exact wX5_passSlash_49 Z  v0 x13 0 μ18 _ _ _ _ _ _ _ hf hH hL hC hN (hl.sub [0] rfl)
    · have hf := vg_if h8 hf
      refine lv_iconst (v := 1) hx hb dX5_passSlash_44 (by decide) ?_
      refine lv_goto (tgt := 49) hx hb dX5_passSlash_45 (by decide) ?_
      exact wX5_passSlash_49 Z  v0 x13 1 μ18 _ _ _ _ _ _ _ hf hH hL hC hN (hl.sub [0] rfl)
  · have hf := vg_if h8 hf
    refine lv_iconst (v := 0) hx hb dX5_passSlash_14 (by decide) ?_
    exact vg_retz X (by simp) hr hlk hH hL dX5_passSlash_15 hf hC hN
def fX6_init (v0 : Nat) (v1 : Int32) (μ : vg_M) : vg_R Unit :=
  vg_nw 3 μ.2.1 (vg_nO μ 2 [.int 0, .null, .int 0]) fun a1 μ2 =>
  vg_b (fJx4a65c_init_da8c8 a1  μ2) fun _ μ4 =>
  vg_o (vg_p μ4 v0 9 1 (.ref a1)) fun μ5 =>
  vg_o (vg_z .boolean v1) fun z => vg_o (vg_p μ5 v0 9 0 (.int z)) fun μ6 =>
  vg_ret () μ6
set_option maxHeartbeats 4000000 in
set_option maxRecDepth 100000 in
theorem cX6_init_met {l : Launch} {D : va_G} {cy : Nat → ClassId} {H0 : Heap} {r : Unit} {μ μ' : vg_M} {cn nn : Nat} {v0 : Nat} {v1 : Int32} (hf : fX6_init v0 v1 μ = some (r, μ', cn, nn)) : vg_Met l D cy H0 yX6_init cX6_init 2 none 15 μ [.ref v0, .int v1] none μ' cn nn := by
  refine vg_start (by decide +kernel) (List.forall_mem_cons.mpr ⟨rfl, (List.forall_mem_cons.mpr ⟨rfl, (fun _ h => nomatch h)⟩)⟩) (Nat.le_of_ble_eq_true rfl) ?_
  intro p e s m below meth c ls X hml hr hlk hnm hH hl
  have hl : vg_l ls 2 [(0, .ref v0), (1, .int v1)] := hl
  have Z : vg_Z D cy H0 p s m _ c cX6_init RX6 meth 2 none (vg_rm 15 cn nn) 15 cn nn _ := ⟨X, hml, hr, hlk, Nat.le_refl _, Nat.le_refl _, Nat.le_refl _, Nat.le_refl _, hnm⟩
  obtain ⟨-, -, -, -, hfr, hlo, hRc, hRs, -⟩ := id Z
  have hx := X.1
  have hb := X.2.1
  have hL : ∀ z ∈ ([] : List Loc), H0.size ≤ z.base := fun _ h => nomatch h
  have hC : 0 + cn = cn := Nat.zero_add _
  have hN : 0 + nn = nn := Nat.zero_add _
  delta fX6_init at hf
  refine lv_aload_n hx hb dX6_init_0 rfl (lv_at hl.1 0 rfl) ?_
  refine vg_objInit X hml hl kw_464436260 kw_624348017 kw_835052908 dX6_init_1 (Nat.le_of_ble_eq_true rfl) (Nat.le_trans (by decide) hfr) (Nat.le_trans (by decide) hlo) ?_
  refine lv_aload_n hx hb dX6_init_4 rfl (lv_at hl.1 0 rfl) ?_
  refine vg_new X hH fN_X6_9 dX6_init_5 hf hC hN hRc hRs (fun a1 μ2 cn nn H hf hC hN hH => ?_)
  refine lv_dup hx hb dX6_init_8 rfl ?_
  refine vg_callIv X hml hl hH hL fCI_X6_11 [] rfl rfl (Nat.le_of_ble_eq_true rfl) dX6_init_9 hf hC hN hRc hRs hfr hlo (by decide) (fun _ _ _ _ h => cJx4a65c_init_da8c8_met h) (fun _ μ4 cn nn H locs cells slots hf hC hN hH hL => ?_)
  refine vg_putF X hnm hH hL fF_X6_12 (vg_fitR (by simp) (some a1)).1 (vg_fitR (by simp) (some a1)).2 dX6_init_12 hf (fun μ5 H locs hf hH hL => ?_)
  refine lv_aload_n hx hb dX6_init_15 rfl (lv_at hl.1 0 rfl) ?_
  refine lv_iload_n hx hb dX6_init_16 rfl (lv_at hl.1 1 rfl) ?_
  refine vg_putFZ X hnm hH hL (by simp) fF_X6_18 dX6_init_17 hf (fun μ6 H locs hf hH hL => ?_)
  exact vg_retv X hr hlk hH hL dX6_init_20 hf hC hN
def fX5_readDeepPiece_59   (μ : vg_M) : vg_R Unit :=
  vg_ret () μ
set_option maxHeartbeats 4000000 in
set_option maxRecDepth 100000 in
theorem wX5_readDeepPiece_59 {p : Program} {l : Launch} {e : Env} {R : Room} {s : State} {m : MethodId} {args : Array Value} {below : List Frame} {meth : Method} {c : Code} {D : va_G} {cy : Nat → ClassId} {H0 : Heap} {C0 N0 : Nat} {r : Unit} {μ' : vg_M} (Z : vg_Z D cy H0 p s m args c cX5_readDeepPiece RX5 meth 1 none R 19 C0 N0 "readDeepPiece")    (μ : vg_M) : vg_S p l e R s m args below meth c D cy H0 C0 N0 1 (MQ below (vg_Qc D cy H0 μ' none) args s C0 N0 (vg_fr H0)) r μ' (fX5_readDeepPiece_59   μ) μ [] [] 59 := by
  intro cn nn H locs cells slots ls hf hH hL hC hN hl
  obtain ⟨X, hml, hr, hlk, hfr, hlo, hRc, hRs, hnm⟩ := id Z
  have hx := X.1
  have hb := X.2.1
  delta fX5_readDeepPiece_59 at hf
  exact vg_retv X hr hlk hH hL dX5_readDeepPiece_59 hf hC hN
def fX5_readDeepPiece (v0 : Nat) (μ : vg_M) : vg_R Unit :=
  vg_o (vg_gR μ v0 8 0) fun x1 =>
  vg_o x1 fun a2 =>
  vg_cv 7 a2 μ (fX4_endsDeep a2  μ) fun x3 μ4 =>
  if x3 = 0 then (
   vg_o (vg_gR μ4 v0 8 0) fun x5 =>
   vg_nw 3 μ4.2.1 (vg_nO μ4 9 [.int 0, .null, .int 0]) fun a6 μ7 =>
   vg_b (fX6_init a6 1 μ7) fun _ μ9 =>
   vg_o x5 fun a10 =>
   vg_cv 7 a10 μ9 (fX4_add a10 (some a6) μ9) fun _ μ12 =>
   vg_o (vg_gI μ12 v0 8 3) fun x13 =>
   vg_o (vg_p μ12 v0 8 3 (.int (x13 + 2))) fun μ14 =>
   vg_cv 8 v0 μ14 (fX5_isInPiece v0  μ14) fun x15 μ16 =>
   if x15 = 0 then (
    fX5_readDeepPiece_59   μ16
    ) else (
    vg_o (vg_gI μ16 v0 8 3) fun x17 =>
    vg_o (vg_p μ16 v0 8 1 (.int x17)) fun μ18 =>
    fX5_readDeepPiece_59   μ18
    )
   ) else (
   vg_o (vg_gI μ4 v0 8 3) fun x19 =>
   vg_o (vg_p μ4 v0 8 1 (.int x19)) fun μ20 =>
   vg_ret () μ20
   )
set_option maxHeartbeats 4000000 in
set_option maxRecDepth 100000 in
theorem cX5_readDeepPiece_met {l : Launch} {D : va_G} {cy : Nat → ClassId} {H0 : Heap} {r : Unit} {μ μ' : vg_M} {cn nn : Nat} {v0 : Nat} (hf : fX5_readDeepPiece v0 μ = some (r, μ', cn, nn)) : vg_Met l D cy H0 yX5_readDeepPiece cX5_readDeepPiece 1 none 19 μ [.ref v0] none μ' cn nn := by
  refine vg_start (by decide +kernel) (List.forall_mem_cons.mpr ⟨rfl, (fun _ h => nomatch h)⟩) (Nat.le_of_ble_eq_true rfl) ?_
  intro p e s m below meth c ls X hml hr hlk hnm hH hl
  have hl : vg_l ls 1 [(0, .ref v0)] := hl
  have Z : vg_Z D cy H0 p s m _ c cX5_readDeepPiece RX5 meth 1 none (vg_rm 19 cn nn) 19 cn nn _ := ⟨X, hml, hr, hlk, Nat.le_refl _, Nat.le_refl _, Nat.le_refl _, Nat.le_refl _, hnm⟩
  obtain ⟨-, -, -, -, hfr, hlo, hRc, hRs, -⟩ := id Z
  have hx := X.1
  have hb := X.2.1
  have hL : ∀ z ∈ ([] : List Loc), H0.size ≤ z.base := fun _ h => nomatch h
  have hC : 0 + cn = cn := Nat.zero_add _
  have hN : 0 + nn = nn := Nat.zero_add _
  delta fX5_readDeepPiece at hf
  refine lv_aload_n hx hb dX5_readDeepPiece_0 rfl (lv_at hl.1 0 rfl) ?_
  refine vg_getR X hH fF_X5_24 dX5_readDeepPiece_1 hf (fun x1 hf => ?_)
  obtain ⟨a2, h9, hg⟩ := vg_o_inv hf
  clear hf
  subst h9
  have hf := hg
  clear hg
  refine vg_callVi (ci := 7) X hml hl hH hL fCV_X5_61 rfl [] rfl rfl (Nat.le_of_ble_eq_true rfl) dX5_readDeepPiece_4 hf hC hN hRc hRs hfr hlo (by decide) (fun _ _ _ _ h => cX4_endsDeep_met h) (fun x3 μ4 cn nn H locs cells slots hf hC hN hH hL => ?_)
  refine lv_if_eq (tgt := 19) hx hb dX5_readDeepPiece_7 (by decide) (fun h8 => ?_) (fun h8 => ?_)
  · have hf := vg_ip h8 hf
    refine lv_aload_n hx hb dX5_readDeepPiece_19 rfl (lv_at hl.1 0 rfl) ?_
    refine vg_getR X hH fF_X5_24 dX5_readDeepPiece_20 hf (fun x5 hf => ?_)
    refine vg_new X hH fN_X5_64 dX5_readDeepPiece_23 hf hC hN hRc hRs (fun a6 μ7 cn nn H hf hC hN hH => ?_)
    refine lv_dup hx hb dX5_readDeepPiece_26 rfl ?_
    refine lv_iconst (v := 1) hx hb dX5_readDeepPiece_27 (by decide) ?_
    refine vg_callIv X hml hl hH hL fCI_X5_66 [.int 1] rfl rfl (vg_cs (List.forall_mem_cons.mpr ⟨rfl, (List.forall_mem_cons.mpr ⟨vg_rfc _, (fun _ h => nomatch h)⟩)⟩) (Nat.le_of_ble_eq_true rfl)) dX5_readDeepPiece_28 hf hC hN hRc hRs hfr hlo (by decide) (fun _ _ _ _ h => cX6_init_met h) (fun _ μ9 cn nn H locs cells slots hf hC hN hH hL => ?_)
    obtain ⟨a10, h9, hg⟩ := vg_o_inv hf
    clear hf
    subst h9
    have hf := hg
    clear hg
    refine vg_callVv (ci := 7) X hml hl hH hL fCV_X5_67 rfl [.ref a6] rfl rfl (Nat.le_of_ble_eq_true rfl) dX5_readDeepPiece_31 hf hC hN hRc hRs hfr hlo (by decide) (fun _ _ _ _ h => cX4_add_met h) (fun _ μ12 cn nn H locs cells slots hf hC hN hH hL => ?_)
    refine lv_aload_n hx hb dX5_readDeepPiece_34 rfl (lv_at hl.1 0 rfl) ?_
    refine lv_dup hx hb dX5_readDeepPiece_35 rfl ?_
    refine vg_getI X hH fF_X5_35 dX5_readDeepPiece_36 hf (fun x13 hf => ?_)
    refine lv_iconst (v := 2) hx hb dX5_readDeepPiece_39 (by decide) ?_
    refine lv_iadd hx hb dX5_readDeepPiece_40 ?_
    refine vg_putV X hH hL fF_X5_35 rfl rfl dX5_readDeepPiece_41 hf (fun μ14 H locs hf hH hL => ?_)
    refine lv_aload_n hx hb dX5_readDeepPiece_44 rfl (lv_at hl.1 0 rfl) ?_
    refine vg_callVi (ci := 8) X hml hl hH hL fCV_X5_71 rfl [] rfl rfl (Nat.le_of_ble_eq_true rfl) dX5_readDeepPiece_45 hf hC hN hRc hRs hfr hlo (by decide) (fun _ _ _ _ h => cX5_isInPiece_met h) (fun x15 μ16 cn nn H locs cells slots hf hC hN hH hL => ?_)
    refine lv_if_eq (tgt := 59) hx hb dX5_readDeepPiece_48 (by decide) (fun h8 => ?_) (fun h8 => ?_)
    · have hf := vg_ip h8 hf
      exact wX5_readDeepPiece_59 Z   μ16 _ _ _ _ _ _ _ hf hH hL hC hN (hl.sub [] rfl)
    · have hf := vg_if h8 hf
      refine lv_aload_n hx hb dX5_readDeepPiece_51 rfl (lv_at hl.1 0 rfl) ?_
      refine lv_aload_n hx hb dX5_readDeepPiece_52 rfl (lv_at hl.1 0 rfl) ?_
      refine vg_getI X hH fF_X5_35 dX5_readDeepPiece_53 hf (fun x17 hf => ?_)
      refine vg_putV X hH hL fF_X5_9 rfl rfl dX5_readDeepPiece_56 hf (fun μ18 H locs hf hH hL => ?_)
      exact wX5_readDeepPiece_59 Z   μ18 _ _ _ _ _ _ _ hf hH hL hC hN (hl.sub [] rfl)
  · have hf := vg_if h8 hf
    refine lv_aload_n hx hb dX5_readDeepPiece_10 rfl (lv_at hl.1 0 rfl) ?_
    refine lv_aload_n hx hb dX5_readDeepPiece_11 rfl (lv_at hl.1 0 rfl) ?_
    refine vg_getI X hH fF_X5_35 dX5_readDeepPiece_12 hf (fun x19 hf => ?_)
    refine vg_putV X hH hL fF_X5_9 rfl rfl dX5_readDeepPiece_15 hf (fun μ20 H locs hf hH hL => ?_)
    exact vg_retv X hr hlk hH hL dX5_readDeepPiece_18 hf hC hN
def fX6_addLetters (v0 : Nat) (v1 : Option Nat) (μ : vg_M) : vg_R Unit :=
  vg_o (vg_gR μ v0 9 1) fun x1 =>
  vg_nw 1 μ.2.1 (vg_nO μ 5 [.null]) fun a2 μ3 =>
  vg_b (fX2_init a2 v1 μ3) fun _ μ5 =>
  vg_o x1 fun a6 =>
  vg_cv 2 a6 μ5 (fJx4a65c_add_9ea2d a6 (some a2) μ5) fun x7 μ8 =>
  vg_ret () μ8
set_option maxHeartbeats 4000000 in
set_option maxRecDepth 100000 in
theorem cX6_addLetters_met {l : Launch} {D : va_G} {cy : Nat → ClassId} {H0 : Heap} {r : Unit} {μ μ' : vg_M} {cn nn : Nat} {v0 : Nat} {v1 : Option Nat} (hf : fX6_addLetters v0 v1 μ = some (r, μ', cn, nn)) : vg_Met l D cy H0 yX6_addLetters cX6_addLetters 2 none 18 μ [.ref v0, va_rf v1] none μ' cn nn := by
  refine vg_start (by decide +kernel) (List.forall_mem_cons.mpr ⟨rfl, (List.forall_mem_cons.mpr ⟨vg_rfc _, (fun _ h => nomatch h)⟩)⟩) (Nat.le_of_ble_eq_true rfl) ?_
  intro p e s m below meth c ls X hml hr hlk hnm hH hl
  have hl : vg_l ls 2 [(0, .ref v0), (1, va_rf v1)] := hl
  have Z : vg_Z D cy H0 p s m _ c cX6_addLetters RX6 meth 2 none (vg_rm 18 cn nn) 18 cn nn _ := ⟨X, hml, hr, hlk, Nat.le_refl _, Nat.le_refl _, Nat.le_refl _, Nat.le_refl _, hnm⟩
  obtain ⟨-, -, -, -, hfr, hlo, hRc, hRs, -⟩ := id Z
  have hx := X.1
  have hb := X.2.1
  have hL : ∀ z ∈ ([] : List Loc), H0.size ≤ z.base := fun _ h => nomatch h
  have hC : 0 + cn = cn := Nat.zero_add _
  have hN : 0 + nn = nn := Nat.zero_add _
  delta fX6_addLetters at hf
  refine lv_aload_n hx hb dX6_addLetters_0 rfl (lv_at hl.1 0 rfl) ?_
  refine vg_getR X hH fF_X6_12 dX6_addLetters_1 hf (fun x1 hf => ?_)
  refine vg_new X hH fN_X6_30 dX6_addLetters_4 hf hC hN hRc hRs (fun a2 μ3 cn nn H hf hC hN hH => ?_)
  refine lv_dup hx hb dX6_addLetters_7 rfl ?_
  refine vg_aload_n hx hb dX6_addLetters_8 rfl (lv_at hl.1 1 rfl) ?_
  refine vg_callIv X hml hl hH hL fCI_X6_34 [va_rf v1] rfl rfl (vg_cs (List.forall_mem_cons.mpr ⟨rfl, (List.forall_mem_cons.mpr ⟨vg_rfc _, (fun _ h => nomatch h)⟩)⟩) (Nat.le_of_ble_eq_true rfl)) dX6_addLetters_9 hf hC hN hRc hRs hfr hlo (by decide) (fun _ _ _ _ h => cX2_init_met h) (fun _ μ5 cn nn H locs cells slots hf hC hN hH hL => ?_)
  obtain ⟨a6, h9, hg⟩ := vg_o_inv hf
  clear hf
  subst h9
  have hf := hg
  clear hg
  refine vg_callVi (ci := 2) X hml hl hH hL fCV_X6_37 rfl [.ref a2] rfl rfl (Nat.le_of_ble_eq_true rfl) dX6_addLetters_12 hf hC hN hRc hRs hfr hlo (by decide) (fun _ _ _ _ h => cJx4a65c_add_9ea2d_met h) (fun x7 μ8 cn nn H locs cells slots hf hC hN hH hL => ?_)
  refine lv_pop hx hb dX6_addLetters_15 rfl ?_
  exact vg_retv X hr hlk hH hL dX6_addLetters_16 hf hC hN
def fX5_readSet_77  (v0 : Nat) (v3 : Int32) (μ : vg_M) : vg_R Unit :=
  vg_o (vg_p μ v0 8 1 (.int v3)) fun μ27 =>
  vg_ret () μ27
set_option maxHeartbeats 4000000 in
set_option maxRecDepth 100000 in
theorem wX5_readSet_77 {p : Program} {l : Launch} {e : Env} {R : Room} {s : State} {m : MethodId} {args : Array Value} {below : List Frame} {meth : Method} {c : Code} {D : va_G} {cy : Nat → ClassId} {H0 : Heap} {C0 N0 : Nat} {r : Unit} {μ' : vg_M} (Z : vg_Z D cy H0 p s m args c cX5_readSet RX5 meth 4 none R 19 C0 N0 "readSet")   (v0 : Nat) (v3 : Int32) (μ : vg_M) : vg_S p l e R s m args below meth c D cy H0 C0 N0 4 (MQ below (vg_Qc D cy H0 μ' none) args s C0 N0 (vg_fr H0)) r μ' (fX5_readSet_77  v0 v3 μ) μ [(0, .ref v0), (3, .int v3)] [] 77 := by
  intro cn nn H locs cells slots ls hf hH hL hC hN hl
  obtain ⟨X, hml, hr, hlk, hfr, hlo, hRc, hRs, hnm⟩ := id Z
  have hx := X.1
  have hb := X.2.1
  delta fX5_readSet_77 at hf
  refine lv_aload_n hx hb dX5_readSet_77 rfl (lv_at hl.1 0 rfl) ?_
  refine lv_iload_n hx hb dX5_readSet_78 rfl (lv_at hl.1 1 rfl) ?_
  refine vg_putV X hH hL fF_X5_9 rfl rfl dX5_readSet_79 hf (fun μ27 H locs hf hH hL => ?_)
  exact vg_retv X hr hlk hH hL dX5_readSet_82 hf hC hN
def fX5_readSet_48  (v0 : Nat) (v1 : Option Nat) (v2 : Int32) (v3 : Int32) (μ : vg_M) : vg_R Unit :=
  if v3 = v2 then (
   fX5_readSet_77  v0 v3 μ
   ) else (
   vg_o (vg_gR μ v0 8 2) fun x11 =>
   vg_o x11 fun a12 =>
   vg_cv 0 a12 μ (fJ0_length_8abf5 a12  μ) fun x13 μ14 =>
   if x13 ≤ v3 then (
    fX5_readSet_77  v0 v3 μ14
    ) else (
    vg_o (vg_gR μ14 v0 8 2) fun x15 =>
    vg_o x15 fun a16 =>
    vg_cv 0 a16 μ14 (fJ0_charAt_5068e a16 v3 μ14) fun x17 μ18 =>
    if x17 = 93 then (
     vg_o (vg_gR μ18 v0 8 2) fun x19 =>
     vg_o x19 fun a20 =>
     vg_cv 0 a20 μ18 (fJ0_substring_37a41 a20 v2 v3 μ18) fun x21 μ22 =>
     vg_o v1 fun a23 =>
     vg_cv 9 a23 μ22 (fX6_addLetters a23 x21 μ22) fun _ μ25 =>
     vg_o (vg_p μ25 v0 8 3 (.int (v3 + 1))) fun μ26 =>
     vg_ret () μ26
     ) else (
     fX5_readSet_77  v0 v3 μ18
     )
    )
   )
set_option maxHeartbeats 4000000 in
set_option maxRecDepth 100000 in
theorem wX5_readSet_48 {p : Program} {l : Launch} {e : Env} {R : Room} {s : State} {m : MethodId} {args : Array Value} {below : List Frame} {meth : Method} {c : Code} {D : va_G} {cy : Nat → ClassId} {H0 : Heap} {C0 N0 : Nat} {r : Unit} {μ' : vg_M} (Z : vg_Z D cy H0 p s m args c cX5_readSet RX5 meth 4 none R 19 C0 N0 "readSet")   (v0 : Nat) (v1 : Option Nat) (v2 : Int32) (v3 : Int32) (μ : vg_M) : vg_S p l e R s m args below meth c D cy H0 C0 N0 4 (MQ below (vg_Qc D cy H0 μ' none) args s C0 N0 (vg_fr H0)) r μ' (fX5_readSet_48  v0 v1 v2 v3 μ) μ [(0, .ref v0), (1, va_rf v1), (2, .int v2), (3, .int v3)] [] 48 := by
  intro cn nn H locs cells slots ls hf hH hL hC hN hl
  obtain ⟨X, hml, hr, hlk, hfr, hlo, hRc, hRs, hnm⟩ := id Z
  have hx := X.1
  have hb := X.2.1
  delta fX5_readSet_48 at hf
  refine lv_iload_n hx hb dX5_readSet_48 rfl (lv_at hl.1 3 rfl) ?_
  refine lv_iload_n hx hb dX5_readSet_49 rfl (lv_at hl.1 2 rfl) ?_
  refine lv_icmp_eq (tgt := 77) hx hb dX5_readSet_50 (by decide) (fun h8 => ?_) (fun h8 => ?_)
  · have hf := vg_ip h8 hf
    exact wX5_readSet_77 Z  v0 v3 μ _ _ _ _ _ _ _ hf hH hL hC hN (hl.sub [0, 3] rfl)
  · have hf := vg_if h8 hf
    refine lv_iload_n hx hb dX5_readSet_53 rfl (lv_at hl.1 3 rfl) ?_
    refine lv_aload_n hx hb dX5_readSet_54 rfl (lv_at hl.1 0 rfl) ?_
    refine vg_getR X hH fF_X5_15 dX5_readSet_55 hf (fun x11 hf => ?_)
    obtain ⟨a12, h9, hg⟩ := vg_o_inv hf
    clear hf
    subst h9
    have hf := hg
    clear hg
    refine vg_callVi (ci := 0) X hml hl hH hL fCV_X5_38 rfl [] rfl rfl (Nat.le_of_ble_eq_true rfl) dX5_readSet_58 hf hC hN hRc hRs hfr hlo (by decide) (fun _ _ _ _ h => cJ0_length_8abf5_met h) (fun x13 μ14 cn nn H locs cells slots hf hC hN hH hL => ?_)
    refine lv_icmp_ge (tgt := 77) hx hb dX5_readSet_61 (by decide) (fun h8 => ?_) (fun h8 => ?_)
    · have hf := vg_ip h8 hf
      exact wX5_readSet_77 Z  v0 v3 μ14 _ _ _ _ _ _ _ hf hH hL hC hN (hl.sub [0, 3] rfl)
    · have hf := vg_if h8 hf
      refine lv_aload_n hx hb dX5_readSet_64 rfl (lv_at hl.1 0 rfl) ?_
      refine vg_getR X hH fF_X5_15 dX5_readSet_65 hf (fun x15 hf => ?_)
      refine lv_iload_n hx hb dX5_readSet_68 rfl (lv_at hl.1 3 rfl) ?_
      obtain ⟨a16, h9, hg⟩ := vg_o_inv hf
      clear hf
      subst h9
      have hf := hg
      clear hg
      refine vg_callVi (ci := 0) X hml hl hH hL fCV_X5_51 rfl [.int v3] rfl rfl (Nat.le_of_ble_eq_true rfl) dX5_readSet_69 hf hC hN hRc hRs hfr hlo (by decide) (fun _ _ _ _ h => cJ0_charAt_5068e_met h) (fun x17 μ18 cn nn H locs cells slots hf hC hN hH hL => ?_)
      refine lv_bipush (v := 93) hx hb dX5_readSet_72 (by decide) ?_
      refine lv_icmp_eq (tgt := 83) hx hb dX5_readSet_74 (by decide) (fun h8 => ?_) (fun h8 => ?_)
      · have hf := vg_ip h8 hf
        refine vg_aload_n hx hb dX5_readSet_83 rfl (lv_at hl.1 1 rfl) ?_
        refine lv_aload_n hx hb dX5_readSet_84 rfl (lv_at hl.1 0 rfl) ?_
        refine vg_getR X hH fF_X5_15 dX5_readSet_85 hf (fun x19 hf => ?_)
        refine lv_iload_n hx hb dX5_readSet_88 rfl (lv_at hl.1 2 rfl) ?_
        refine lv_iload_n hx hb dX5_readSet_89 rfl (lv_at hl.1 3 rfl) ?_
        obtain ⟨a20, h9, hg⟩ := vg_o_inv hf
        clear hf
        subst h9
        have hf := hg
        clear hg
        refine vg_callVr (ci := 0) X hml hl hH hL fCV_X5_77 rfl [.int v2, .int v3] rfl rfl (vg_cs (List.forall_mem_cons.mpr ⟨vg_rfc _, (fun _ h => nomatch h)⟩) (Nat.le_of_ble_eq_true rfl)) dX5_readSet_90 hf hC hN hRc hRs hfr hlo (by decide) (fun _ _ _ _ h => cJ0_substring_37a41_met h) (fun x21 μ22 cn nn H locs cells slots hf hC hN hH hL => ?_)
        obtain ⟨a23, h9, hg⟩ := vg_o_inv hf
        clear hf
        subst h9
        have hf := hg
        clear hg
        refine vg_callVv (ci := 9) X hml hl hH hL fCV_X5_96 rfl [va_rf x21] rfl rfl (Nat.le_of_ble_eq_true rfl) dX5_readSet_93 hf hC hN hRc hRs hfr hlo (by decide) (fun _ _ _ _ h => cX6_addLetters_met h) (fun _ μ25 cn nn H locs cells slots hf hC hN hH hL => ?_)
        refine lv_aload_n hx hb dX5_readSet_96 rfl (lv_at hl.1 0 rfl) ?_
        refine lv_iload_n hx hb dX5_readSet_97 rfl (lv_at hl.1 3 rfl) ?_
        refine lv_iconst (v := 1) hx hb dX5_readSet_98 (by decide) ?_
        refine lv_iadd hx hb dX5_readSet_99 ?_
        refine vg_putV X hH hL fF_X5_35 rfl rfl dX5_readSet_100 hf (fun μ26 H locs hf hH hL => ?_)
        exact vg_retv X hr hlk hH hL dX5_readSet_103 hf hC hN
      · have hf := vg_if h8 hf
        exact wX5_readSet_77 Z  v0 v3 μ18 _ _ _ _ _ _ _ hf hH hL hC hN (hl.sub [0, 3] rfl)
def fX5_readSet_9  : Nat → Nat → Option Nat → Int32 → Int32 → vg_M → vg_R Unit
  | 0, _, _, _, _, _ => none
  | n + 1, v0, v1, v2, v3, μ =>
    vg_o (vg_gR μ v0 8 2) fun x1 =>
    vg_o x1 fun a2 =>
    vg_cv 0 a2 μ (fJ0_length_8abf5 a2  μ) fun x3 μ4 =>
    if x3 ≤ v3 then (
     fX5_readSet_48  v0 v1 v2 v3 μ4
     ) else (
     if 6 ≤ (v3 - v2) then (
      fX5_readSet_48  v0 v1 v2 v3 μ4
      ) else (
      vg_o (vg_gR μ4 v0 8 2) fun x5 =>
      vg_o x5 fun a6 =>
      vg_cv 0 a6 μ4 (fJ0_charAt_5068e a6 v3 μ4) fun x7 μ8 =>
      vg_b (fX10_isLetter x7 μ8) fun x9 μ10 =>
      if x9 = 0 then (
       fX5_readSet_48  v0 v1 v2 v3 μ10
       ) else (
       (fX5_readSet_9  n) v0 v1 v2 (v3 + 1) μ10
       )
      )
     )
set_option maxHeartbeats 4000000 in
set_option maxRecDepth 100000 in
theorem wX5_readSet_9 {p : Program} {l : Launch} {e : Env} {R : Room} {s : State} {m : MethodId} {args : Array Value} {below : List Frame} {meth : Method} {c : Code} {D : va_G} {cy : Nat → ClassId} {H0 : Heap} {C0 N0 : Nat} {r : Unit} {μ' : vg_M} (Z : vg_Z D cy H0 p s m args c cX5_readSet RX5 meth 4 none R 19 C0 N0 "readSet")   : ∀ (n : Nat) (v0 : Nat) (v1 : Option Nat) (v2 : Int32) (v3 : Int32) (μ : vg_M), vg_S p l e R s m args below meth c D cy H0 C0 N0 4 (MQ below (vg_Qc D cy H0 μ' none) args s C0 N0 (vg_fr H0)) r μ' (fX5_readSet_9  n v0 v1 v2 v3 μ) μ [(0, .ref v0), (1, va_rf v1), (2, .int v2), (3, .int v3)] [] 9 := by
  intro n
  induction n with
  | zero =>
    intro v0 v1 v2 v3 μ cn nn H locs cells slots ls hf
    simp [fX5_readSet_9] at hf
  | succ n hk9 =>
    intro v0 v1 v2 v3 μ
    intro cn nn H locs cells slots ls hf hH hL hC hN hl
    obtain ⟨X, hml, hr, hlk, hfr, hlo, hRc, hRs, hnm⟩ := id Z
    have hx := X.1
    have hb := X.2.1
    rw [fX5_readSet_9] at hf
    refine lv_iload_n hx hb dX5_readSet_9 rfl (lv_at hl.1 3 rfl) ?_
    refine lv_aload_n hx hb dX5_readSet_10 rfl (lv_at hl.1 0 rfl) ?_
    refine vg_getR X hH fF_X5_15 dX5_readSet_11 hf (fun x1 hf => ?_)
    obtain ⟨a2, h9, hg⟩ := vg_o_inv hf
    clear hf
    subst h9
    have hf := hg
    clear hg
    refine vg_callVi (ci := 0) X hml hl hH hL fCV_X5_38 rfl [] rfl rfl (Nat.le_of_ble_eq_true rfl) dX5_readSet_14 hf hC hN hRc hRs hfr hlo (by decide) (fun _ _ _ _ h => cJ0_length_8abf5_met h) (fun x3 μ4 cn nn H locs cells slots hf hC hN hH hL => ?_)
    refine lv_icmp_ge (tgt := 48) hx hb dX5_readSet_17 (by decide) (fun h8 => ?_) (fun h8 => ?_)
    · have hf := vg_ip h8 hf
      exact wX5_readSet_48 Z  v0 v1 v2 v3 μ4 _ _ _ _ _ _ _ hf hH hL hC hN (hl.sub [0, 1, 2, 3] rfl)
    · have hf := vg_if h8 hf
      refine lv_iload_n hx hb dX5_readSet_20 rfl (lv_at hl.1 3 rfl) ?_
      refine lv_iload_n hx hb dX5_readSet_21 rfl (lv_at hl.1 2 rfl) ?_
      refine lv_isub hx hb dX5_readSet_22 ?_
      refine lv_bipush (v := 6) hx hb dX5_readSet_23 (by decide) ?_
      refine lv_icmp_ge (tgt := 48) hx hb dX5_readSet_25 (by decide) (fun h8 => ?_) (fun h8 => ?_)
      · have hf := vg_ip h8 hf
        exact wX5_readSet_48 Z  v0 v1 v2 v3 μ4 _ _ _ _ _ _ _ hf hH hL hC hN (hl.sub [0, 1, 2, 3] rfl)
      · have hf := vg_if h8 hf
        refine lv_aload_n hx hb dX5_readSet_28 rfl (lv_at hl.1 0 rfl) ?_
        refine vg_getR X hH fF_X5_15 dX5_readSet_29 hf (fun x5 hf => ?_)
        refine lv_iload_n hx hb dX5_readSet_32 rfl (lv_at hl.1 3 rfl) ?_
        obtain ⟨a6, h9, hg⟩ := vg_o_inv hf
        clear hf
        subst h9
        have hf := hg
        clear hg
        refine vg_callVi (ci := 0) X hml hl hH hL fCV_X5_51 rfl [.int v3] rfl rfl (Nat.le_of_ble_eq_true rfl) dX5_readSet_33 hf hC hN hRc hRs hfr hlo (by decide) (fun _ _ _ _ h => cJ0_charAt_5068e_met h) (fun x7 μ8 cn nn H locs cells slots hf hC hN hH hL => ?_)
        refine vg_callSNi X hml hl hH hL fCSN_X5_92 [.int x7] rfl rfl (Nat.le_of_ble_eq_true rfl) dX5_readSet_36 hf hC hN hRc hRs hfr hlo (by decide) (fun _ _ _ _ h => cX10_isLetter_met h) (fun x9 μ10 cn nn H locs cells slots hf hC hN hH hL => ?_)
        refine lv_if_eq (tgt := 48) hx hb dX5_readSet_39 (by decide) (fun h8 => ?_) (fun h8 => ?_)
        · have hf := vg_ip h8 hf
          exact wX5_readSet_48 Z  v0 v1 v2 v3 μ10 _ _ _ _ _ _ _ hf hH hL hC hN (hl.sub [0, 1, 2, 3] rfl)
        · have hf := vg_if h8 hf
          refine vg_iinc (v := v3 + 1) (lv' := [(3, .int (v3 + 1)), (0, .ref v0), (1, va_rf v1), (2, .int v2)]) hx hb dX5_readSet_42 hl (k := 3) rfl rfl (by decide) rfl (fun ls hl => ?_)
          refine lv_goto (tgt := 9) hx hb dX5_readSet_45 (by decide) ?_
          exact hk9 v0 v1 v2 (v3 + 1) μ10 _ _ _ _ _ _ _ hf hH hL hC hN (hl.sub [1, 2, 3, 0] rfl)
def fX5_readSet (v0 : Nat) (v1 : Option Nat) (μ : vg_M) : vg_R Unit :=
  vg_o (vg_gI μ v0 8 3) fun x28 =>
  fX5_readSet_9  vg_fuel v0 v1 (x28 + 1) (x28 + 1) μ
set_option maxHeartbeats 4000000 in
set_option maxRecDepth 100000 in
theorem cX5_readSet_met {l : Launch} {D : va_G} {cy : Nat → ClassId} {H0 : Heap} {r : Unit} {μ μ' : vg_M} {cn nn : Nat} {v0 : Nat} {v1 : Option Nat} (hf : fX5_readSet v0 v1 μ = some (r, μ', cn, nn)) : vg_Met l D cy H0 yX5_readSet cX5_readSet 4 none 19 μ [.ref v0, va_rf v1] none μ' cn nn := by
  refine vg_start (by decide +kernel) (List.forall_mem_cons.mpr ⟨rfl, (List.forall_mem_cons.mpr ⟨vg_rfc _, (fun _ h => nomatch h)⟩)⟩) (Nat.le_of_ble_eq_true rfl) ?_
  intro p e s m below meth c ls X hml hr hlk hnm hH hl
  have hl : vg_l ls 4 [(0, .ref v0), (1, va_rf v1)] := hl
  have Z : vg_Z D cy H0 p s m _ c cX5_readSet RX5 meth 4 none (vg_rm 19 cn nn) 19 cn nn _ := ⟨X, hml, hr, hlk, Nat.le_refl _, Nat.le_refl _, Nat.le_refl _, Nat.le_refl _, hnm⟩
  obtain ⟨-, -, -, -, hfr, hlo, hRc, hRs, -⟩ := id Z
  have hx := X.1
  have hb := X.2.1
  have hL : ∀ z ∈ ([] : List Loc), H0.size ≤ z.base := fun _ h => nomatch h
  have hC : 0 + cn = cn := Nat.zero_add _
  have hN : 0 + nn = nn := Nat.zero_add _
  delta fX5_readSet at hf
  refine lv_aload_n hx hb dX5_readSet_0 rfl (lv_at hl.1 0 rfl) ?_
  refine vg_getI X hH fF_X5_35 dX5_readSet_1 hf (fun x28 hf => ?_)
  refine lv_iconst (v := 1) hx hb dX5_readSet_4 (by decide) ?_
  refine lv_iadd hx hb dX5_readSet_5 ?_
  refine vg_istore_n (lv' := [(2, .int (x28 + 1)), (0, .ref v0), (1, va_rf v1)]) hx hb dX5_readSet_6 rfl hl (by decide) rfl (fun ls hl => ?_)
  refine lv_iload_n hx hb dX5_readSet_7 rfl (lv_at hl.1 0 rfl) ?_
  refine vg_istore_n (lv' := [(3, .int (x28 + 1)), (2, .int (x28 + 1)), (0, .ref v0), (1, va_rf v1)]) hx hb dX5_readSet_8 rfl hl (by decide) rfl (fun ls hl => ?_)
  exact wX5_readSet_9 Z  vg_fuel v0 v1 (x28 + 1) (x28 + 1) μ _ _ _ _ _ _ _ hf hH hL hC hN (hl.sub [2, 3, 1, 0] rfl)
def fX6_addStar (v0 : Nat) (μ : vg_M) : vg_R Unit :=
  vg_o (vg_gI μ v0 9 2) fun x1 =>
  vg_o (vg_gR μ v0 9 1) fun x2 =>
  vg_o x2 fun a3 =>
  vg_cv 2 a3 μ (fJx4a65c_size_8abf5 a3  μ) fun x4 μ5 =>
  vg_o (vg_p μ5 v0 9 2 (.int (x1 ||| (1 <<< (x4 &&& 31))))) fun μ6 =>
  vg_o (vg_gR μ6 v0 9 1) fun x7 =>
  vg_nw 1 μ6.2.1 (vg_nO μ6 5 [.null]) fun a8 μ9 =>
  vg_k μ9 17 fun a10 =>
  vg_b (fX2_init a8 (some a10) μ9) fun _ μ12 =>
  vg_o x7 fun a13 =>
  vg_cv 2 a13 μ12 (fJx4a65c_add_9ea2d a13 (some a8) μ12) fun x14 μ15 =>
  vg_ret () μ15
set_option maxHeartbeats 4000000 in
set_option maxRecDepth 100000 in
theorem cX6_addStar_met {l : Launch} {D : va_G} {cy : Nat → ClassId} {H0 : Heap} {r : Unit} {μ μ' : vg_M} {cn nn : Nat} {v0 : Nat} (hf : fX6_addStar v0 μ = some (r, μ', cn, nn)) : vg_Met l D cy H0 yX6_addStar cX6_addStar 1 none 18 μ [.ref v0] none μ' cn nn := by
  refine vg_start (by decide +kernel) (List.forall_mem_cons.mpr ⟨rfl, (fun _ h => nomatch h)⟩) (Nat.le_of_ble_eq_true rfl) ?_
  intro p e s m below meth c ls X hml hr hlk hnm hH hl
  have hl : vg_l ls 1 [(0, .ref v0)] := hl
  have Z : vg_Z D cy H0 p s m _ c cX6_addStar RX6 meth 1 none (vg_rm 18 cn nn) 18 cn nn _ := ⟨X, hml, hr, hlk, Nat.le_refl _, Nat.le_refl _, Nat.le_refl _, Nat.le_refl _, hnm⟩
  obtain ⟨-, -, -, -, hfr, hlo, hRc, hRs, -⟩ := id Z
  have hx := X.1
  have hb := X.2.1
  have hL : ∀ z ∈ ([] : List Loc), H0.size ≤ z.base := fun _ h => nomatch h
  have hC : 0 + cn = cn := Nat.zero_add _
  have hN : 0 + nn = nn := Nat.zero_add _
  delta fX6_addStar at hf
  refine lv_aload_n hx hb dX6_addStar_0 rfl (lv_at hl.1 0 rfl) ?_
  refine lv_dup hx hb dX6_addStar_1 rfl ?_
  refine vg_getI X hH fF_X6_26 dX6_addStar_2 hf (fun x1 hf => ?_)
  refine lv_iconst (v := 1) hx hb dX6_addStar_5 (by decide) ?_
  refine lv_aload_n hx hb dX6_addStar_6 rfl (lv_at hl.1 0 rfl) ?_
  refine vg_getR X hH fF_X6_12 dX6_addStar_7 hf (fun x2 hf => ?_)
  obtain ⟨a3, h9, hg⟩ := vg_o_inv hf
  clear hf
  subst h9
  have hf := hg
  clear hg
  refine vg_callVi (ci := 2) X hml hl hH hL fCV_X6_22 rfl [] rfl rfl (Nat.le_of_ble_eq_true rfl) dX6_addStar_10 hf hC hN hRc hRs hfr hlo (by decide) (fun _ _ _ _ h => cJx4a65c_size_8abf5_met h) (fun x4 μ5 cn nn H locs cells slots hf hC hN hH hL => ?_)
  refine lv_ishl hx hb dX6_addStar_13 ?_
  refine lv_ior hx hb dX6_addStar_14 ?_
  refine vg_putV X hH hL fF_X6_26 rfl rfl dX6_addStar_15 hf (fun μ6 H locs hf hH hL => ?_)
  refine lv_aload_n hx hb dX6_addStar_18 rfl (lv_at hl.1 0 rfl) ?_
  refine vg_getR X hH fF_X6_12 dX6_addStar_19 hf (fun x7 hf => ?_)
  refine vg_new X hH fN_X6_30 dX6_addStar_22 hf hC hN hRc hRs (fun a8 μ9 cn nn H hf hC hN hH => ?_)
  refine lv_dup hx hb dX6_addStar_25 rfl ?_
  refine vg_ldcS X hH (show (RX6, 32, "", 17) ∈ vg_lits from List.mem_of_getElem? (i := 17) (by decide +kernel)) dX6_addStar_26 hf (fun a10 hf => ?_)
  refine vg_callIv X hml hl hH hL fCI_X6_34 [.ref a10] rfl rfl (vg_cs (List.forall_mem_cons.mpr ⟨rfl, (List.forall_mem_cons.mpr ⟨vg_rfc _, (fun _ h => nomatch h)⟩)⟩) (Nat.le_of_ble_eq_true rfl)) dX6_addStar_28 hf hC hN hRc hRs hfr hlo (by decide) (fun _ _ _ _ h => cX2_init_met h) (fun _ μ12 cn nn H locs cells slots hf hC hN hH hL => ?_)
  obtain ⟨a13, h9, hg⟩ := vg_o_inv hf
  clear hf
  subst h9
  have hf := hg
  clear hg
  refine vg_callVi (ci := 2) X hml hl hH hL fCV_X6_37 rfl [.ref a8] rfl rfl (Nat.le_of_ble_eq_true rfl) dX6_addStar_31 hf hC hN hRc hRs hfr hlo (by decide) (fun _ _ _ _ h => cJx4a65c_add_9ea2d_met h) (fun x14 μ15 cn nn H locs cells slots hf hC hN hH hL => ?_)
  refine lv_pop hx hb dX6_addStar_34 rfl ?_
  exact vg_retv X hr hlk hH hL dX6_addStar_35 hf hC hN
def fX6_isFull_17  (k0 : Int32) (μ : vg_M) : vg_R Int32 :=
  vg_o (vg_z .boolean k0) fun z => vg_ret z μ
set_option maxHeartbeats 4000000 in
set_option maxRecDepth 100000 in
theorem wX6_isFull_17 {p : Program} {l : Launch} {e : Env} {R : Room} {s : State} {m : MethodId} {args : Array Value} {below : List Frame} {meth : Method} {c : Code} {D : va_G} {cy : Nat → ClassId} {H0 : Heap} {C0 N0 : Nat} {r : Int32} {μ' : vg_M} (Z : vg_Z D cy H0 p s m args c cX6_isFull RX6 meth 1 (some .boolean) R 13 C0 N0 "isFull")   (k0 : Int32) (μ : vg_M) : vg_S p l e R s m args below meth c D cy H0 C0 N0 1 (MQ below (vg_Qc D cy H0 μ' (some (.int r))) args s C0 N0 (vg_fr H0)) r μ' (fX6_isFull_17  k0 μ) μ [] [.int k0] 17 := by
  intro cn nn H locs cells slots ls hf hH hL hC hN hl
  obtain ⟨X, hml, hr, hlk, hfr, hlo, hRc, hRs, hnm⟩ := id Z
  have hx := X.1
  have hb := X.2.1
  delta fX6_isFull_17 at hf
  exact vg_retz X (by simp) hr hlk hH hL dX6_isFull_17 hf hC hN
def fX6_isFull (v0 : Nat) (μ : vg_M) : vg_R Int32 :=
  vg_o (vg_gR μ v0 9 1) fun x1 =>
  vg_o x1 fun a2 =>
  vg_cv 2 a2 μ (fJx4a65c_size_8abf5 a2  μ) fun x3 μ4 =>
  if x3 < 8 then (
   fX6_isFull_17  0 μ4
   ) else (
   fX6_isFull_17  1 μ4
   )
set_option maxHeartbeats 4000000 in
set_option maxRecDepth 100000 in
theorem cX6_isFull_met {l : Launch} {D : va_G} {cy : Nat → ClassId} {H0 : Heap} {r : Int32} {μ μ' : vg_M} {cn nn : Nat} {v0 : Nat} (hf : fX6_isFull v0 μ = some (r, μ', cn, nn)) : vg_Met l D cy H0 yX6_isFull cX6_isFull 1 (some .boolean) 13 μ [.ref v0] (some (.int r)) μ' cn nn := by
  refine vg_start (by decide +kernel) (List.forall_mem_cons.mpr ⟨rfl, (fun _ h => nomatch h)⟩) (Nat.le_of_ble_eq_true rfl) ?_
  intro p e s m below meth c ls X hml hr hlk hnm hH hl
  have hl : vg_l ls 1 [(0, .ref v0)] := hl
  have Z : vg_Z D cy H0 p s m _ c cX6_isFull RX6 meth 1 (some .boolean) (vg_rm 13 cn nn) 13 cn nn _ := ⟨X, hml, hr, hlk, Nat.le_refl _, Nat.le_refl _, Nat.le_refl _, Nat.le_refl _, hnm⟩
  obtain ⟨-, -, -, -, hfr, hlo, hRc, hRs, -⟩ := id Z
  have hx := X.1
  have hb := X.2.1
  have hL : ∀ z ∈ ([] : List Loc), H0.size ≤ z.base := fun _ h => nomatch h
  have hC : 0 + cn = cn := Nat.zero_add _
  have hN : 0 + nn = nn := Nat.zero_add _
  delta fX6_isFull at hf
  refine lv_aload_n hx hb dX6_isFull_0 rfl (lv_at hl.1 0 rfl) ?_
  refine vg_getR X hH fF_X6_12 dX6_isFull_1 hf (fun x1 hf => ?_)
  obtain ⟨a2, h9, hg⟩ := vg_o_inv hf
  clear hf
  subst h9
  have hf := hg
  clear hg
  refine vg_callVi (ci := 2) X hml hl hH hL fCV_X6_22 rfl [] rfl rfl (Nat.le_of_ble_eq_true rfl) dX6_isFull_4 hf hC hN hRc hRs hfr hlo (by decide) (fun _ _ _ _ h => cJx4a65c_size_8abf5_met h) (fun x3 μ4 cn nn H locs cells slots hf hC hN hH hL => ?_)
  refine lv_bipush (v := 8) hx hb dX6_isFull_7 (by decide) ?_
  refine lv_icmp_lt (tgt := 16) hx hb dX6_isFull_9 (by decide) (fun h8 => ?_) (fun h8 => ?_)
  · have hf := vg_ip h8 hf
    refine lv_iconst (v := 0) hx hb dX6_isFull_16 (by decide) ?_
    exact wX6_isFull_17 Z  0 μ4 _ _ _ _ _ _ _ hf hH hL hC hN (hl.sub [] rfl)
  · have hf := vg_if h8 hf
    refine lv_iconst (v := 1) hx hb dX6_isFull_12 (by decide) ?_
    refine lv_goto (tgt := 17) hx hb dX6_isFull_13 (by decide) ?_
    exact wX6_isFull_17 Z  1 μ4 _ _ _ _ _ _ _ hf hH hL hC hN (hl.sub [] rfl)
def fX5_readPart_116   (μ : vg_M) : vg_R Unit :=
  vg_ret () μ
set_option maxHeartbeats 4000000 in
set_option maxRecDepth 100000 in
theorem wX5_readPart_116 {p : Program} {l : Launch} {e : Env} {R : Room} {s : State} {m : MethodId} {args : Array Value} {below : List Frame} {meth : Method} {c : Code} {D : va_G} {cy : Nat → ClassId} {H0 : Heap} {C0 N0 : Nat} {r : Unit} {μ' : vg_M} (Z : vg_Z D cy H0 p s m args c cX5_readPart RX5 meth 3 none R 20 C0 N0 "readPart")    (μ : vg_M) : vg_S p l e R s m args below meth c D cy H0 C0 N0 3 (MQ below (vg_Qc D cy H0 μ' none) args s C0 N0 (vg_fr H0)) r μ' (fX5_readPart_116   μ) μ [] [] 116 := by
  intro cn nn H locs cells slots ls hf hH hL hC hN hl
  obtain ⟨X, hml, hr, hlk, hfr, hlo, hRc, hRs, hnm⟩ := id Z
  have hx := X.1
  have hb := X.2.1
  delta fX5_readPart_116 at hf
  exact vg_retv X hr hlk hH hL dX5_readPart_116 hf hC hN
def fX5_readPart (v0 : Nat) (v1 : Option Nat) (μ : vg_M) : vg_R Unit :=
  vg_o (vg_gR μ v0 8 2) fun x1 =>
  vg_o (vg_gI μ v0 8 3) fun x2 =>
  vg_o x1 fun a3 =>
  vg_cv 0 a3 μ (fJ0_charAt_5068e a3 x2 μ) fun x4 μ5 =>
  vg_o v1 fun a6 =>
  vg_cv 9 a6 μ5 (fX6_isFull a6  μ5) fun x7 μ8 =>
  if x7 = 0 then (
   if x4 = 91 then (
    vg_cv 8 v0 μ8 (fX5_readSet v0 (some a6) μ8) fun _ μ28 =>
    fX5_readPart_116   μ28
    ) else (
    if x4 = 42 then (
     vg_cv 9 a6 μ8 (fX6_addStar a6  μ8) fun _ μ24 =>
     vg_o (vg_gI μ24 v0 8 3) fun x25 =>
     vg_o (vg_p μ24 v0 8 3 (.int (x25 + 1))) fun μ26 =>
     fX5_readPart_116   μ26
     ) else (
     vg_b (fX10_isLetter x4 μ8) fun x9 μ10 =>
     if x9 = 0 then (
      vg_o (vg_gI μ10 v0 8 3) fun x11 =>
      vg_o (vg_p μ10 v0 8 1 (.int x11)) fun μ12 =>
      fX5_readPart_116   μ12
      ) else (
      vg_o (vg_gR μ10 v0 8 2) fun x13 =>
      vg_o (vg_gI μ10 v0 8 3) fun x14 =>
      vg_o (vg_gI μ10 v0 8 3) fun x15 =>
      vg_o x13 fun a16 =>
      vg_cv 0 a16 μ10 (fJ0_substring_37a41 a16 x14 (x15 + 1) μ10) fun x17 μ18 =>
      vg_cv 9 a6 μ18 (fX6_addLetters a6 x17 μ18) fun _ μ20 =>
      vg_o (vg_gI μ20 v0 8 3) fun x21 =>
      vg_o (vg_p μ20 v0 8 3 (.int (x21 + 1))) fun μ22 =>
      fX5_readPart_116   μ22
      )
     )
    )
   ) else (
   vg_o (vg_gI μ8 v0 8 3) fun x29 =>
   vg_o (vg_p μ8 v0 8 1 (.int x29)) fun μ30 =>
   fX5_readPart_116   μ30
   )
set_option maxHeartbeats 4000000 in
set_option maxRecDepth 100000 in
theorem cX5_readPart_met {l : Launch} {D : va_G} {cy : Nat → ClassId} {H0 : Heap} {r : Unit} {μ μ' : vg_M} {cn nn : Nat} {v0 : Nat} {v1 : Option Nat} (hf : fX5_readPart v0 v1 μ = some (r, μ', cn, nn)) : vg_Met l D cy H0 yX5_readPart cX5_readPart 3 none 20 μ [.ref v0, va_rf v1] none μ' cn nn := by
  refine vg_start (by decide +kernel) (List.forall_mem_cons.mpr ⟨rfl, (List.forall_mem_cons.mpr ⟨vg_rfc _, (fun _ h => nomatch h)⟩)⟩) (Nat.le_of_ble_eq_true rfl) ?_
  intro p e s m below meth c ls X hml hr hlk hnm hH hl
  have hl : vg_l ls 3 [(0, .ref v0), (1, va_rf v1)] := hl
  have Z : vg_Z D cy H0 p s m _ c cX5_readPart RX5 meth 3 none (vg_rm 20 cn nn) 20 cn nn _ := ⟨X, hml, hr, hlk, Nat.le_refl _, Nat.le_refl _, Nat.le_refl _, Nat.le_refl _, hnm⟩
  obtain ⟨-, -, -, -, hfr, hlo, hRc, hRs, -⟩ := id Z
  have hx := X.1
  have hb := X.2.1
  have hL : ∀ z ∈ ([] : List Loc), H0.size ≤ z.base := fun _ h => nomatch h
  have hC : 0 + cn = cn := Nat.zero_add _
  have hN : 0 + nn = nn := Nat.zero_add _
  delta fX5_readPart at hf
  refine lv_aload_n hx hb dX5_readPart_0 rfl (lv_at hl.1 0 rfl) ?_
  refine vg_getR X hH fF_X5_15 dX5_readPart_1 hf (fun x1 hf => ?_)
  refine lv_aload_n hx hb dX5_readPart_4 rfl (lv_at hl.1 0 rfl) ?_
  refine vg_getI X hH fF_X5_35 dX5_readPart_5 hf (fun x2 hf => ?_)
  obtain ⟨a3, h9, hg⟩ := vg_o_inv hf
  clear hf
  subst h9
  have hf := hg
  clear hg
  refine vg_callVi (ci := 0) X hml hl hH hL fCV_X5_51 rfl [.int x2] rfl rfl (Nat.le_of_ble_eq_true rfl) dX5_readPart_8 hf hC hN hRc hRs hfr hlo (by decide) (fun _ _ _ _ h => cJ0_charAt_5068e_met h) (fun x4 μ5 cn nn H locs cells slots hf hC hN hH hL => ?_)
  refine vg_istore_n (lv' := [(2, .int x4), (0, .ref v0), (1, va_rf v1)]) hx hb dX5_readPart_11 rfl hl (by decide) rfl (fun ls hl => ?_)
  refine vg_aload_n hx hb dX5_readPart_12 rfl (lv_at hl.1 2 rfl) ?_
  obtain ⟨a6, h9, hg⟩ := vg_o_inv hf
  clear hf
  subst h9
  have hf := hg
  clear hg
  refine vg_callVi (ci := 9) X hml hl hH hL fCV_X5_85 rfl [] rfl rfl (Nat.le_of_ble_eq_true rfl) dX5_readPart_13 hf hC hN hRc hRs hfr hlo (by decide) (fun _ _ _ _ h => cX6_isFull_met h) (fun x7 μ8 cn nn H locs cells slots hf hC hN hH hL => ?_)
  refine lv_if_eq (tgt := 30) hx hb dX5_readPart_16 (by decide) (fun h8 => ?_) (fun h8 => ?_)
  · have hf := vg_ip h8 hf
    refine lv_iload_n hx hb dX5_readPart_30 rfl (lv_at hl.1 0 rfl) ?_
    refine lv_bipush (v := 91) hx hb dX5_readPart_31 (by decide) ?_
    refine lv_icmp_ne (tgt := 44) hx hb dX5_readPart_33 (by decide) (fun h8 => ?_) (fun h8 => ?_)
    · have hf := vg_if h8 hf
      refine lv_iload_n hx hb dX5_readPart_44 rfl (lv_at hl.1 0 rfl) ?_
      refine lv_bipush (v := 42) hx hb dX5_readPart_45 (by decide) ?_
      refine lv_icmp_ne (tgt := 67) hx hb dX5_readPart_47 (by decide) (fun h8 => ?_) (fun h8 => ?_)
      · have hf := vg_if h8 hf
        refine lv_iload_n hx hb dX5_readPart_67 rfl (lv_at hl.1 0 rfl) ?_
        refine vg_callSNi X hml hl hH hL fCSN_X5_92 [.int x4] rfl rfl (Nat.le_of_ble_eq_true rfl) dX5_readPart_68 hf hC hN hRc hRs hfr hlo (by decide) (fun _ _ _ _ h => cX10_isLetter_met h) (fun x9 μ10 cn nn H locs cells slots hf hC hN hH hL => ?_)
        refine lv_if_eq (tgt := 108) hx hb dX5_readPart_71 (by decide) (fun h8 => ?_) (fun h8 => ?_)
        · have hf := vg_ip h8 hf
          refine lv_aload_n hx hb dX5_readPart_108 rfl (lv_at hl.1 1 rfl) ?_
          refine lv_aload_n hx hb dX5_readPart_109 rfl (lv_at hl.1 1 rfl) ?_
          refine vg_getI X hH fF_X5_35 dX5_readPart_110 hf (fun x11 hf => ?_)
          refine vg_putV X hH hL fF_X5_9 rfl rfl dX5_readPart_113 hf (fun μ12 H locs hf hH hL => ?_)
          exact wX5_readPart_116 Z   μ12 _ _ _ _ _ _ _ hf hH hL hC hN (hl.sub [] rfl)
        · have hf := vg_if h8 hf
          refine lv_aload_n hx hb dX5_readPart_74 rfl (lv_at hl.1 2 rfl) ?_
          refine lv_aload_n hx hb dX5_readPart_75 rfl (lv_at hl.1 1 rfl) ?_
          refine vg_getR X hH fF_X5_15 dX5_readPart_76 hf (fun x13 hf => ?_)
          refine lv_aload_n hx hb dX5_readPart_79 rfl (lv_at hl.1 1 rfl) ?_
          refine vg_getI X hH fF_X5_35 dX5_readPart_80 hf (fun x14 hf => ?_)
          refine lv_aload_n hx hb dX5_readPart_83 rfl (lv_at hl.1 1 rfl) ?_
          refine vg_getI X hH fF_X5_35 dX5_readPart_84 hf (fun x15 hf => ?_)
          refine lv_iconst (v := 1) hx hb dX5_readPart_87 (by decide) ?_
          refine lv_iadd hx hb dX5_readPart_88 ?_
          obtain ⟨a16, h9, hg⟩ := vg_o_inv hf
          clear hf
          subst h9
          have hf := hg
          clear hg
          refine vg_callVr (ci := 0) X hml hl hH hL fCV_X5_77 rfl [.int x14, .int (x15 + 1)] rfl rfl (Nat.le_of_ble_eq_true rfl) dX5_readPart_89 hf hC hN hRc hRs hfr hlo (by decide) (fun _ _ _ _ h => cJ0_substring_37a41_met h) (fun x17 μ18 cn nn H locs cells slots hf hC hN hH hL => ?_)
          refine vg_callVv (ci := 9) X hml hl hH hL fCV_X5_96 rfl [va_rf x17] rfl rfl (Nat.le_of_ble_eq_true rfl) dX5_readPart_92 hf hC hN hRc hRs hfr hlo (by decide) (fun _ _ _ _ h => cX6_addLetters_met h) (fun _ μ20 cn nn H locs cells slots hf hC hN hH hL => ?_)
          refine lv_aload_n hx hb dX5_readPart_95 rfl (lv_at hl.1 1 rfl) ?_
          refine lv_dup hx hb dX5_readPart_96 rfl ?_
          refine vg_getI X hH fF_X5_35 dX5_readPart_97 hf (fun x21 hf => ?_)
          refine lv_iconst (v := 1) hx hb dX5_readPart_100 (by decide) ?_
          refine lv_iadd hx hb dX5_readPart_101 ?_
          refine vg_putV X hH hL fF_X5_35 rfl rfl dX5_readPart_102 hf (fun μ22 H locs hf hH hL => ?_)
          refine lv_goto (tgt := 116) hx hb dX5_readPart_105 (by decide) ?_
          exact wX5_readPart_116 Z   μ22 _ _ _ _ _ _ _ hf hH hL hC hN (hl.sub [] rfl)
      · have hf := vg_ip h8 hf
        refine lv_aload_n hx hb dX5_readPart_50 rfl (lv_at hl.1 2 rfl) ?_
        refine vg_callVv (ci := 9) X hml hl hH hL fCV_X5_89 rfl [] rfl rfl (Nat.le_of_ble_eq_true rfl) dX5_readPart_51 hf hC hN hRc hRs hfr hlo (by decide) (fun _ _ _ _ h => cX6_addStar_met h) (fun _ μ24 cn nn H locs cells slots hf hC hN hH hL => ?_)
        refine lv_aload_n hx hb dX5_readPart_54 rfl (lv_at hl.1 1 rfl) ?_
        refine lv_dup hx hb dX5_readPart_55 rfl ?_
        refine vg_getI X hH fF_X5_35 dX5_readPart_56 hf (fun x25 hf => ?_)
        refine lv_iconst (v := 1) hx hb dX5_readPart_59 (by decide) ?_
        refine lv_iadd hx hb dX5_readPart_60 ?_
        refine vg_putV X hH hL fF_X5_35 rfl rfl dX5_readPart_61 hf (fun μ26 H locs hf hH hL => ?_)
        refine lv_goto (tgt := 116) hx hb dX5_readPart_64 (by decide) ?_
        exact wX5_readPart_116 Z   μ26 _ _ _ _ _ _ _ hf hH hL hC hN (hl.sub [] rfl)
    · have hf := vg_ip h8 hf
      refine lv_aload_n hx hb dX5_readPart_36 rfl (lv_at hl.1 1 rfl) ?_
      refine lv_aload_n hx hb dX5_readPart_37 rfl (lv_at hl.1 2 rfl) ?_
      refine vg_callVv (ci := 8) X hml hl hH hL fCV_X5_86 rfl [.ref a6] rfl rfl (Nat.le_of_ble_eq_true rfl) dX5_readPart_38 hf hC hN hRc hRs hfr hlo (by decide) (fun _ _ _ _ h => cX5_readSet_met h) (fun _ μ28 cn nn H locs cells slots hf hC hN hH hL => ?_)
      refine lv_goto (tgt := 116) hx hb dX5_readPart_41 (by decide) ?_
      exact wX5_readPart_116 Z   μ28 _ _ _ _ _ _ _ hf hH hL hC hN (hl.sub [] rfl)
  · have hf := vg_if h8 hf
    refine lv_aload_n hx hb dX5_readPart_19 rfl (lv_at hl.1 1 rfl) ?_
    refine lv_aload_n hx hb dX5_readPart_20 rfl (lv_at hl.1 1 rfl) ?_
    refine vg_getI X hH fF_X5_35 dX5_readPart_21 hf (fun x29 hf => ?_)
    refine vg_putV X hH hL fF_X5_9 rfl rfl dX5_readPart_24 hf (fun μ30 H locs hf hH hL => ?_)
    refine lv_goto (tgt := 116) hx hb dX5_readPart_27 (by decide) ?_
    exact wX5_readPart_116 Z   μ30 _ _ _ _ _ _ _ hf hH hL hC hN (hl.sub [] rfl)
def fX5_readPlainPiece_88  (v0 : Nat) (v1 : Option Nat) (μ : vg_M) : vg_R Unit :=
  vg_o (vg_gR μ v0 8 0) fun x16 =>
  vg_o x16 fun a17 =>
  vg_cv 7 a17 μ (fX4_add a17 v1 μ) fun _ μ19 =>
  vg_ret () μ19
set_option maxHeartbeats 4000000 in
set_option maxRecDepth 100000 in
theorem wX5_readPlainPiece_88 {p : Program} {l : Launch} {e : Env} {R : Room} {s : State} {m : MethodId} {args : Array Value} {below : List Frame} {meth : Method} {c : Code} {D : va_G} {cy : Nat → ClassId} {H0 : Heap} {C0 N0 : Nat} {r : Unit} {μ' : vg_M} (Z : vg_Z D cy H0 p s m args c cX5_readPlainPiece RX5 meth 4 none R 21 C0 N0 "readPlainPiece")   (v0 : Nat) (v1 : Option Nat) (μ : vg_M) : vg_S p l e R s m args below meth c D cy H0 C0 N0 4 (MQ below (vg_Qc D cy H0 μ' none) args s C0 N0 (vg_fr H0)) r μ' (fX5_readPlainPiece_88  v0 v1 μ) μ [(0, .ref v0), (1, va_rf v1)] [] 88 := by
  intro cn nn H locs cells slots ls hf hH hL hC hN hl
  obtain ⟨X, hml, hr, hlk, hfr, hlo, hRc, hRs, hnm⟩ := id Z
  have hx := X.1
  have hb := X.2.1
  delta fX5_readPlainPiece_88 at hf
  refine lv_aload_n hx hb dX5_readPlainPiece_88 rfl (lv_at hl.1 0 rfl) ?_
  refine vg_getR X hH fF_X5_24 dX5_readPlainPiece_89 hf (fun x16 hf => ?_)
  refine vg_aload_n hx hb dX5_readPlainPiece_92 rfl (lv_at hl.1 1 rfl) ?_
  obtain ⟨a17, h9, hg⟩ := vg_o_inv hf
  clear hf
  subst h9
  have hf := hg
  clear hg
  refine vg_callVv (ci := 7) X hml hl hH hL fCV_X5_67 rfl [va_rf v1] rfl rfl (Nat.le_of_ble_eq_true rfl) dX5_readPlainPiece_93 hf hC hN hRc hRs hfr hlo (by decide) (fun _ _ _ _ h => cX4_add_met h) (fun _ μ19 cn nn H locs cells slots hf hC hN hH hL => ?_)
  exact vg_retv X hr hlk hH hL dX5_readPlainPiece_96 hf hC hN
def fX5_readPlainPiece_83  (v0 : Nat) (v1 : Option Nat) (v2 : Int32) (μ : vg_M) : vg_R Unit :=
  vg_o (vg_p μ v0 8 1 (.int v2)) fun μ15 =>
  fX5_readPlainPiece_88  v0 v1 μ15
set_option maxHeartbeats 4000000 in
set_option maxRecDepth 100000 in
theorem wX5_readPlainPiece_83 {p : Program} {l : Launch} {e : Env} {R : Room} {s : State} {m : MethodId} {args : Array Value} {below : List Frame} {meth : Method} {c : Code} {D : va_G} {cy : Nat → ClassId} {H0 : Heap} {C0 N0 : Nat} {r : Unit} {μ' : vg_M} (Z : vg_Z D cy H0 p s m args c cX5_readPlainPiece RX5 meth 4 none R 21 C0 N0 "readPlainPiece")   (v0 : Nat) (v1 : Option Nat) (v2 : Int32) (μ : vg_M) : vg_S p l e R s m args below meth c D cy H0 C0 N0 4 (MQ below (vg_Qc D cy H0 μ' none) args s C0 N0 (vg_fr H0)) r μ' (fX5_readPlainPiece_83  v0 v1 v2 μ) μ [(0, .ref v0), (1, va_rf v1), (2, .int v2)] [] 83 := by
  intro cn nn H locs cells slots ls hf hH hL hC hN hl
  obtain ⟨X, hml, hr, hlk, hfr, hlo, hRc, hRs, hnm⟩ := id Z
  have hx := X.1
  have hb := X.2.1
  delta fX5_readPlainPiece_83 at hf
  refine lv_aload_n hx hb dX5_readPlainPiece_83 rfl (lv_at hl.1 0 rfl) ?_
  refine lv_iload_n hx hb dX5_readPlainPiece_84 rfl (lv_at hl.1 2 rfl) ?_
  refine vg_putV X hH hL fF_X5_9 rfl rfl dX5_readPlainPiece_85 hf (fun μ15 H locs hf hH hL => ?_)
  exact wX5_readPlainPiece_88 Z  v0 v1 μ15 _ _ _ _ _ _ _ hf hH hL hC hN (hl.sub [0, 1] rfl)
def fX5_readPlainPiece_48  (v0 : Nat) (v1 : Option Nat) (v2 : Int32) (μ : vg_M) : vg_R Unit :=
  vg_o (vg_gI μ v0 8 1) fun x6 =>
  if x6 = ((-1)) then (
   vg_o (vg_gI μ v0 8 3) fun x7 =>
   if x7 = v2 then (
    fX5_readPlainPiece_83  v0 v1 v2 μ
    ) else (
    vg_o (vg_gR μ v0 8 2) fun x8 =>
    vg_o (vg_gI μ v0 8 3) fun x9 =>
    vg_o x8 fun a10 =>
    vg_cv 0 a10 μ (fJ0_substring_37a41 a10 v2 x9 μ) fun x11 μ12 =>
    vg_b (fX10_isDots x11 μ12) fun x13 μ14 =>
    if x13 = 0 then (
     fX5_readPlainPiece_88  v0 v1 μ14
     ) else (
     fX5_readPlainPiece_83  v0 v1 v2 μ14
     )
    )
   ) else (
   vg_ret () μ
   )
set_option maxHeartbeats 4000000 in
set_option maxRecDepth 100000 in
theorem wX5_readPlainPiece_48 {p : Program} {l : Launch} {e : Env} {R : Room} {s : State} {m : MethodId} {args : Array Value} {below : List Frame} {meth : Method} {c : Code} {D : va_G} {cy : Nat → ClassId} {H0 : Heap} {C0 N0 : Nat} {r : Unit} {μ' : vg_M} (Z : vg_Z D cy H0 p s m args c cX5_readPlainPiece RX5 meth 4 none R 21 C0 N0 "readPlainPiece")   (v0 : Nat) (v1 : Option Nat) (v2 : Int32) (μ : vg_M) : vg_S p l e R s m args below meth c D cy H0 C0 N0 4 (MQ below (vg_Qc D cy H0 μ' none) args s C0 N0 (vg_fr H0)) r μ' (fX5_readPlainPiece_48  v0 v1 v2 μ) μ [(0, .ref v0), (1, va_rf v1), (2, .int v2)] [] 48 := by
  intro cn nn H locs cells slots ls hf hH hL hC hN hl
  obtain ⟨X, hml, hr, hlk, hfr, hlo, hRc, hRs, hnm⟩ := id Z
  have hx := X.1
  have hb := X.2.1
  delta fX5_readPlainPiece_48 at hf
  refine lv_aload_n hx hb dX5_readPlainPiece_48 rfl (lv_at hl.1 0 rfl) ?_
  refine vg_getI X hH fF_X5_9 dX5_readPlainPiece_49 hf (fun x6 hf => ?_)
  refine lv_iconst (v := (-1)) hx hb dX5_readPlainPiece_52 (by decide) ?_
  refine lv_icmp_eq (tgt := 57) hx hb dX5_readPlainPiece_53 (by decide) (fun h8 => ?_) (fun h8 => ?_)
  · have hf := vg_ip h8 hf
    refine lv_aload_n hx hb dX5_readPlainPiece_57 rfl (lv_at hl.1 0 rfl) ?_
    refine vg_getI X hH fF_X5_35 dX5_readPlainPiece_58 hf (fun x7 hf => ?_)
    refine lv_iload_n hx hb dX5_readPlainPiece_61 rfl (lv_at hl.1 2 rfl) ?_
    refine lv_icmp_eq (tgt := 83) hx hb dX5_readPlainPiece_62 (by decide) (fun h8 => ?_) (fun h8 => ?_)
    · have hf := vg_ip h8 hf
      exact wX5_readPlainPiece_83 Z  v0 v1 v2 μ _ _ _ _ _ _ _ hf hH hL hC hN (hl.sub [0, 1, 2] rfl)
    · have hf := vg_if h8 hf
      refine lv_aload_n hx hb dX5_readPlainPiece_65 rfl (lv_at hl.1 0 rfl) ?_
      refine vg_getR X hH fF_X5_15 dX5_readPlainPiece_66 hf (fun x8 hf => ?_)
      refine lv_iload_n hx hb dX5_readPlainPiece_69 rfl (lv_at hl.1 2 rfl) ?_
      refine lv_aload_n hx hb dX5_readPlainPiece_70 rfl (lv_at hl.1 0 rfl) ?_
      refine vg_getI X hH fF_X5_35 dX5_readPlainPiece_71 hf (fun x9 hf => ?_)
      obtain ⟨a10, h9, hg⟩ := vg_o_inv hf
      clear hf
      subst h9
      have hf := hg
      clear hg
      refine vg_callVr (ci := 0) X hml hl hH hL fCV_X5_77 rfl [.int v2, .int x9] rfl rfl (Nat.le_of_ble_eq_true rfl) dX5_readPlainPiece_74 hf hC hN hRc hRs hfr hlo (by decide) (fun _ _ _ _ h => cJ0_substring_37a41_met h) (fun x11 μ12 cn nn H locs cells slots hf hC hN hH hL => ?_)
      refine vg_callSNi X hml hl hH hL fCSN_X5_81 [va_rf x11] rfl rfl (Nat.le_of_ble_eq_true rfl) dX5_readPlainPiece_77 hf hC hN hRc hRs hfr hlo (by decide) (fun _ _ _ _ h => cX10_isDots_met h) (fun x13 μ14 cn nn H locs cells slots hf hC hN hH hL => ?_)
      refine lv_if_eq (tgt := 88) hx hb dX5_readPlainPiece_80 (by decide) (fun h8 => ?_) (fun h8 => ?_)
      · have hf := vg_ip h8 hf
        exact wX5_readPlainPiece_88 Z  v0 v1 μ14 _ _ _ _ _ _ _ hf hH hL hC hN (hl.sub [0, 1] rfl)
      · have hf := vg_if h8 hf
        exact wX5_readPlainPiece_83 Z  v0 v1 v2 μ14 _ _ _ _ _ _ _ hf hH hL hC hN (hl.sub [0, 1, 2] rfl)
  · have hf := vg_if h8 hf
    exact vg_retv X hr hlk hH hL dX5_readPlainPiece_56 hf hC hN
def fX5_readPlainPiece_16  : Nat → Nat → Option Nat → Int32 → Int32 → vg_M → vg_R Unit
  | 0, _, _, _, _, _ => none
  | n + 1, v0, v1, v2, v3, μ =>
    if 8 < v3 then (
     fX5_readPlainPiece_48  v0 v1 v2 μ
     ) else (
     vg_o (vg_gI μ v0 8 1) fun x1 =>
     if x1 = ((-1)) then (
      vg_cv 8 v0 μ (fX5_isInPiece v0  μ) fun x2 μ3 =>
      if x2 = 0 then (
       fX5_readPlainPiece_48  v0 v1 v2 μ3
       ) else (
       vg_cv 8 v0 μ3 (fX5_readPart v0 v1 μ3) fun _ μ5 =>
       (fX5_readPlainPiece_16  n) v0 v1 v2 (v3 + 1) μ5
       )
      ) else (
      fX5_readPlainPiece_48  v0 v1 v2 μ
      )
     )
set_option maxHeartbeats 4000000 in
set_option maxRecDepth 100000 in
theorem wX5_readPlainPiece_16 {p : Program} {l : Launch} {e : Env} {R : Room} {s : State} {m : MethodId} {args : Array Value} {below : List Frame} {meth : Method} {c : Code} {D : va_G} {cy : Nat → ClassId} {H0 : Heap} {C0 N0 : Nat} {r : Unit} {μ' : vg_M} (Z : vg_Z D cy H0 p s m args c cX5_readPlainPiece RX5 meth 4 none R 21 C0 N0 "readPlainPiece")   : ∀ (n : Nat) (v0 : Nat) (v1 : Option Nat) (v2 : Int32) (v3 : Int32) (μ : vg_M), vg_S p l e R s m args below meth c D cy H0 C0 N0 4 (MQ below (vg_Qc D cy H0 μ' none) args s C0 N0 (vg_fr H0)) r μ' (fX5_readPlainPiece_16  n v0 v1 v2 v3 μ) μ [(0, .ref v0), (1, va_rf v1), (2, .int v2), (3, .int v3)] [] 16 := by
  intro n
  induction n with
  | zero =>
    intro v0 v1 v2 v3 μ cn nn H locs cells slots ls hf
    simp [fX5_readPlainPiece_16] at hf
  | succ n hk16 =>
    intro v0 v1 v2 v3 μ
    intro cn nn H locs cells slots ls hf hH hL hC hN hl
    obtain ⟨X, hml, hr, hlk, hfr, hlo, hRc, hRs, hnm⟩ := id Z
    have hx := X.1
    have hb := X.2.1
    rw [fX5_readPlainPiece_16] at hf
    refine lv_iload_n hx hb dX5_readPlainPiece_16 rfl (lv_at hl.1 3 rfl) ?_
    refine lv_bipush (v := 8) hx hb dX5_readPlainPiece_17 (by decide) ?_
    refine lv_icmp_gt (tgt := 48) hx hb dX5_readPlainPiece_19 (by decide) (fun h8 => ?_) (fun h8 => ?_)
    · have hf := vg_ip h8 hf
      exact wX5_readPlainPiece_48 Z  v0 v1 v2 μ _ _ _ _ _ _ _ hf hH hL hC hN (hl.sub [0, 1, 2] rfl)
    · have hf := vg_if h8 hf
      refine lv_aload_n hx hb dX5_readPlainPiece_22 rfl (lv_at hl.1 0 rfl) ?_
      refine vg_getI X hH fF_X5_9 dX5_readPlainPiece_23 hf (fun x1 hf => ?_)
      refine lv_iconst (v := (-1)) hx hb dX5_readPlainPiece_26 (by decide) ?_
      refine lv_icmp_ne (tgt := 48) hx hb dX5_readPlainPiece_27 (by decide) (fun h8 => ?_) (fun h8 => ?_)
      · have hf := vg_if h8 hf
        exact wX5_readPlainPiece_48 Z  v0 v1 v2 μ _ _ _ _ _ _ _ hf hH hL hC hN (hl.sub [0, 1, 2] rfl)
      · have hf := vg_ip h8 hf
        refine lv_aload_n hx hb dX5_readPlainPiece_30 rfl (lv_at hl.1 0 rfl) ?_
        refine vg_callVi (ci := 8) X hml hl hH hL fCV_X5_71 rfl [] rfl rfl (Nat.le_of_ble_eq_true rfl) dX5_readPlainPiece_31 hf hC hN hRc hRs hfr hlo (by decide) (fun _ _ _ _ h => cX5_isInPiece_met h) (fun x2 μ3 cn nn H locs cells slots hf hC hN hH hL => ?_)
        refine lv_if_eq (tgt := 48) hx hb dX5_readPlainPiece_34 (by decide) (fun h8 => ?_) (fun h8 => ?_)
        · have hf := vg_ip h8 hf
          exact wX5_readPlainPiece_48 Z  v0 v1 v2 μ3 _ _ _ _ _ _ _ hf hH hL hC hN (hl.sub [0, 1, 2] rfl)
        · have hf := vg_if h8 hf
          refine lv_aload_n hx hb dX5_readPlainPiece_37 rfl (lv_at hl.1 0 rfl) ?_
          refine vg_aload_n hx hb dX5_readPlainPiece_38 rfl (lv_at hl.1 1 rfl) ?_
          refine vg_callVv (ci := 8) X hml hl hH hL fCV_X5_74 rfl [va_rf v1] rfl rfl (Nat.le_of_ble_eq_true rfl) dX5_readPlainPiece_39 hf hC hN hRc hRs hfr hlo (by decide) (fun _ _ _ _ h => cX5_readPart_met h) (fun _ μ5 cn nn H locs cells slots hf hC hN hH hL => ?_)
          refine vg_iinc (v := v3 + 1) (lv' := [(3, .int (v3 + 1)), (0, .ref v0), (1, va_rf v1), (2, .int v2)]) hx hb dX5_readPlainPiece_42 hl (k := 3) rfl rfl (by decide) rfl (fun ls hl => ?_)
          refine lv_goto (tgt := 16) hx hb dX5_readPlainPiece_45 (by decide) ?_
          exact hk16 v0 v1 v2 (v3 + 1) μ5 _ _ _ _ _ _ _ hf hH hL hC hN (hl.sub [1, 2, 3, 0] rfl)
def fX5_readPlainPiece (v0 : Nat) (μ : vg_M) : vg_R Unit :=
  vg_nw 3 μ.2.1 (vg_nO μ 9 [.int 0, .null, .int 0]) fun a20 μ21 =>
  vg_b (fX6_init a20 0 μ21) fun _ μ23 =>
  vg_o (vg_gI μ23 v0 8 3) fun x24 =>
  fX5_readPlainPiece_16  vg_fuel v0 (some a20) x24 0 μ23
set_option maxHeartbeats 4000000 in
set_option maxRecDepth 100000 in
theorem cX5_readPlainPiece_met {l : Launch} {D : va_G} {cy : Nat → ClassId} {H0 : Heap} {r : Unit} {μ μ' : vg_M} {cn nn : Nat} {v0 : Nat} (hf : fX5_readPlainPiece v0 μ = some (r, μ', cn, nn)) : vg_Met l D cy H0 yX5_readPlainPiece cX5_readPlainPiece 4 none 21 μ [.ref v0] none μ' cn nn := by
  refine vg_start (by decide +kernel) (List.forall_mem_cons.mpr ⟨rfl, (fun _ h => nomatch h)⟩) (Nat.le_of_ble_eq_true rfl) ?_
  intro p e s m below meth c ls X hml hr hlk hnm hH hl
  have hl : vg_l ls 4 [(0, .ref v0)] := hl
  have Z : vg_Z D cy H0 p s m _ c cX5_readPlainPiece RX5 meth 4 none (vg_rm 21 cn nn) 21 cn nn _ := ⟨X, hml, hr, hlk, Nat.le_refl _, Nat.le_refl _, Nat.le_refl _, Nat.le_refl _, hnm⟩
  obtain ⟨-, -, -, -, hfr, hlo, hRc, hRs, -⟩ := id Z
  have hx := X.1
  have hb := X.2.1
  have hL : ∀ z ∈ ([] : List Loc), H0.size ≤ z.base := fun _ h => nomatch h
  have hC : 0 + cn = cn := Nat.zero_add _
  have hN : 0 + nn = nn := Nat.zero_add _
  delta fX5_readPlainPiece at hf
  refine vg_new X hH fN_X5_64 dX5_readPlainPiece_0 hf hC hN hRc hRs (fun a20 μ21 cn nn H hf hC hN hH => ?_)
  refine lv_dup hx hb dX5_readPlainPiece_3 rfl ?_
  refine lv_iconst (v := 0) hx hb dX5_readPlainPiece_4 (by decide) ?_
  refine vg_callIv X hml hl hH hL fCI_X5_66 [.int 0] rfl rfl (Nat.le_of_ble_eq_true rfl) dX5_readPlainPiece_5 hf hC hN hRc hRs hfr hlo (by decide) (fun _ _ _ _ h => cX6_init_met h) (fun _ μ23 cn nn H locs cells slots hf hC hN hH hL => ?_)
  refine vg_astore_n (x := some a20) (lv' := [(1, .ref a20), (0, .ref v0)]) hx hb dX5_readPlainPiece_8 rfl hl (by decide) rfl (fun ls hl => ?_)
  refine lv_aload_n hx hb dX5_readPlainPiece_9 rfl (lv_at hl.1 1 rfl) ?_
  refine vg_getI X hH fF_X5_35 dX5_readPlainPiece_10 hf (fun x24 hf => ?_)
  refine vg_istore_n (lv' := [(2, .int x24), (1, .ref a20), (0, .ref v0)]) hx hb dX5_readPlainPiece_13 rfl hl (by decide) rfl (fun ls hl => ?_)
  refine lv_iconst (v := 0) hx hb dX5_readPlainPiece_14 (by decide) ?_
  refine vg_istore_n (lv' := [(3, .int 0), (2, .int x24), (1, .ref a20), (0, .ref v0)]) hx hb dX5_readPlainPiece_15 rfl hl (by decide) rfl (fun ls hl => ?_)
  exact wX5_readPlainPiece_16 Z  vg_fuel v0 (some a20) x24 0 μ23 _ _ _ _ _ _ _ hf hH hL hC hN (hl.sub [3, 2, 1, 0] rfl)
def fX5_readPiece_82   (μ : vg_M) : vg_R Unit :=
  vg_ret () μ
set_option maxHeartbeats 4000000 in
set_option maxRecDepth 100000 in
theorem wX5_readPiece_82 {p : Program} {l : Launch} {e : Env} {R : Room} {s : State} {m : MethodId} {args : Array Value} {below : List Frame} {meth : Method} {c : Code} {D : va_G} {cy : Nat → ClassId} {H0 : Heap} {C0 N0 : Nat} {r : Unit} {μ' : vg_M} (Z : vg_Z D cy H0 p s m args c cX5_readPiece RX5 meth 1 none R 22 C0 N0 "readPiece")    (μ : vg_M) : vg_S p l e R s m args below meth c D cy H0 C0 N0 1 (MQ below (vg_Qc D cy H0 μ' none) args s C0 N0 (vg_fr H0)) r μ' (fX5_readPiece_82   μ) μ [] [] 82 := by
  intro cn nn H locs cells slots ls hf hH hL hC hN hl
  obtain ⟨X, hml, hr, hlk, hfr, hlo, hRc, hRs, hnm⟩ := id Z
  have hx := X.1
  have hb := X.2.1
  delta fX5_readPiece_82 at hf
  exact vg_retv X hr hlk hH hL dX5_readPiece_82 hf hC hN
def fX5_readPiece_78  (v0 : Nat) (μ : vg_M) : vg_R Unit :=
  vg_cv 8 v0 μ (fX5_readPlainPiece v0  μ) fun _ μ2 =>
  fX5_readPiece_82   μ2
set_option maxHeartbeats 4000000 in
set_option maxRecDepth 100000 in
theorem wX5_readPiece_78 {p : Program} {l : Launch} {e : Env} {R : Room} {s : State} {m : MethodId} {args : Array Value} {below : List Frame} {meth : Method} {c : Code} {D : va_G} {cy : Nat → ClassId} {H0 : Heap} {C0 N0 : Nat} {r : Unit} {μ' : vg_M} (Z : vg_Z D cy H0 p s m args c cX5_readPiece RX5 meth 1 none R 22 C0 N0 "readPiece")   (v0 : Nat) (μ : vg_M) : vg_S p l e R s m args below meth c D cy H0 C0 N0 1 (MQ below (vg_Qc D cy H0 μ' none) args s C0 N0 (vg_fr H0)) r μ' (fX5_readPiece_78  v0 μ) μ [(0, .ref v0)] [] 78 := by
  intro cn nn H locs cells slots ls hf hH hL hC hN hl
  obtain ⟨X, hml, hr, hlk, hfr, hlo, hRc, hRs, hnm⟩ := id Z
  have hx := X.1
  have hb := X.2.1
  delta fX5_readPiece_78 at hf
  refine lv_aload_n hx hb dX5_readPiece_78 rfl (lv_at hl.1 0 rfl) ?_
  refine vg_callVv (ci := 8) X hml hl hH hL fCV_X5_58 rfl [] rfl rfl (Nat.le_of_ble_eq_true rfl) dX5_readPiece_79 hf hC hN hRc hRs hfr hlo (by decide) (fun _ _ _ _ h => cX5_readPlainPiece_met h) (fun _ μ2 cn nn H locs cells slots hf hC hN hH hL => ?_)
  exact wX5_readPiece_82 Z   μ2 _ _ _ _ _ _ _ hf hH hL hC hN (hl.sub [] rfl)
def fX5_readPiece (v0 : Nat) (μ : vg_M) : vg_R Unit :=
  vg_o (vg_gR μ v0 8 0) fun x3 =>
  vg_o x3 fun a4 =>
  vg_cv 7 a4 μ (fX4_isFull a4  μ) fun x5 μ6 =>
  if x5 = 0 then (
   vg_o (vg_gI μ6 v0 8 3) fun x7 =>
   vg_o (vg_gR μ6 v0 8 2) fun x8 =>
   vg_o x8 fun a9 =>
   vg_cv 0 a9 μ6 (fJ0_length_8abf5 a9  μ6) fun x10 μ11 =>
   if x10 ≤ (x7 + 1) then (
    fX5_readPiece_78  v0 μ11
    ) else (
    vg_o (vg_gR μ11 v0 8 2) fun x12 =>
    vg_o (vg_gI μ11 v0 8 3) fun x13 =>
    vg_o x12 fun a14 =>
    vg_cv 0 a14 μ11 (fJ0_charAt_5068e a14 x13 μ11) fun x15 μ16 =>
    if x15 = 42 then (
     vg_o (vg_gR μ16 v0 8 2) fun x17 =>
     vg_o (vg_gI μ16 v0 8 3) fun x18 =>
     vg_o x17 fun a19 =>
     vg_cv 0 a19 μ16 (fJ0_charAt_5068e a19 (x18 + 1) μ16) fun x20 μ21 =>
     if x20 = 42 then (
      vg_cv 8 v0 μ21 (fX5_readDeepPiece v0  μ21) fun _ μ23 =>
      fX5_readPiece_82   μ23
      ) else (
      fX5_readPiece_78  v0 μ21
      )
     ) else (
     fX5_readPiece_78  v0 μ16
     )
    )
   ) else (
   vg_o (vg_gI μ6 v0 8 3) fun x24 =>
   vg_o (vg_p μ6 v0 8 1 (.int x24)) fun μ25 =>
   fX5_readPiece_82   μ25
   )
set_option maxHeartbeats 4000000 in
set_option maxRecDepth 100000 in
theorem cX5_readPiece_met {l : Launch} {D : va_G} {cy : Nat → ClassId} {H0 : Heap} {r : Unit} {μ μ' : vg_M} {cn nn : Nat} {v0 : Nat} (hf : fX5_readPiece v0 μ = some (r, μ', cn, nn)) : vg_Met l D cy H0 yX5_readPiece cX5_readPiece 1 none 22 μ [.ref v0] none μ' cn nn := by
  refine vg_start (by decide +kernel) (List.forall_mem_cons.mpr ⟨rfl, (fun _ h => nomatch h)⟩) (Nat.le_of_ble_eq_true rfl) ?_
  intro p e s m below meth c ls X hml hr hlk hnm hH hl
  have hl : vg_l ls 1 [(0, .ref v0)] := hl
  have Z : vg_Z D cy H0 p s m _ c cX5_readPiece RX5 meth 1 none (vg_rm 22 cn nn) 22 cn nn _ := ⟨X, hml, hr, hlk, Nat.le_refl _, Nat.le_refl _, Nat.le_refl _, Nat.le_refl _, hnm⟩
  obtain ⟨-, -, -, -, hfr, hlo, hRc, hRs, -⟩ := id Z
  have hx := X.1
  have hb := X.2.1
  have hL : ∀ z ∈ ([] : List Loc), H0.size ≤ z.base := fun _ h => nomatch h
  have hC : 0 + cn = cn := Nat.zero_add _
  have hN : 0 + nn = nn := Nat.zero_add _
  delta fX5_readPiece at hf
  refine lv_aload_n hx hb dX5_readPiece_0 rfl (lv_at hl.1 0 rfl) ?_
  refine vg_getR X hH fF_X5_24 dX5_readPiece_1 hf (fun x3 hf => ?_)
  obtain ⟨a4, h9, hg⟩ := vg_o_inv hf
  clear hf
  subst h9
  have hf := hg
  clear hg
  refine vg_callVi (ci := 7) X hml hl hH hL fCV_X5_48 rfl [] rfl rfl (Nat.le_of_ble_eq_true rfl) dX5_readPiece_4 hf hC hN hRc hRs hfr hlo (by decide) (fun _ _ _ _ h => cX4_isFull_met h) (fun x5 μ6 cn nn H locs cells slots hf hC hN hH hL => ?_)
  refine lv_if_eq (tgt := 21) hx hb dX5_readPiece_7 (by decide) (fun h8 => ?_) (fun h8 => ?_)
  · have hf := vg_ip h8 hf
    refine lv_aload_n hx hb dX5_readPiece_21 rfl (lv_at hl.1 0 rfl) ?_
    refine vg_getI X hH fF_X5_35 dX5_readPiece_22 hf (fun x7 hf => ?_)
    refine lv_iconst (v := 1) hx hb dX5_readPiece_25 (by decide) ?_
    refine lv_iadd hx hb dX5_readPiece_26 ?_
    refine lv_aload_n hx hb dX5_readPiece_27 rfl (lv_at hl.1 0 rfl) ?_
    refine vg_getR X hH fF_X5_15 dX5_readPiece_28 hf (fun x8 hf => ?_)
    obtain ⟨a9, h9, hg⟩ := vg_o_inv hf
    clear hf
    subst h9
    have hf := hg
    clear hg
    refine vg_callVi (ci := 0) X hml hl hH hL fCV_X5_38 rfl [] rfl rfl (Nat.le_of_ble_eq_true rfl) dX5_readPiece_31 hf hC hN hRc hRs hfr hlo (by decide) (fun _ _ _ _ h => cJ0_length_8abf5_met h) (fun x10 μ11 cn nn H locs cells slots hf hC hN hH hL => ?_)
    refine lv_icmp_ge (tgt := 78) hx hb dX5_readPiece_34 (by decide) (fun h8 => ?_) (fun h8 => ?_)
    · have hf := vg_ip h8 hf
      exact wX5_readPiece_78 Z  v0 μ11 _ _ _ _ _ _ _ hf hH hL hC hN (hl.sub [0] rfl)
    · have hf := vg_if h8 hf
      refine lv_aload_n hx hb dX5_readPiece_37 rfl (lv_at hl.1 0 rfl) ?_
      refine vg_getR X hH fF_X5_15 dX5_readPiece_38 hf (fun x12 hf => ?_)
      refine lv_aload_n hx hb dX5_readPiece_41 rfl (lv_at hl.1 0 rfl) ?_
      refine vg_getI X hH fF_X5_35 dX5_readPiece_42 hf (fun x13 hf => ?_)
      obtain ⟨a14, h9, hg⟩ := vg_o_inv hf
      clear hf
      subst h9
      have hf := hg
      clear hg
      refine vg_callVi (ci := 0) X hml hl hH hL fCV_X5_51 rfl [.int x13] rfl rfl (Nat.le_of_ble_eq_true rfl) dX5_readPiece_45 hf hC hN hRc hRs hfr hlo (by decide) (fun _ _ _ _ h => cJ0_charAt_5068e_met h) (fun x15 μ16 cn nn H locs cells slots hf hC hN hH hL => ?_)
      refine lv_bipush (v := 42) hx hb dX5_readPiece_48 (by decide) ?_
      refine lv_icmp_ne (tgt := 78) hx hb dX5_readPiece_50 (by decide) (fun h8 => ?_) (fun h8 => ?_)
      · have hf := vg_if h8 hf
        exact wX5_readPiece_78 Z  v0 μ16 _ _ _ _ _ _ _ hf hH hL hC hN (hl.sub [0] rfl)
      · have hf := vg_ip h8 hf
        refine lv_aload_n hx hb dX5_readPiece_53 rfl (lv_at hl.1 0 rfl) ?_
        refine vg_getR X hH fF_X5_15 dX5_readPiece_54 hf (fun x17 hf => ?_)
        refine lv_aload_n hx hb dX5_readPiece_57 rfl (lv_at hl.1 0 rfl) ?_
        refine vg_getI X hH fF_X5_35 dX5_readPiece_58 hf (fun x18 hf => ?_)
        refine lv_iconst (v := 1) hx hb dX5_readPiece_61 (by decide) ?_
        refine lv_iadd hx hb dX5_readPiece_62 ?_
        obtain ⟨a19, h9, hg⟩ := vg_o_inv hf
        clear hf
        subst h9
        have hf := hg
        clear hg
        refine vg_callVi (ci := 0) X hml hl hH hL fCV_X5_51 rfl [.int (x18 + 1)] rfl rfl (Nat.le_of_ble_eq_true rfl) dX5_readPiece_63 hf hC hN hRc hRs hfr hlo (by decide) (fun _ _ _ _ h => cJ0_charAt_5068e_met h) (fun x20 μ21 cn nn H locs cells slots hf hC hN hH hL => ?_)
        refine lv_bipush (v := 42) hx hb dX5_readPiece_66 (by decide) ?_
        refine lv_icmp_ne (tgt := 78) hx hb dX5_readPiece_68 (by decide) (fun h8 => ?_) (fun h8 => ?_)
        · have hf := vg_if h8 hf
          exact wX5_readPiece_78 Z  v0 μ21 _ _ _ _ _ _ _ hf hH hL hC hN (hl.sub [0] rfl)
        · have hf := vg_ip h8 hf
          refine lv_aload_n hx hb dX5_readPiece_71 rfl (lv_at hl.1 0 rfl) ?_
          refine vg_callVv (ci := 8) X hml hl hH hL fCV_X5_55 rfl [] rfl rfl (Nat.le_of_ble_eq_true rfl) dX5_readPiece_72 hf hC hN hRc hRs hfr hlo (by decide) (fun _ _ _ _ h => cX5_readDeepPiece_met h) (fun _ μ23 cn nn H locs cells slots hf hC hN hH hL => ?_)
          refine lv_goto (tgt := 82) hx hb dX5_readPiece_75 (by decide) ?_
          exact wX5_readPiece_82 Z   μ23 _ _ _ _ _ _ _ hf hH hL hC hN (hl.sub [] rfl)
  · have hf := vg_if h8 hf
    refine lv_aload_n hx hb dX5_readPiece_10 rfl (lv_at hl.1 0 rfl) ?_
    refine lv_aload_n hx hb dX5_readPiece_11 rfl (lv_at hl.1 0 rfl) ?_
    refine vg_getI X hH fF_X5_35 dX5_readPiece_12 hf (fun x24 hf => ?_)
    refine vg_putV X hH hL fF_X5_9 rfl rfl dX5_readPiece_15 hf (fun μ25 H locs hf hH hL => ?_)
    refine lv_goto (tgt := 82) hx hb dX5_readPiece_18 (by decide) ?_
    exact wX5_readPiece_82 Z   μ25 _ _ _ _ _ _ _ hf hH hL hC hN (hl.sub [] rfl)
def fX5_read_38 (q4 : Nat → Int32 → Int32 → vg_M → vg_R Unit) (v0 : Nat) (v2 : Int32) (k0 : Int32) (μ : vg_M) : vg_R Unit :=
  q4 v0 k0 (v2 + 1) μ
set_option maxHeartbeats 4000000 in
set_option maxRecDepth 100000 in
theorem wX5_read_38 {p : Program} {l : Launch} {e : Env} {R : Room} {s : State} {m : MethodId} {args : Array Value} {below : List Frame} {meth : Method} {c : Code} {D : va_G} {cy : Nat → ClassId} {H0 : Heap} {C0 N0 : Nat} {r : Unit} {μ' : vg_M} (Z : vg_Z D cy H0 p s m args c cX5_read RX5 meth 3 none R 23 C0 N0 "read") {q4 : Nat → Int32 → Int32 → vg_M → vg_R Unit} (hk4 : ∀ (v0 : Nat) (v1 : Int32) (v2 : Int32) (μ : vg_M), vg_S p l e R s m args below meth c D cy H0 C0 N0 3 (MQ below (vg_Qc D cy H0 μ' none) args s C0 N0 (vg_fr H0)) r μ' (q4 v0 v1 v2 μ) μ [(0, .ref v0), (1, .int v1), (2, .int v2)] [] 4) (v0 : Nat) (v2 : Int32) (k0 : Int32) (μ : vg_M) : vg_S p l e R s m args below meth c D cy H0 C0 N0 3 (MQ below (vg_Qc D cy H0 μ' none) args s C0 N0 (vg_fr H0)) r μ' (fX5_read_38 q4 v0 v2 k0 μ) μ [(0, .ref v0), (2, .int v2)] [.int k0] 38 := by
  intro cn nn H locs cells slots ls hf hH hL hC hN hl
  obtain ⟨X, hml, hr, hlk, hfr, hlo, hRc, hRs, hnm⟩ := id Z
  have hx := X.1
  have hb := X.2.1
  delta fX5_read_38 at hf
  refine vg_istore_n (lv' := [(1, .int k0), (0, .ref v0), (2, .int v2)]) hx hb dX5_read_38 rfl hl (by decide) rfl (fun ls hl => ?_)
  refine vg_iinc (v := v2 + 1) (lv' := [(2, .int (v2 + 1)), (1, .int k0), (0, .ref v0)]) hx hb dX5_read_39 hl (k := 2) rfl rfl (by decide) rfl (fun ls hl => ?_)
  refine lv_goto (tgt := 4) hx hb dX5_read_42 (by decide) ?_
  exact hk4 v0 k0 (v2 + 1) μ _ _ _ _ _ _ _ hf hH hL hC hN (hl.sub [2, 1, 0] rfl)
def fX5_read_37 (q4 : Nat → Int32 → Int32 → vg_M → vg_R Unit) (v0 : Nat) (v2 : Int32) (μ : vg_M) : vg_R Unit :=
  fX5_read_38 q4 v0 v2 0 μ
set_option maxHeartbeats 4000000 in
set_option maxRecDepth 100000 in
theorem wX5_read_37 {p : Program} {l : Launch} {e : Env} {R : Room} {s : State} {m : MethodId} {args : Array Value} {below : List Frame} {meth : Method} {c : Code} {D : va_G} {cy : Nat → ClassId} {H0 : Heap} {C0 N0 : Nat} {r : Unit} {μ' : vg_M} (Z : vg_Z D cy H0 p s m args c cX5_read RX5 meth 3 none R 23 C0 N0 "read") {q4 : Nat → Int32 → Int32 → vg_M → vg_R Unit} (hk4 : ∀ (v0 : Nat) (v1 : Int32) (v2 : Int32) (μ : vg_M), vg_S p l e R s m args below meth c D cy H0 C0 N0 3 (MQ below (vg_Qc D cy H0 μ' none) args s C0 N0 (vg_fr H0)) r μ' (q4 v0 v1 v2 μ) μ [(0, .ref v0), (1, .int v1), (2, .int v2)] [] 4) (v0 : Nat) (v2 : Int32) (μ : vg_M) : vg_S p l e R s m args below meth c D cy H0 C0 N0 3 (MQ below (vg_Qc D cy H0 μ' none) args s C0 N0 (vg_fr H0)) r μ' (fX5_read_37 q4 v0 v2 μ) μ [(0, .ref v0), (2, .int v2)] [] 37 := by
  intro cn nn H locs cells slots ls hf hH hL hC hN hl
  obtain ⟨X, hml, hr, hlk, hfr, hlo, hRc, hRs, hnm⟩ := id Z
  have hx := X.1
  have hb := X.2.1
  delta fX5_read_37 at hf
  refine lv_iconst (v := 0) hx hb dX5_read_37 (by decide) ?_
  exact wX5_read_38 Z hk4 v0 v2 0 μ _ _ _ _ _ _ _ hf hH hL hC hN (hl.sub [0, 1] rfl)
def fX5_read_45   (μ : vg_M) : vg_R Unit :=
  vg_ret () μ
set_option maxHeartbeats 4000000 in
set_option maxRecDepth 100000 in
theorem wX5_read_45 {p : Program} {l : Launch} {e : Env} {R : Room} {s : State} {m : MethodId} {args : Array Value} {below : List Frame} {meth : Method} {c : Code} {D : va_G} {cy : Nat → ClassId} {H0 : Heap} {C0 N0 : Nat} {r : Unit} {μ' : vg_M} (Z : vg_Z D cy H0 p s m args c cX5_read RX5 meth 3 none R 23 C0 N0 "read")    (μ : vg_M) : vg_S p l e R s m args below meth c D cy H0 C0 N0 3 (MQ below (vg_Qc D cy H0 μ' none) args s C0 N0 (vg_fr H0)) r μ' (fX5_read_45   μ) μ [] [] 45 := by
  intro cn nn H locs cells slots ls hf hH hL hC hN hl
  obtain ⟨X, hml, hr, hlk, hfr, hlo, hRc, hRs, hnm⟩ := id Z
  have hx := X.1
  have hb := X.2.1
  delta fX5_read_45 at hf
  exact vg_retv X hr hlk hH hL dX5_read_45 hf hC hN
def fX5_read_4  : Nat → Nat → Int32 → Int32 → vg_M → vg_R Unit
  | 0, _, _, _, _ => none
  | n + 1, v0, v1, v2, μ =>
    if 6 < v2 then (
     fX5_read_45   μ
     ) else (
     if v1 = 0 then (
      fX5_read_45   μ
      ) else (
      vg_cv 8 v0 μ (fX5_readPiece v0  μ) fun _ μ2 =>
      vg_o (vg_gI μ2 v0 8 1) fun x3 =>
      if x3 = ((-1)) then (
       vg_cv 8 v0 μ2 (fX5_passSlash v0  μ2) fun x4 μ5 =>
       if x4 = 0 then (
        fX5_read_37 (fX5_read_4  n) v0 v2 μ5
        ) else (
        fX5_read_38 (fX5_read_4  n) v0 v2 1 μ5
        )
       ) else (
       fX5_read_37 (fX5_read_4  n) v0 v2 μ2
       )
      )
     )
set_option maxHeartbeats 4000000 in
set_option maxRecDepth 100000 in
theorem wX5_read_4 {p : Program} {l : Launch} {e : Env} {R : Room} {s : State} {m : MethodId} {args : Array Value} {below : List Frame} {meth : Method} {c : Code} {D : va_G} {cy : Nat → ClassId} {H0 : Heap} {C0 N0 : Nat} {r : Unit} {μ' : vg_M} (Z : vg_Z D cy H0 p s m args c cX5_read RX5 meth 3 none R 23 C0 N0 "read")   : ∀ (n : Nat) (v0 : Nat) (v1 : Int32) (v2 : Int32) (μ : vg_M), vg_S p l e R s m args below meth c D cy H0 C0 N0 3 (MQ below (vg_Qc D cy H0 μ' none) args s C0 N0 (vg_fr H0)) r μ' (fX5_read_4  n v0 v1 v2 μ) μ [(0, .ref v0), (1, .int v1), (2, .int v2)] [] 4 := by
  intro n
  induction n with
  | zero =>
    intro v0 v1 v2 μ cn nn H locs cells slots ls hf
    simp [fX5_read_4] at hf
  | succ n hk4 =>
    intro v0 v1 v2 μ
    intro cn nn H locs cells slots ls hf hH hL hC hN hl
    obtain ⟨X, hml, hr, hlk, hfr, hlo, hRc, hRs, hnm⟩ := id Z
    have hx := X.1
    have hb := X.2.1
    rw [fX5_read_4] at hf
    refine lv_iload_n hx hb dX5_read_4 rfl (lv_at hl.1 2 rfl) ?_
    refine lv_bipush (v := 6) hx hb dX5_read_5 (by decide) ?_
    refine lv_icmp_gt (tgt := 45) hx hb dX5_read_7 (by decide) (fun h8 => ?_) (fun h8 => ?_)
    · have hf := vg_ip h8 hf
      exact wX5_read_45 Z   μ _ _ _ _ _ _ _ hf hH hL hC hN (hl.sub [] rfl)
    · have hf := vg_if h8 hf
      refine lv_iload_n hx hb dX5_read_10 rfl (lv_at hl.1 1 rfl) ?_
      refine lv_if_eq (tgt := 45) hx hb dX5_read_11 (by decide) (fun h8 => ?_) (fun h8 => ?_)
      · have hf := vg_ip h8 hf
        exact wX5_read_45 Z   μ _ _ _ _ _ _ _ hf hH hL hC hN (hl.sub [] rfl)
      · have hf := vg_if h8 hf
        refine lv_aload_n hx hb dX5_read_14 rfl (lv_at hl.1 0 rfl) ?_
        refine vg_callVv (ci := 8) X hml hl hH hL fCV_X5_28 rfl [] rfl rfl (Nat.le_of_ble_eq_true rfl) dX5_read_15 hf hC hN hRc hRs hfr hlo (by decide) (fun _ _ _ _ h => cX5_readPiece_met h) (fun _ μ2 cn nn H locs cells slots hf hC hN hH hL => ?_)
        refine lv_aload_n hx hb dX5_read_18 rfl (lv_at hl.1 0 rfl) ?_
        refine vg_getI X hH fF_X5_9 dX5_read_19 hf (fun x3 hf => ?_)
        refine lv_iconst (v := (-1)) hx hb dX5_read_22 (by decide) ?_
        refine lv_icmp_ne (tgt := 37) hx hb dX5_read_23 (by decide) (fun h8 => ?_) (fun h8 => ?_)
        · have hf := vg_if h8 hf
          exact wX5_read_37 Z hk4 v0 v2 μ2 _ _ _ _ _ _ _ hf hH hL hC hN (hl.sub [0, 2] rfl)
        · have hf := vg_ip h8 hf
          refine lv_aload_n hx hb dX5_read_26 rfl (lv_at hl.1 0 rfl) ?_
          refine vg_callVi (ci := 8) X hml hl hH hL fCV_X5_31 rfl [] rfl rfl (Nat.le_of_ble_eq_true rfl) dX5_read_27 hf hC hN hRc hRs hfr hlo (by decide) (fun _ _ _ _ h => cX5_passSlash_met h) (fun x4 μ5 cn nn H locs cells slots hf hC hN hH hL => ?_)
          refine lv_if_eq (tgt := 37) hx hb dX5_read_30 (by decide) (fun h8 => ?_) (fun h8 => ?_)
          · have hf := vg_ip h8 hf
            exact wX5_read_37 Z hk4 v0 v2 μ5 _ _ _ _ _ _ _ hf hH hL hC hN (hl.sub [0, 2] rfl)
          · have hf := vg_if h8 hf
            refine lv_iconst (v := 1) hx hb dX5_read_33 (by decide) ?_
            refine lv_goto (tgt := 38) hx hb dX5_read_34 (by decide) ?_
            exact wX5_read_38 Z hk4 v0 v2 1 μ5 _ _ _ _ _ _ _ hf hH hL hC hN (hl.sub [0, 2] rfl)
def fX5_read (v0 : Nat) (μ : vg_M) : vg_R Unit :=
  fX5_read_4  vg_fuel v0 1 0 μ
set_option maxHeartbeats 4000000 in
set_option maxRecDepth 100000 in
theorem cX5_read_met {l : Launch} {D : va_G} {cy : Nat → ClassId} {H0 : Heap} {r : Unit} {μ μ' : vg_M} {cn nn : Nat} {v0 : Nat} (hf : fX5_read v0 μ = some (r, μ', cn, nn)) : vg_Met l D cy H0 yX5_read cX5_read 3 none 23 μ [.ref v0] none μ' cn nn := by
  refine vg_start (by decide +kernel) (List.forall_mem_cons.mpr ⟨rfl, (fun _ h => nomatch h)⟩) (Nat.le_of_ble_eq_true rfl) ?_
  intro p e s m below meth c ls X hml hr hlk hnm hH hl
  have hl : vg_l ls 3 [(0, .ref v0)] := hl
  have Z : vg_Z D cy H0 p s m _ c cX5_read RX5 meth 3 none (vg_rm 23 cn nn) 23 cn nn _ := ⟨X, hml, hr, hlk, Nat.le_refl _, Nat.le_refl _, Nat.le_refl _, Nat.le_refl _, hnm⟩
  obtain ⟨-, -, -, -, hfr, hlo, hRc, hRs, -⟩ := id Z
  have hx := X.1
  have hb := X.2.1
  have hL : ∀ z ∈ ([] : List Loc), H0.size ≤ z.base := fun _ h => nomatch h
  have hC : 0 + cn = cn := Nat.zero_add _
  have hN : 0 + nn = nn := Nat.zero_add _
  delta fX5_read at hf
  refine lv_iconst (v := 1) hx hb dX5_read_0 (by decide) ?_
  refine vg_istore_n (lv' := [(1, .int 1), (0, .ref v0)]) hx hb dX5_read_1 rfl hl (by decide) rfl (fun ls hl => ?_)
  refine lv_iconst (v := 0) hx hb dX5_read_2 (by decide) ?_
  refine vg_istore_n (lv' := [(2, .int 0), (1, .int 1), (0, .ref v0)]) hx hb dX5_read_3 rfl hl (by decide) rfl (fun ls hl => ?_)
  exact wX5_read_4 Z  vg_fuel v0 1 0 μ _ _ _ _ _ _ _ hf hH hL hC hN (hl.sub [2, 1, 0] rfl)
def fX7_add (v0 : Nat) (v1 : Option Nat) (μ : vg_M) : vg_R Unit :=
  vg_o (vg_gR μ v0 10 2) fun x1 =>
  vg_o x1 fun a2 =>
  vg_cv 2 a2 μ (fJx4a65c_add_9ea2d a2 v1 μ) fun x3 μ4 =>
  vg_o (vg_gI μ4 v0 10 3) fun x5 =>
  vg_o (vg_p μ4 v0 10 3 (.int (x5 + 1))) fun μ6 =>
  vg_ret () μ6
set_option maxHeartbeats 4000000 in
set_option maxRecDepth 100000 in
theorem cX7_add_met {l : Launch} {D : va_G} {cy : Nat → ClassId} {H0 : Heap} {r : Unit} {μ μ' : vg_M} {cn nn : Nat} {v0 : Nat} {v1 : Option Nat} (hf : fX7_add v0 v1 μ = some (r, μ', cn, nn)) : vg_Met l D cy H0 yX7_add cX7_add 2 none 18 μ [.ref v0, va_rf v1] none μ' cn nn := by
  refine vg_start (by decide +kernel) (List.forall_mem_cons.mpr ⟨rfl, (List.forall_mem_cons.mpr ⟨vg_rfc _, (fun _ h => nomatch h)⟩)⟩) (Nat.le_of_ble_eq_true rfl) ?_
  intro p e s m below meth c ls X hml hr hlk hnm hH hl
  have hl : vg_l ls 2 [(0, .ref v0), (1, va_rf v1)] := hl
  have Z : vg_Z D cy H0 p s m _ c cX7_add RX7 meth 2 none (vg_rm 18 cn nn) 18 cn nn _ := ⟨X, hml, hr, hlk, Nat.le_refl _, Nat.le_refl _, Nat.le_refl _, Nat.le_refl _, hnm⟩
  obtain ⟨-, -, -, -, hfr, hlo, hRc, hRs, -⟩ := id Z
  have hx := X.1
  have hb := X.2.1
  have hL : ∀ z ∈ ([] : List Loc), H0.size ≤ z.base := fun _ h => nomatch h
  have hC : 0 + cn = cn := Nat.zero_add _
  have hN : 0 + nn = nn := Nat.zero_add _
  delta fX7_add at hf
  refine lv_aload_n hx hb dX7_add_0 rfl (lv_at hl.1 0 rfl) ?_
  refine vg_getR X hH fF_X7_12 dX7_add_1 hf (fun x1 hf => ?_)
  refine vg_aload_n hx hb dX7_add_4 rfl (lv_at hl.1 1 rfl) ?_
  obtain ⟨a2, h9, hg⟩ := vg_o_inv hf
  clear hf
  subst h9
  have hf := hg
  clear hg
  refine vg_callVi (ci := 2) X hml hl hH hL fCV_X7_43 rfl [va_rf v1] rfl rfl (Nat.le_of_ble_eq_true rfl) dX7_add_5 hf hC hN hRc hRs hfr hlo (by decide) (fun _ _ _ _ h => cJx4a65c_add_9ea2d_met h) (fun x3 μ4 cn nn H locs cells slots hf hC hN hH hL => ?_)
  refine lv_pop hx hb dX7_add_8 rfl ?_
  refine lv_aload_n hx hb dX7_add_9 rfl (lv_at hl.1 0 rfl) ?_
  refine lv_dup hx hb dX7_add_10 rfl ?_
  refine vg_getI X hH fF_X7_18 dX7_add_11 hf (fun x5 hf => ?_)
  refine lv_iconst (v := 1) hx hb dX7_add_14 (by decide) ?_
  refine lv_iadd hx hb dX7_add_15 ?_
  refine vg_putV X hH hL fF_X7_18 rfl rfl dX7_add_16 hf (fun μ6 H locs hf hH hL => ?_)
  exact vg_retv X hr hlk hH hL dX7_add_19 hf hC hN
def fX7_hasRoomFor_36 (q4 : Nat → Int32 → Int32 → Int32 → vg_M → vg_R Int32) (v0 : Nat) (v1 : Int32) (v2 : Int32) (v3 : Int32) (μ : vg_M) : vg_R Int32 :=
  q4 v0 v1 v2 (v3 + 1) μ
set_option maxHeartbeats 4000000 in
set_option maxRecDepth 100000 in
theorem wX7_hasRoomFor_36 {p : Program} {l : Launch} {e : Env} {R : Room} {s : State} {m : MethodId} {args : Array Value} {below : List Frame} {meth : Method} {c : Code} {D : va_G} {cy : Nat → ClassId} {H0 : Heap} {C0 N0 : Nat} {r : Int32} {μ' : vg_M} (Z : vg_Z D cy H0 p s m args c cX7_hasRoomFor RX7 meth 4 (some .boolean) R 15 C0 N0 "hasRoomFor") {q4 : Nat → Int32 → Int32 → Int32 → vg_M → vg_R Int32} (hk4 : ∀ (v0 : Nat) (v1 : Int32) (v2 : Int32) (v3 : Int32) (μ : vg_M), vg_S p l e R s m args below meth c D cy H0 C0 N0 4 (MQ below (vg_Qc D cy H0 μ' (some (.int r))) args s C0 N0 (vg_fr H0)) r μ' (q4 v0 v1 v2 v3 μ) μ [(0, .ref v0), (1, .int v1), (2, .int v2), (3, .int v3)] [] 4) (v0 : Nat) (v1 : Int32) (v2 : Int32) (v3 : Int32) (μ : vg_M) : vg_S p l e R s m args below meth c D cy H0 C0 N0 4 (MQ below (vg_Qc D cy H0 μ' (some (.int r))) args s C0 N0 (vg_fr H0)) r μ' (fX7_hasRoomFor_36 q4 v0 v1 v2 v3 μ) μ [(0, .ref v0), (1, .int v1), (2, .int v2), (3, .int v3)] [] 36 := by
  intro cn nn H locs cells slots ls hf hH hL hC hN hl
  obtain ⟨X, hml, hr, hlk, hfr, hlo, hRc, hRs, hnm⟩ := id Z
  have hx := X.1
  have hb := X.2.1
  delta fX7_hasRoomFor_36 at hf
  refine vg_iinc (v := v3 + 1) (lv' := [(3, .int (v3 + 1)), (0, .ref v0), (1, .int v1), (2, .int v2)]) hx hb dX7_hasRoomFor_36 hl (k := 3) rfl rfl (by decide) rfl (fun ls hl => ?_)
  refine lv_goto (tgt := 4) hx hb dX7_hasRoomFor_39 (by decide) ?_
  exact hk4 v0 v1 v2 (v3 + 1) μ _ _ _ _ _ _ _ hf hH hL hC hN (hl.sub [1, 2, 3, 0] rfl)
def fX7_hasRoomFor_52  (k0 : Int32) (μ : vg_M) : vg_R Int32 :=
  vg_o (vg_z .boolean k0) fun z => vg_ret z μ
set_option maxHeartbeats 4000000 in
set_option maxRecDepth 100000 in
theorem wX7_hasRoomFor_52 {p : Program} {l : Launch} {e : Env} {R : Room} {s : State} {m : MethodId} {args : Array Value} {below : List Frame} {meth : Method} {c : Code} {D : va_G} {cy : Nat → ClassId} {H0 : Heap} {C0 N0 : Nat} {r : Int32} {μ' : vg_M} (Z : vg_Z D cy H0 p s m args c cX7_hasRoomFor RX7 meth 4 (some .boolean) R 15 C0 N0 "hasRoomFor")   (k0 : Int32) (μ : vg_M) : vg_S p l e R s m args below meth c D cy H0 C0 N0 4 (MQ below (vg_Qc D cy H0 μ' (some (.int r))) args s C0 N0 (vg_fr H0)) r μ' (fX7_hasRoomFor_52  k0 μ) μ [] [.int k0] 52 := by
  intro cn nn H locs cells slots ls hf hH hL hC hN hl
  obtain ⟨X, hml, hr, hlk, hfr, hlo, hRc, hRs, hnm⟩ := id Z
  have hx := X.1
  have hb := X.2.1
  delta fX7_hasRoomFor_52 at hf
  exact vg_retz X (by simp) hr hlk hH hL dX7_hasRoomFor_52 hf hC hN
def fX7_hasRoomFor_4  : Nat → Nat → Int32 → Int32 → Int32 → vg_M → vg_R Int32
  | 0, _, _, _, _, _ => none
  | n + 1, v0, v1, v2, v3, μ =>
    vg_o (vg_gR μ v0 10 2) fun x1 =>
    vg_o x1 fun a2 =>
    vg_cv 2 a2 μ (fJx4a65c_size_8abf5 a2  μ) fun x3 μ4 =>
    if x3 ≤ v3 then (
     if 4 ≤ v2 then (
      fX7_hasRoomFor_52  0 μ4
      ) else (
      fX7_hasRoomFor_52  1 μ4
      )
     ) else (
     vg_o (vg_gR μ4 v0 10 2) fun x5 =>
     vg_o x5 fun a6 =>
     vg_cv 2 a6 μ4 (fJx4a65c_get_915e3 a6 v3 μ4) fun x7 μ8 =>
     vg_ck μ8 x7 7 <|
     vg_o x7 fun a9 =>
     vg_o (vg_gI μ8 a9 7 0) fun x10 =>
     if x10 = v1 then (
      fX7_hasRoomFor_36 (fX7_hasRoomFor_4  n) v0 v1 (v2 + 1) v3 μ8
      ) else (
      fX7_hasRoomFor_36 (fX7_hasRoomFor_4  n) v0 v1 v2 v3 μ8
      )
     )
set_option maxHeartbeats 4000000 in
set_option maxRecDepth 100000 in
theorem wX7_hasRoomFor_4 {p : Program} {l : Launch} {e : Env} {R : Room} {s : State} {m : MethodId} {args : Array Value} {below : List Frame} {meth : Method} {c : Code} {D : va_G} {cy : Nat → ClassId} {H0 : Heap} {C0 N0 : Nat} {r : Int32} {μ' : vg_M} (Z : vg_Z D cy H0 p s m args c cX7_hasRoomFor RX7 meth 4 (some .boolean) R 15 C0 N0 "hasRoomFor")   : ∀ (n : Nat) (v0 : Nat) (v1 : Int32) (v2 : Int32) (v3 : Int32) (μ : vg_M), vg_S p l e R s m args below meth c D cy H0 C0 N0 4 (MQ below (vg_Qc D cy H0 μ' (some (.int r))) args s C0 N0 (vg_fr H0)) r μ' (fX7_hasRoomFor_4  n v0 v1 v2 v3 μ) μ [(0, .ref v0), (1, .int v1), (2, .int v2), (3, .int v3)] [] 4 := by
  intro n
  induction n with
  | zero =>
    intro v0 v1 v2 v3 μ cn nn H locs cells slots ls hf
    simp [fX7_hasRoomFor_4] at hf
  | succ n hk4 =>
    intro v0 v1 v2 v3 μ
    intro cn nn H locs cells slots ls hf hH hL hC hN hl
    obtain ⟨X, hml, hr, hlk, hfr, hlo, hRc, hRs, hnm⟩ := id Z
    have hx := X.1
    have hb := X.2.1
    rw [fX7_hasRoomFor_4] at hf
    refine lv_iload_n hx hb dX7_hasRoomFor_4 rfl (lv_at hl.1 3 rfl) ?_
    refine lv_aload_n hx hb dX7_hasRoomFor_5 rfl (lv_at hl.1 0 rfl) ?_
    refine vg_getR X hH fF_X7_12 dX7_hasRoomFor_6 hf (fun x1 hf => ?_)
    obtain ⟨a2, h9, hg⟩ := vg_o_inv hf
    clear hf
    subst h9
    have hf := hg
    clear hg
    refine vg_callVi (ci := 2) X hml hl hH hL fCV_X7_29 rfl [] rfl rfl (Nat.le_of_ble_eq_true rfl) dX7_hasRoomFor_9 hf hC hN hRc hRs hfr hlo (by decide) (fun _ _ _ _ h => cJx4a65c_size_8abf5_met h) (fun x3 μ4 cn nn H locs cells slots hf hC hN hH hL => ?_)
    refine lv_icmp_ge (tgt := 42) hx hb dX7_hasRoomFor_12 (by decide) (fun h8 => ?_) (fun h8 => ?_)
    · have hf := vg_ip h8 hf
      refine lv_iload_n hx hb dX7_hasRoomFor_42 rfl (lv_at hl.1 2 rfl) ?_
      refine lv_iconst (v := 4) hx hb dX7_hasRoomFor_43 (by decide) ?_
      refine lv_icmp_ge (tgt := 51) hx hb dX7_hasRoomFor_44 (by decide) (fun h8 => ?_) (fun h8 => ?_)
      · have hf := vg_ip h8 hf
        refine lv_iconst (v := 0) hx hb dX7_hasRoomFor_51 (by decide) ?_
        exact wX7_hasRoomFor_52 Z  0 μ4 _ _ _ _ _ _ _ hf hH hL hC hN (hl.sub [] rfl)
      · have hf := vg_if h8 hf
        refine lv_iconst (v := 1) hx hb dX7_hasRoomFor_47 (by decide) ?_
        refine lv_goto (tgt := 52) hx hb dX7_hasRoomFor_48 (by decide) ?_
        exact wX7_hasRoomFor_52 Z  1 μ4 _ _ _ _ _ _ _ hf hH hL hC hN (hl.sub [] rfl)
    · have hf := vg_if h8 hf
      refine lv_aload_n hx hb dX7_hasRoomFor_15 rfl (lv_at hl.1 0 rfl) ?_
      refine vg_getR X hH fF_X7_12 dX7_hasRoomFor_16 hf (fun x5 hf => ?_)
      refine lv_iload_n hx hb dX7_hasRoomFor_19 rfl (lv_at hl.1 3 rfl) ?_
      obtain ⟨a6, h9, hg⟩ := vg_o_inv hf
      clear hf
      subst h9
      have hf := hg
      clear hg
      refine vg_callVr (ci := 2) X hml hl hH hL fCV_X7_33 rfl [.int v3] rfl rfl (Nat.le_of_ble_eq_true rfl) dX7_hasRoomFor_20 hf hC hN hRc hRs hfr hlo (by decide) (fun _ _ _ _ h => cJx4a65c_get_915e3_met h) (fun x7 μ8 cn nn H locs cells slots hf hC hN hH hL => ?_)
      refine vg_castC (ci := 7) X hH rfl kw_481568071 (x := x7) dX7_hasRoomFor_23 hf (fun hf => ?_)
      obtain ⟨a9, h9, hg⟩ := vg_o_inv hf
      clear hf
      subst h9
      have hf := hg
      clear hg
      refine vg_getIr X hH fR_X7_39 dX7_hasRoomFor_26 hf (fun x10 hf => ?_)
      refine lv_iload_n hx hb dX7_hasRoomFor_29 rfl (lv_at hl.1 1 rfl) ?_
      refine lv_icmp_ne (tgt := 36) hx hb dX7_hasRoomFor_30 (by decide) (fun h8 => ?_) (fun h8 => ?_)
      · have hf := vg_if h8 hf
        exact wX7_hasRoomFor_36 Z hk4 v0 v1 v2 v3 μ8 _ _ _ _ _ _ _ hf hH hL hC hN (hl.sub [0, 1, 2, 3] rfl)
      · have hf := vg_ip h8 hf
        refine vg_iinc (v := v2 + 1) (lv' := [(2, .int (v2 + 1)), (0, .ref v0), (1, .int v1), (3, .int v3)]) hx hb dX7_hasRoomFor_33 hl (k := 2) rfl rfl (by decide) rfl (fun ls hl => ?_)
        exact wX7_hasRoomFor_36 Z hk4 v0 v1 (v2 + 1) v3 μ8 _ _ _ _ _ _ _ hf hH hL hC hN (hl.sub [1, 2, 0, 3] rfl)
def fX7_hasRoomFor (v0 : Nat) (v1 : Int32) (μ : vg_M) : vg_R Int32 :=
  fX7_hasRoomFor_4  vg_fuel v0 v1 0 0 μ
set_option maxHeartbeats 4000000 in
set_option maxRecDepth 100000 in
theorem cX7_hasRoomFor_met {l : Launch} {D : va_G} {cy : Nat → ClassId} {H0 : Heap} {r : Int32} {μ μ' : vg_M} {cn nn : Nat} {v0 : Nat} {v1 : Int32} (hf : fX7_hasRoomFor v0 v1 μ = some (r, μ', cn, nn)) : vg_Met l D cy H0 yX7_hasRoomFor cX7_hasRoomFor 4 (some .boolean) 15 μ [.ref v0, .int v1] (some (.int r)) μ' cn nn := by
  refine vg_start (by decide +kernel) (List.forall_mem_cons.mpr ⟨rfl, (List.forall_mem_cons.mpr ⟨rfl, (fun _ h => nomatch h)⟩)⟩) (Nat.le_of_ble_eq_true rfl) ?_
  intro p e s m below meth c ls X hml hr hlk hnm hH hl
  have hl : vg_l ls 4 [(0, .ref v0), (1, .int v1)] := hl
  have Z : vg_Z D cy H0 p s m _ c cX7_hasRoomFor RX7 meth 4 (some .boolean) (vg_rm 15 cn nn) 15 cn nn _ := ⟨X, hml, hr, hlk, Nat.le_refl _, Nat.le_refl _, Nat.le_refl _, Nat.le_refl _, hnm⟩
  obtain ⟨-, -, -, -, hfr, hlo, hRc, hRs, -⟩ := id Z
  have hx := X.1
  have hb := X.2.1
  have hL : ∀ z ∈ ([] : List Loc), H0.size ≤ z.base := fun _ h => nomatch h
  have hC : 0 + cn = cn := Nat.zero_add _
  have hN : 0 + nn = nn := Nat.zero_add _
  delta fX7_hasRoomFor at hf
  refine lv_iconst (v := 0) hx hb dX7_hasRoomFor_0 (by decide) ?_
  refine vg_istore_n (lv' := [(2, .int 0), (0, .ref v0), (1, .int v1)]) hx hb dX7_hasRoomFor_1 rfl hl (by decide) rfl (fun ls hl => ?_)
  refine lv_iconst (v := 0) hx hb dX7_hasRoomFor_2 (by decide) ?_
  refine vg_istore_n (lv' := [(3, .int 0), (2, .int 0), (0, .ref v0), (1, .int v1)]) hx hb dX7_hasRoomFor_3 rfl hl (by decide) rfl (fun ls hl => ?_)
  exact wX7_hasRoomFor_4 Z  vg_fuel v0 v1 0 0 μ _ _ _ _ _ _ _ hf hH hL hC hN (hl.sub [2, 3, 1, 0] rfl)
def fX7_init (v0 : Nat) (v1 : Option Nat) (v2 : Int32) (μ : vg_M) : vg_R Unit :=
  vg_nw 3 μ.2.1 (vg_nO μ 2 [.int 0, .null, .int 0]) fun a1 μ2 =>
  vg_b (fJx4a65c_init_da8c8 a1  μ2) fun _ μ4 =>
  vg_o (vg_p μ4 v0 10 2 (.ref a1)) fun μ5 =>
  vg_o (vg_p μ5 v0 10 3 (.int 1)) fun μ6 =>
  vg_o (vg_p μ6 v0 10 0 (va_rf v1)) fun μ7 =>
  vg_o (vg_p μ7 v0 10 1 (.int v2)) fun μ8 =>
  vg_ret () μ8
set_option maxHeartbeats 4000000 in
set_option maxRecDepth 100000 in
theorem cX7_init_met {l : Launch} {D : va_G} {cy : Nat → ClassId} {H0 : Heap} {r : Unit} {μ μ' : vg_M} {cn nn : Nat} {v0 : Nat} {v1 : Option Nat} {v2 : Int32} (hf : fX7_init v0 v1 v2 μ = some (r, μ', cn, nn)) : vg_Met l D cy H0 yX7_init cX7_init 3 none 15 μ [.ref v0, va_rf v1, .int v2] none μ' cn nn := by
  refine vg_start (by decide +kernel) (List.forall_mem_cons.mpr ⟨rfl, (List.forall_mem_cons.mpr ⟨vg_rfc _, (List.forall_mem_cons.mpr ⟨rfl, (fun _ h => nomatch h)⟩)⟩)⟩) (Nat.le_of_ble_eq_true rfl) ?_
  intro p e s m below meth c ls X hml hr hlk hnm hH hl
  have hl : vg_l ls 3 [(0, .ref v0), (1, va_rf v1), (2, .int v2)] := hl
  have Z : vg_Z D cy H0 p s m _ c cX7_init RX7 meth 3 none (vg_rm 15 cn nn) 15 cn nn _ := ⟨X, hml, hr, hlk, Nat.le_refl _, Nat.le_refl _, Nat.le_refl _, Nat.le_refl _, hnm⟩
  obtain ⟨-, -, -, -, hfr, hlo, hRc, hRs, -⟩ := id Z
  have hx := X.1
  have hb := X.2.1
  have hL : ∀ z ∈ ([] : List Loc), H0.size ≤ z.base := fun _ h => nomatch h
  have hC : 0 + cn = cn := Nat.zero_add _
  have hN : 0 + nn = nn := Nat.zero_add _
  delta fX7_init at hf
  refine lv_aload_n hx hb dX7_init_0 rfl (lv_at hl.1 0 rfl) ?_
  refine vg_objInit X hml hl kw_201135355 kw_624348017 kw_835052908 dX7_init_1 (Nat.le_of_ble_eq_true rfl) (Nat.le_trans (by decide) hfr) (Nat.le_trans (by decide) hlo) ?_
  refine lv_aload_n hx hb dX7_init_4 rfl (lv_at hl.1 0 rfl) ?_
  refine vg_new X hH fN_X7_9 dX7_init_5 hf hC hN hRc hRs (fun a1 μ2 cn nn H hf hC hN hH => ?_)
  refine lv_dup hx hb dX7_init_8 rfl ?_
  refine vg_callIv X hml hl hH hL fCI_X7_11 [] rfl rfl (Nat.le_of_ble_eq_true rfl) dX7_init_9 hf hC hN hRc hRs hfr hlo (by decide) (fun _ _ _ _ h => cJx4a65c_init_da8c8_met h) (fun _ μ4 cn nn H locs cells slots hf hC hN hH hL => ?_)
  refine vg_putF X hnm hH hL fF_X7_12 (vg_fitR (by simp) (some a1)).1 (vg_fitR (by simp) (some a1)).2 dX7_init_12 hf (fun μ5 H locs hf hH hL => ?_)
  refine lv_aload_n hx hb dX7_init_15 rfl (lv_at hl.1 0 rfl) ?_
  refine lv_iconst (v := 1) hx hb dX7_init_16 (by decide) ?_
  refine vg_putV X hH hL fF_X7_18 rfl rfl dX7_init_17 hf (fun μ6 H locs hf hH hL => ?_)
  refine lv_aload_n hx hb dX7_init_20 rfl (lv_at hl.1 0 rfl) ?_
  refine vg_aload_n hx hb dX7_init_21 rfl (lv_at hl.1 1 rfl) ?_
  refine vg_putF X hnm hH hL fF_X7_22 (vg_fitR (by simp) v1).1 (vg_fitR (by simp) v1).2 dX7_init_22 hf (fun μ7 H locs hf hH hL => ?_)
  refine lv_aload_n hx hb dX7_init_25 rfl (lv_at hl.1 0 rfl) ?_
  refine lv_iload_n hx hb dX7_init_26 rfl (lv_at hl.1 2 rfl) ?_
  refine vg_putF X hnm hH hL fF_X7_26 rfl rfl dX7_init_27 hf (fun μ8 H locs hf hH hL => ?_)
  exact vg_retv X hr hlk hH hL dX7_init_30 hf hC hN
def fX8_size_47 (rc : Option Nat → Int32 → vg_M → vg_R Int32)  (v2 : Int32) (μ : vg_M) : vg_R Int32 :=
  vg_ret v2 μ
set_option maxHeartbeats 4000000 in
set_option maxRecDepth 100000 in
theorem wX8_size_47 {p : Program} {l : Launch} {e : Env} {R : Room} {s : State} {m : MethodId} {args : Array Value} {below : List Frame} {meth : Method} {c : Code} {D : va_G} {cy : Nat → ClassId} {H0 : Heap} {C0 N0 : Nat} {r : Int32} {μ' : vg_M} {rc : Option Nat → Int32 → vg_M → vg_R Int32} {hb : Nat} (hb30 : 30 ≤ hb) (hrc : ∀ {r : Int32} {μ μ' : vg_M} {cn nn : Nat} {u0 : Option Nat} {u1 : Int32}, rc u0 u1 μ = some (r, μ', cn, nn) → vg_Met l D cy H0 yX8_size cX8_size 4 (some .int) hb μ [va_rf u0, .int u1] (some (.int r)) μ' cn nn) (Z : vg_Z D cy H0 p s m args c cX8_size RX8 meth 4 (some .int) R (hb + 1) C0 N0 "size")   (v2 : Int32) (μ : vg_M) : vg_S p l e R s m args below meth c D cy H0 C0 N0 4 (MQ below (vg_Qc D cy H0 μ' (some (.int r))) args s C0 N0 (vg_fr H0)) r μ' (fX8_size_47 rc  v2 μ) μ [(2, .int v2)] [] 47 := by
  intro cn nn H locs cells slots ls hf hH hL hC hN hl
  obtain ⟨X, hml, hr, hlk, hfr, hlo, hRc, hRs, hnm⟩ := id Z
  have hx := X.1
  have hb := X.2.1
  delta fX8_size_47 at hf
  refine lv_iload_n hx hb dX8_size_47 rfl (lv_at hl.1 0 rfl) ?_
  exact vg_reti X hr hlk hH hL dX8_size_48 hf hC hN
def fX8_size_4 (rc : Option Nat → Int32 → vg_M → vg_R Int32)  : Nat → Option Nat → Int32 → Int32 → Int32 → vg_M → vg_R Int32
  | 0, _, _, _, _, _ => none
  | n + 1, v0, v1, v2, v3, μ =>
    vg_o v0 fun a1 =>
    vg_o (vg_gR μ a1 4 3) fun x2 =>
    vg_o x2 fun a3 =>
    vg_cv 2 a3 μ (fJx4a65c_size_8abf5 a3  μ) fun x4 μ5 =>
    if x4 ≤ v3 then (
     fX8_size_47 rc  v2 μ5
     ) else (
     if 6 ≤ v1 then (
      fX8_size_47 rc  v2 μ5
      ) else (
      vg_o (vg_gR μ5 a1 4 3) fun x6 =>
      vg_o x6 fun a7 =>
      vg_cv 2 a7 μ5 (fJx4a65c_get_915e3 a7 v3 μ5) fun x8 μ9 =>
      vg_ck μ9 x8 4 <|
      vg_b (rc x8 (v1 + 1) μ9) fun x10 μ11 =>
      (fX8_size_4 rc  n) (some a1) v1 (v2 + x10) (v3 + 1) μ11
      )
     )
set_option maxHeartbeats 4000000 in
set_option maxRecDepth 100000 in
theorem wX8_size_4 {p : Program} {l : Launch} {e : Env} {R : Room} {s : State} {m : MethodId} {args : Array Value} {below : List Frame} {meth : Method} {c : Code} {D : va_G} {cy : Nat → ClassId} {H0 : Heap} {C0 N0 : Nat} {r : Int32} {μ' : vg_M} {rc : Option Nat → Int32 → vg_M → vg_R Int32} {hb : Nat} (hb30 : 30 ≤ hb) (hrc : ∀ {r : Int32} {μ μ' : vg_M} {cn nn : Nat} {u0 : Option Nat} {u1 : Int32}, rc u0 u1 μ = some (r, μ', cn, nn) → vg_Met l D cy H0 yX8_size cX8_size 4 (some .int) hb μ [va_rf u0, .int u1] (some (.int r)) μ' cn nn) (Z : vg_Z D cy H0 p s m args c cX8_size RX8 meth 4 (some .int) R (hb + 1) C0 N0 "size")   : ∀ (n : Nat) (v0 : Option Nat) (v1 : Int32) (v2 : Int32) (v3 : Int32) (μ : vg_M), vg_S p l e R s m args below meth c D cy H0 C0 N0 4 (MQ below (vg_Qc D cy H0 μ' (some (.int r))) args s C0 N0 (vg_fr H0)) r μ' (fX8_size_4 rc  n v0 v1 v2 v3 μ) μ [(0, va_rf v0), (1, .int v1), (2, .int v2), (3, .int v3)] [] 4 := by
  intro n
  induction n with
  | zero =>
    intro v0 v1 v2 v3 μ cn nn H locs cells slots ls hf
    simp [fX8_size_4] at hf
  | succ n hk4 =>
    intro v0 v1 v2 v3 μ
    intro cn nn H locs cells slots ls hf hH hL hC hN hl
    obtain ⟨X, hml, hr, hlk, hfr, hlo, hRc, hRs, hnm⟩ := id Z
    have hx := X.1
    have hb := X.2.1
    rw [fX8_size_4] at hf
    refine lv_iload_n hx hb dX8_size_4 rfl (lv_at hl.1 3 rfl) ?_
    refine vg_aload_n hx hb dX8_size_5 rfl (lv_at hl.1 0 rfl) ?_
    obtain ⟨a1, h9, hg⟩ := vg_o_inv hf
    clear hf
    subst h9
    have hf := hg
    clear hg
    refine vg_getRr X hH fR_X8_69 dX8_size_6 hf (fun x2 hf => ?_)
    obtain ⟨a3, h9, hg⟩ := vg_o_inv hf
    clear hf
    subst h9
    have hf := hg
    clear hg
    refine vg_callVi (ci := 2) X hml hl hH hL fCV_X8_73 rfl [] rfl rfl (Nat.le_of_ble_eq_true rfl) dX8_size_9 hf hC hN hRc hRs hfr hlo (by omega) (fun _ _ _ _ h => cJx4a65c_size_8abf5_met h) (fun x4 μ5 cn nn H locs cells slots hf hC hN hH hL => ?_)
    refine lv_icmp_ge (tgt := 47) hx hb dX8_size_12 (by decide) (fun h8 => ?_) (fun h8 => ?_)
    · have hf := vg_ip h8 hf
      exact wX8_size_47 hb30 hrc Z  v2 μ5 _ _ _ _ _ _ _ hf hH hL hC hN (hl.sub [2] rfl)
    · have hf := vg_if h8 hf
      refine lv_iload_n hx hb dX8_size_15 rfl (lv_at hl.1 1 rfl) ?_
      refine lv_bipush (v := 6) hx hb dX8_size_16 (by decide) ?_
      refine lv_icmp_ge (tgt := 47) hx hb dX8_size_18 (by decide) (fun h8 => ?_) (fun h8 => ?_)
      · have hf := vg_ip h8 hf
        exact wX8_size_47 hb30 hrc Z  v2 μ5 _ _ _ _ _ _ _ hf hH hL hC hN (hl.sub [2] rfl)
      · have hf := vg_if h8 hf
        refine lv_iload_n hx hb dX8_size_21 rfl (lv_at hl.1 2 rfl) ?_
        refine lv_aload_n hx hb dX8_size_22 rfl (lv_at hl.1 0 rfl) ?_
        refine vg_getRr X hH fR_X8_69 dX8_size_23 hf (fun x6 hf => ?_)
        refine lv_iload_n hx hb dX8_size_26 rfl (lv_at hl.1 3 rfl) ?_
        obtain ⟨a7, h9, hg⟩ := vg_o_inv hf
        clear hf
        subst h9
        have hf := hg
        clear hg
        refine vg_callVr (ci := 2) X hml hl hH hL fCV_X8_78 rfl [.int v3] rfl rfl (Nat.le_of_ble_eq_true rfl) dX8_size_27 hf hC hN hRc hRs hfr hlo (by omega) (fun _ _ _ _ h => cJx4a65c_get_915e3_met h) (fun x8 μ9 cn nn H locs cells slots hf hC hN hH hL => ?_)
        refine vg_castC (ci := 4) X hH rfl kw_335227292 (x := x8) dX8_size_30 hf (fun hf => ?_)
        refine lv_iload_n hx hb dX8_size_33 rfl (lv_at hl.1 1 rfl) ?_
        refine lv_iconst (v := 1) hx hb dX8_size_34 (by decide) ?_
        refine lv_iadd hx hb dX8_size_35 ?_
        refine vg_callSi X hml hl hH hL fCS_X8_59 [va_rf x8, .int (v1 + 1)] rfl rfl (Nat.le_of_ble_eq_true rfl) dX8_size_36 hf hC hN hRc hRs hfr hlo (by omega) (fun _ _ _ _ h => hrc h) (fun x10 μ11 cn nn H locs cells slots hf hC hN hH hL => ?_)
        refine lv_iadd hx hb dX8_size_39 ?_
        refine vg_istore_n (lv' := [(2, .int (v2 + x10)), (0, .ref a1), (1, .int v1), (3, .int v3)]) hx hb dX8_size_40 rfl hl (by decide) rfl (fun ls hl => ?_)
        refine vg_iinc (v := v3 + 1) (lv' := [(3, .int (v3 + 1)), (2, .int (v2 + x10)), (0, .ref a1), (1, .int v1)]) hx hb dX8_size_41 hl (k := 3) rfl rfl (by decide) rfl (fun ls hl => ?_)
        refine lv_goto (tgt := 4) hx hb dX8_size_44 (by decide) ?_
        exact hk4 (some a1) v1 (v2 + x10) (v3 + 1) μ11 _ _ _ _ _ _ _ hf hH hL hC hN (hl.sub [2, 3, 1, 0] rfl)
def fX8_size (rc : Option Nat → Int32 → vg_M → vg_R Int32) (v0 : Option Nat) (v1 : Int32) (μ : vg_M) : vg_R Int32 :=
  fX8_size_4 rc  vg_fuel v0 v1 1 0 μ
set_option maxHeartbeats 4000000 in
set_option maxRecDepth 100000 in
theorem cX8_size_met {l : Launch} {D : va_G} {cy : Nat → ClassId} {H0 : Heap} {rc : Option Nat → Int32 → vg_M → vg_R Int32} {hb : Nat} (hb30 : 30 ≤ hb) (hrc : ∀ {r : Int32} {μ μ' : vg_M} {cn nn : Nat} {u0 : Option Nat} {u1 : Int32}, rc u0 u1 μ = some (r, μ', cn, nn) → vg_Met l D cy H0 yX8_size cX8_size 4 (some .int) hb μ [va_rf u0, .int u1] (some (.int r)) μ' cn nn) {r : Int32} {μ μ' : vg_M} {cn nn : Nat} {v0 : Option Nat} {v1 : Int32} (hf : fX8_size rc v0 v1 μ = some (r, μ', cn, nn)) : vg_Met l D cy H0 yX8_size cX8_size 4 (some .int) (hb + 1) μ [va_rf v0, .int v1] (some (.int r)) μ' cn nn := by
  refine vg_start (by decide +kernel) (List.forall_mem_cons.mpr ⟨vg_rfc _, (List.forall_mem_cons.mpr ⟨rfl, (fun _ h => nomatch h)⟩)⟩) (Nat.le_of_ble_eq_true rfl) ?_
  intro p e s m below meth c ls X hml hr hlk hnm hH hl
  have hl : vg_l ls 4 [(0, va_rf v0), (1, .int v1)] := hl
  have Z : vg_Z D cy H0 p s m _ c cX8_size RX8 meth 4 (some .int) (vg_rm (hb + 1) cn nn) (hb + 1) cn nn _ := ⟨X, hml, hr, hlk, Nat.le_refl _, Nat.le_refl _, Nat.le_refl _, Nat.le_refl _, hnm⟩
  obtain ⟨-, -, -, -, hfr, hlo, hRc, hRs, -⟩ := id Z
  have hx := X.1
  have hb := X.2.1
  have hL : ∀ z ∈ ([] : List Loc), H0.size ≤ z.base := fun _ h => nomatch h
  have hC : 0 + cn = cn := Nat.zero_add _
  have hN : 0 + nn = nn := Nat.zero_add _
  delta fX8_size at hf
  refine lv_iconst (v := 1) hx hb dX8_size_0 (by decide) ?_
  refine vg_istore_n (lv' := [(2, .int 1), (0, va_rf v0), (1, .int v1)]) hx hb dX8_size_1 rfl hl (by decide) rfl (fun ls hl => ?_)
  refine lv_iconst (v := 0) hx hb dX8_size_2 (by decide) ?_
  refine vg_istore_n (lv' := [(3, .int 0), (2, .int 1), (0, va_rf v0), (1, .int v1)]) hx hb dX8_size_3 rfl hl (by decide) rfl (fun ls hl => ?_)
  exact wX8_size_4 hb30 hrc Z  vg_fuel v0 v1 1 0 μ _ _ _ _ _ _ _ hf hH hL hC hN (hl.sub [2, 3, 1, 0] rfl)
def gX8_size : Nat → Option Nat → Int32 → vg_M → vg_R Int32
  | 0, _, _, _ => none
  | d + 1, u0, u1, μ => fX8_size (gX8_size d) u0 u1 μ
theorem cX8_size_g {l : Launch} {D : va_G} {cy : Nat → ClassId} {H0 : Heap} (d : Nat) : ∀ {r : Int32} {μ μ' : vg_M} {cn nn : Nat} {u0 : Option Nat} {u1 : Int32}, gX8_size d u0 u1 μ = some (r, μ', cn, nn) → vg_Met l D cy H0 yX8_size cX8_size 4 (some .int) (30 + 1 * d) μ [va_rf u0, .int u1] (some (.int r)) μ' cn nn := by
  induction d with
  | zero =>
    intro r μ μ' cn nn u0 u1 h
    simp [gX8_size] at h
  | succ d ih =>
    intro r μ μ' cn nn u0 u1 h
    have e : 30 + 1 * (d + 1) = 30 + 1 * d + 1 := by omega
    rw [e]
    rw [gX8_size] at h
    exact cX8_size_met (hb := 30 + 1 * d) (Nat.le_add_right _ _) (fun h => ih h) h
def fX8_cut_21  (v0 : Nat) (v2 : Int32) (μ : vg_M) : vg_R Int32 :=
  vg_o (vg_gI μ v0 11 1) fun x1 =>
  vg_o (vg_p μ v0 11 1 (.int (x1 - v2))) fun μ2 =>
  vg_ret v2 μ2
set_option maxHeartbeats 4000000 in
set_option maxRecDepth 100000 in
theorem wX8_cut_21 {p : Program} {l : Launch} {e : Env} {R : Room} {s : State} {m : MethodId} {args : Array Value} {below : List Frame} {meth : Method} {c : Code} {D : va_G} {cy : Nat → ClassId} {H0 : Heap} {C0 N0 : Nat} {r : Int32} {μ' : vg_M} (Z : vg_Z D cy H0 p s m args c cX8_cut RX8 meth 3 (some .int) R 41 C0 N0 "cut")   (v0 : Nat) (v2 : Int32) (μ : vg_M) : vg_S p l e R s m args below meth c D cy H0 C0 N0 3 (MQ below (vg_Qc D cy H0 μ' (some (.int r))) args s C0 N0 (vg_fr H0)) r μ' (fX8_cut_21  v0 v2 μ) μ [(0, .ref v0), (2, .int v2)] [] 21 := by
  intro cn nn H locs cells slots ls hf hH hL hC hN hl
  obtain ⟨X, hml, hr, hlk, hfr, hlo, hRc, hRs, hnm⟩ := id Z
  have hx := X.1
  have hb := X.2.1
  delta fX8_cut_21 at hf
  refine lv_aload_n hx hb dX8_cut_21 rfl (lv_at hl.1 0 rfl) ?_
  refine lv_dup hx hb dX8_cut_22 rfl ?_
  refine vg_getI X hH fF_X8_50 dX8_cut_23 hf (fun x1 hf => ?_)
  refine lv_iload_n hx hb dX8_cut_26 rfl (lv_at hl.1 1 rfl) ?_
  refine lv_isub hx hb dX8_cut_27 ?_
  refine vg_putV X hH hL fF_X8_50 rfl rfl dX8_cut_28 hf (fun μ2 H locs hf hH hL => ?_)
  refine lv_iload_n hx hb dX8_cut_31 rfl (lv_at hl.1 1 rfl) ?_
  exact vg_reti X hr hlk hH hL dX8_cut_32 hf hC hN
def fX8_cut (v0 : Nat) (v1 : Option Nat) (μ : vg_M) : vg_R Int32 :=
  vg_b (gX8_size 10 v1 0 μ) fun x3 μ4 =>
  vg_o v1 fun a5 =>
  vg_o (vg_gR μ4 a5 4 1) fun x6 =>
  vg_m x6 (
   fX8_cut_21  v0 x3 μ4
   ) fun a7 => (
   vg_o (vg_gR μ4 a5 4 1) fun x8 =>
   vg_o x8 fun a9 =>
   vg_cv 4 a9 μ4 (fX1_drop a9 (some a5) μ4) fun _ μ11 =>
   fX8_cut_21  v0 x3 μ11
   )
set_option maxHeartbeats 4000000 in
set_option maxRecDepth 100000 in
theorem cX8_cut_met {l : Launch} {D : va_G} {cy : Nat → ClassId} {H0 : Heap} {r : Int32} {μ μ' : vg_M} {cn nn : Nat} {v0 : Nat} {v1 : Option Nat} (hf : fX8_cut v0 v1 μ = some (r, μ', cn, nn)) : vg_Met l D cy H0 yX8_cut cX8_cut 3 (some .int) 41 μ [.ref v0, va_rf v1] (some (.int r)) μ' cn nn := by
  refine vg_start (by decide +kernel) (List.forall_mem_cons.mpr ⟨rfl, (List.forall_mem_cons.mpr ⟨vg_rfc _, (fun _ h => nomatch h)⟩)⟩) (Nat.le_of_ble_eq_true rfl) ?_
  intro p e s m below meth c ls X hml hr hlk hnm hH hl
  have hl : vg_l ls 3 [(0, .ref v0), (1, va_rf v1)] := hl
  have Z : vg_Z D cy H0 p s m _ c cX8_cut RX8 meth 3 (some .int) (vg_rm 41 cn nn) 41 cn nn _ := ⟨X, hml, hr, hlk, Nat.le_refl _, Nat.le_refl _, Nat.le_refl _, Nat.le_refl _, hnm⟩
  obtain ⟨-, -, -, -, hfr, hlo, hRc, hRs, -⟩ := id Z
  have hx := X.1
  have hb := X.2.1
  have hL : ∀ z ∈ ([] : List Loc), H0.size ≤ z.base := fun _ h => nomatch h
  have hC : 0 + cn = cn := Nat.zero_add _
  have hN : 0 + nn = nn := Nat.zero_add _
  delta fX8_cut at hf
  refine vg_aload_n hx hb dX8_cut_0 rfl (lv_at hl.1 1 rfl) ?_
  refine lv_iconst (v := 0) hx hb dX8_cut_1 (by decide) ?_
  refine vg_callSi X hml hl hH hL fCS_X8_59 [va_rf v1, .int 0] rfl rfl (Nat.le_of_ble_eq_true rfl) dX8_cut_2 hf hC hN hRc hRs hfr hlo (by decide) (fun _ _ _ _ h => cX8_size_g 10 h) (fun x3 μ4 cn nn H locs cells slots hf hC hN hH hL => ?_)
  refine vg_istore_n (lv' := [(2, .int x3), (0, .ref v0), (1, va_rf v1)]) hx hb dX8_cut_5 rfl hl (by decide) rfl (fun ls hl => ?_)
  refine vg_aload_n hx hb dX8_cut_6 rfl (lv_at hl.1 2 rfl) ?_
  obtain ⟨a5, h9, hg⟩ := vg_o_inv hf
  clear hf
  subst h9
  have hf := hg
  clear hg
  refine vg_getRr X hH fR_X8_63 dX8_cut_7 hf (fun x6 hf => ?_)
  refine vg_ifnull (tgt := 21) hx hb dX8_cut_10 (by decide) hf (fun h9 hg => ?_) (fun a7 h9 hg => ?_)
  · clear hf
    subst h9
    have hf := hg
    clear hg
    exact wX8_cut_21 Z  v0 x3 μ4 _ _ _ _ _ _ _ hf hH hL hC hN (hl.sub [1, 0] rfl)
  · clear hf
    subst h9
    have hf := hg
    clear hg
    refine lv_aload_n hx hb dX8_cut_13 rfl (lv_at hl.1 2 rfl) ?_
    refine vg_getRr X hH fR_X8_63 dX8_cut_14 hf (fun x8 hf => ?_)
    refine lv_aload_n hx hb dX8_cut_17 rfl (lv_at hl.1 2 rfl) ?_
    obtain ⟨a9, h9, hg⟩ := vg_o_inv hf
    clear hf
    subst h9
    have hf := hg
    clear hg
    refine vg_callVv (ci := 4) X hml hl hH hL fCV_X8_66 rfl [.ref a5] rfl rfl (Nat.le_of_ble_eq_true rfl) dX8_cut_18 hf hC hN hRc hRs hfr hlo (by decide) (fun _ _ _ _ h => cX1_drop_met h) (fun _ μ11 cn nn H locs cells slots hf hC hN hH hL => ?_)
    exact wX8_cut_21 Z  v0 x3 μ11 _ _ _ _ _ _ _ hf hH hL hC hN (hl.sub [1, 0] rfl)
def fX9_passBy_90 (rc : Nat → Option Nat → Option Nat → Int32 → vg_M → vg_R Unit)  (v0 : Nat) (v4 : Int32) (μ : vg_M) : vg_R Unit :=
  vg_o (vg_gR μ v0 12 1) fun x26 =>
  vg_o x26 fun a27 =>
  vg_cv 1 a27 μ (fJ4_setLength_d00df a27 v4 μ) fun _ μ29 =>
  vg_ret () μ29
set_option maxHeartbeats 4000000 in
set_option maxRecDepth 100000 in
theorem wX9_passBy_90 {p : Program} {l : Launch} {e : Env} {R : Room} {s : State} {m : MethodId} {args : Array Value} {below : List Frame} {meth : Method} {c : Code} {D : va_G} {cy : Nat → ClassId} {H0 : Heap} {C0 N0 : Nat} {r : Unit} {μ' : vg_M} {rc : Nat → Option Nat → Option Nat → Int32 → vg_M → vg_R Unit} {hb : Nat} (hb30 : 30 ≤ hb) (hrc : ∀ {r : Unit} {μ μ' : vg_M} {cn nn : Nat} {u0 : Nat} {u1 : Option Nat} {u2 : Option Nat} {u3 : Int32}, rc u0 u1 u2 u3 μ = some (r, μ', cn, nn) → vg_Met l D cy H0 yX9_lookInto cX9_lookInto 6 none hb μ [.ref u0, va_rf u1, va_rf u2, .int u3] none μ' cn nn) (Z : vg_Z D cy H0 p s m args c cX9_passBy RX9 meth 5 none R (hb + 1) C0 N0 "passBy")   (v0 : Nat) (v4 : Int32) (μ : vg_M) : vg_S p l e R s m args below meth c D cy H0 C0 N0 5 (MQ below (vg_Qc D cy H0 μ' none) args s C0 N0 (vg_fr H0)) r μ' (fX9_passBy_90 rc  v0 v4 μ) μ [(0, .ref v0), (4, .int v4)] [] 90 := by
  intro cn nn H locs cells slots ls hf hH hL hC hN hl
  obtain ⟨X, hml, hr, hlk, hfr, hlo, hRc, hRs, hnm⟩ := id Z
  have hx := X.1
  have hb := X.2.1
  delta fX9_passBy_90 at hf
  refine lv_aload_n hx hb dX9_passBy_90 rfl (lv_at hl.1 0 rfl) ?_
  refine vg_getR X hH fF_X9_21 dX9_passBy_91 hf (fun x26 hf => ?_)
  refine lv_iload hx hb dX9_passBy_94 (lv_at hl.1 1 rfl) ?_
  obtain ⟨a27, h9, hg⟩ := vg_o_inv hf
  clear hf
  subst h9
  have hf := hg
  clear hg
  refine vg_callVv (ci := 1) X hml hl hH hL fCV_X9_95 rfl [.int v4] rfl rfl (Nat.le_of_ble_eq_true rfl) dX9_passBy_96 hf hC hN hRc hRs hfr hlo (by omega) (fun _ _ _ _ h => cJ4_setLength_d00df_met h) (fun _ μ29 cn nn H locs cells slots hf hC hN hH hL => ?_)
  exact vg_retv X hr hlk hH hL dX9_passBy_99 hf hC hN
def fX9_passBy_68 (rc : Nat → Option Nat → Option Nat → Int32 → vg_M → vg_R Unit)  (v0 : Nat) (v1 : Option Nat) (v2 : Option Nat) (v3 : Int32) (v4 : Int32) (μ : vg_M) : vg_R Unit :=
  vg_o v2 fun a19 =>
  vg_o (vg_gI μ a19 4 2) fun x20 =>
  if x20 = 0 then (
   fX9_passBy_90 rc  v0 v4 μ
   ) else (
   vg_o v1 fun a21 =>
   vg_cv 10 a21 μ (fX7_goesOn a21 v3 μ) fun x22 μ23 =>
   if x22 = 0 then (
    fX9_passBy_90 rc  v0 v4 μ23
    ) else (
    vg_cv 12 v0 μ23 (rc v0 (some a21) (some a19) v3 μ23) fun _ μ25 =>
    fX9_passBy_90 rc  v0 v4 μ25
    )
   )
set_option maxHeartbeats 4000000 in
set_option maxRecDepth 100000 in
theorem wX9_passBy_68 {p : Program} {l : Launch} {e : Env} {R : Room} {s : State} {m : MethodId} {args : Array Value} {below : List Frame} {meth : Method} {c : Code} {D : va_G} {cy : Nat → ClassId} {H0 : Heap} {C0 N0 : Nat} {r : Unit} {μ' : vg_M} {rc : Nat → Option Nat → Option Nat → Int32 → vg_M → vg_R Unit} {hb : Nat} (hb30 : 30 ≤ hb) (hrc : ∀ {r : Unit} {μ μ' : vg_M} {cn nn : Nat} {u0 : Nat} {u1 : Option Nat} {u2 : Option Nat} {u3 : Int32}, rc u0 u1 u2 u3 μ = some (r, μ', cn, nn) → vg_Met l D cy H0 yX9_lookInto cX9_lookInto 6 none hb μ [.ref u0, va_rf u1, va_rf u2, .int u3] none μ' cn nn) (Z : vg_Z D cy H0 p s m args c cX9_passBy RX9 meth 5 none R (hb + 1) C0 N0 "passBy")   (v0 : Nat) (v1 : Option Nat) (v2 : Option Nat) (v3 : Int32) (v4 : Int32) (μ : vg_M) : vg_S p l e R s m args below meth c D cy H0 C0 N0 5 (MQ below (vg_Qc D cy H0 μ' none) args s C0 N0 (vg_fr H0)) r μ' (fX9_passBy_68 rc  v0 v1 v2 v3 v4 μ) μ [(0, .ref v0), (1, va_rf v1), (2, va_rf v2), (3, .int v3), (4, .int v4)] [] 68 := by
  intro cn nn H locs cells slots ls hf hH hL hC hN hl
  obtain ⟨X, hml, hr, hlk, hfr, hlo, hRc, hRs, hnm⟩ := id Z
  have hx := X.1
  have hb := X.2.1
  delta fX9_passBy_68 at hf
  refine vg_aload_n hx hb dX9_passBy_68 rfl (lv_at hl.1 2 rfl) ?_
  obtain ⟨a19, h9, hg⟩ := vg_o_inv hf
  clear hf
  subst h9
  have hf := hg
  clear hg
  refine vg_getIr X hH fR_X9_77 dX9_passBy_69 hf (fun x20 hf => ?_)
  refine lv_if_eq (tgt := 90) hx hb dX9_passBy_72 (by decide) (fun h8 => ?_) (fun h8 => ?_)
  · have hf := vg_ip h8 hf
    exact wX9_passBy_90 hb30 hrc Z  v0 v4 μ _ _ _ _ _ _ _ hf hH hL hC hN (hl.sub [0, 4] rfl)
  · have hf := vg_if h8 hf
    refine vg_aload_n hx hb dX9_passBy_75 rfl (lv_at hl.1 1 rfl) ?_
    refine lv_iload_n hx hb dX9_passBy_76 rfl (lv_at hl.1 3 rfl) ?_
    obtain ⟨a21, h9, hg⟩ := vg_o_inv hf
    clear hf
    subst h9
    have hf := hg
    clear hg
    refine vg_callVi (ci := 10) X hml hl hH hL fCV_X9_88 rfl [.int v3] rfl rfl (Nat.le_of_ble_eq_true rfl) dX9_passBy_77 hf hC hN hRc hRs hfr hlo (by omega) (fun _ _ _ _ h => cX7_goesOn_met h) (fun x22 μ23 cn nn H locs cells slots hf hC hN hH hL => ?_)
    refine lv_if_eq (tgt := 90) hx hb dX9_passBy_80 (by decide) (fun h8 => ?_) (fun h8 => ?_)
    · have hf := vg_ip h8 hf
      exact wX9_passBy_90 hb30 hrc Z  v0 v4 μ23 _ _ _ _ _ _ _ hf hH hL hC hN (hl.sub [0, 4] rfl)
    · have hf := vg_if h8 hf
      refine lv_aload_n hx hb dX9_passBy_83 rfl (lv_at hl.1 0 rfl) ?_
      refine lv_aload_n hx hb dX9_passBy_84 rfl (lv_at hl.1 1 rfl) ?_
      refine lv_aload_n hx hb dX9_passBy_85 rfl (lv_at hl.1 2 rfl) ?_
      refine lv_iload_n hx hb dX9_passBy_86 rfl (lv_at hl.1 3 rfl) ?_
      refine vg_callVv (ci := 12) X hml hl hH hL fCV_X9_92 rfl [.ref a21, .ref a19, .int v3] rfl rfl (Nat.le_of_ble_eq_true rfl) dX9_passBy_87 hf hC hN hRc hRs hfr hlo (by omega) (fun _ _ _ _ h => hrc h) (fun _ μ25 cn nn H locs cells slots hf hC hN hH hL => ?_)
      exact wX9_passBy_90 hb30 hrc Z  v0 v4 μ25 _ _ _ _ _ _ _ hf hH hL hC hN (hl.sub [0, 4] rfl)
def fX9_passBy_24 (rc : Nat → Option Nat → Option Nat → Int32 → vg_M → vg_R Unit)  (v0 : Nat) (v1 : Option Nat) (v2 : Option Nat) (v3 : Int32) (v4 : Int32) (μ : vg_M) : vg_R Unit :=
  vg_o (vg_gR μ v0 12 1) fun x1 =>
  vg_o v2 fun a2 =>
  vg_o (vg_gR μ a2 4 0) fun x3 =>
  vg_o x1 fun a4 =>
  vg_cv 1 a4 μ (fJ4_append_15ec4 a4 x3 μ) fun x5 μ6 =>
  vg_o (vg_gR μ6 a2 4 0) fun x7 =>
  vg_o v1 fun a8 =>
  vg_cv 10 a8 μ6 (fX7_pass a8 x7 v3 μ6) fun _ μ10 =>
  vg_o (vg_gI μ10 a2 4 2) fun x11 =>
  vg_cv 10 a8 μ10 (fX7_takes a8 x11 v3 μ10) fun x12 μ13 =>
  if x12 = 0 then (
   fX9_passBy_68 rc  v0 (some a8) (some a2) v3 v4 μ13
   ) else (
   vg_o (vg_gR μ13 v0 12 0) fun x14 =>
   vg_o (vg_gR μ13 v0 12 1) fun x15 =>
   vg_o x14 fun a16 =>
   vg_cv 3 a16 μ13 (fX0_add a16 x15 μ13) fun _ μ18 =>
   fX9_passBy_68 rc  v0 (some a8) (some a2) v3 v4 μ18
   )
set_option maxHeartbeats 4000000 in
set_option maxRecDepth 100000 in
theorem wX9_passBy_24 {p : Program} {l : Launch} {e : Env} {R : Room} {s : State} {m : MethodId} {args : Array Value} {below : List Frame} {meth : Method} {c : Code} {D : va_G} {cy : Nat → ClassId} {H0 : Heap} {C0 N0 : Nat} {r : Unit} {μ' : vg_M} {rc : Nat → Option Nat → Option Nat → Int32 → vg_M → vg_R Unit} {hb : Nat} (hb30 : 30 ≤ hb) (hrc : ∀ {r : Unit} {μ μ' : vg_M} {cn nn : Nat} {u0 : Nat} {u1 : Option Nat} {u2 : Option Nat} {u3 : Int32}, rc u0 u1 u2 u3 μ = some (r, μ', cn, nn) → vg_Met l D cy H0 yX9_lookInto cX9_lookInto 6 none hb μ [.ref u0, va_rf u1, va_rf u2, .int u3] none μ' cn nn) (Z : vg_Z D cy H0 p s m args c cX9_passBy RX9 meth 5 none R (hb + 1) C0 N0 "passBy")   (v0 : Nat) (v1 : Option Nat) (v2 : Option Nat) (v3 : Int32) (v4 : Int32) (μ : vg_M) : vg_S p l e R s m args below meth c D cy H0 C0 N0 5 (MQ below (vg_Qc D cy H0 μ' none) args s C0 N0 (vg_fr H0)) r μ' (fX9_passBy_24 rc  v0 v1 v2 v3 v4 μ) μ [(0, .ref v0), (1, va_rf v1), (2, va_rf v2), (3, .int v3), (4, .int v4)] [] 24 := by
  intro cn nn H locs cells slots ls hf hH hL hC hN hl
  obtain ⟨X, hml, hr, hlk, hfr, hlo, hRc, hRs, hnm⟩ := id Z
  have hx := X.1
  have hb := X.2.1
  delta fX9_passBy_24 at hf
  refine lv_aload_n hx hb dX9_passBy_24 rfl (lv_at hl.1 0 rfl) ?_
  refine vg_getR X hH fF_X9_21 dX9_passBy_25 hf (fun x1 hf => ?_)
  refine vg_aload_n hx hb dX9_passBy_28 rfl (lv_at hl.1 2 rfl) ?_
  obtain ⟨a2, h9, hg⟩ := vg_o_inv hf
  clear hf
  subst h9
  have hf := hg
  clear hg
  refine vg_getRr X hH fR_X9_66 dX9_passBy_29 hf (fun x3 hf => ?_)
  obtain ⟨a4, h9, hg⟩ := vg_o_inv hf
  clear hf
  subst h9
  have hf := hg
  clear hg
  refine vg_callVr (ci := 1) X hml hl hH hL fCV_X9_70 rfl [va_rf x3] rfl rfl (Nat.le_of_ble_eq_true rfl) dX9_passBy_32 hf hC hN hRc hRs hfr hlo (by omega) (fun _ _ _ _ h => cJ4_append_15ec4_met h) (fun x5 μ6 cn nn H locs cells slots hf hC hN hH hL => ?_)
  refine lv_pop hx hb dX9_passBy_35 (vg_rfc _) ?_
  refine vg_aload_n hx hb dX9_passBy_36 rfl (lv_at hl.1 1 rfl) ?_
  refine lv_aload_n hx hb dX9_passBy_37 rfl (lv_at hl.1 2 rfl) ?_
  refine vg_getRr X hH fR_X9_66 dX9_passBy_38 hf (fun x7 hf => ?_)
  refine lv_iload_n hx hb dX9_passBy_41 rfl (lv_at hl.1 3 rfl) ?_
  obtain ⟨a8, h9, hg⟩ := vg_o_inv hf
  clear hf
  subst h9
  have hf := hg
  clear hg
  refine vg_callVv (ci := 10) X hml hl hH hL fCV_X9_73 rfl [va_rf x7, .int v3] rfl rfl (Nat.le_of_ble_eq_true rfl) dX9_passBy_42 hf hC hN hRc hRs hfr hlo (by omega) (fun _ _ _ _ h => cX7_pass_met h) (fun _ μ10 cn nn H locs cells slots hf hC hN hH hL => ?_)
  refine lv_aload_n hx hb dX9_passBy_45 rfl (lv_at hl.1 1 rfl) ?_
  refine lv_aload_n hx hb dX9_passBy_46 rfl (lv_at hl.1 2 rfl) ?_
  refine vg_getIr X hH fR_X9_77 dX9_passBy_47 hf (fun x11 hf => ?_)
  refine lv_iload_n hx hb dX9_passBy_50 rfl (lv_at hl.1 3 rfl) ?_
  refine vg_callVi (ci := 10) X hml hl hH hL fCV_X9_80 rfl [.int x11, .int v3] rfl rfl (Nat.le_of_ble_eq_true rfl) dX9_passBy_51 hf hC hN hRc hRs hfr hlo (by omega) (fun _ _ _ _ h => cX7_takes_met h) (fun x12 μ13 cn nn H locs cells slots hf hC hN hH hL => ?_)
  refine lv_if_eq (tgt := 68) hx hb dX9_passBy_54 (by decide) (fun h8 => ?_) (fun h8 => ?_)
  · have hf := vg_ip h8 hf
    exact wX9_passBy_68 hb30 hrc Z  v0 (some a8) (some a2) v3 v4 μ13 _ _ _ _ _ _ _ hf hH hL hC hN (hl.sub [0, 1, 2, 3, 4] rfl)
  · have hf := vg_if h8 hf
    refine lv_aload_n hx hb dX9_passBy_57 rfl (lv_at hl.1 0 rfl) ?_
    refine vg_getR X hH fF_X9_12 dX9_passBy_58 hf (fun x14 hf => ?_)
    refine lv_aload_n hx hb dX9_passBy_61 rfl (lv_at hl.1 0 rfl) ?_
    refine vg_getR X hH fF_X9_21 dX9_passBy_62 hf (fun x15 hf => ?_)
    obtain ⟨a16, h9, hg⟩ := vg_o_inv hf
    clear hf
    subst h9
    have hf := hg
    clear hg
    refine vg_callVv (ci := 3) X hml hl hH hL fCV_X9_84 rfl [va_rf x15] rfl rfl (Nat.le_of_ble_eq_true rfl) dX9_passBy_65 hf hC hN hRc hRs hfr hlo (by omega) (fun _ _ _ _ h => cX0_add_met h) (fun _ μ18 cn nn H locs cells slots hf hC hN hH hL => ?_)
    exact wX9_passBy_68 hb30 hrc Z  v0 (some a8) (some a2) v3 v4 μ18 _ _ _ _ _ _ _ hf hH hL hC hN (hl.sub [0, 1, 2, 3, 4] rfl)
def fX9_passBy (rc : Nat → Option Nat → Option Nat → Int32 → vg_M → vg_R Unit) (v0 : Nat) (v1 : Option Nat) (v2 : Option Nat) (v3 : Int32) (μ : vg_M) : vg_R Unit :=
  vg_o (vg_gR μ v0 12 1) fun x30 =>
  vg_o x30 fun a31 =>
  vg_cv 1 a31 μ (fJ4_length_8abf5 a31  μ) fun x32 μ33 =>
  if x32 ≤ 0 then (
   fX9_passBy_24 rc  v0 v1 v2 v3 x32 μ33
   ) else (
   vg_o (vg_gR μ33 v0 12 1) fun x34 =>
   vg_o x34 fun a35 =>
   vg_cv 1 a35 μ33 (fJ4_append_cf468 a35 47 μ33) fun x36 μ37 =>
   fX9_passBy_24 rc  v0 v1 v2 v3 x32 μ37
   )
set_option maxHeartbeats 4000000 in
set_option maxRecDepth 100000 in
theorem cX9_passBy_met {l : Launch} {D : va_G} {cy : Nat → ClassId} {H0 : Heap} {rc : Nat → Option Nat → Option Nat → Int32 → vg_M → vg_R Unit} {hb : Nat} (hb30 : 30 ≤ hb) (hrc : ∀ {r : Unit} {μ μ' : vg_M} {cn nn : Nat} {u0 : Nat} {u1 : Option Nat} {u2 : Option Nat} {u3 : Int32}, rc u0 u1 u2 u3 μ = some (r, μ', cn, nn) → vg_Met l D cy H0 yX9_lookInto cX9_lookInto 6 none hb μ [.ref u0, va_rf u1, va_rf u2, .int u3] none μ' cn nn) {r : Unit} {μ μ' : vg_M} {cn nn : Nat} {v0 : Nat} {v1 : Option Nat} {v2 : Option Nat} {v3 : Int32} (hf : fX9_passBy rc v0 v1 v2 v3 μ = some (r, μ', cn, nn)) : vg_Met l D cy H0 yX9_passBy cX9_passBy 5 none (hb + 1) μ [.ref v0, va_rf v1, va_rf v2, .int v3] none μ' cn nn := by
  refine vg_start (by decide +kernel) (List.forall_mem_cons.mpr ⟨rfl, (List.forall_mem_cons.mpr ⟨vg_rfc _, (List.forall_mem_cons.mpr ⟨vg_rfc _, (List.forall_mem_cons.mpr ⟨rfl, (fun _ h => nomatch h)⟩)⟩)⟩)⟩) (Nat.le_of_ble_eq_true rfl) ?_
  intro p e s m below meth c ls X hml hr hlk hnm hH hl
  have hl : vg_l ls 5 [(0, .ref v0), (1, va_rf v1), (2, va_rf v2), (3, .int v3)] := hl
  have Z : vg_Z D cy H0 p s m _ c cX9_passBy RX9 meth 5 none (vg_rm (hb + 1) cn nn) (hb + 1) cn nn _ := ⟨X, hml, hr, hlk, Nat.le_refl _, Nat.le_refl _, Nat.le_refl _, Nat.le_refl _, hnm⟩
  obtain ⟨-, -, -, -, hfr, hlo, hRc, hRs, -⟩ := id Z
  have hx := X.1
  have hb := X.2.1
  have hL : ∀ z ∈ ([] : List Loc), H0.size ≤ z.base := fun _ h => nomatch h
  have hC : 0 + cn = cn := Nat.zero_add _
  have hN : 0 + nn = nn := Nat.zero_add _
  delta fX9_passBy at hf
  refine lv_aload_n hx hb dX9_passBy_0 rfl (lv_at hl.1 0 rfl) ?_
  refine vg_getR X hH fF_X9_21 dX9_passBy_1 hf (fun x30 hf => ?_)
  obtain ⟨a31, h9, hg⟩ := vg_o_inv hf
  clear hf
  subst h9
  have hf := hg
  clear hg
  refine vg_callVi (ci := 1) X hml hl hH hL fCV_X9_59 rfl [] rfl rfl (Nat.le_of_ble_eq_true rfl) dX9_passBy_4 hf hC hN hRc hRs hfr hlo (by omega) (fun _ _ _ _ h => cJ4_length_8abf5_met h) (fun x32 μ33 cn nn H locs cells slots hf hC hN hH hL => ?_)
  refine vg_istore (lv' := [(4, .int x32), (0, .ref v0), (1, va_rf v1), (2, va_rf v2), (3, .int v3)]) hx hb dX9_passBy_7 hl (by decide) rfl (fun ls hl => ?_)
  refine lv_iload hx hb dX9_passBy_9 (lv_at hl.1 0 rfl) ?_
  refine lv_if_le (tgt := 24) hx hb dX9_passBy_11 (by decide) (fun h8 => ?_) (fun h8 => ?_)
  · have hf := vg_ip h8 hf
    exact wX9_passBy_24 hb30 hrc Z  v0 v1 v2 v3 x32 μ33 _ _ _ _ _ _ _ hf hH hL hC hN (hl.sub [1, 2, 3, 4, 0] rfl)
  · have hf := vg_if h8 hf
    refine lv_aload_n hx hb dX9_passBy_14 rfl (lv_at hl.1 1 rfl) ?_
    refine vg_getR X hH fF_X9_21 dX9_passBy_15 hf (fun x34 hf => ?_)
    refine lv_bipush (v := 47) hx hb dX9_passBy_18 (by decide) ?_
    obtain ⟨a35, h9, hg⟩ := vg_o_inv hf
    clear hf
    subst h9
    have hf := hg
    clear hg
    refine vg_callVr (ci := 1) X hml hl hH hL fCV_X9_62 rfl [.int 47] rfl rfl (Nat.le_of_ble_eq_true rfl) dX9_passBy_20 hf hC hN hRc hRs hfr hlo (by omega) (fun _ _ _ _ h => cJ4_append_cf468_met h) (fun x36 μ37 cn nn H locs cells slots hf hC hN hH hL => ?_)
    refine lv_pop hx hb dX9_passBy_23 (vg_rfc _) ?_
    exact wX9_passBy_24 hb30 hrc Z  v0 v1 v2 v3 x32 μ37 _ _ _ _ _ _ _ hf hH hL hC hN (hl.sub [1, 2, 3, 4, 0] rfl)
def fX9_lookInto_74 (rc : Nat → Option Nat → Option Nat → Int32 → vg_M → vg_R Unit) (q24 : Nat → Option Nat → Option Nat → Int32 → Int32 → vg_M → vg_R Unit) (v0 : Nat) (v1 : Option Nat) (v2 : Option Nat) (v3 : Int32) (v4 : Int32) (μ : vg_M) : vg_R Unit :=
  q24 v0 v1 v2 v3 (v4 + 1) μ
set_option maxHeartbeats 4000000 in
set_option maxRecDepth 100000 in
theorem wX9_lookInto_74 {p : Program} {l : Launch} {e : Env} {R : Room} {s : State} {m : MethodId} {args : Array Value} {below : List Frame} {meth : Method} {c : Code} {D : va_G} {cy : Nat → ClassId} {H0 : Heap} {C0 N0 : Nat} {r : Unit} {μ' : vg_M} {rc : Nat → Option Nat → Option Nat → Int32 → vg_M → vg_R Unit} {hb : Nat} (hb30 : 30 ≤ hb) (hrc : ∀ {r : Unit} {μ μ' : vg_M} {cn nn : Nat} {u0 : Nat} {u1 : Option Nat} {u2 : Option Nat} {u3 : Int32}, rc u0 u1 u2 u3 μ = some (r, μ', cn, nn) → vg_Met l D cy H0 yX9_lookInto cX9_lookInto 6 none hb μ [.ref u0, va_rf u1, va_rf u2, .int u3] none μ' cn nn) (Z : vg_Z D cy H0 p s m args c cX9_lookInto RX9 meth 6 none R (hb + 2) C0 N0 "lookInto") {q24 : Nat → Option Nat → Option Nat → Int32 → Int32 → vg_M → vg_R Unit} (hk24 : ∀ (v0 : Nat) (v1 : Option Nat) (v2 : Option Nat) (v3 : Int32) (v4 : Int32) (μ : vg_M), vg_S p l e R s m args below meth c D cy H0 C0 N0 6 (MQ below (vg_Qc D cy H0 μ' none) args s C0 N0 (vg_fr H0)) r μ' (q24 v0 v1 v2 v3 v4 μ) μ [(0, .ref v0), (1, va_rf v1), (2, va_rf v2), (3, .int v3), (4, .int v4)] [] 24) (v0 : Nat) (v1 : Option Nat) (v2 : Option Nat) (v3 : Int32) (v4 : Int32) (μ : vg_M) : vg_S p l e R s m args below meth c D cy H0 C0 N0 6 (MQ below (vg_Qc D cy H0 μ' none) args s C0 N0 (vg_fr H0)) r μ' (fX9_lookInto_74 rc q24 v0 v1 v2 v3 v4 μ) μ [(0, .ref v0), (1, va_rf v1), (2, va_rf v2), (3, .int v3), (4, .int v4)] [] 74 := by
  intro cn nn H locs cells slots ls hf hH hL hC hN hl
  obtain ⟨X, hml, hr, hlk, hfr, hlo, hRc, hRs, hnm⟩ := id Z
  have hx := X.1
  have hb := X.2.1
  delta fX9_lookInto_74 at hf
  refine vg_iinc (v := v4 + 1) (lv' := [(4, .int (v4 + 1)), (0, .ref v0), (1, va_rf v1), (2, va_rf v2), (3, .int v3)]) hx hb dX9_lookInto_74 hl (k := 4) rfl rfl (by decide) rfl (fun ls hl => ?_)
  refine lv_goto (tgt := 24) hx hb dX9_lookInto_77 (by decide) ?_
  exact hk24 v0 v1 v2 v3 (v4 + 1) μ _ _ _ _ _ _ _ hf hH hL hC hN (hl.sub [1, 2, 3, 4, 0] rfl)
def fX9_lookInto_80 (rc : Nat → Option Nat → Option Nat → Int32 → vg_M → vg_R Unit)   (μ : vg_M) : vg_R Unit :=
  vg_ret () μ
set_option maxHeartbeats 4000000 in
set_option maxRecDepth 100000 in
theorem wX9_lookInto_80 {p : Program} {l : Launch} {e : Env} {R : Room} {s : State} {m : MethodId} {args : Array Value} {below : List Frame} {meth : Method} {c : Code} {D : va_G} {cy : Nat → ClassId} {H0 : Heap} {C0 N0 : Nat} {r : Unit} {μ' : vg_M} {rc : Nat → Option Nat → Option Nat → Int32 → vg_M → vg_R Unit} {hb : Nat} (hb30 : 30 ≤ hb) (hrc : ∀ {r : Unit} {μ μ' : vg_M} {cn nn : Nat} {u0 : Nat} {u1 : Option Nat} {u2 : Option Nat} {u3 : Int32}, rc u0 u1 u2 u3 μ = some (r, μ', cn, nn) → vg_Met l D cy H0 yX9_lookInto cX9_lookInto 6 none hb μ [.ref u0, va_rf u1, va_rf u2, .int u3] none μ' cn nn) (Z : vg_Z D cy H0 p s m args c cX9_lookInto RX9 meth 6 none R (hb + 2) C0 N0 "lookInto")    (μ : vg_M) : vg_S p l e R s m args below meth c D cy H0 C0 N0 6 (MQ below (vg_Qc D cy H0 μ' none) args s C0 N0 (vg_fr H0)) r μ' (fX9_lookInto_80 rc   μ) μ [] [] 80 := by
  intro cn nn H locs cells slots ls hf hH hL hC hN hl
  obtain ⟨X, hml, hr, hlk, hfr, hlo, hRc, hRs, hnm⟩ := id Z
  have hx := X.1
  have hb := X.2.1
  delta fX9_lookInto_80 at hf
  exact vg_retv X hr hlk hH hL dX9_lookInto_80 hf hC hN
def fX9_lookInto_24 (rc : Nat → Option Nat → Option Nat → Int32 → vg_M → vg_R Unit)  : Nat → Nat → Option Nat → Option Nat → Int32 → Int32 → vg_M → vg_R Unit
  | 0, _, _, _, _, _, _ => none
  | n + 1, v0, v1, v2, v3, v4, μ =>
    vg_o v2 fun a1 =>
    vg_o (vg_gR μ a1 4 3) fun x2 =>
    vg_o x2 fun a3 =>
    vg_cv 2 a3 μ (fJx4a65c_size_8abf5 a3  μ) fun x4 μ5 =>
    if x4 ≤ v4 then (
     fX9_lookInto_80 rc   μ5
     ) else (
     if 6 ≤ v3 then (
      fX9_lookInto_80 rc   μ5
      ) else (
      vg_o (vg_gR μ5 a1 4 3) fun x6 =>
      vg_o x6 fun a7 =>
      vg_cv 2 a7 μ5 (fJx4a65c_get_915e3 a7 v4 μ5) fun x8 μ9 =>
      vg_ck μ9 x8 4 <|
      vg_o x8 fun a10 =>
      vg_o (vg_gI μ9 a10 4 5) fun x11 =>
      if x11 = 0 then (
       vg_cv 12 v0 μ9 (fX9_passBy rc v0 v1 (some a10) (v3 + 1) μ9) fun _ μ13 =>
       fX9_lookInto_74 rc (fX9_lookInto_24 rc  n) v0 v1 (some a1) v3 v4 μ13
       ) else (
       fX9_lookInto_74 rc (fX9_lookInto_24 rc  n) v0 v1 (some a1) v3 v4 μ9
       )
      )
     )
set_option maxHeartbeats 4000000 in
set_option maxRecDepth 100000 in
theorem wX9_lookInto_24 {p : Program} {l : Launch} {e : Env} {R : Room} {s : State} {m : MethodId} {args : Array Value} {below : List Frame} {meth : Method} {c : Code} {D : va_G} {cy : Nat → ClassId} {H0 : Heap} {C0 N0 : Nat} {r : Unit} {μ' : vg_M} {rc : Nat → Option Nat → Option Nat → Int32 → vg_M → vg_R Unit} {hb : Nat} (hb30 : 30 ≤ hb) (hrc : ∀ {r : Unit} {μ μ' : vg_M} {cn nn : Nat} {u0 : Nat} {u1 : Option Nat} {u2 : Option Nat} {u3 : Int32}, rc u0 u1 u2 u3 μ = some (r, μ', cn, nn) → vg_Met l D cy H0 yX9_lookInto cX9_lookInto 6 none hb μ [.ref u0, va_rf u1, va_rf u2, .int u3] none μ' cn nn) (Z : vg_Z D cy H0 p s m args c cX9_lookInto RX9 meth 6 none R (hb + 2) C0 N0 "lookInto")   : ∀ (n : Nat) (v0 : Nat) (v1 : Option Nat) (v2 : Option Nat) (v3 : Int32) (v4 : Int32) (μ : vg_M), vg_S p l e R s m args below meth c D cy H0 C0 N0 6 (MQ below (vg_Qc D cy H0 μ' none) args s C0 N0 (vg_fr H0)) r μ' (fX9_lookInto_24 rc  n v0 v1 v2 v3 v4 μ) μ [(0, .ref v0), (1, va_rf v1), (2, va_rf v2), (3, .int v3), (4, .int v4)] [] 24 := by
  intro n
  induction n with
  | zero =>
    intro v0 v1 v2 v3 v4 μ cn nn H locs cells slots ls hf
    simp [fX9_lookInto_24] at hf
  | succ n hk24 =>
    intro v0 v1 v2 v3 v4 μ
    intro cn nn H locs cells slots ls hf hH hL hC hN hl
    obtain ⟨X, hml, hr, hlk, hfr, hlo, hRc, hRs, hnm⟩ := id Z
    have hx := X.1
    have hb := X.2.1
    rw [fX9_lookInto_24] at hf
    refine lv_iload hx hb dX9_lookInto_24 (lv_at hl.1 4 rfl) ?_
    refine vg_aload_n hx hb dX9_lookInto_26 rfl (lv_at hl.1 2 rfl) ?_
    obtain ⟨a1, h9, hg⟩ := vg_o_inv hf
    clear hf
    subst h9
    have hf := hg
    clear hg
    refine vg_getRr X hH fR_X9_35 dX9_lookInto_27 hf (fun x2 hf => ?_)
    obtain ⟨a3, h9, hg⟩ := vg_o_inv hf
    clear hf
    subst h9
    have hf := hg
    clear hg
    refine vg_callVi (ci := 2) X hml hl hH hL fCV_X9_41 rfl [] rfl rfl (Nat.le_of_ble_eq_true rfl) dX9_lookInto_30 hf hC hN hRc hRs hfr hlo (by omega) (fun _ _ _ _ h => cJx4a65c_size_8abf5_met h) (fun x4 μ5 cn nn H locs cells slots hf hC hN hH hL => ?_)
    refine lv_icmp_ge (tgt := 80) hx hb dX9_lookInto_33 (by decide) (fun h8 => ?_) (fun h8 => ?_)
    · have hf := vg_ip h8 hf
      exact wX9_lookInto_80 hb30 hrc Z   μ5 _ _ _ _ _ _ _ hf hH hL hC hN (hl.sub [] rfl)
    · have hf := vg_if h8 hf
      refine lv_iload_n hx hb dX9_lookInto_36 rfl (lv_at hl.1 3 rfl) ?_
      refine lv_bipush (v := 6) hx hb dX9_lookInto_37 (by decide) ?_
      refine lv_icmp_ge (tgt := 80) hx hb dX9_lookInto_39 (by decide) (fun h8 => ?_) (fun h8 => ?_)
      · have hf := vg_ip h8 hf
        exact wX9_lookInto_80 hb30 hrc Z   μ5 _ _ _ _ _ _ _ hf hH hL hC hN (hl.sub [] rfl)
      · have hf := vg_if h8 hf
        refine lv_aload_n hx hb dX9_lookInto_42 rfl (lv_at hl.1 2 rfl) ?_
        refine vg_getRr X hH fR_X9_35 dX9_lookInto_43 hf (fun x6 hf => ?_)
        refine lv_iload hx hb dX9_lookInto_46 (lv_at hl.1 4 rfl) ?_
        obtain ⟨a7, h9, hg⟩ := vg_o_inv hf
        clear hf
        subst h9
        have hf := hg
        clear hg
        refine vg_callVr (ci := 2) X hml hl hH hL fCV_X9_47 rfl [.int v4] rfl rfl (Nat.le_of_ble_eq_true rfl) dX9_lookInto_48 hf hC hN hRc hRs hfr hlo (by omega) (fun _ _ _ _ h => cJx4a65c_get_915e3_met h) (fun x8 μ9 cn nn H locs cells slots hf hC hN hH hL => ?_)
        refine vg_castC (ci := 4) X hH rfl kw_421600894 (x := x8) dX9_lookInto_51 hf (fun hf => ?_)
        refine vg_astore (lv' := [(5, va_rf x8), (0, .ref v0), (1, va_rf v1), (2, .ref a1), (3, .int v3), (4, .int v4)]) hx hb dX9_lookInto_54 hl (by decide) rfl (fun ls hl => ?_)
        refine vg_aload hx hb dX9_lookInto_56 (lv_at hl.1 0 rfl) ?_
        obtain ⟨a10, h9, hg⟩ := vg_o_inv hf
        clear hf
        subst h9
        have hf := hg
        clear hg
        refine vg_getI X hH fF_X9_51 dX9_lookInto_58 hf (fun x11 hf => ?_)
        refine lv_if_ne (tgt := 74) hx hb dX9_lookInto_61 (by decide) (fun h8 => ?_) (fun h8 => ?_)
        · have hf := vg_if h8 hf
          exact wX9_lookInto_74 hb30 hrc Z hk24 v0 v1 (some a1) v3 v4 μ9 _ _ _ _ _ _ _ hf hH hL hC hN (hl.sub [1, 2, 3, 4, 5] rfl)
        · have hf := vg_ip h8 hf
          refine lv_aload_n hx hb dX9_lookInto_64 rfl (lv_at hl.1 1 rfl) ?_
          refine vg_aload_n hx hb dX9_lookInto_65 rfl (lv_at hl.1 2 rfl) ?_
          refine lv_aload hx hb dX9_lookInto_66 (lv_at hl.1 0 rfl) ?_
          refine lv_iload_n hx hb dX9_lookInto_68 rfl (lv_at hl.1 4 rfl) ?_
          refine lv_iconst (v := 1) hx hb dX9_lookInto_69 (by decide) ?_
          refine lv_iadd hx hb dX9_lookInto_70 ?_
          refine vg_callVv (ci := 12) X hml hl hH hL fCV_X9_55 rfl [va_rf v1, .ref a10, .int (v3 + 1)] rfl rfl (Nat.le_of_ble_eq_true rfl) dX9_lookInto_71 hf hC hN hRc hRs hfr hlo (by omega) (fun _ _ _ _ h => cX9_passBy_met hb30 hrc h) (fun _ μ13 cn nn H locs cells slots hf hC hN hH hL => ?_)
          exact wX9_lookInto_74 hb30 hrc Z hk24 v0 v1 (some a1) v3 v4 μ13 _ _ _ _ _ _ _ hf hH hL hC hN (hl.sub [1, 2, 3, 4, 5] rfl)
def fX9_lookInto_21 (rc : Nat → Option Nat → Option Nat → Int32 → vg_M → vg_R Unit)  (v0 : Nat) (v1 : Option Nat) (v2 : Option Nat) (v3 : Int32) (μ : vg_M) : vg_R Unit :=
  fX9_lookInto_24 rc  vg_fuel v0 v1 v2 v3 0 μ
set_option maxHeartbeats 4000000 in
set_option maxRecDepth 100000 in
theorem wX9_lookInto_21 {p : Program} {l : Launch} {e : Env} {R : Room} {s : State} {m : MethodId} {args : Array Value} {below : List Frame} {meth : Method} {c : Code} {D : va_G} {cy : Nat → ClassId} {H0 : Heap} {C0 N0 : Nat} {r : Unit} {μ' : vg_M} {rc : Nat → Option Nat → Option Nat → Int32 → vg_M → vg_R Unit} {hb : Nat} (hb30 : 30 ≤ hb) (hrc : ∀ {r : Unit} {μ μ' : vg_M} {cn nn : Nat} {u0 : Nat} {u1 : Option Nat} {u2 : Option Nat} {u3 : Int32}, rc u0 u1 u2 u3 μ = some (r, μ', cn, nn) → vg_Met l D cy H0 yX9_lookInto cX9_lookInto 6 none hb μ [.ref u0, va_rf u1, va_rf u2, .int u3] none μ' cn nn) (Z : vg_Z D cy H0 p s m args c cX9_lookInto RX9 meth 6 none R (hb + 2) C0 N0 "lookInto")   (v0 : Nat) (v1 : Option Nat) (v2 : Option Nat) (v3 : Int32) (μ : vg_M) : vg_S p l e R s m args below meth c D cy H0 C0 N0 6 (MQ below (vg_Qc D cy H0 μ' none) args s C0 N0 (vg_fr H0)) r μ' (fX9_lookInto_21 rc  v0 v1 v2 v3 μ) μ [(0, .ref v0), (1, va_rf v1), (2, va_rf v2), (3, .int v3)] [] 21 := by
  intro cn nn H locs cells slots ls hf hH hL hC hN hl
  obtain ⟨X, hml, hr, hlk, hfr, hlo, hRc, hRs, hnm⟩ := id Z
  have hx := X.1
  have hb := X.2.1
  delta fX9_lookInto_21 at hf
  refine lv_iconst (v := 0) hx hb dX9_lookInto_21 (by decide) ?_
  refine vg_istore (lv' := [(4, .int 0), (0, .ref v0), (1, va_rf v1), (2, va_rf v2), (3, .int v3)]) hx hb dX9_lookInto_22 hl (by decide) rfl (fun ls hl => ?_)
  exact wX9_lookInto_24 hb30 hrc Z  vg_fuel v0 v1 v2 v3 0 μ _ _ _ _ _ _ _ hf hH hL hC hN (hl.sub [1, 2, 3, 4, 0] rfl)
def fX9_lookInto (rc : Nat → Option Nat → Option Nat → Int32 → vg_M → vg_R Unit) (v0 : Nat) (v1 : Option Nat) (v2 : Option Nat) (v3 : Int32) (μ : vg_M) : vg_R Unit :=
  vg_o v1 fun a14 =>
  vg_cv 10 a14 μ (fX7_looksAnewAt a14 v2 μ) fun x15 μ16 =>
  if x15 = 0 then (
   fX9_lookInto_21 rc  v0 (some a14) v2 v3 μ16
   ) else (
   vg_o (vg_gR μ16 v0 12 0) fun x17 =>
   vg_o x17 fun a18 =>
   vg_o (vg_gI μ16 a18 3 1) fun x19 =>
   vg_o (vg_p μ16 a18 3 1 (.int (x19 + 1))) fun μ20 =>
   fX9_lookInto_21 rc  v0 (some a14) v2 v3 μ20
   )
set_option maxHeartbeats 4000000 in
set_option maxRecDepth 100000 in
theorem cX9_lookInto_met {l : Launch} {D : va_G} {cy : Nat → ClassId} {H0 : Heap} {rc : Nat → Option Nat → Option Nat → Int32 → vg_M → vg_R Unit} {hb : Nat} (hb30 : 30 ≤ hb) (hrc : ∀ {r : Unit} {μ μ' : vg_M} {cn nn : Nat} {u0 : Nat} {u1 : Option Nat} {u2 : Option Nat} {u3 : Int32}, rc u0 u1 u2 u3 μ = some (r, μ', cn, nn) → vg_Met l D cy H0 yX9_lookInto cX9_lookInto 6 none hb μ [.ref u0, va_rf u1, va_rf u2, .int u3] none μ' cn nn) {r : Unit} {μ μ' : vg_M} {cn nn : Nat} {v0 : Nat} {v1 : Option Nat} {v2 : Option Nat} {v3 : Int32} (hf : fX9_lookInto rc v0 v1 v2 v3 μ = some (r, μ', cn, nn)) : vg_Met l D cy H0 yX9_lookInto cX9_lookInto 6 none (hb + 2) μ [.ref v0, va_rf v1, va_rf v2, .int v3] none μ' cn nn := by
  refine vg_start (by decide +kernel) (List.forall_mem_cons.mpr ⟨rfl, (List.forall_mem_cons.mpr ⟨vg_rfc _, (List.forall_mem_cons.mpr ⟨vg_rfc _, (List.forall_mem_cons.mpr ⟨rfl, (fun _ h => nomatch h)⟩)⟩)⟩)⟩) (Nat.le_of_ble_eq_true rfl) ?_
  intro p e s m below meth c ls X hml hr hlk hnm hH hl
  have hl : vg_l ls 6 [(0, .ref v0), (1, va_rf v1), (2, va_rf v2), (3, .int v3)] := hl
  have Z : vg_Z D cy H0 p s m _ c cX9_lookInto RX9 meth 6 none (vg_rm (hb + 2) cn nn) (hb + 2) cn nn _ := ⟨X, hml, hr, hlk, Nat.le_refl _, Nat.le_refl _, Nat.le_refl _, Nat.le_refl _, hnm⟩
  obtain ⟨-, -, -, -, hfr, hlo, hRc, hRs, -⟩ := id Z
  have hx := X.1
  have hb := X.2.1
  have hL : ∀ z ∈ ([] : List Loc), H0.size ≤ z.base := fun _ h => nomatch h
  have hC : 0 + cn = cn := Nat.zero_add _
  have hN : 0 + nn = nn := Nat.zero_add _
  delta fX9_lookInto at hf
  refine vg_aload_n hx hb dX9_lookInto_0 rfl (lv_at hl.1 1 rfl) ?_
  refine vg_aload_n hx hb dX9_lookInto_1 rfl (lv_at hl.1 2 rfl) ?_
  obtain ⟨a14, h9, hg⟩ := vg_o_inv hf
  clear hf
  subst h9
  have hf := hg
  clear hg
  refine vg_callVi (ci := 10) X hml hl hH hL fCV_X9_25 rfl [va_rf v2] rfl rfl (Nat.le_of_ble_eq_true rfl) dX9_lookInto_2 hf hC hN hRc hRs hfr hlo (by omega) (fun _ _ _ _ h => cX7_looksAnewAt_met h) (fun x15 μ16 cn nn H locs cells slots hf hC hN hH hL => ?_)
  refine lv_if_eq (tgt := 21) hx hb dX9_lookInto_5 (by decide) (fun h8 => ?_) (fun h8 => ?_)
  · have hf := vg_ip h8 hf
    exact wX9_lookInto_21 hb30 hrc Z  v0 (some a14) v2 v3 μ16 _ _ _ _ _ _ _ hf hH hL hC hN (hl.sub [0, 1, 2, 3] rfl)
  · have hf := vg_if h8 hf
    refine lv_aload_n hx hb dX9_lookInto_8 rfl (lv_at hl.1 0 rfl) ?_
    refine vg_getR X hH fF_X9_12 dX9_lookInto_9 hf (fun x17 hf => ?_)
    refine lv_dup hx hb dX9_lookInto_12 (vg_rfc _) ?_
    obtain ⟨a18, h9, hg⟩ := vg_o_inv hf
    clear hf
    subst h9
    have hf := hg
    clear hg
    refine vg_getI X hH fF_X9_31 dX9_lookInto_13 hf (fun x19 hf => ?_)
    refine lv_iconst (v := 1) hx hb dX9_lookInto_16 (by decide) ?_
    refine lv_iadd hx hb dX9_lookInto_17 ?_
    refine vg_putV X hH hL fF_X9_31 rfl rfl dX9_lookInto_18 hf (fun μ20 H locs hf hH hL => ?_)
    exact wX9_lookInto_21 hb30 hrc Z  v0 (some a14) v2 v3 μ20 _ _ _ _ _ _ _ hf hH hL hC hN (hl.sub [0, 1, 2, 3] rfl)
def gX9_lookInto : Nat → Nat → Option Nat → Option Nat → Int32 → vg_M → vg_R Unit
  | 0, _, _, _, _, _ => none
  | d + 1, u0, u1, u2, u3, μ => fX9_lookInto (gX9_lookInto d) u0 u1 u2 u3 μ
theorem cX9_lookInto_g {l : Launch} {D : va_G} {cy : Nat → ClassId} {H0 : Heap} (d : Nat) : ∀ {r : Unit} {μ μ' : vg_M} {cn nn : Nat} {u0 : Nat} {u1 : Option Nat} {u2 : Option Nat} {u3 : Int32}, gX9_lookInto d u0 u1 u2 u3 μ = some (r, μ', cn, nn) → vg_Met l D cy H0 yX9_lookInto cX9_lookInto 6 none (30 + 2 * d) μ [.ref u0, va_rf u1, va_rf u2, .int u3] none μ' cn nn := by
  induction d with
  | zero =>
    intro r μ μ' cn nn u0 u1 u2 u3 h
    simp [gX9_lookInto] at h
  | succ d ih =>
    intro r μ μ' cn nn u0 u1 u2 u3 h
    have e : 30 + 2 * (d + 1) = 30 + 2 * d + 2 := by omega
    rw [e]
    rw [gX9_lookInto] at h
    exact cX9_lookInto_met (hb := 30 + 2 * d) (Nat.le_add_right _ _) (fun h => ih h) h
def fX10_ask_59  (v0 : Nat) (μ : vg_M) : vg_R Int32 :=
  vg_o (vg_gR μ v0 13 3) fun x1 =>
  vg_o x1 fun a2 =>
  vg_o (vg_gR μ a2 12 0) fun x3 =>
  vg_o x3 fun a4 =>
  vg_o (vg_gI μ a4 3 0) fun x5 =>
  vg_ret x5 μ
set_option maxHeartbeats 4000000 in
set_option maxRecDepth 100000 in
theorem wX10_ask_59 {p : Program} {l : Launch} {e : Env} {R : Room} {s : State} {m : MethodId} {args : Array Value} {below : List Frame} {meth : Method} {c : Code} {D : va_G} {cy : Nat → ClassId} {H0 : Heap} {C0 N0 : Nat} {r : Int32} {μ' : vg_M} (Z : vg_Z D cy H0 p s m args c cX10_ask RX10 meth 4 (some .int) R 51 C0 N0 "ask")   (v0 : Nat) (μ : vg_M) : vg_S p l e R s m args below meth c D cy H0 C0 N0 4 (MQ below (vg_Qc D cy H0 μ' (some (.int r))) args s C0 N0 (vg_fr H0)) r μ' (fX10_ask_59  v0 μ) μ [(0, .ref v0)] [] 59 := by
  intro cn nn H locs cells slots ls hf hH hL hC hN hl
  obtain ⟨X, hml, hr, hlk, hfr, hlo, hRc, hRs, hnm⟩ := id Z
  have hx := X.1
  have hb := X.2.1
  delta fX10_ask_59 at hf
  refine lv_aload_n hx hb dX10_ask_59 rfl (lv_at hl.1 0 rfl) ?_
  refine vg_getR X hH fF_X10_33 dX10_ask_60 hf (fun x1 hf => ?_)
  obtain ⟨a2, h9, hg⟩ := vg_o_inv hf
  clear hf
  subst h9
  have hf := hg
  clear hg
  refine vg_getRr X hH fR_X10_157 dX10_ask_63 hf (fun x3 hf => ?_)
  obtain ⟨a4, h9, hg⟩ := vg_o_inv hf
  clear hf
  subst h9
  have hf := hg
  clear hg
  refine vg_getI X hH fF_X10_177 dX10_ask_66 hf (fun x5 hf => ?_)
  exact vg_reti X hr hlk hH hL dX10_ask_69 hf hC hN
def fX10_ask (v0 : Nat) (v1 : Int32) (μ : vg_M) : vg_R Int32 :=
  vg_cv 13 v0 μ (fX10_queryAt v0 v1 μ) fun x6 μ7 =>
  vg_m x6 (
   vg_ret ((-1)) μ7
   ) fun a8 => (
   vg_o (vg_gR μ7 v0 13 3) fun x9 =>
   vg_o x9 fun a10 =>
   vg_o (vg_gR μ7 a10 12 0) fun x11 =>
   vg_o x11 fun a12 =>
   vg_cv 3 a12 μ7 (fX0_clear a12  μ7) fun _ μ14 =>
   vg_cv 10 a8 μ14 (fX7_beginRound a8  μ14) fun _ μ16 =>
   vg_o (vg_gR μ16 v0 13 1) fun x17 =>
   vg_o (vg_gR μ16 a8 10 0) fun x18 =>
   vg_o x17 fun a19 =>
   vg_cv 11 a19 μ16 (fX8_at a19 x18 μ16) fun x20 μ21 =>
   vg_m x20 (
    fX10_ask_59  v0 μ21
    ) fun a22 => (
    vg_o (vg_gI μ21 a22 4 5) fun x23 =>
    if x23 = 0 then (
     fX10_ask_59  v0 μ21
     ) else (
     vg_o (vg_gR μ21 v0 13 3) fun x24 =>
     vg_o x24 fun a25 =>
     vg_cv 12 a25 μ21 (gX9_lookInto 10 a25 (some a8) (some a22) 0 μ21) fun _ μ27 =>
     fX10_ask_59  v0 μ27
     )
    )
   )
set_option maxHeartbeats 4000000 in
set_option maxRecDepth 100000 in
theorem cX10_ask_met {l : Launch} {D : va_G} {cy : Nat → ClassId} {H0 : Heap} {r : Int32} {μ μ' : vg_M} {cn nn : Nat} {v0 : Nat} {v1 : Int32} (hf : fX10_ask v0 v1 μ = some (r, μ', cn, nn)) : vg_Met l D cy H0 yX10_ask cX10_ask 4 (some .int) 51 μ [.ref v0, .int v1] (some (.int r)) μ' cn nn := by
  refine vg_start (by decide +kernel) (List.forall_mem_cons.mpr ⟨rfl, (List.forall_mem_cons.mpr ⟨rfl, (fun _ h => nomatch h)⟩)⟩) (Nat.le_of_ble_eq_true rfl) ?_
  intro p e s m below meth c ls X hml hr hlk hnm hH hl
  have hl : vg_l ls 4 [(0, .ref v0), (1, .int v1)] := hl
  have Z : vg_Z D cy H0 p s m _ c cX10_ask RX10 meth 4 (some .int) (vg_rm 51 cn nn) 51 cn nn _ := ⟨X, hml, hr, hlk, Nat.le_refl _, Nat.le_refl _, Nat.le_refl _, Nat.le_refl _, hnm⟩
  obtain ⟨-, -, -, -, hfr, hlo, hRc, hRs, -⟩ := id Z
  have hx := X.1
  have hb := X.2.1
  have hL : ∀ z ∈ ([] : List Loc), H0.size ≤ z.base := fun _ h => nomatch h
  have hC : 0 + cn = cn := Nat.zero_add _
  have hN : 0 + nn = nn := Nat.zero_add _
  delta fX10_ask at hf
  refine lv_aload_n hx hb dX10_ask_0 rfl (lv_at hl.1 0 rfl) ?_
  refine lv_iload_n hx hb dX10_ask_1 rfl (lv_at hl.1 1 rfl) ?_
  refine vg_callVr (ci := 13) X hml hl hH hL fCV_X10_136 rfl [.int v1] rfl rfl (Nat.le_of_ble_eq_true rfl) dX10_ask_2 hf hC hN hRc hRs hfr hlo (by decide) (fun _ _ _ _ h => cX10_queryAt_met h) (fun x6 μ7 cn nn H locs cells slots hf hC hN hH hL => ?_)
  refine vg_astore_n (lv' := [(2, va_rf x6), (0, .ref v0), (1, .int v1)]) hx hb dX10_ask_5 rfl hl (by decide) rfl (fun ls hl => ?_)
  refine vg_aload_n hx hb dX10_ask_6 rfl (lv_at hl.1 0 rfl) ?_
  refine vg_ifnonnull (tgt := 12) hx hb dX10_ask_7 (by decide) hf (fun a8 h9 hg => ?_) (fun h9 hg => ?_)
  · clear hf
    subst h9
    have hf := hg
    clear hg
    refine lv_aload_n hx hb dX10_ask_12 rfl (lv_at hl.1 1 rfl) ?_
    refine vg_getR X hH fF_X10_33 dX10_ask_13 hf (fun x9 hf => ?_)
    obtain ⟨a10, h9, hg⟩ := vg_o_inv hf
    clear hf
    subst h9
    have hf := hg
    clear hg
    refine vg_getRr X hH fR_X10_157 dX10_ask_16 hf (fun x11 hf => ?_)
    obtain ⟨a12, h9, hg⟩ := vg_o_inv hf
    clear hf
    subst h9
    have hf := hg
    clear hg
    refine vg_callVv (ci := 3) X hml hl hH hL fCV_X10_161 rfl [] rfl rfl (Nat.le_of_ble_eq_true rfl) dX10_ask_19 hf hC hN hRc hRs hfr hlo (by decide) (fun _ _ _ _ h => cX0_clear_met h) (fun _ μ14 cn nn H locs cells slots hf hC hN hH hL => ?_)
    refine lv_aload_n hx hb dX10_ask_22 rfl (lv_at hl.1 0 rfl) ?_
    refine vg_callVv (ci := 10) X hml hl hH hL fCV_X10_166 rfl [] rfl rfl (Nat.le_of_ble_eq_true rfl) dX10_ask_23 hf hC hN hRc hRs hfr hlo (by decide) (fun _ _ _ _ h => cX7_beginRound_met h) (fun _ μ16 cn nn H locs cells slots hf hC hN hH hL => ?_)
    refine lv_aload_n hx hb dX10_ask_26 rfl (lv_at hl.1 1 rfl) ?_
    refine vg_getR X hH fF_X10_19 dX10_ask_27 hf (fun x17 hf => ?_)
    refine lv_aload_n hx hb dX10_ask_30 rfl (lv_at hl.1 0 rfl) ?_
    refine vg_getRr X hH fR_X10_169 dX10_ask_31 hf (fun x18 hf => ?_)
    obtain ⟨a19, h9, hg⟩ := vg_o_inv hf
    clear hf
    subst h9
    have hf := hg
    clear hg
    refine vg_callVr (ci := 11) X hml hl hH hL fCV_X10_57 rfl [va_rf x18] rfl rfl (Nat.le_of_ble_eq_true rfl) dX10_ask_34 hf hC hN hRc hRs hfr hlo (by decide) (fun _ _ _ _ h => cX8_at_met h) (fun x20 μ21 cn nn H locs cells slots hf hC hN hH hL => ?_)
    refine vg_astore_n (lv' := [(3, va_rf x20), (2, .ref a8), (0, .ref v0), (1, .int v1)]) hx hb dX10_ask_37 rfl hl (by decide) rfl (fun ls hl => ?_)
    refine vg_aload_n hx hb dX10_ask_38 rfl (lv_at hl.1 0 rfl) ?_
    refine vg_ifnull (tgt := 59) hx hb dX10_ask_39 (by decide) hf (fun h9 hg => ?_) (fun a22 h9 hg => ?_)
    · clear hf
      subst h9
      have hf := hg
      clear hg
      exact wX10_ask_59 Z  v0 μ21 _ _ _ _ _ _ _ hf hH hL hC hN (hl.sub [2] rfl)
    · clear hf
      subst h9
      have hf := hg
      clear hg
      refine lv_aload_n hx hb dX10_ask_42 rfl (lv_at hl.1 0 rfl) ?_
      refine vg_getI X hH fF_X10_80 dX10_ask_43 hf (fun x23 hf => ?_)
      refine lv_if_eq (tgt := 59) hx hb dX10_ask_46 (by decide) (fun h8 => ?_) (fun h8 => ?_)
      · have hf := vg_ip h8 hf
        exact wX10_ask_59 Z  v0 μ21 _ _ _ _ _ _ _ hf hH hL hC hN (hl.sub [2] rfl)
      · have hf := vg_if h8 hf
        refine lv_aload_n hx hb dX10_ask_49 rfl (lv_at hl.1 2 rfl) ?_
        refine vg_getR X hH fF_X10_33 dX10_ask_50 hf (fun x24 hf => ?_)
        refine lv_aload_n hx hb dX10_ask_53 rfl (lv_at hl.1 1 rfl) ?_
        refine lv_aload_n hx hb dX10_ask_54 rfl (lv_at hl.1 0 rfl) ?_
        refine lv_iconst (v := 0) hx hb dX10_ask_55 (by decide) ?_
        obtain ⟨a25, h9, hg⟩ := vg_o_inv hf
        clear hf
        subst h9
        have hf := hg
        clear hg
        refine vg_callVNv (ci := 12) X hml hl hH hL fCVN_X10_173 rfl [.ref a8, .ref a22, .int 0] rfl rfl (Nat.le_of_ble_eq_true rfl) dX10_ask_56 hf hC hN hRc hRs hfr hlo (by decide) (fun _ _ _ _ h => cX9_lookInto_g 10 h) (fun _ μ27 cn nn H locs cells slots hf hC hN hH hL => ?_)
        exact wX10_ask_59 Z  v0 μ27 _ _ _ _ _ _ _ hf hH hL hC hN (hl.sub [2] rfl)
  · clear hf
    subst h9
    have hf := hg
    clear hg
    refine lv_iconst (v := (-1)) hx hb dX10_ask_10 (by decide) ?_
    exact vg_reti X hr hlk hH hL dX10_ask_11 hf hC hN
