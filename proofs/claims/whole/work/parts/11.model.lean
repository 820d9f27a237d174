def fX11_touch (v0 : Nat) (v1 : Int32) (μ : vg_M) : vg_R Unit :=
  vg_o (vg_gI μ v0 14 14) fun x1 =>
  vg_o (vg_p μ v0 14 14 (.int (x1 + 1))) fun μ2 =>
  vg_o (vg_gR μ2 v0 14 9) fun x3 =>
  vg_o (vg_gI μ2 v0 14 14) fun x4 =>
  vg_o x3 fun a5 =>
  vg_o (vg_sI μ2 a5 2 v1 x4) fun μ6 =>
  vg_ret () μ6
set_option maxHeartbeats 4000000 in
set_option maxRecDepth 100000 in
theorem cX11_touch_met {l : Launch} {D : va_G} {cy : Nat → ClassId} {H0 : Heap} {r : Unit} {μ μ' : vg_M} {cn nn : Nat} {v0 : Nat} {v1 : Int32} (hf : fX11_touch v0 v1 μ = some (r, μ', cn, nn)) : vg_Met l D cy H0 yX11_touch cX11_touch 2 none 12 μ [.ref v0, .int v1] none μ' cn nn := by
  refine vg_start (by decide +kernel) (by simp [Value.category]) (Nat.le_of_ble_eq_true rfl) ?_
  intro p e s m below meth c ls X hml hr hlk hnm hH hl
  have hl : vg_l ls 2 [(0, .ref v0), (1, .int v1)] := hl
  have Z : vg_Z D cy p s m _ c cX11_touch RX11 meth 2 none (vg_rm 12 cn nn) 12 cn nn _ := ⟨X, hml, hr, hlk, Nat.le_refl _, Nat.le_refl _, Nat.le_refl _, Nat.le_refl _, hnm⟩
  obtain ⟨-, -, -, -, hfr, hlo, hRc, hRs, -⟩ := id Z
  have hx := X.1
  have hb := X.2.1
  have hL : ∀ z ∈ ([] : List Loc), H0.size ≤ z.base := fun _ h => nomatch h
  have hC : 0 + cn = cn := Nat.zero_add _
  have hN : 0 + nn = nn := Nat.zero_add _
  unfold fX11_touch at hf
  refine lv_aload_n hx hb dX11_touch_0 rfl (lv_at hl.1 0 rfl) ?_
  refine lv_dup hx hb dX11_touch_1 rfl ?_
  refine vg_getI X hH fF_X11_127 dX11_touch_2 hf (fun x1 hf => ?_)
  refine lv_iconst (v := 1) hx hb dX11_touch_5 (by decide) ?_
  refine lv_iadd hx hb dX11_touch_6 ?_
  refine vg_putV X hH hL fF_X11_127 rfl rfl dX11_touch_7 hf (fun μ2 H locs hf hH hL => ?_)
  refine lv_aload_n hx hb dX11_touch_10 rfl (lv_at hl.1 0 rfl) ?_
  refine vg_getR X hH fF_X11_29 dX11_touch_11 hf (fun x3 hf => ?_)
  refine lv_iload_n hx hb dX11_touch_14 rfl (lv_at hl.1 1 rfl) ?_
  refine lv_aload_n hx hb dX11_touch_15 rfl (lv_at hl.1 0 rfl) ?_
  refine vg_getI X hH fF_X11_127 dX11_touch_16 hf (fun x4 hf => ?_)
  obtain ⟨a5, h9, hf⟩ := vg_o_inv hf
  subst h9
  refine vg_iast X hH hL dX11_touch_19 hf (fun μ6 H locs hf hH hL => ?_)
  exact vg_retv X hr hlk hH hL dX11_touch_20 hf hC hN
def fX11_isSign_53  (k0 : Int32) (μ : vg_M) : vg_R Int32 :=
  vg_o (vg_z .boolean k0) fun z => vg_ret z μ
set_option maxHeartbeats 4000000 in
set_option maxRecDepth 100000 in
theorem wX11_isSign_53 {p : Program} {l : Launch} {e : Env} {R : Room} {s : State} {m : MethodId} {args : Array Value} {below : List Frame} {meth : Method} {c : Code} {D : va_G} {cy : Nat → ClassId} {H0 : Heap} {C0 N0 : Nat} {r : Int32} {μ' : vg_M} (Z : vg_Z D cy p s m args c cX11_isSign RX11 meth 1 (some .boolean) R 12 C0 N0 "isSign")   (k0 : Int32) (μ : vg_M) : vg_S p l e R s m args below meth c D cy H0 C0 N0 1 (MQ below (vg_Qc D cy H0 μ' (some (.int r))) args s C0 N0 (vg_fr H0)) r μ' (fX11_isSign_53  k0 μ) μ [] [.int k0] 53 := by
  intro cn nn H locs cells slots ls hf hH hL hC hN hl
  obtain ⟨X, hml, hr, hlk, hfr, hlo, hRc, hRs, hnm⟩ := id Z
  have hx := X.1
  have hb := X.2.1
  unfold fX11_isSign_53 at hf
  exact vg_retz X (by simp) hr hlk hH hL dX11_isSign_53 hf hC hN
def fX11_isSign_48   (μ : vg_M) : vg_R Int32 :=
  fX11_isSign_53  1 μ
set_option maxHeartbeats 4000000 in
set_option maxRecDepth 100000 in
theorem wX11_isSign_48 {p : Program} {l : Launch} {e : Env} {R : Room} {s : State} {m : MethodId} {args : Array Value} {below : List Frame} {meth : Method} {c : Code} {D : va_G} {cy : Nat → ClassId} {H0 : Heap} {C0 N0 : Nat} {r : Int32} {μ' : vg_M} (Z : vg_Z D cy p s m args c cX11_isSign RX11 meth 1 (some .boolean) R 12 C0 N0 "isSign")    (μ : vg_M) : vg_S p l e R s m args below meth c D cy H0 C0 N0 1 (MQ below (vg_Qc D cy H0 μ' (some (.int r))) args s C0 N0 (vg_fr H0)) r μ' (fX11_isSign_48   μ) μ [] [] 48 := by
  intro cn nn H locs cells slots ls hf hH hL hC hN hl
  obtain ⟨X, hml, hr, hlk, hfr, hlo, hRc, hRs, hnm⟩ := id Z
  have hx := X.1
  have hb := X.2.1
  unfold fX11_isSign_48 at hf
  refine lv_iconst (v := 1) hx hb dX11_isSign_48 (by decide) ?_
  refine lv_goto (tgt := 53) hx hb dX11_isSign_49 (by decide) ?_
  exact wX11_isSign_53 Z  1 μ _ _ _ _ _ _ _ hf hH hL hC hN (hl.sub [] rfl)
def fX11_isSign_36  (v0 : Int32) (μ : vg_M) : vg_R Int32 :=
  if v0 = 46 then (
   fX11_isSign_48   μ
   ) else (
   if v0 = 95 then (
    fX11_isSign_48   μ
    ) else (
    fX11_isSign_53  0 μ
    )
   )
set_option maxHeartbeats 4000000 in
set_option maxRecDepth 100000 in
theorem wX11_isSign_36 {p : Program} {l : Launch} {e : Env} {R : Room} {s : State} {m : MethodId} {args : Array Value} {below : List Frame} {meth : Method} {c : Code} {D : va_G} {cy : Nat → ClassId} {H0 : Heap} {C0 N0 : Nat} {r : Int32} {μ' : vg_M} (Z : vg_Z D cy p s m args c cX11_isSign RX11 meth 1 (some .boolean) R 12 C0 N0 "isSign")   (v0 : Int32) (μ : vg_M) : vg_S p l e R s m args below meth c D cy H0 C0 N0 1 (MQ below (vg_Qc D cy H0 μ' (some (.int r))) args s C0 N0 (vg_fr H0)) r μ' (fX11_isSign_36  v0 μ) μ [(0, .int v0)] [] 36 := by
  intro cn nn H locs cells slots ls hf hH hL hC hN hl
  obtain ⟨X, hml, hr, hlk, hfr, hlo, hRc, hRs, hnm⟩ := id Z
  have hx := X.1
  have hb := X.2.1
  unfold fX11_isSign_36 at hf
  refine lv_iload_n hx hb dX11_isSign_36 rfl (lv_at hl.1 0 rfl) ?_
  refine lv_bipush (v := 46) hx hb dX11_isSign_37 (by decide) ?_
  refine lv_icmp_eq (tgt := 48) hx hb dX11_isSign_39 (by decide) (fun h8 => ?_) (fun h8 => ?_)
  · have hf := vg_ip h8 hf
    exact wX11_isSign_48 Z   μ _ _ _ _ _ _ _ hf hH hL hC hN (hl.sub [] rfl)
  · have hf := vg_if h8 hf
    refine lv_iload_n hx hb dX11_isSign_42 rfl (lv_at hl.1 0 rfl) ?_
    refine lv_bipush (v := 95) hx hb dX11_isSign_43 (by decide) ?_
    refine lv_icmp_ne (tgt := 52) hx hb dX11_isSign_45 (by decide) (fun h8 => ?_) (fun h8 => ?_)
    · have hf := vg_if h8 hf
      refine lv_iconst (v := 0) hx hb dX11_isSign_52 (by decide) ?_
      exact wX11_isSign_53 Z  0 μ _ _ _ _ _ _ _ hf hH hL hC hN (hl.sub [] rfl)
    · have hf := vg_ip h8 hf
      exact wX11_isSign_48 Z   μ _ _ _ _ _ _ _ hf hH hL hC hN (hl.sub [] rfl)
def fX11_isSign_24  (v0 : Int32) (μ : vg_M) : vg_R Int32 :=
  if v0 < 48 then (
   fX11_isSign_36  v0 μ
   ) else (
   if v0 ≤ 57 then (
    fX11_isSign_48   μ
    ) else (
    fX11_isSign_36  v0 μ
    )
   )
set_option maxHeartbeats 4000000 in
set_option maxRecDepth 100000 in
theorem wX11_isSign_24 {p : Program} {l : Launch} {e : Env} {R : Room} {s : State} {m : MethodId} {args : Array Value} {below : List Frame} {meth : Method} {c : Code} {D : va_G} {cy : Nat → ClassId} {H0 : Heap} {C0 N0 : Nat} {r : Int32} {μ' : vg_M} (Z : vg_Z D cy p s m args c cX11_isSign RX11 meth 1 (some .boolean) R 12 C0 N0 "isSign")   (v0 : Int32) (μ : vg_M) : vg_S p l e R s m args below meth c D cy H0 C0 N0 1 (MQ below (vg_Qc D cy H0 μ' (some (.int r))) args s C0 N0 (vg_fr H0)) r μ' (fX11_isSign_24  v0 μ) μ [(0, .int v0)] [] 24 := by
  intro cn nn H locs cells slots ls hf hH hL hC hN hl
  obtain ⟨X, hml, hr, hlk, hfr, hlo, hRc, hRs, hnm⟩ := id Z
  have hx := X.1
  have hb := X.2.1
  unfold fX11_isSign_24 at hf
  refine lv_iload_n hx hb dX11_isSign_24 rfl (lv_at hl.1 0 rfl) ?_
  refine lv_bipush (v := 48) hx hb dX11_isSign_25 (by decide) ?_
  refine lv_icmp_lt (tgt := 36) hx hb dX11_isSign_27 (by decide) (fun h8 => ?_) (fun h8 => ?_)
  · have hf := vg_ip h8 hf
    exact wX11_isSign_36 Z  v0 μ _ _ _ _ _ _ _ hf hH hL hC hN (hl.sub [0] rfl)
  · have hf := vg_if h8 hf
    refine lv_iload_n hx hb dX11_isSign_30 rfl (lv_at hl.1 0 rfl) ?_
    refine lv_bipush (v := 57) hx hb dX11_isSign_31 (by decide) ?_
    refine lv_icmp_le (tgt := 48) hx hb dX11_isSign_33 (by decide) (fun h8 => ?_) (fun h8 => ?_)
    · have hf := vg_ip h8 hf
      exact wX11_isSign_48 Z   μ _ _ _ _ _ _ _ hf hH hL hC hN (hl.sub [] rfl)
    · have hf := vg_if h8 hf
      exact wX11_isSign_36 Z  v0 μ _ _ _ _ _ _ _ hf hH hL hC hN (hl.sub [0] rfl)
def fX11_isSign_12  (v0 : Int32) (μ : vg_M) : vg_R Int32 :=
  if v0 < 65 then (
   fX11_isSign_24  v0 μ
   ) else (
   if v0 ≤ 90 then (
    fX11_isSign_48   μ
    ) else (
    fX11_isSign_24  v0 μ
    )
   )
set_option maxHeartbeats 4000000 in
set_option maxRecDepth 100000 in
theorem wX11_isSign_12 {p : Program} {l : Launch} {e : Env} {R : Room} {s : State} {m : MethodId} {args : Array Value} {below : List Frame} {meth : Method} {c : Code} {D : va_G} {cy : Nat → ClassId} {H0 : Heap} {C0 N0 : Nat} {r : Int32} {μ' : vg_M} (Z : vg_Z D cy p s m args c cX11_isSign RX11 meth 1 (some .boolean) R 12 C0 N0 "isSign")   (v0 : Int32) (μ : vg_M) : vg_S p l e R s m args below meth c D cy H0 C0 N0 1 (MQ below (vg_Qc D cy H0 μ' (some (.int r))) args s C0 N0 (vg_fr H0)) r μ' (fX11_isSign_12  v0 μ) μ [(0, .int v0)] [] 12 := by
  intro cn nn H locs cells slots ls hf hH hL hC hN hl
  obtain ⟨X, hml, hr, hlk, hfr, hlo, hRc, hRs, hnm⟩ := id Z
  have hx := X.1
  have hb := X.2.1
  unfold fX11_isSign_12 at hf
  refine lv_iload_n hx hb dX11_isSign_12 rfl (lv_at hl.1 0 rfl) ?_
  refine lv_bipush (v := 65) hx hb dX11_isSign_13 (by decide) ?_
  refine lv_icmp_lt (tgt := 24) hx hb dX11_isSign_15 (by decide) (fun h8 => ?_) (fun h8 => ?_)
  · have hf := vg_ip h8 hf
    exact wX11_isSign_24 Z  v0 μ _ _ _ _ _ _ _ hf hH hL hC hN (hl.sub [0] rfl)
  · have hf := vg_if h8 hf
    refine lv_iload_n hx hb dX11_isSign_18 rfl (lv_at hl.1 0 rfl) ?_
    refine lv_bipush (v := 90) hx hb dX11_isSign_19 (by decide) ?_
    refine lv_icmp_le (tgt := 48) hx hb dX11_isSign_21 (by decide) (fun h8 => ?_) (fun h8 => ?_)
    · have hf := vg_ip h8 hf
      exact wX11_isSign_48 Z   μ _ _ _ _ _ _ _ hf hH hL hC hN (hl.sub [] rfl)
    · have hf := vg_if h8 hf
      exact wX11_isSign_24 Z  v0 μ _ _ _ _ _ _ _ hf hH hL hC hN (hl.sub [0] rfl)
def fX11_isSign (v0 : Int32) (μ : vg_M) : vg_R Int32 :=
  if v0 < 97 then (
   fX11_isSign_12  v0 μ
   ) else (
   if v0 ≤ 122 then (
    fX11_isSign_48   μ
    ) else (
    fX11_isSign_12  v0 μ
    )
   )
set_option maxHeartbeats 4000000 in
set_option maxRecDepth 100000 in
theorem cX11_isSign_met {l : Launch} {D : va_G} {cy : Nat → ClassId} {H0 : Heap} {r : Int32} {μ μ' : vg_M} {cn nn : Nat} {v0 : Int32} (hf : fX11_isSign v0 μ = some (r, μ', cn, nn)) : vg_Met l D cy H0 yX11_isSign cX11_isSign 1 (some .boolean) 12 μ [.int v0] (some (.int r)) μ' cn nn := by
  refine vg_start (by decide +kernel) (by simp [Value.category]) (Nat.le_of_ble_eq_true rfl) ?_
  intro p e s m below meth c ls X hml hr hlk hnm hH hl
  have hl : vg_l ls 1 [(0, .int v0)] := hl
  have Z : vg_Z D cy p s m _ c cX11_isSign RX11 meth 1 (some .boolean) (vg_rm 12 cn nn) 12 cn nn _ := ⟨X, hml, hr, hlk, Nat.le_refl _, Nat.le_refl _, Nat.le_refl _, Nat.le_refl _, hnm⟩
  obtain ⟨-, -, -, -, hfr, hlo, hRc, hRs, -⟩ := id Z
  have hx := X.1
  have hb := X.2.1
  have hL : ∀ z ∈ ([] : List Loc), H0.size ≤ z.base := fun _ h => nomatch h
  have hC : 0 + cn = cn := Nat.zero_add _
  have hN : 0 + nn = nn := Nat.zero_add _
  unfold fX11_isSign at hf
  refine lv_iload_n hx hb dX11_isSign_0 rfl (lv_at hl.1 0 rfl) ?_
  refine lv_bipush (v := 97) hx hb dX11_isSign_1 (by decide) ?_
  refine lv_icmp_lt (tgt := 12) hx hb dX11_isSign_3 (by decide) (fun h8 => ?_) (fun h8 => ?_)
  · have hf := vg_ip h8 hf
    exact wX11_isSign_12 Z  v0 μ _ _ _ _ _ _ _ hf hH hL hC hN (hl.sub [0] rfl)
  · have hf := vg_if h8 hf
    refine lv_iload_n hx hb dX11_isSign_6 rfl (lv_at hl.1 0 rfl) ?_
    refine lv_bipush (v := 122) hx hb dX11_isSign_7 (by decide) ?_
    refine lv_icmp_le (tgt := 48) hx hb dX11_isSign_9 (by decide) (fun h8 => ?_) (fun h8 => ?_)
    · have hf := vg_ip h8 hf
      exact wX11_isSign_48 Z   μ _ _ _ _ _ _ _ hf hH hL hC hN (hl.sub [] rfl)
    · have hf := vg_if h8 hf
      exact wX11_isSign_12 Z  v0 μ _ _ _ _ _ _ _ hf hH hL hC hN (hl.sub [0] rfl)
def fX11_byteOf_25  (k0 : Int32) (μ : vg_M) : vg_R Int32 :=
  vg_ret k0 μ
set_option maxHeartbeats 4000000 in
set_option maxRecDepth 100000 in
theorem wX11_byteOf_25 {p : Program} {l : Launch} {e : Env} {R : Room} {s : State} {m : MethodId} {args : Array Value} {below : List Frame} {meth : Method} {c : Code} {D : va_G} {cy : Nat → ClassId} {H0 : Heap} {C0 N0 : Nat} {r : Int32} {μ' : vg_M} (Z : vg_Z D cy p s m args c cX11_byteOf RX11 meth 3 (some .int) R 12 C0 N0 "byteOf")   (k0 : Int32) (μ : vg_M) : vg_S p l e R s m args below meth c D cy H0 C0 N0 3 (MQ below (vg_Qc D cy H0 μ' (some (.int r))) args s C0 N0 (vg_fr H0)) r μ' (fX11_byteOf_25  k0 μ) μ [] [.int k0] 25 := by
  intro cn nn H locs cells slots ls hf hH hL hC hN hl
  obtain ⟨X, hml, hr, hlk, hfr, hlo, hRc, hRs, hnm⟩ := id Z
  have hx := X.1
  have hb := X.2.1
  unfold fX11_byteOf_25 at hf
  exact vg_reti X hr hlk hH hL dX11_byteOf_25 hf hC hN
def fX11_byteOf (v0 : Nat) (v1 : Int32) (v2 : Int32) (μ : vg_M) : vg_R Int32 :=
  vg_o (vg_gR μ v0 14 20) fun x1 =>
  vg_o x1 fun a2 =>
  vg_o (vg_aI μ a2 2 v1) fun x3 =>
  if x3 ≤ v2 then (
   fX11_byteOf_25  ((-1)) μ
   ) else (
   vg_o (vg_gR μ v0 14 22) fun x4 =>
   vg_o x4 fun a5 =>
   vg_o (vg_aI μ a5 0 ((60 * v1) + v2)) fun x6 =>
   fX11_byteOf_25  x6 μ
   )
set_option maxHeartbeats 4000000 in
set_option maxRecDepth 100000 in
theorem cX11_byteOf_met {l : Launch} {D : va_G} {cy : Nat → ClassId} {H0 : Heap} {r : Int32} {μ μ' : vg_M} {cn nn : Nat} {v0 : Nat} {v1 : Int32} {v2 : Int32} (hf : fX11_byteOf v0 v1 v2 μ = some (r, μ', cn, nn)) : vg_Met l D cy H0 yX11_byteOf cX11_byteOf 3 (some .int) 12 μ [.ref v0, .int v1, .int v2] (some (.int r)) μ' cn nn := by
  refine vg_start (by decide +kernel) (by simp [Value.category]) (Nat.le_of_ble_eq_true rfl) ?_
  intro p e s m below meth c ls X hml hr hlk hnm hH hl
  have hl : vg_l ls 3 [(0, .ref v0), (1, .int v1), (2, .int v2)] := hl
  have Z : vg_Z D cy p s m _ c cX11_byteOf RX11 meth 3 (some .int) (vg_rm 12 cn nn) 12 cn nn _ := ⟨X, hml, hr, hlk, Nat.le_refl _, Nat.le_refl _, Nat.le_refl _, Nat.le_refl _, hnm⟩
  obtain ⟨-, -, -, -, hfr, hlo, hRc, hRs, -⟩ := id Z
  have hx := X.1
  have hb := X.2.1
  have hL : ∀ z ∈ ([] : List Loc), H0.size ≤ z.base := fun _ h => nomatch h
  have hC : 0 + cn = cn := Nat.zero_add _
  have hN : 0 + nn = nn := Nat.zero_add _
  unfold fX11_byteOf at hf
  refine lv_iload_n hx hb dX11_byteOf_0 rfl (lv_at hl.1 2 rfl) ?_
  refine lv_aload_n hx hb dX11_byteOf_1 rfl (lv_at hl.1 0 rfl) ?_
  refine vg_getR X hH fF_X11_54 dX11_byteOf_2 hf (fun x1 hf => ?_)
  refine lv_iload_n hx hb dX11_byteOf_5 rfl (lv_at hl.1 1 rfl) ?_
  obtain ⟨a2, h9, hf⟩ := vg_o_inv hf
  subst h9
  refine vg_iald X hH dX11_byteOf_6 hf (fun x3 hf => ?_)
  refine lv_icmp_ge (tgt := 24) hx hb dX11_byteOf_7 (by decide) (fun h8 => ?_) (fun h8 => ?_)
  · have hf := vg_ip h8 hf
    refine lv_iconst (v := (-1)) hx hb dX11_byteOf_24 (by decide) ?_
    exact wX11_byteOf_25 Z  ((-1)) μ _ _ _ _ _ _ _ hf hH hL hC hN (hl.sub [] rfl)
  · have hf := vg_if h8 hf
    refine lv_aload_n hx hb dX11_byteOf_10 rfl (lv_at hl.1 0 rfl) ?_
    refine vg_getR X hH fF_X11_60 dX11_byteOf_11 hf (fun x4 hf => ?_)
    refine lv_bipush (v := 60) hx hb dX11_byteOf_14 (by decide) ?_
    refine lv_iload_n hx hb dX11_byteOf_16 rfl (lv_at hl.1 1 rfl) ?_
    refine lv_imul hx hb dX11_byteOf_17 ?_
    refine lv_iload_n hx hb dX11_byteOf_18 rfl (lv_at hl.1 2 rfl) ?_
    refine lv_iadd hx hb dX11_byteOf_19 ?_
    obtain ⟨a5, h9, hf⟩ := vg_o_inv hf
    subst h9
    refine vg_bald X hH dX11_byteOf_20 hf (fun x6 hf => ?_)
    refine lv_goto (tgt := 25) hx hb dX11_byteOf_21 (by decide) ?_
    exact wX11_byteOf_25 Z  x6 μ _ _ _ _ _ _ _ hf hH hL hC hN (hl.sub [] rfl)
def fX11_at_18  (k0 : Int32) (μ : vg_M) : vg_R Int32 :=
  vg_ret k0 μ
set_option maxHeartbeats 4000000 in
set_option maxRecDepth 100000 in
theorem wX11_at_18 {p : Program} {l : Launch} {e : Env} {R : Room} {s : State} {m : MethodId} {args : Array Value} {below : List Frame} {meth : Method} {c : Code} {D : va_G} {cy : Nat → ClassId} {H0 : Heap} {C0 N0 : Nat} {r : Int32} {μ' : vg_M} (Z : vg_Z D cy p s m args c cX11_at RX11 meth 2 (some .int) R 12 C0 N0 "at")   (k0 : Int32) (μ : vg_M) : vg_S p l e R s m args below meth c D cy H0 C0 N0 2 (MQ below (vg_Qc D cy H0 μ' (some (.int r))) args s C0 N0 (vg_fr H0)) r μ' (fX11_at_18  k0 μ) μ [] [.int k0] 18 := by
  intro cn nn H locs cells slots ls hf hH hL hC hN hl
  obtain ⟨X, hml, hr, hlk, hfr, hlo, hRc, hRs, hnm⟩ := id Z
  have hx := X.1
  have hb := X.2.1
  unfold fX11_at_18 at hf
  exact vg_reti X hr hlk hH hL dX11_at_18 hf hC hN
def fX11_at (v0 : Nat) (v1 : Int32) (μ : vg_M) : vg_R Int32 :=
  vg_o (vg_gI μ v0 14 2) fun x1 =>
  if x1 ≤ v1 then (
   fX11_at_18  ((-1)) μ
   ) else (
   vg_o (vg_gR μ v0 14 1) fun x2 =>
   vg_o x2 fun a3 =>
   vg_o (vg_aI μ a3 0 v1) fun x4 =>
   fX11_at_18  x4 μ
   )
set_option maxHeartbeats 4000000 in
set_option maxRecDepth 100000 in
theorem cX11_at_met {l : Launch} {D : va_G} {cy : Nat → ClassId} {H0 : Heap} {r : Int32} {μ μ' : vg_M} {cn nn : Nat} {v0 : Nat} {v1 : Int32} (hf : fX11_at v0 v1 μ = some (r, μ', cn, nn)) : vg_Met l D cy H0 yX11_at cX11_at 2 (some .int) 12 μ [.ref v0, .int v1] (some (.int r)) μ' cn nn := by
  refine vg_start (by decide +kernel) (by simp [Value.category]) (Nat.le_of_ble_eq_true rfl) ?_
  intro p e s m below meth c ls X hml hr hlk hnm hH hl
  have hl : vg_l ls 2 [(0, .ref v0), (1, .int v1)] := hl
  have Z : vg_Z D cy p s m _ c cX11_at RX11 meth 2 (some .int) (vg_rm 12 cn nn) 12 cn nn _ := ⟨X, hml, hr, hlk, Nat.le_refl _, Nat.le_refl _, Nat.le_refl _, Nat.le_refl _, hnm⟩
  obtain ⟨-, -, -, -, hfr, hlo, hRc, hRs, -⟩ := id Z
  have hx := X.1
  have hb := X.2.1
  have hL : ∀ z ∈ ([] : List Loc), H0.size ≤ z.base := fun _ h => nomatch h
  have hC : 0 + cn = cn := Nat.zero_add _
  have hN : 0 + nn = nn := Nat.zero_add _
  unfold fX11_at at hf
  refine lv_iload_n hx hb dX11_at_0 rfl (lv_at hl.1 1 rfl) ?_
  refine lv_aload_n hx hb dX11_at_1 rfl (lv_at hl.1 0 rfl) ?_
  refine vg_getI X hH fF_X11_106 dX11_at_2 hf (fun x1 hf => ?_)
  refine lv_icmp_ge (tgt := 17) hx hb dX11_at_5 (by decide) (fun h8 => ?_) (fun h8 => ?_)
  · have hf := vg_ip h8 hf
    refine lv_iconst (v := (-1)) hx hb dX11_at_17 (by decide) ?_
    exact wX11_at_18 Z  ((-1)) μ _ _ _ _ _ _ _ hf hH hL hC hN (hl.sub [] rfl)
  · have hf := vg_if h8 hf
    refine lv_aload_n hx hb dX11_at_8 rfl (lv_at hl.1 0 rfl) ?_
    refine vg_getR X hH fF_X11_7 dX11_at_9 hf (fun x2 hf => ?_)
    refine lv_iload_n hx hb dX11_at_12 rfl (lv_at hl.1 1 rfl) ?_
    obtain ⟨a3, h9, hf⟩ := vg_o_inv hf
    subst h9
    refine vg_bald X hH dX11_at_13 hf (fun x4 hf => ?_)
    refine lv_goto (tgt := 18) hx hb dX11_at_14 (by decide) ?_
    exact wX11_at_18 Z  x4 μ _ _ _ _ _ _ _ hf hH hL hC hN (hl.sub [] rfl)
def fX11_many_25 (q4 : Nat → Int32 → Int32 → vg_M → vg_R Int32) (v0 : Nat) (v2 : Int32) (k0 : Int32) (k1 : Int32) (μ : vg_M) : vg_R Int32 :=
  q4 v0 (k0 + k1) (v2 + 1) μ
set_option maxHeartbeats 4000000 in
set_option maxRecDepth 100000 in
theorem wX11_many_25 {p : Program} {l : Launch} {e : Env} {R : Room} {s : State} {m : MethodId} {args : Array Value} {below : List Frame} {meth : Method} {c : Code} {D : va_G} {cy : Nat → ClassId} {H0 : Heap} {C0 N0 : Nat} {r : Int32} {μ' : vg_M} (Z : vg_Z D cy p s m args c cX11_many RX11 meth 3 (some .int) R 12 C0 N0 "many") {q4 : Nat → Int32 → Int32 → vg_M → vg_R Int32} (hk4 : ∀ (v0 : Nat) (v1 : Int32) (v2 : Int32) (μ : vg_M), vg_S p l e R s m args below meth c D cy H0 C0 N0 3 (MQ below (vg_Qc D cy H0 μ' (some (.int r))) args s C0 N0 (vg_fr H0)) r μ' (q4 v0 v1 v2 μ) μ [(0, .ref v0), (1, .int v1), (2, .int v2)] [] 4) (v0 : Nat) (v2 : Int32) (k0 : Int32) (k1 : Int32) (μ : vg_M) : vg_S p l e R s m args below meth c D cy H0 C0 N0 3 (MQ below (vg_Qc D cy H0 μ' (some (.int r))) args s C0 N0 (vg_fr H0)) r μ' (fX11_many_25 q4 v0 v2 k0 k1 μ) μ [(0, .ref v0), (2, .int v2)] [.int k1, .int k0] 25 := by
  intro cn nn H locs cells slots ls hf hH hL hC hN hl
  obtain ⟨X, hml, hr, hlk, hfr, hlo, hRc, hRs, hnm⟩ := id Z
  have hx := X.1
  have hb := X.2.1
  unfold fX11_many_25 at hf
  refine lv_iadd hx hb dX11_many_25 ?_
  refine vg_istore_n (lv' := [(1, .int (k0 + k1)), (0, .ref v0), (2, .int v2)]) hx hb dX11_many_26 rfl hl (by decide) rfl (fun ls hl => ?_)
  refine vg_iinc (v := v2 + 1) (lv' := [(2, .int (v2 + 1)), (1, .int (k0 + k1)), (0, .ref v0)]) hx hb dX11_many_27 hl (k := 2) rfl rfl (by decide) rfl (fun ls hl => ?_)
  refine lv_goto (tgt := 4) hx hb dX11_many_30 (by decide) ?_
  exact hk4 v0 (k0 + k1) (v2 + 1) μ _ _ _ _ _ _ _ hf hH hL hC hN (hl.sub [2, 1, 0] rfl)
def fX11_many_4  : Nat → Nat → Int32 → Int32 → vg_M → vg_R Int32
  | 0, _, _, _, _ => none
  | n + 1, v0, v1, v2, μ =>
    if 60 ≤ v2 then (
     vg_ret v1 μ
     ) else (
     vg_o (vg_gR μ v0 14 6) fun x1 =>
     vg_o x1 fun a2 =>
     vg_o (vg_aI μ a2 2 v2) fun x3 =>
     if x3 ≤ 0 then (
      fX11_many_25 (fX11_many_4  n) v0 v2 v1 0 μ
      ) else (
      fX11_many_25 (fX11_many_4  n) v0 v2 v1 1 μ
      )
     )
set_option maxHeartbeats 4000000 in
set_option maxRecDepth 100000 in
theorem wX11_many_4 {p : Program} {l : Launch} {e : Env} {R : Room} {s : State} {m : MethodId} {args : Array Value} {below : List Frame} {meth : Method} {c : Code} {D : va_G} {cy : Nat → ClassId} {H0 : Heap} {C0 N0 : Nat} {r : Int32} {μ' : vg_M} (Z : vg_Z D cy p s m args c cX11_many RX11 meth 3 (some .int) R 12 C0 N0 "many")   : ∀ (n : Nat) (v0 : Nat) (v1 : Int32) (v2 : Int32) (μ : vg_M), vg_S p l e R s m args below meth c D cy H0 C0 N0 3 (MQ below (vg_Qc D cy H0 μ' (some (.int r))) args s C0 N0 (vg_fr H0)) r μ' (fX11_many_4  n v0 v1 v2 μ) μ [(0, .ref v0), (1, .int v1), (2, .int v2)] [] 4 := by
  intro n
  induction n with
  | zero =>
    intro v0 v1 v2 μ cn nn H locs cells slots ls hf
    simp [fX11_many_4] at hf
  | succ n hk4 =>
    intro v0 v1 v2 μ
    intro cn nn H locs cells slots ls hf hH hL hC hN hl
    obtain ⟨X, hml, hr, hlk, hfr, hlo, hRc, hRs, hnm⟩ := id Z
    have hx := X.1
    have hb := X.2.1
    rw [fX11_many_4] at hf
    refine lv_iload_n hx hb dX11_many_4 rfl (lv_at hl.1 2 rfl) ?_
    refine lv_bipush (v := 60) hx hb dX11_many_5 (by decide) ?_
    refine lv_icmp_ge (tgt := 33) hx hb dX11_many_7 (by decide) (fun h8 => ?_) (fun h8 => ?_)
    · have hf := vg_ip h8 hf
      refine lv_iload_n hx hb dX11_many_33 rfl (lv_at hl.1 1 rfl) ?_
      exact vg_reti X hr hlk hH hL dX11_many_34 hf hC hN
    · have hf := vg_if h8 hf
      refine lv_iload_n hx hb dX11_many_10 rfl (lv_at hl.1 1 rfl) ?_
      refine lv_aload_n hx hb dX11_many_11 rfl (lv_at hl.1 0 rfl) ?_
      refine vg_getR X hH fF_X11_20 dX11_many_12 hf (fun x1 hf => ?_)
      refine lv_iload_n hx hb dX11_many_15 rfl (lv_at hl.1 2 rfl) ?_
      obtain ⟨a2, h9, hf⟩ := vg_o_inv hf
      subst h9
      refine vg_iald X hH dX11_many_16 hf (fun x3 hf => ?_)
      refine lv_if_le (tgt := 24) hx hb dX11_many_17 (by decide) (fun h8 => ?_) (fun h8 => ?_)
      · have hf := vg_ip h8 hf
        refine lv_iconst (v := 0) hx hb dX11_many_24 (by decide) ?_
        exact wX11_many_25 Z hk4 v0 v2 v1 0 μ _ _ _ _ _ _ _ hf hH hL hC hN (hl.sub [0, 2] rfl)
      · have hf := vg_if h8 hf
        refine lv_iconst (v := 1) hx hb dX11_many_20 (by decide) ?_
        refine lv_goto (tgt := 25) hx hb dX11_many_21 (by decide) ?_
        exact wX11_many_25 Z hk4 v0 v2 v1 1 μ _ _ _ _ _ _ _ hf hH hL hC hN (hl.sub [0, 2] rfl)
def fX11_many (v0 : Nat) (μ : vg_M) : vg_R Int32 :=
  fX11_many_4  vg_fuel v0 0 0 μ
set_option maxHeartbeats 4000000 in
set_option maxRecDepth 100000 in
theorem cX11_many_met {l : Launch} {D : va_G} {cy : Nat → ClassId} {H0 : Heap} {r : Int32} {μ μ' : vg_M} {cn nn : Nat} {v0 : Nat} (hf : fX11_many v0 μ = some (r, μ', cn, nn)) : vg_Met l D cy H0 yX11_many cX11_many 3 (some .int) 12 μ [.ref v0] (some (.int r)) μ' cn nn := by
  refine vg_start (by decide +kernel) (by simp [Value.category]) (Nat.le_of_ble_eq_true rfl) ?_
  intro p e s m below meth c ls X hml hr hlk hnm hH hl
  have hl : vg_l ls 3 [(0, .ref v0)] := hl
  have Z : vg_Z D cy p s m _ c cX11_many RX11 meth 3 (some .int) (vg_rm 12 cn nn) 12 cn nn _ := ⟨X, hml, hr, hlk, Nat.le_refl _, Nat.le_refl _, Nat.le_refl _, Nat.le_refl _, hnm⟩
  obtain ⟨-, -, -, -, hfr, hlo, hRc, hRs, -⟩ := id Z
  have hx := X.1
  have hb := X.2.1
  have hL : ∀ z ∈ ([] : List Loc), H0.size ≤ z.base := fun _ h => nomatch h
  have hC : 0 + cn = cn := Nat.zero_add _
  have hN : 0 + nn = nn := Nat.zero_add _
  unfold fX11_many at hf
  refine lv_iconst (v := 0) hx hb dX11_many_0 (by decide) ?_
  refine vg_istore_n (lv' := [(1, .int 0), (0, .ref v0)]) hx hb dX11_many_1 rfl hl (by decide) rfl (fun ls hl => ?_)
  refine lv_iconst (v := 0) hx hb dX11_many_2 (by decide) ?_
  refine vg_istore_n (lv' := [(2, .int 0), (1, .int 0), (0, .ref v0)]) hx hb dX11_many_3 rfl hl (by decide) rfl (fun ls hl => ?_)
  exact wX11_many_4 Z  vg_fuel v0 0 0 μ _ _ _ _ _ _ _ hf hH hL hC hN (hl.sub [2, 1, 0] rfl)
def fX11_thrown (v0 : Nat) (μ : vg_M) : vg_R Int32 :=
  vg_o (vg_gI μ v0 14 0) fun x1 =>
  vg_ret x1 μ
set_option maxHeartbeats 4000000 in
set_option maxRecDepth 100000 in
theorem cX11_thrown_met {l : Launch} {D : va_G} {cy : Nat → ClassId} {H0 : Heap} {r : Int32} {μ μ' : vg_M} {cn nn : Nat} {v0 : Nat} (hf : fX11_thrown v0 μ = some (r, μ', cn, nn)) : vg_Met l D cy H0 yX11_thrown cX11_thrown 1 (some .int) 12 μ [.ref v0] (some (.int r)) μ' cn nn := by
  refine vg_start (by decide +kernel) (by simp [Value.category]) (Nat.le_of_ble_eq_true rfl) ?_
  intro p e s m below meth c ls X hml hr hlk hnm hH hl
  have hl : vg_l ls 1 [(0, .ref v0)] := hl
  have Z : vg_Z D cy p s m _ c cX11_thrown RX11 meth 1 (some .int) (vg_rm 12 cn nn) 12 cn nn _ := ⟨X, hml, hr, hlk, Nat.le_refl _, Nat.le_refl _, Nat.le_refl _, Nat.le_refl _, hnm⟩
  obtain ⟨-, -, -, -, hfr, hlo, hRc, hRs, -⟩ := id Z
  have hx := X.1
  have hb := X.2.1
  have hL : ∀ z ∈ ([] : List Loc), H0.size ≤ z.base := fun _ h => nomatch h
  have hC : 0 + cn = cn := Nat.zero_add _
  have hN : 0 + nn = nn := Nat.zero_add _
  unfold fX11_thrown at hf
  refine lv_aload_n hx hb dX11_thrown_0 rfl (lv_at hl.1 0 rfl) ?_
  refine vg_getI X hH fF_X11_103 dX11_thrown_1 hf (fun x1 hf => ?_)
  exact vg_reti X hr hlk hH hL dX11_thrown_4 hf hC hN
