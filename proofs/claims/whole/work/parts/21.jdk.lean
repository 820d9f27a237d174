def fJ0_isLatin1_aae02_18  (k0 : Int32) (μ : vg_M) : vg_R Int32 :=
  vg_o (vg_z .boolean k0) fun z => vg_ret z μ
set_option maxHeartbeats 4000000 in
set_option maxRecDepth 100000 in
theorem wJ0_isLatin1_aae02_18 {p : Program} {l : Launch} {e : Env} {R : Room} {s : State} {m : MethodId} {args : Array Value} {below : List Frame} {meth : Method} {c : Code} {D : va_G} {cy : Nat → ClassId} {H0 : Heap} {C0 N0 : Nat} {r : Int32} {μ' : vg_M} (Z : vg_Z D cy H0 p s m args c cJ0_isLatin1_aae02 RJ0 meth 1 (some .boolean) R 12 C0 N0 "isLatin1")   (k0 : Int32) (μ : vg_M) : vg_S p l e R s m args below meth c D cy H0 C0 N0 1 (MQ below (vg_Qc D cy H0 μ' (some (.int r))) args s C0 N0 (vg_fr H0)) r μ' (fJ0_isLatin1_aae02_18  k0 μ) μ [] [.int k0] 18 := by
  intro cn nn H locs cells slots ls hf hH hL hC hN hl
  obtain ⟨X, hml, hr, hlk, hfr, hlo, hRc, hRs, hnm⟩ := id Z
  have hx := X.1
  have hb := X.2.1
  delta fJ0_isLatin1_aae02_18 at hf
  exact vg_retz X (by simp) hr hlk hH hL dJ0_isLatin1_aae02_18 hf hC hN
def fJ0_isLatin1_aae02_17   (μ : vg_M) : vg_R Int32 :=
  fJ0_isLatin1_aae02_18  0 μ
set_option maxHeartbeats 4000000 in
set_option maxRecDepth 100000 in
theorem wJ0_isLatin1_aae02_17 {p : Program} {l : Launch} {e : Env} {R : Room} {s : State} {m : MethodId} {args : Array Value} {below : List Frame} {meth : Method} {c : Code} {D : va_G} {cy : Nat → ClassId} {H0 : Heap} {C0 N0 : Nat} {r : Int32} {μ' : vg_M} (Z : vg_Z D cy H0 p s m args c cJ0_isLatin1_aae02 RJ0 meth 1 (some .boolean) R 12 C0 N0 "isLatin1")    (μ : vg_M) : vg_S p l e R s m args below meth c D cy H0 C0 N0 1 (MQ below (vg_Qc D cy H0 μ' (some (.int r))) args s C0 N0 (vg_fr H0)) r μ' (fJ0_isLatin1_aae02_17   μ) μ [] [] 17 := by
  intro cn nn H locs cells slots ls hf hH hL hC hN hl
  obtain ⟨X, hml, hr, hlk, hfr, hlo, hRc, hRs, hnm⟩ := id Z
  have hx := X.1
  have hb := X.2.1
  delta fJ0_isLatin1_aae02_17 at hf
  refine lv_iconst (v := 0) hx hb dJ0_isLatin1_aae02_17 (by decide) ?_
  exact wJ0_isLatin1_aae02_18 Z  0 μ _ _ _ _ _ _ _ hf hH hL hC hN (hl.sub [] rfl)
def fJ0_isLatin1_aae02 (v0 : Nat) (μ : vg_M) : vg_R Int32 :=
  vg_o (vg_gI μ v0 0 1) fun x1 =>
  if x1 = 0 then (
   fJ0_isLatin1_aae02_18  1 μ
   ) else (
   fJ0_isLatin1_aae02_17   μ
   )
set_option maxHeartbeats 4000000 in
set_option maxRecDepth 100000 in
theorem cJ0_isLatin1_aae02_met {l : Launch} {D : va_G} {cy : Nat → ClassId} {H0 : Heap} {r : Int32} {μ μ' : vg_M} {cn nn : Nat} {v0 : Nat} (hf : fJ0_isLatin1_aae02 v0 μ = some (r, μ', cn, nn)) : vg_Met l D cy H0 yJ0_isLatin1_aae02 cJ0_isLatin1_aae02 1 (some .boolean) 12 μ [.ref v0] (some (.int r)) μ' cn nn := by
  refine vg_start (by decide +kernel) (List.forall_mem_cons.mpr ⟨rfl, (fun _ h => nomatch h)⟩) (Nat.le_of_ble_eq_true rfl) ?_
  intro p e s m below meth c ls X hml hr hlk hnm hH hl
  have hl : vg_l ls 1 [(0, .ref v0)] := hl
  have Z : vg_Z D cy H0 p s m _ c cJ0_isLatin1_aae02 RJ0 meth 1 (some .boolean) (vg_rm 12 cn nn) 12 cn nn _ := ⟨X, hml, hr, hlk, Nat.le_refl _, Nat.le_refl _, Nat.le_refl _, Nat.le_refl _, hnm⟩
  obtain ⟨-, -, -, -, hfr, hlo, hRc, hRs, -⟩ := id Z
  have hx := X.1
  have hb := X.2.1
  have hL : ∀ z ∈ ([] : List Loc), H0.size ≤ z.base := fun _ h => nomatch h
  have hC : 0 + cn = cn := Nat.zero_add _
  have hN : 0 + nn = nn := Nat.zero_add _
  delta fJ0_isLatin1_aae02 at hf
  refine vg_gsC X hH kw_639528659 dJ0_isLatin1_aae02_0 ?_
  refine lv_if_eq (tgt := 17) hx hb dJ0_isLatin1_aae02_3 (by decide) (fun h8 => ?_) (fun h8 => ?_)
  · exact absurd h8 (by decide)
  · refine lv_aload_n hx hb dJ0_isLatin1_aae02_6 rfl (lv_at hl.1 0 rfl) ?_
    refine vg_getI X hH fF_J0_15 dJ0_isLatin1_aae02_7 hf (fun x1 hf => ?_)
    refine lv_if_ne (tgt := 17) hx hb dJ0_isLatin1_aae02_10 (by decide) (fun h8 => ?_) (fun h8 => ?_)
    · have hf := vg_if h8 hf
      exact wJ0_isLatin1_aae02_17 Z   μ _ _ _ _ _ _ _ hf hH hL hC hN (hl.sub [] rfl)
    · have hf := vg_ip h8 hf
      refine lv_iconst (v := 1) hx hb dJ0_isLatin1_aae02_13 (by decide) ?_
      refine lv_goto (tgt := 18) hx hb dJ0_isLatin1_aae02_14 (by decide) ?_
      exact wJ0_isLatin1_aae02_18 Z  1 μ _ _ _ _ _ _ _ hf hH hL hC hN (hl.sub [] rfl)
def fJ3_checkIndex_8e157_9  (v0 : Int32) (v1 : Int32) (v2 : Option Nat) (μ : vg_M) : vg_R Int32 :=
  none
set_option maxHeartbeats 4000000 in
set_option maxRecDepth 100000 in
theorem wJ3_checkIndex_8e157_9 {p : Program} {l : Launch} {e : Env} {R : Room} {s : State} {m : MethodId} {args : Array Value} {below : List Frame} {meth : Method} {c : Code} {D : va_G} {cy : Nat → ClassId} {H0 : Heap} {C0 N0 : Nat} {r : Int32} {μ' : vg_M} (Z : vg_Z D cy H0 p s m args c cJ3_checkIndex_8e157 RJ3 meth 3 (some .int) R 12 C0 N0 "checkIndex")   (v0 : Int32) (v1 : Int32) (v2 : Option Nat) (μ : vg_M) : vg_S p l e R s m args below meth c D cy H0 C0 N0 3 (MQ below (vg_Qc D cy H0 μ' (some (.int r))) args s C0 N0 (vg_fr H0)) r μ' (fJ3_checkIndex_8e157_9  v0 v1 v2 μ) μ [(0, .int v0), (1, .int v1), (2, va_rf v2)] [] 9 := by
  intro cn nn H locs cells slots ls hf hH hL hC hN hl
  obtain ⟨X, hml, hr, hlk, hfr, hlo, hRc, hRs, hnm⟩ := id Z
  have hx := X.1
  have hb := X.2.1
  delta fJ3_checkIndex_8e157_9 at hf
  refine vg_aload_n hx hb dJ3_checkIndex_8e157_9 rfl (lv_at hl.1 2 rfl) ?_
  refine lv_iload_n hx hb dJ3_checkIndex_8e157_10 rfl (lv_at hl.1 0 rfl) ?_
  refine lv_iload_n hx hb dJ3_checkIndex_8e157_11 rfl (lv_at hl.1 1 rfl) ?_
  cases hf
def fJ3_checkIndex_8e157 (v0 : Int32) (v1 : Int32) (v2 : Option Nat) (μ : vg_M) : vg_R Int32 :=
  if v0 < 0 then (
   fJ3_checkIndex_8e157_9  v0 v1 v2 μ
   ) else (
   if v0 < v1 then (
    vg_ret v0 μ
    ) else (
    fJ3_checkIndex_8e157_9  v0 v1 v2 μ
    )
   )
set_option maxHeartbeats 4000000 in
set_option maxRecDepth 100000 in
theorem cJ3_checkIndex_8e157_met {l : Launch} {D : va_G} {cy : Nat → ClassId} {H0 : Heap} {r : Int32} {μ μ' : vg_M} {cn nn : Nat} {v0 : Int32} {v1 : Int32} {v2 : Option Nat} (hf : fJ3_checkIndex_8e157 v0 v1 v2 μ = some (r, μ', cn, nn)) : vg_Met l D cy H0 yJ3_checkIndex_8e157 cJ3_checkIndex_8e157 3 (some .int) 12 μ [.int v0, .int v1, va_rf v2] (some (.int r)) μ' cn nn := by
  refine vg_start (by decide +kernel) (List.forall_mem_cons.mpr ⟨rfl, (List.forall_mem_cons.mpr ⟨rfl, (List.forall_mem_cons.mpr ⟨vg_rfc _, (fun _ h => nomatch h)⟩)⟩)⟩) (Nat.le_of_ble_eq_true rfl) ?_
  intro p e s m below meth c ls X hml hr hlk hnm hH hl
  have hl : vg_l ls 3 [(0, .int v0), (1, .int v1), (2, va_rf v2)] := hl
  have Z : vg_Z D cy H0 p s m _ c cJ3_checkIndex_8e157 RJ3 meth 3 (some .int) (vg_rm 12 cn nn) 12 cn nn _ := ⟨X, hml, hr, hlk, Nat.le_refl _, Nat.le_refl _, Nat.le_refl _, Nat.le_refl _, hnm⟩
  obtain ⟨-, -, -, -, hfr, hlo, hRc, hRs, -⟩ := id Z
  have hx := X.1
  have hb := X.2.1
  have hL : ∀ z ∈ ([] : List Loc), H0.size ≤ z.base := fun _ h => nomatch h
  have hC : 0 + cn = cn := Nat.zero_add _
  have hN : 0 + nn = nn := Nat.zero_add _
  delta fJ3_checkIndex_8e157 at hf
  refine lv_iload_n hx hb dJ3_checkIndex_8e157_0 rfl (lv_at hl.1 0 rfl) ?_
  refine lv_if_lt (tgt := 9) hx hb dJ3_checkIndex_8e157_1 (by decide) (fun h8 => ?_) (fun h8 => ?_)
  · have hf := vg_ip h8 hf
    exact wJ3_checkIndex_8e157_9 Z  v0 v1 v2 μ _ _ _ _ _ _ _ hf hH hL hC hN (hl.sub [0, 1, 2] rfl)
  · have hf := vg_if h8 hf
    refine lv_iload_n hx hb dJ3_checkIndex_8e157_4 rfl (lv_at hl.1 0 rfl) ?_
    refine lv_iload_n hx hb dJ3_checkIndex_8e157_5 rfl (lv_at hl.1 1 rfl) ?_
    refine lv_icmp_lt (tgt := 16) hx hb dJ3_checkIndex_8e157_6 (by decide) (fun h8 => ?_) (fun h8 => ?_)
    · have hf := vg_ip h8 hf
      refine lv_iload_n hx hb dJ3_checkIndex_8e157_16 rfl (lv_at hl.1 0 rfl) ?_
      exact vg_reti X hr hlk hH hL dJ3_checkIndex_8e157_17 hf hC hN
    · have hf := vg_if h8 hf
      exact wJ3_checkIndex_8e157_9 Z  v0 v1 v2 μ _ _ _ _ _ _ _ hf hH hL hC hN (hl.sub [0, 1, 2] rfl)
def fJ0_checkIndex_df160 (v0 : Int32) (v1 : Int32) (μ : vg_M) : vg_R Unit :=
  vg_kq μ 30 fun x1 =>
  vg_b (fJ3_checkIndex_8e157 v0 v1 x1 μ) fun x2 μ3 =>
  vg_ret () μ3
set_option maxHeartbeats 4000000 in
set_option maxRecDepth 100000 in
theorem cJ0_checkIndex_df160_met {l : Launch} {D : va_G} {cy : Nat → ClassId} {H0 : Heap} {r : Unit} {μ μ' : vg_M} {cn nn : Nat} {v0 : Int32} {v1 : Int32} (hf : fJ0_checkIndex_df160 v0 v1 μ = some (r, μ', cn, nn)) : vg_Met l D cy H0 yJ0_checkIndex_df160 cJ0_checkIndex_df160 2 none 13 μ [.int v0, .int v1] none μ' cn nn := by
  refine vg_start (by decide +kernel) (List.forall_mem_cons.mpr ⟨rfl, (List.forall_mem_cons.mpr ⟨rfl, (fun _ h => nomatch h)⟩)⟩) (Nat.le_of_ble_eq_true rfl) ?_
  intro p e s m below meth c ls X hml hr hlk hnm hH hl
  have hl : vg_l ls 2 [(0, .int v0), (1, .int v1)] := hl
  have Z : vg_Z D cy H0 p s m _ c cJ0_checkIndex_df160 RJ0 meth 2 none (vg_rm 13 cn nn) 13 cn nn _ := ⟨X, hml, hr, hlk, Nat.le_refl _, Nat.le_refl _, Nat.le_refl _, Nat.le_refl _, hnm⟩
  obtain ⟨-, -, -, -, hfr, hlo, hRc, hRs, -⟩ := id Z
  have hx := X.1
  have hb := X.2.1
  have hL : ∀ z ∈ ([] : List Loc), H0.size ≤ z.base := fun _ h => nomatch h
  have hC : 0 + cn = cn := Nat.zero_add _
  have hN : 0 + nn = nn := Nat.zero_add _
  delta fJ0_checkIndex_df160 at hf
  refine lv_iload_n hx hb dJ0_checkIndex_df160_0 rfl (lv_at hl.1 0 rfl) ?_
  refine lv_iload_n hx hb dJ0_checkIndex_df160_1 rfl (lv_at hl.1 1 rfl) ?_
  refine vg_gsF X hH kw_438946198 dJ0_checkIndex_df160_2 hf (fun x1 hf => ?_)
  refine vg_callSi X hml hl hH hL fCS_J0_1059 [.int v0, .int v1, va_rf x1] rfl rfl (Nat.le_of_ble_eq_true rfl) dJ0_checkIndex_df160_5 hf hC hN hRc hRs hfr hlo (by decide) (fun _ _ _ _ h => cJ3_checkIndex_8e157_met h) (fun x2 μ3 cn nn H locs cells slots hf hC hN hH hL => ?_)
  refine lv_pop hx hb dJ0_checkIndex_df160_8 rfl ?_
  exact vg_retv X hr hlk hH hL dJ0_checkIndex_df160_9 hf hC hN
def fJ1_charAt_3b067 (v0 : Option Nat) (v1 : Int32) (μ : vg_M) : vg_R Int32 :=
  vg_o v0 fun a1 =>
  vg_o (vg_al μ a1) fun x2 =>
  vg_b (fJ0_checkIndex_df160 v1 x2 μ) fun _ μ4 =>
  vg_o (vg_aI μ4 a1 0 v1) fun x5 =>
  vg_o (vg_z .char (((x5 &&& 255).toUInt32 % 65536).toInt32)) fun z => vg_ret z μ4
set_option maxHeartbeats 4000000 in
set_option maxRecDepth 100000 in
theorem cJ1_charAt_3b067_met {l : Launch} {D : va_G} {cy : Nat → ClassId} {H0 : Heap} {r : Int32} {μ μ' : vg_M} {cn nn : Nat} {v0 : Option Nat} {v1 : Int32} (hf : fJ1_charAt_3b067 v0 v1 μ = some (r, μ', cn, nn)) : vg_Met l D cy H0 yJ1_charAt_3b067 cJ1_charAt_3b067 2 (some .char) 14 μ [va_rf v0, .int v1] (some (.int r)) μ' cn nn := by
  refine vg_start (by decide +kernel) (List.forall_mem_cons.mpr ⟨vg_rfc _, (List.forall_mem_cons.mpr ⟨rfl, (fun _ h => nomatch h)⟩)⟩) (Nat.le_of_ble_eq_true rfl) ?_
  intro p e s m below meth c ls X hml hr hlk hnm hH hl
  have hl : vg_l ls 2 [(0, va_rf v0), (1, .int v1)] := hl
  have Z : vg_Z D cy H0 p s m _ c cJ1_charAt_3b067 RJ1 meth 2 (some .char) (vg_rm 14 cn nn) 14 cn nn _ := ⟨X, hml, hr, hlk, Nat.le_refl _, Nat.le_refl _, Nat.le_refl _, Nat.le_refl _, hnm⟩
  obtain ⟨-, -, -, -, hfr, hlo, hRc, hRs, -⟩ := id Z
  have hx := X.1
  have hb := X.2.1
  have hL : ∀ z ∈ ([] : List Loc), H0.size ≤ z.base := fun _ h => nomatch h
  have hC : 0 + cn = cn := Nat.zero_add _
  have hN : 0 + nn = nn := Nat.zero_add _
  delta fJ1_charAt_3b067 at hf
  refine lv_iload_n hx hb dJ1_charAt_3b067_0 rfl (lv_at hl.1 1 rfl) ?_
  refine vg_aload_n hx hb dJ1_charAt_3b067_1 rfl (lv_at hl.1 0 rfl) ?_
  obtain ⟨a1, h9, hg⟩ := vg_o_inv hf
  clear hf
  subst h9
  have hf := hg
  clear hg
  refine vg_alen X hH dJ1_charAt_3b067_2 hf (fun x2 hf => ?_)
  refine vg_callSv X hml hl hH hL fCS_J1_9 [.int v1, .int x2] rfl rfl (Nat.le_of_ble_eq_true rfl) dJ1_charAt_3b067_3 hf hC hN hRc hRs hfr hlo (by decide) (fun _ _ _ _ h => cJ0_checkIndex_df160_met h) (fun _ μ4 cn nn H locs cells slots hf hC hN hH hL => ?_)
  refine lv_aload_n hx hb dJ1_charAt_3b067_6 rfl (lv_at hl.1 0 rfl) ?_
  refine lv_iload_n hx hb dJ1_charAt_3b067_7 rfl (lv_at hl.1 1 rfl) ?_
  refine vg_bald X hH dJ1_charAt_3b067_8 hf (fun x5 hf => ?_)
  refine lv_sipush (v := 255) hx hb dJ1_charAt_3b067_9 (by decide) ?_
  refine lv_iand hx hb dJ1_charAt_3b067_12 ?_
  refine lv_i2c hx hb dJ1_charAt_3b067_13 rfl ?_
  exact vg_retz X (by simp) hr hlk hH hL dJ1_charAt_3b067_14 hf hC hN
def fJ0_charAt_5068e (v0 : Nat) (v1 : Int32) (μ : vg_M) : vg_R Int32 :=
  vg_cv 0 v0 μ (fJ0_isLatin1_aae02 v0  μ) fun x1 μ2 =>
  if x1 = 0 then (
   vg_o (vg_gR μ2 v0 0 0) fun x3 =>
   none
   ) else (
   vg_o (vg_gR μ2 v0 0 0) fun x4 =>
   vg_b (fJ1_charAt_3b067 x4 v1 μ2) fun x5 μ6 =>
   vg_o (vg_z .char x5) fun z => vg_ret z μ6
   )
set_option maxHeartbeats 4000000 in
set_option maxRecDepth 100000 in
theorem cJ0_charAt_5068e_met {l : Launch} {D : va_G} {cy : Nat → ClassId} {H0 : Heap} {r : Int32} {μ μ' : vg_M} {cn nn : Nat} {v0 : Nat} {v1 : Int32} (hf : fJ0_charAt_5068e v0 v1 μ = some (r, μ', cn, nn)) : vg_Met l D cy H0 yJ0_charAt_5068e cJ0_charAt_5068e 2 (some .char) 15 μ [.ref v0, .int v1] (some (.int r)) μ' cn nn := by
  refine vg_start (by decide +kernel) (List.forall_mem_cons.mpr ⟨rfl, (List.forall_mem_cons.mpr ⟨rfl, (fun _ h => nomatch h)⟩)⟩) (Nat.le_of_ble_eq_true rfl) ?_
  intro p e s m below meth c ls X hml hr hlk hnm hH hl
  have hl : vg_l ls 2 [(0, .ref v0), (1, .int v1)] := hl
  have Z : vg_Z D cy H0 p s m _ c cJ0_charAt_5068e RJ0 meth 2 (some .char) (vg_rm 15 cn nn) 15 cn nn _ := ⟨X, hml, hr, hlk, Nat.le_refl _, Nat.le_refl _, Nat.le_refl _, Nat.le_refl _, hnm⟩
  obtain ⟨-, -, -, -, hfr, hlo, hRc, hRs, -⟩ := id Z
  have hx := X.1
  have hb := X.2.1
  have hL : ∀ z ∈ ([] : List Loc), H0.size ≤ z.base := fun _ h => nomatch h
  have hC : 0 + cn = cn := Nat.zero_add _
  have hN : 0 + nn = nn := Nat.zero_add _
  delta fJ0_charAt_5068e at hf
  refine lv_aload_n hx hb dJ0_charAt_5068e_0 rfl (lv_at hl.1 0 rfl) ?_
  refine vg_callVi (ci := 0) X hml hl hH hL fCV_J0_492 rfl [] rfl rfl (Nat.le_of_ble_eq_true rfl) dJ0_charAt_5068e_1 hf hC hN hRc hRs hfr hlo (by decide) (fun _ _ _ _ h => cJ0_isLatin1_aae02_met h) (fun x1 μ2 cn nn H locs cells slots hf hC hN hH hL => ?_)
  refine lv_if_eq (tgt := 16) hx hb dJ0_charAt_5068e_4 (by decide) (fun h8 => ?_) (fun h8 => ?_)
  · have hf := vg_ip h8 hf
    refine lv_aload_n hx hb dJ0_charAt_5068e_16 rfl (lv_at hl.1 0 rfl) ?_
    refine vg_getR X hH fF_J0_9 dJ0_charAt_5068e_17 hf (fun x3 hf => ?_)
    refine lv_iload_n hx hb dJ0_charAt_5068e_20 rfl (lv_at hl.1 1 rfl) ?_
    cases hf
  · have hf := vg_if h8 hf
    refine lv_aload_n hx hb dJ0_charAt_5068e_7 rfl (lv_at hl.1 0 rfl) ?_
    refine vg_getR X hH fF_J0_9 dJ0_charAt_5068e_8 hf (fun x4 hf => ?_)
    refine lv_iload_n hx hb dJ0_charAt_5068e_11 rfl (lv_at hl.1 1 rfl) ?_
    refine vg_callSi X hml hl hH hL fCS_J0_495 [va_rf x4, .int v1] rfl rfl (Nat.le_of_ble_eq_true rfl) dJ0_charAt_5068e_12 hf hC hN hRc hRs hfr hlo (by decide) (fun _ _ _ _ h => cJ1_charAt_3b067_met h) (fun x5 μ6 cn nn H locs cells slots hf hC hN hH hL => ?_)
    exact vg_retz X (by simp) hr hlk hH hL dJ0_charAt_5068e_15 hf hC hN
def fJ3_checkFromToIndex_8c36e_14  (v0 : Int32) (v1 : Int32) (v2 : Int32) (v3 : Option Nat) (μ : vg_M) : vg_R Int32 :=
  none
set_option maxHeartbeats 4000000 in
set_option maxRecDepth 100000 in
theorem wJ3_checkFromToIndex_8c36e_14 {p : Program} {l : Launch} {e : Env} {R : Room} {s : State} {m : MethodId} {args : Array Value} {below : List Frame} {meth : Method} {c : Code} {D : va_G} {cy : Nat → ClassId} {H0 : Heap} {C0 N0 : Nat} {r : Int32} {μ' : vg_M} (Z : vg_Z D cy H0 p s m args c cJ3_checkFromToIndex_8c36e RJ3 meth 4 (some .int) R 12 C0 N0 "checkFromToIndex")   (v0 : Int32) (v1 : Int32) (v2 : Int32) (v3 : Option Nat) (μ : vg_M) : vg_S p l e R s m args below meth c D cy H0 C0 N0 4 (MQ below (vg_Qc D cy H0 μ' (some (.int r))) args s C0 N0 (vg_fr H0)) r μ' (fJ3_checkFromToIndex_8c36e_14  v0 v1 v2 v3 μ) μ [(0, .int v0), (1, .int v1), (2, .int v2), (3, va_rf v3)] [] 14 := by
  intro cn nn H locs cells slots ls hf hH hL hC hN hl
  obtain ⟨X, hml, hr, hlk, hfr, hlo, hRc, hRs, hnm⟩ := id Z
  have hx := X.1
  have hb := X.2.1
  delta fJ3_checkFromToIndex_8c36e_14 at hf
  refine vg_aload_n hx hb dJ3_checkFromToIndex_8c36e_14 rfl (lv_at hl.1 3 rfl) ?_
  refine lv_iload_n hx hb dJ3_checkFromToIndex_8c36e_15 rfl (lv_at hl.1 0 rfl) ?_
  refine lv_iload_n hx hb dJ3_checkFromToIndex_8c36e_16 rfl (lv_at hl.1 1 rfl) ?_
  refine lv_iload_n hx hb dJ3_checkFromToIndex_8c36e_17 rfl (lv_at hl.1 2 rfl) ?_
  cases hf
def fJ3_checkFromToIndex_8c36e (v0 : Int32) (v1 : Int32) (v2 : Int32) (v3 : Option Nat) (μ : vg_M) : vg_R Int32 :=
  if v0 < 0 then (
   fJ3_checkFromToIndex_8c36e_14  v0 v1 v2 v3 μ
   ) else (
   if v1 < v0 then (
    fJ3_checkFromToIndex_8c36e_14  v0 v1 v2 v3 μ
    ) else (
    if v1 ≤ v2 then (
     vg_ret v0 μ
     ) else (
     fJ3_checkFromToIndex_8c36e_14  v0 v1 v2 v3 μ
     )
    )
   )
set_option maxHeartbeats 4000000 in
set_option maxRecDepth 100000 in
theorem cJ3_checkFromToIndex_8c36e_met {l : Launch} {D : va_G} {cy : Nat → ClassId} {H0 : Heap} {r : Int32} {μ μ' : vg_M} {cn nn : Nat} {v0 : Int32} {v1 : Int32} {v2 : Int32} {v3 : Option Nat} (hf : fJ3_checkFromToIndex_8c36e v0 v1 v2 v3 μ = some (r, μ', cn, nn)) : vg_Met l D cy H0 yJ3_checkFromToIndex_8c36e cJ3_checkFromToIndex_8c36e 4 (some .int) 12 μ [.int v0, .int v1, .int v2, va_rf v3] (some (.int r)) μ' cn nn := by
  refine vg_start (by decide +kernel) (List.forall_mem_cons.mpr ⟨rfl, (List.forall_mem_cons.mpr ⟨rfl, (List.forall_mem_cons.mpr ⟨rfl, (List.forall_mem_cons.mpr ⟨vg_rfc _, (fun _ h => nomatch h)⟩)⟩)⟩)⟩) (Nat.le_of_ble_eq_true rfl) ?_
  intro p e s m below meth c ls X hml hr hlk hnm hH hl
  have hl : vg_l ls 4 [(0, .int v0), (1, .int v1), (2, .int v2), (3, va_rf v3)] := hl
  have Z : vg_Z D cy H0 p s m _ c cJ3_checkFromToIndex_8c36e RJ3 meth 4 (some .int) (vg_rm 12 cn nn) 12 cn nn _ := ⟨X, hml, hr, hlk, Nat.le_refl _, Nat.le_refl _, Nat.le_refl _, Nat.le_refl _, hnm⟩
  obtain ⟨-, -, -, -, hfr, hlo, hRc, hRs, -⟩ := id Z
  have hx := X.1
  have hb := X.2.1
  have hL : ∀ z ∈ ([] : List Loc), H0.size ≤ z.base := fun _ h => nomatch h
  have hC : 0 + cn = cn := Nat.zero_add _
  have hN : 0 + nn = nn := Nat.zero_add _
  delta fJ3_checkFromToIndex_8c36e at hf
  refine lv_iload_n hx hb dJ3_checkFromToIndex_8c36e_0 rfl (lv_at hl.1 0 rfl) ?_
  refine lv_if_lt (tgt := 14) hx hb dJ3_checkFromToIndex_8c36e_1 (by decide) (fun h8 => ?_) (fun h8 => ?_)
  · have hf := vg_ip h8 hf
    exact wJ3_checkFromToIndex_8c36e_14 Z  v0 v1 v2 v3 μ _ _ _ _ _ _ _ hf hH hL hC hN (hl.sub [0, 1, 2, 3] rfl)
  · have hf := vg_if h8 hf
    refine lv_iload_n hx hb dJ3_checkFromToIndex_8c36e_4 rfl (lv_at hl.1 0 rfl) ?_
    refine lv_iload_n hx hb dJ3_checkFromToIndex_8c36e_5 rfl (lv_at hl.1 1 rfl) ?_
    refine lv_icmp_gt (tgt := 14) hx hb dJ3_checkFromToIndex_8c36e_6 (by decide) (fun h8 => ?_) (fun h8 => ?_)
    · have hf := vg_ip h8 hf
      exact wJ3_checkFromToIndex_8c36e_14 Z  v0 v1 v2 v3 μ _ _ _ _ _ _ _ hf hH hL hC hN (hl.sub [0, 1, 2, 3] rfl)
    · have hf := vg_if h8 hf
      refine lv_iload_n hx hb dJ3_checkFromToIndex_8c36e_9 rfl (lv_at hl.1 1 rfl) ?_
      refine lv_iload_n hx hb dJ3_checkFromToIndex_8c36e_10 rfl (lv_at hl.1 2 rfl) ?_
      refine lv_icmp_le (tgt := 22) hx hb dJ3_checkFromToIndex_8c36e_11 (by decide) (fun h8 => ?_) (fun h8 => ?_)
      · have hf := vg_ip h8 hf
        refine lv_iload_n hx hb dJ3_checkFromToIndex_8c36e_22 rfl (lv_at hl.1 0 rfl) ?_
        exact vg_reti X hr hlk hH hL dJ3_checkFromToIndex_8c36e_23 hf hC hN
      · have hf := vg_if h8 hf
        exact wJ3_checkFromToIndex_8c36e_14 Z  v0 v1 v2 v3 μ _ _ _ _ _ _ _ hf hH hL hC hN (hl.sub [0, 1, 2, 3] rfl)
def fJ0_checkBoundsBeginEnd_23922 (v0 : Int32) (v1 : Int32) (v2 : Int32) (μ : vg_M) : vg_R Unit :=
  vg_kq μ 30 fun x1 =>
  vg_b (fJ3_checkFromToIndex_8c36e v0 v1 v2 x1 μ) fun x2 μ3 =>
  vg_ret () μ3
set_option maxHeartbeats 4000000 in
set_option maxRecDepth 100000 in
theorem cJ0_checkBoundsBeginEnd_23922_met {l : Launch} {D : va_G} {cy : Nat → ClassId} {H0 : Heap} {r : Unit} {μ μ' : vg_M} {cn nn : Nat} {v0 : Int32} {v1 : Int32} {v2 : Int32} (hf : fJ0_checkBoundsBeginEnd_23922 v0 v1 v2 μ = some (r, μ', cn, nn)) : vg_Met l D cy H0 yJ0_checkBoundsBeginEnd_23922 cJ0_checkBoundsBeginEnd_23922 3 none 13 μ [.int v0, .int v1, .int v2] none μ' cn nn := by
  refine vg_start (by decide +kernel) (List.forall_mem_cons.mpr ⟨rfl, (List.forall_mem_cons.mpr ⟨rfl, (List.forall_mem_cons.mpr ⟨rfl, (fun _ h => nomatch h)⟩)⟩)⟩) (Nat.le_of_ble_eq_true rfl) ?_
  intro p e s m below meth c ls X hml hr hlk hnm hH hl
  have hl : vg_l ls 3 [(0, .int v0), (1, .int v1), (2, .int v2)] := hl
  have Z : vg_Z D cy H0 p s m _ c cJ0_checkBoundsBeginEnd_23922 RJ0 meth 3 none (vg_rm 13 cn nn) 13 cn nn _ := ⟨X, hml, hr, hlk, Nat.le_refl _, Nat.le_refl _, Nat.le_refl _, Nat.le_refl _, hnm⟩
  obtain ⟨-, -, -, -, hfr, hlo, hRc, hRs, -⟩ := id Z
  have hx := X.1
  have hb := X.2.1
  have hL : ∀ z ∈ ([] : List Loc), H0.size ≤ z.base := fun _ h => nomatch h
  have hC : 0 + cn = cn := Nat.zero_add _
  have hN : 0 + nn = nn := Nat.zero_add _
  delta fJ0_checkBoundsBeginEnd_23922 at hf
  refine lv_iload_n hx hb dJ0_checkBoundsBeginEnd_23922_0 rfl (lv_at hl.1 0 rfl) ?_
  refine lv_iload_n hx hb dJ0_checkBoundsBeginEnd_23922_1 rfl (lv_at hl.1 1 rfl) ?_
  refine lv_iload_n hx hb dJ0_checkBoundsBeginEnd_23922_2 rfl (lv_at hl.1 2 rfl) ?_
  refine vg_gsF X hH kw_438946198 dJ0_checkBoundsBeginEnd_23922_3 hf (fun x1 hf => ?_)
  refine vg_callSi X hml hl hH hL fCS_J0_1062 [.int v0, .int v1, .int v2, va_rf x1] rfl rfl (Nat.le_of_ble_eq_true rfl) dJ0_checkBoundsBeginEnd_23922_6 hf hC hN hRc hRs hfr hlo (by decide) (fun _ _ _ _ h => cJ3_checkFromToIndex_8c36e_met h) (fun x2 μ3 cn nn H locs cells slots hf hC hN hH hL => ?_)
  refine lv_pop hx hb dJ0_checkBoundsBeginEnd_23922_9 rfl ?_
  exact vg_retv X hr hlk hH hL dJ0_checkBoundsBeginEnd_23922_10 hf hC hN
def fJ0_coder_7d493_14  (k0 : Int32) (μ : vg_M) : vg_R Int32 :=
  vg_o (vg_z .byte k0) fun z => vg_ret z μ
set_option maxHeartbeats 4000000 in
set_option maxRecDepth 100000 in
theorem wJ0_coder_7d493_14 {p : Program} {l : Launch} {e : Env} {R : Room} {s : State} {m : MethodId} {args : Array Value} {below : List Frame} {meth : Method} {c : Code} {D : va_G} {cy : Nat → ClassId} {H0 : Heap} {C0 N0 : Nat} {r : Int32} {μ' : vg_M} (Z : vg_Z D cy H0 p s m args c cJ0_coder_7d493 RJ0 meth 1 (some .byte) R 12 C0 N0 "coder")   (k0 : Int32) (μ : vg_M) : vg_S p l e R s m args below meth c D cy H0 C0 N0 1 (MQ below (vg_Qc D cy H0 μ' (some (.int r))) args s C0 N0 (vg_fr H0)) r μ' (fJ0_coder_7d493_14  k0 μ) μ [] [.int k0] 14 := by
  intro cn nn H locs cells slots ls hf hH hL hC hN hl
  obtain ⟨X, hml, hr, hlk, hfr, hlo, hRc, hRs, hnm⟩ := id Z
  have hx := X.1
  have hb := X.2.1
  delta fJ0_coder_7d493_14 at hf
  exact vg_retz X (by simp) hr hlk hH hL dJ0_coder_7d493_14 hf hC hN
def fJ0_coder_7d493 (v0 : Nat) (μ : vg_M) : vg_R Int32 :=
  vg_o (vg_gI μ v0 0 1) fun x1 =>
  fJ0_coder_7d493_14  x1 μ
set_option maxHeartbeats 4000000 in
set_option maxRecDepth 100000 in
theorem cJ0_coder_7d493_met {l : Launch} {D : va_G} {cy : Nat → ClassId} {H0 : Heap} {r : Int32} {μ μ' : vg_M} {cn nn : Nat} {v0 : Nat} (hf : fJ0_coder_7d493 v0 μ = some (r, μ', cn, nn)) : vg_Met l D cy H0 yJ0_coder_7d493 cJ0_coder_7d493 1 (some .byte) 12 μ [.ref v0] (some (.int r)) μ' cn nn := by
  refine vg_start (by decide +kernel) (List.forall_mem_cons.mpr ⟨rfl, (fun _ h => nomatch h)⟩) (Nat.le_of_ble_eq_true rfl) ?_
  intro p e s m below meth c ls X hml hr hlk hnm hH hl
  have hl : vg_l ls 1 [(0, .ref v0)] := hl
  have Z : vg_Z D cy H0 p s m _ c cJ0_coder_7d493 RJ0 meth 1 (some .byte) (vg_rm 12 cn nn) 12 cn nn _ := ⟨X, hml, hr, hlk, Nat.le_refl _, Nat.le_refl _, Nat.le_refl _, Nat.le_refl _, hnm⟩
  obtain ⟨-, -, -, -, hfr, hlo, hRc, hRs, -⟩ := id Z
  have hx := X.1
  have hb := X.2.1
  have hL : ∀ z ∈ ([] : List Loc), H0.size ≤ z.base := fun _ h => nomatch h
  have hC : 0 + cn = cn := Nat.zero_add _
  have hN : 0 + nn = nn := Nat.zero_add _
  delta fJ0_coder_7d493 at hf
  refine vg_gsC X hH kw_639528659 dJ0_coder_7d493_0 ?_
  refine lv_if_eq (tgt := 13) hx hb dJ0_coder_7d493_3 (by decide) (fun h8 => ?_) (fun h8 => ?_)
  · exact absurd h8 (by decide)
  · refine lv_aload_n hx hb dJ0_coder_7d493_6 rfl (lv_at hl.1 0 rfl) ?_
    refine vg_getI X hH fF_J0_15 dJ0_coder_7d493_7 hf (fun x1 hf => ?_)
    refine lv_goto (tgt := 14) hx hb dJ0_coder_7d493_10 (by decide) ?_
    exact wJ0_coder_7d493_14 Z  x1 μ _ _ _ _ _ _ _ hf hH hL hC hN (hl.sub [] rfl)
def fJ1_equals_b5fdf_9  : Nat → Option Nat → Option Nat → Int32 → vg_M → vg_R Int32
  | 0, _, _, _, _ => none
  | n + 1, v0, v1, v2, μ =>
    vg_o v0 fun a1 =>
    vg_o (vg_al μ a1) fun x2 =>
    if x2 ≤ v2 then (
     vg_o (vg_z .boolean 1) fun z => vg_ret z μ
     ) else (
     vg_o (vg_aI μ a1 0 v2) fun x3 =>
     vg_o v1 fun a4 =>
     vg_o (vg_aI μ a4 0 v2) fun x5 =>
     if x3 = x5 then (
      (fJ1_equals_b5fdf_9  n) (some a1) (some a4) (v2 + 1) μ
      ) else (
      vg_o (vg_z .boolean 0) fun z => vg_ret z μ
      )
     )
set_option maxHeartbeats 4000000 in
set_option maxRecDepth 100000 in
theorem wJ1_equals_b5fdf_9 {p : Program} {l : Launch} {e : Env} {R : Room} {s : State} {m : MethodId} {args : Array Value} {below : List Frame} {meth : Method} {c : Code} {D : va_G} {cy : Nat → ClassId} {H0 : Heap} {C0 N0 : Nat} {r : Int32} {μ' : vg_M} (Z : vg_Z D cy H0 p s m args c cJ1_equals_b5fdf RJ1 meth 3 (some .boolean) R 12 C0 N0 "equals")   : ∀ (n : Nat) (v0 : Option Nat) (v1 : Option Nat) (v2 : Int32) (μ : vg_M), vg_S p l e R s m args below meth c D cy H0 C0 N0 3 (MQ below (vg_Qc D cy H0 μ' (some (.int r))) args s C0 N0 (vg_fr H0)) r μ' (fJ1_equals_b5fdf_9  n v0 v1 v2 μ) μ [(0, va_rf v0), (1, va_rf v1), (2, .int v2)] [] 9 := by
  intro n
  induction n with
  | zero =>
    intro v0 v1 v2 μ cn nn H locs cells slots ls hf
    simp [fJ1_equals_b5fdf_9] at hf
  | succ n hk9 =>
    intro v0 v1 v2 μ
    intro cn nn H locs cells slots ls hf hH hL hC hN hl
    obtain ⟨X, hml, hr, hlk, hfr, hlo, hRc, hRs, hnm⟩ := id Z
    have hx := X.1
    have hb := X.2.1
    rw [fJ1_equals_b5fdf_9] at hf
    refine lv_iload_n hx hb dJ1_equals_b5fdf_9 rfl (lv_at hl.1 2 rfl) ?_
    refine vg_aload_n hx hb dJ1_equals_b5fdf_10 rfl (lv_at hl.1 0 rfl) ?_
    obtain ⟨a1, h9, hg⟩ := vg_o_inv hf
    clear hf
    subst h9
    have hf := hg
    clear hg
    refine vg_alen X hH dJ1_equals_b5fdf_11 hf (fun x2 hf => ?_)
    refine lv_icmp_ge (tgt := 32) hx hb dJ1_equals_b5fdf_12 (by decide) (fun h8 => ?_) (fun h8 => ?_)
    · have hf := vg_ip h8 hf
      refine lv_iconst (v := 1) hx hb dJ1_equals_b5fdf_32 (by decide) ?_
      exact vg_retz X (by simp) hr hlk hH hL dJ1_equals_b5fdf_33 hf hC hN
    · have hf := vg_if h8 hf
      refine lv_aload_n hx hb dJ1_equals_b5fdf_15 rfl (lv_at hl.1 0 rfl) ?_
      refine lv_iload_n hx hb dJ1_equals_b5fdf_16 rfl (lv_at hl.1 2 rfl) ?_
      refine vg_bald X hH dJ1_equals_b5fdf_17 hf (fun x3 hf => ?_)
      refine vg_aload_n hx hb dJ1_equals_b5fdf_18 rfl (lv_at hl.1 1 rfl) ?_
      refine lv_iload_n hx hb dJ1_equals_b5fdf_19 rfl (lv_at hl.1 2 rfl) ?_
      obtain ⟨a4, h9, hg⟩ := vg_o_inv hf
      clear hf
      subst h9
      have hf := hg
      clear hg
      refine vg_bald X hH dJ1_equals_b5fdf_20 hf (fun x5 hf => ?_)
      refine lv_icmp_eq (tgt := 26) hx hb dJ1_equals_b5fdf_21 (by decide) (fun h8 => ?_) (fun h8 => ?_)
      · have hf := vg_ip h8 hf
        refine vg_iinc (v := v2 + 1) (lv' := [(2, .int (v2 + 1)), (0, .ref a1), (1, .ref a4)]) hx hb dJ1_equals_b5fdf_26 hl (k := 2) rfl rfl (by decide) rfl (fun ls hl => ?_)
        refine lv_goto (tgt := 9) hx hb dJ1_equals_b5fdf_29 (by decide) ?_
        exact hk9 (some a1) (some a4) (v2 + 1) μ _ _ _ _ _ _ _ hf hH hL hC hN (hl.sub [1, 2, 0] rfl)
      · have hf := vg_if h8 hf
        refine lv_iconst (v := 0) hx hb dJ1_equals_b5fdf_24 (by decide) ?_
        exact vg_retz X (by simp) hr hlk hH hL dJ1_equals_b5fdf_25 hf hC hN
def fJ1_equals_b5fdf (v0 : Option Nat) (v1 : Option Nat) (μ : vg_M) : vg_R Int32 :=
  vg_o v0 fun a6 =>
  vg_o (vg_al μ a6) fun x7 =>
  vg_o v1 fun a8 =>
  vg_o (vg_al μ a8) fun x9 =>
  if x7 = x9 then (
   fJ1_equals_b5fdf_9  vg_fuel (some a6) (some a8) 0 μ
   ) else (
   vg_o (vg_z .boolean 0) fun z => vg_ret z μ
   )
set_option maxHeartbeats 4000000 in
set_option maxRecDepth 100000 in
theorem cJ1_equals_b5fdf_met {l : Launch} {D : va_G} {cy : Nat → ClassId} {H0 : Heap} {r : Int32} {μ μ' : vg_M} {cn nn : Nat} {v0 : Option Nat} {v1 : Option Nat} (hf : fJ1_equals_b5fdf v0 v1 μ = some (r, μ', cn, nn)) : vg_Met l D cy H0 yJ1_equals_b5fdf cJ1_equals_b5fdf 3 (some .boolean) 12 μ [va_rf v0, va_rf v1] (some (.int r)) μ' cn nn := by
  refine vg_start (by decide +kernel) (List.forall_mem_cons.mpr ⟨vg_rfc _, (List.forall_mem_cons.mpr ⟨vg_rfc _, (fun _ h => nomatch h)⟩)⟩) (Nat.le_of_ble_eq_true rfl) ?_
  intro p e s m below meth c ls X hml hr hlk hnm hH hl
  have hl : vg_l ls 3 [(0, va_rf v0), (1, va_rf v1)] := hl
  have Z : vg_Z D cy H0 p s m _ c cJ1_equals_b5fdf RJ1 meth 3 (some .boolean) (vg_rm 12 cn nn) 12 cn nn _ := ⟨X, hml, hr, hlk, Nat.le_refl _, Nat.le_refl _, Nat.le_refl _, Nat.le_refl _, hnm⟩
  obtain ⟨-, -, -, -, hfr, hlo, hRc, hRs, -⟩ := id Z
  have hx := X.1
  have hb := X.2.1
  have hL : ∀ z ∈ ([] : List Loc), H0.size ≤ z.base := fun _ h => nomatch h
  have hC : 0 + cn = cn := Nat.zero_add _
  have hN : 0 + nn = nn := Nat.zero_add _
  delta fJ1_equals_b5fdf at hf
  refine vg_aload_n hx hb dJ1_equals_b5fdf_0 rfl (lv_at hl.1 0 rfl) ?_
  obtain ⟨a6, h9, hg⟩ := vg_o_inv hf
  clear hf
  subst h9
  have hf := hg
  clear hg
  refine vg_alen X hH dJ1_equals_b5fdf_1 hf (fun x7 hf => ?_)
  refine vg_aload_n hx hb dJ1_equals_b5fdf_2 rfl (lv_at hl.1 1 rfl) ?_
  obtain ⟨a8, h9, hg⟩ := vg_o_inv hf
  clear hf
  subst h9
  have hf := hg
  clear hg
  refine vg_alen X hH dJ1_equals_b5fdf_3 hf (fun x9 hf => ?_)
  refine lv_icmp_ne (tgt := 34) hx hb dJ1_equals_b5fdf_4 (by decide) (fun h8 => ?_) (fun h8 => ?_)
  · have hf := vg_if h8 hf
    refine lv_iconst (v := 0) hx hb dJ1_equals_b5fdf_34 (by decide) ?_
    exact vg_retz X (by simp) hr hlk hH hL dJ1_equals_b5fdf_35 hf hC hN
  · have hf := vg_ip h8 hf
    refine lv_iconst (v := 0) hx hb dJ1_equals_b5fdf_7 (by decide) ?_
    refine vg_istore_n (lv' := [(2, .int 0), (0, .ref a6), (1, .ref a8)]) hx hb dJ1_equals_b5fdf_8 rfl hl (by decide) rfl (fun ls hl => ?_)
    exact wJ1_equals_b5fdf_9 Z  vg_fuel (some a6) (some a8) 0 μ _ _ _ _ _ _ _ hf hH hL hC hN (hl.sub [1, 2, 0] rfl)
def fJ0_equals_9ea2d_55  (k0 : Int32) (μ : vg_M) : vg_R Int32 :=
  vg_o (vg_z .boolean k0) fun z => vg_ret z μ
set_option maxHeartbeats 4000000 in
set_option maxRecDepth 100000 in
theorem wJ0_equals_9ea2d_55 {p : Program} {l : Launch} {e : Env} {R : Room} {s : State} {m : MethodId} {args : Array Value} {below : List Frame} {meth : Method} {c : Code} {D : va_G} {cy : Nat → ClassId} {H0 : Heap} {C0 N0 : Nat} {r : Int32} {μ' : vg_M} (Z : vg_Z D cy H0 p s m args c cJ0_equals_9ea2d RJ0 meth 3 (some .boolean) R 13 C0 N0 "equals")   (k0 : Int32) (μ : vg_M) : vg_S p l e R s m args below meth c D cy H0 C0 N0 3 (MQ below (vg_Qc D cy H0 μ' (some (.int r))) args s C0 N0 (vg_fr H0)) r μ' (fJ0_equals_9ea2d_55  k0 μ) μ [] [.int k0] 55 := by
  intro cn nn H locs cells slots ls hf hH hL hC hN hl
  obtain ⟨X, hml, hr, hlk, hfr, hlo, hRc, hRs, hnm⟩ := id Z
  have hx := X.1
  have hb := X.2.1
  delta fJ0_equals_9ea2d_55 at hf
  exact vg_retz X (by simp) hr hlk hH hL dJ0_equals_9ea2d_55 hf hC hN
def fJ0_equals_9ea2d_54   (μ : vg_M) : vg_R Int32 :=
  fJ0_equals_9ea2d_55  0 μ
set_option maxHeartbeats 4000000 in
set_option maxRecDepth 100000 in
theorem wJ0_equals_9ea2d_54 {p : Program} {l : Launch} {e : Env} {R : Room} {s : State} {m : MethodId} {args : Array Value} {below : List Frame} {meth : Method} {c : Code} {D : va_G} {cy : Nat → ClassId} {H0 : Heap} {C0 N0 : Nat} {r : Int32} {μ' : vg_M} (Z : vg_Z D cy H0 p s m args c cJ0_equals_9ea2d RJ0 meth 3 (some .boolean) R 13 C0 N0 "equals")    (μ : vg_M) : vg_S p l e R s m args below meth c D cy H0 C0 N0 3 (MQ below (vg_Qc D cy H0 μ' (some (.int r))) args s C0 N0 (vg_fr H0)) r μ' (fJ0_equals_9ea2d_54   μ) μ [] [] 54 := by
  intro cn nn H locs cells slots ls hf hH hL hC hN hl
  obtain ⟨X, hml, hr, hlk, hfr, hlo, hRc, hRs, hnm⟩ := id Z
  have hx := X.1
  have hb := X.2.1
  delta fJ0_equals_9ea2d_54 at hf
  refine lv_iconst (v := 0) hx hb dJ0_equals_9ea2d_54 (by decide) ?_
  exact wJ0_equals_9ea2d_55 Z  0 μ _ _ _ _ _ _ _ hf hH hL hC hN (hl.sub [] rfl)
def fJ0_equals_9ea2d_36  (v0 : Nat) (v2 : Option Nat) (μ : vg_M) : vg_R Int32 :=
  vg_o (vg_gR μ v0 0 0) fun x1 =>
  vg_o v2 fun a2 =>
  vg_o (vg_gR μ a2 0 0) fun x3 =>
  vg_b (fJ1_equals_b5fdf x1 x3 μ) fun x4 μ5 =>
  if x4 = 0 then (
   fJ0_equals_9ea2d_54   μ5
   ) else (
   fJ0_equals_9ea2d_55  1 μ5
   )
set_option maxHeartbeats 4000000 in
set_option maxRecDepth 100000 in
theorem wJ0_equals_9ea2d_36 {p : Program} {l : Launch} {e : Env} {R : Room} {s : State} {m : MethodId} {args : Array Value} {below : List Frame} {meth : Method} {c : Code} {D : va_G} {cy : Nat → ClassId} {H0 : Heap} {C0 N0 : Nat} {r : Int32} {μ' : vg_M} (Z : vg_Z D cy H0 p s m args c cJ0_equals_9ea2d RJ0 meth 3 (some .boolean) R 13 C0 N0 "equals")   (v0 : Nat) (v2 : Option Nat) (μ : vg_M) : vg_S p l e R s m args below meth c D cy H0 C0 N0 3 (MQ below (vg_Qc D cy H0 μ' (some (.int r))) args s C0 N0 (vg_fr H0)) r μ' (fJ0_equals_9ea2d_36  v0 v2 μ) μ [(0, .ref v0), (2, va_rf v2)] [] 36 := by
  intro cn nn H locs cells slots ls hf hH hL hC hN hl
  obtain ⟨X, hml, hr, hlk, hfr, hlo, hRc, hRs, hnm⟩ := id Z
  have hx := X.1
  have hb := X.2.1
  delta fJ0_equals_9ea2d_36 at hf
  refine lv_aload_n hx hb dJ0_equals_9ea2d_36 rfl (lv_at hl.1 0 rfl) ?_
  refine vg_getR X hH fF_J0_9 dJ0_equals_9ea2d_37 hf (fun x1 hf => ?_)
  refine vg_aload_n hx hb dJ0_equals_9ea2d_40 rfl (lv_at hl.1 1 rfl) ?_
  obtain ⟨a2, h9, hg⟩ := vg_o_inv hf
  clear hf
  subst h9
  have hf := hg
  clear hg
  refine vg_getR X hH fF_J0_9 dJ0_equals_9ea2d_41 hf (fun x3 hf => ?_)
  refine vg_callSi X hml hl hH hL fCS_J0_541 [va_rf x1, va_rf x3] rfl rfl (Nat.le_of_ble_eq_true rfl) dJ0_equals_9ea2d_44 hf hC hN hRc hRs hfr hlo (by decide) (fun _ _ _ _ h => cJ1_equals_b5fdf_met h) (fun x4 μ5 cn nn H locs cells slots hf hC hN hH hL => ?_)
  refine lv_if_eq (tgt := 54) hx hb dJ0_equals_9ea2d_47 (by decide) (fun h8 => ?_) (fun h8 => ?_)
  · have hf := vg_ip h8 hf
    exact wJ0_equals_9ea2d_54 Z   μ5 _ _ _ _ _ _ _ hf hH hL hC hN (hl.sub [] rfl)
  · have hf := vg_if h8 hf
    refine lv_iconst (v := 1) hx hb dJ0_equals_9ea2d_50 (by decide) ?_
    refine lv_goto (tgt := 55) hx hb dJ0_equals_9ea2d_51 (by decide) ?_
    exact wJ0_equals_9ea2d_55 Z  1 μ5 _ _ _ _ _ _ _ hf hH hL hC hN (hl.sub [] rfl)
def fJ0_equals_9ea2d (v0 : Nat) (v1 : Option Nat) (μ : vg_M) : vg_R Int32 :=
  if (some v0) = v1 then (
   vg_o (vg_z .boolean 1) fun z => vg_ret z μ
   ) else (
   vg_is μ v1 0 fun x6 =>
   if x6 = 0 then (
    fJ0_equals_9ea2d_54   μ
    ) else (
    vg_ck μ v1 0 <|
    vg_o (vg_gI μ v0 0 1) fun x7 =>
    vg_o v1 fun a8 =>
    vg_o (vg_gI μ a8 0 1) fun x9 =>
    if x7 = x9 then (
     fJ0_equals_9ea2d_36  v0 (some a8) μ
     ) else (
     fJ0_equals_9ea2d_54   μ
     )
    )
   )
set_option maxHeartbeats 4000000 in
set_option maxRecDepth 100000 in
theorem cJ0_equals_9ea2d_met {l : Launch} {D : va_G} {cy : Nat → ClassId} {H0 : Heap} {r : Int32} {μ μ' : vg_M} {cn nn : Nat} {v0 : Nat} {v1 : Option Nat} (hf : fJ0_equals_9ea2d v0 v1 μ = some (r, μ', cn, nn)) : vg_Met l D cy H0 yJ0_equals_9ea2d cJ0_equals_9ea2d 3 (some .boolean) 13 μ [.ref v0, va_rf v1] (some (.int r)) μ' cn nn := by
  refine vg_start (by decide +kernel) (List.forall_mem_cons.mpr ⟨rfl, (List.forall_mem_cons.mpr ⟨vg_rfc _, (fun _ h => nomatch h)⟩)⟩) (Nat.le_of_ble_eq_true rfl) ?_
  intro p e s m below meth c ls X hml hr hlk hnm hH hl
  have hl : vg_l ls 3 [(0, .ref v0), (1, va_rf v1)] := hl
  have Z : vg_Z D cy H0 p s m _ c cJ0_equals_9ea2d RJ0 meth 3 (some .boolean) (vg_rm 13 cn nn) 13 cn nn _ := ⟨X, hml, hr, hlk, Nat.le_refl _, Nat.le_refl _, Nat.le_refl _, Nat.le_refl _, hnm⟩
  obtain ⟨-, -, -, -, hfr, hlo, hRc, hRs, -⟩ := id Z
  have hx := X.1
  have hb := X.2.1
  have hL : ∀ z ∈ ([] : List Loc), H0.size ≤ z.base := fun _ h => nomatch h
  have hC : 0 + cn = cn := Nat.zero_add _
  have hN : 0 + nn = nn := Nat.zero_add _
  delta fJ0_equals_9ea2d at hf
  refine lv_aload_n hx hb dJ0_equals_9ea2d_0 rfl (lv_at hl.1 0 rfl) ?_
  refine vg_aload_n hx hb dJ0_equals_9ea2d_1 rfl (lv_at hl.1 1 rfl) ?_
  refine lv_acmp_ne (rx := (some v0)) (ry := v1) (tgt := 7) hx hb dJ0_equals_9ea2d_2 (by decide) (fun h8 => ?_) (fun h8 => ?_)
  · have hf := vg_if h8 hf
    refine vg_aload_n hx hb dJ0_equals_9ea2d_7 rfl (lv_at hl.1 1 rfl) ?_
    refine vg_instC (ci := 0) X hH rfl kw_873695939 (x := v1) dJ0_equals_9ea2d_8 hf (fun x6 hf => ?_)
    refine lv_if_eq (tgt := 54) hx hb dJ0_equals_9ea2d_11 (by decide) (fun h8 => ?_) (fun h8 => ?_)
    · have hf := vg_ip h8 hf
      exact wJ0_equals_9ea2d_54 Z   μ _ _ _ _ _ _ _ hf hH hL hC hN (hl.sub [] rfl)
    · have hf := vg_if h8 hf
      refine vg_aload_n hx hb dJ0_equals_9ea2d_14 rfl (lv_at hl.1 1 rfl) ?_
      refine vg_castC (ci := 0) X hH rfl kw_873695939 (x := v1) dJ0_equals_9ea2d_15 hf (fun hf => ?_)
      refine vg_astore_n (lv' := [(2, va_rf v1), (0, .ref v0), (1, va_rf v1)]) hx hb dJ0_equals_9ea2d_18 rfl hl (by decide) rfl (fun ls hl => ?_)
      refine vg_gsC X hH kw_639528659 dJ0_equals_9ea2d_19 ?_
      refine lv_if_eq (tgt := 36) hx hb dJ0_equals_9ea2d_22 (by decide) (fun h8 => ?_) (fun h8 => ?_)
      · exact absurd h8 (by decide)
      · refine lv_aload_n hx hb dJ0_equals_9ea2d_25 rfl (lv_at hl.1 1 rfl) ?_
        refine vg_getI X hH fF_J0_15 dJ0_equals_9ea2d_26 hf (fun x7 hf => ?_)
        refine vg_aload_n hx hb dJ0_equals_9ea2d_29 rfl (lv_at hl.1 0 rfl) ?_
        obtain ⟨a8, h9, hg⟩ := vg_o_inv hf
        clear hf
        subst h9
        have hf := hg
        clear hg
        refine vg_getI X hH fF_J0_15 dJ0_equals_9ea2d_30 hf (fun x9 hf => ?_)
        refine lv_icmp_ne (tgt := 54) hx hb dJ0_equals_9ea2d_33 (by decide) (fun h8 => ?_) (fun h8 => ?_)
        · have hf := vg_if h8 hf
          exact wJ0_equals_9ea2d_54 Z   μ _ _ _ _ _ _ _ hf hH hL hC hN (hl.sub [] rfl)
        · have hf := vg_ip h8 hf
          exact wJ0_equals_9ea2d_36 Z  v0 (some a8) μ _ _ _ _ _ _ _ hf hH hL hC hN (hl.sub [1, 0] rfl)
  · have hf := vg_ip h8 hf
    refine lv_iconst (v := 1) hx hb dJ0_equals_9ea2d_5 (by decide) ?_
    exact vg_retz X (by simp) hr hlk hH hL dJ0_equals_9ea2d_6 hf hC hN
def fJ0_getBytes_840e7 (v0 : Nat) (v1 : Option Nat) (v2 : Int32) (v3 : Int32) (μ : vg_M) : vg_R Unit :=
  vg_cv 0 v0 μ (fJ0_coder_7d493 v0  μ) fun x1 μ2 =>
  if x1 = v3 then (
   vg_o (vg_gR μ2 v0 0 0) fun x7 =>
   vg_o (vg_gR μ2 v0 0 0) fun x8 =>
   vg_o x8 fun a9 =>
   vg_o (vg_al μ2 a9) fun x10 =>
   vg_o v1 fun a11 =>
   vg_o x7 fun a12 =>
   vg_o (vg_cpB μ2 a12 0 a11 (v2 <<< (v3 &&& 31)) x10) fun μ13 =>
   vg_ret () μ13
   ) else (
   vg_o (vg_gR μ2 v0 0 0) fun x3 =>
   vg_o (vg_gR μ2 v0 0 0) fun x4 =>
   vg_o x4 fun a5 =>
   vg_o (vg_al μ2 a5) fun x6 =>
   none
   )
set_option maxHeartbeats 4000000 in
set_option maxRecDepth 100000 in
theorem cJ0_getBytes_840e7_met {l : Launch} {D : va_G} {cy : Nat → ClassId} {H0 : Heap} {r : Unit} {μ μ' : vg_M} {cn nn : Nat} {v0 : Nat} {v1 : Option Nat} {v2 : Int32} {v3 : Int32} (hf : fJ0_getBytes_840e7 v0 v1 v2 v3 μ = some (r, μ', cn, nn)) : vg_Met l D cy H0 yJ0_getBytes_840e7 cJ0_getBytes_840e7 4 none 13 μ [.ref v0, va_rf v1, .int v2, .int v3] none μ' cn nn := by
  refine vg_start (by decide +kernel) (List.forall_mem_cons.mpr ⟨rfl, (List.forall_mem_cons.mpr ⟨vg_rfc _, (List.forall_mem_cons.mpr ⟨rfl, (List.forall_mem_cons.mpr ⟨rfl, (fun _ h => nomatch h)⟩)⟩)⟩)⟩) (Nat.le_of_ble_eq_true rfl) ?_
  intro p e s m below meth c ls X hml hr hlk hnm hH hl
  have hl : vg_l ls 4 [(0, .ref v0), (1, va_rf v1), (2, .int v2), (3, .int v3)] := hl
  have Z : vg_Z D cy H0 p s m _ c cJ0_getBytes_840e7 RJ0 meth 4 none (vg_rm 13 cn nn) 13 cn nn _ := ⟨X, hml, hr, hlk, Nat.le_refl _, Nat.le_refl _, Nat.le_refl _, Nat.le_refl _, hnm⟩
  obtain ⟨-, -, -, -, hfr, hlo, hRc, hRs, -⟩ := id Z
  have hx := X.1
  have hb := X.2.1
  have hL : ∀ z ∈ ([] : List Loc), H0.size ≤ z.base := fun _ h => nomatch h
  have hC : 0 + cn = cn := Nat.zero_add _
  have hN : 0 + nn = nn := Nat.zero_add _
  delta fJ0_getBytes_840e7 at hf
  refine lv_aload_n hx hb dJ0_getBytes_840e7_0 rfl (lv_at hl.1 0 rfl) ?_
  refine vg_callVi (ci := 0) X hml hl hH hL fCV_J0_335 rfl [] rfl rfl (Nat.le_of_ble_eq_true rfl) dJ0_getBytes_840e7_1 hf hC hN hRc hRs hfr hlo (by decide) (fun _ _ _ _ h => cJ0_coder_7d493_met h) (fun x1 μ2 cn nn H locs cells slots hf hC hN hH hL => ?_)
  refine lv_iload_n hx hb dJ0_getBytes_840e7_4 rfl (lv_at hl.1 3 rfl) ?_
  refine lv_icmp_ne (tgt := 28) hx hb dJ0_getBytes_840e7_5 (by decide) (fun h8 => ?_) (fun h8 => ?_)
  · have hf := vg_if h8 hf
    refine lv_aload_n hx hb dJ0_getBytes_840e7_28 rfl (lv_at hl.1 0 rfl) ?_
    refine vg_getR X hH fF_J0_9 dJ0_getBytes_840e7_29 hf (fun x3 hf => ?_)
    refine lv_iconst (v := 0) hx hb dJ0_getBytes_840e7_32 (by decide) ?_
    refine vg_aload_n hx hb dJ0_getBytes_840e7_33 rfl (lv_at hl.1 1 rfl) ?_
    refine lv_iload_n hx hb dJ0_getBytes_840e7_34 rfl (lv_at hl.1 2 rfl) ?_
    refine lv_aload_n hx hb dJ0_getBytes_840e7_35 rfl (lv_at hl.1 0 rfl) ?_
    refine vg_getR X hH fF_J0_9 dJ0_getBytes_840e7_36 hf (fun x4 hf => ?_)
    obtain ⟨a5, h9, hg⟩ := vg_o_inv hf
    clear hf
    subst h9
    have hf := hg
    clear hg
    refine vg_alen X hH dJ0_getBytes_840e7_39 hf (fun x6 hf => ?_)
    cases hf
  · have hf := vg_ip h8 hf
    refine lv_aload_n hx hb dJ0_getBytes_840e7_8 rfl (lv_at hl.1 0 rfl) ?_
    refine vg_getR X hH fF_J0_9 dJ0_getBytes_840e7_9 hf (fun x7 hf => ?_)
    refine lv_iconst (v := 0) hx hb dJ0_getBytes_840e7_12 (by decide) ?_
    refine vg_aload_n hx hb dJ0_getBytes_840e7_13 rfl (lv_at hl.1 1 rfl) ?_
    refine lv_iload_n hx hb dJ0_getBytes_840e7_14 rfl (lv_at hl.1 2 rfl) ?_
    refine lv_iload_n hx hb dJ0_getBytes_840e7_15 rfl (lv_at hl.1 3 rfl) ?_
    refine lv_ishl hx hb dJ0_getBytes_840e7_16 ?_
    refine lv_aload_n hx hb dJ0_getBytes_840e7_17 rfl (lv_at hl.1 0 rfl) ?_
    refine vg_getR X hH fF_J0_9 dJ0_getBytes_840e7_18 hf (fun x8 hf => ?_)
    obtain ⟨a9, h9, hg⟩ := vg_o_inv hf
    clear hf
    subst h9
    have hf := hg
    clear hg
    refine vg_alen X hH dJ0_getBytes_840e7_21 hf (fun x10 hf => ?_)
    obtain ⟨a11, h9, hg⟩ := vg_o_inv hf
    clear hf
    subst h9
    have hf := hg
    clear hg
    obtain ⟨a12, h9, hg⟩ := vg_o_inv hf
    clear hf
    subst h9
    have hf := hg
    clear hg
    refine vg_acopyB X hml hl hH hL kw_854867594 kw_93826578 kw_984968033 kw_630143193 (Nat.le_of_ble_eq_true rfl) (Nat.le_trans (by decide) hfr) (Nat.le_trans (by decide) hlo) dJ0_getBytes_840e7_22 hf (fun μ13 H locs hf hH hL => ?_)
    refine lv_goto (tgt := 43) hx hb dJ0_getBytes_840e7_25 (by decide) ?_
    exact vg_retv X hr hlk hH hL dJ0_getBytes_840e7_43 hf hC hN
def fJ0_length_8abf5 (v0 : Nat) (μ : vg_M) : vg_R Int32 :=
  vg_o (vg_gR μ v0 0 0) fun x1 =>
  vg_o x1 fun a2 =>
  vg_o (vg_al μ a2) fun x3 =>
  vg_cv 0 v0 μ (fJ0_coder_7d493 v0  μ) fun x4 μ5 =>
  vg_ret (x3 >>> (x4 &&& 31)) μ5
set_option maxHeartbeats 4000000 in
set_option maxRecDepth 100000 in
theorem cJ0_length_8abf5_met {l : Launch} {D : va_G} {cy : Nat → ClassId} {H0 : Heap} {r : Int32} {μ μ' : vg_M} {cn nn : Nat} {v0 : Nat} (hf : fJ0_length_8abf5 v0 μ = some (r, μ', cn, nn)) : vg_Met l D cy H0 yJ0_length_8abf5 cJ0_length_8abf5 1 (some .int) 13 μ [.ref v0] (some (.int r)) μ' cn nn := by
  refine vg_start (by decide +kernel) (List.forall_mem_cons.mpr ⟨rfl, (fun _ h => nomatch h)⟩) (Nat.le_of_ble_eq_true rfl) ?_
  intro p e s m below meth c ls X hml hr hlk hnm hH hl
  have hl : vg_l ls 1 [(0, .ref v0)] := hl
  have Z : vg_Z D cy H0 p s m _ c cJ0_length_8abf5 RJ0 meth 1 (some .int) (vg_rm 13 cn nn) 13 cn nn _ := ⟨X, hml, hr, hlk, Nat.le_refl _, Nat.le_refl _, Nat.le_refl _, Nat.le_refl _, hnm⟩
  obtain ⟨-, -, -, -, hfr, hlo, hRc, hRs, -⟩ := id Z
  have hx := X.1
  have hb := X.2.1
  have hL : ∀ z ∈ ([] : List Loc), H0.size ≤ z.base := fun _ h => nomatch h
  have hC : 0 + cn = cn := Nat.zero_add _
  have hN : 0 + nn = nn := Nat.zero_add _
  delta fJ0_length_8abf5 at hf
  refine lv_aload_n hx hb dJ0_length_8abf5_0 rfl (lv_at hl.1 0 rfl) ?_
  refine vg_getR X hH fF_J0_9 dJ0_length_8abf5_1 hf (fun x1 hf => ?_)
  obtain ⟨a2, h9, hg⟩ := vg_o_inv hf
  clear hf
  subst h9
  have hf := hg
  clear hg
  refine vg_alen X hH dJ0_length_8abf5_4 hf (fun x3 hf => ?_)
  refine lv_aload_n hx hb dJ0_length_8abf5_5 rfl (lv_at hl.1 0 rfl) ?_
  refine vg_callVi (ci := 0) X hml hl hH hL fCV_J0_335 rfl [] rfl rfl (Nat.le_of_ble_eq_true rfl) dJ0_length_8abf5_6 hf hC hN hRc hRs hfr hlo (by decide) (fun _ _ _ _ h => cJ0_coder_7d493_met h) (fun x4 μ5 cn nn H locs cells slots hf hC hN hH hL => ?_)
  refine lv_ishr hx hb dJ0_length_8abf5_9 ?_
  exact vg_reti X hr hlk hH hL dJ0_length_8abf5_10 hf hC hN
def fJ1_canEncode_9a6ad_16  (k0 : Int32) (μ : vg_M) : vg_R Int32 :=
  vg_o (vg_z .boolean k0) fun z => vg_ret z μ
set_option maxHeartbeats 4000000 in
set_option maxRecDepth 100000 in
theorem wJ1_canEncode_9a6ad_16 {p : Program} {l : Launch} {e : Env} {R : Room} {s : State} {m : MethodId} {args : Array Value} {below : List Frame} {meth : Method} {c : Code} {D : va_G} {cy : Nat → ClassId} {H0 : Heap} {C0 N0 : Nat} {r : Int32} {μ' : vg_M} (Z : vg_Z D cy H0 p s m args c cJ1_canEncode_9a6ad RJ1 meth 1 (some .boolean) R 12 C0 N0 "canEncode")   (k0 : Int32) (μ : vg_M) : vg_S p l e R s m args below meth c D cy H0 C0 N0 1 (MQ below (vg_Qc D cy H0 μ' (some (.int r))) args s C0 N0 (vg_fr H0)) r μ' (fJ1_canEncode_9a6ad_16  k0 μ) μ [] [.int k0] 16 := by
  intro cn nn H locs cells slots ls hf hH hL hC hN hl
  obtain ⟨X, hml, hr, hlk, hfr, hlo, hRc, hRs, hnm⟩ := id Z
  have hx := X.1
  have hb := X.2.1
  delta fJ1_canEncode_9a6ad_16 at hf
  exact vg_retz X (by simp) hr hlk hH hL dJ1_canEncode_9a6ad_16 hf hC hN
def fJ1_canEncode_9a6ad_15   (μ : vg_M) : vg_R Int32 :=
  fJ1_canEncode_9a6ad_16  0 μ
set_option maxHeartbeats 4000000 in
set_option maxRecDepth 100000 in
theorem wJ1_canEncode_9a6ad_15 {p : Program} {l : Launch} {e : Env} {R : Room} {s : State} {m : MethodId} {args : Array Value} {below : List Frame} {meth : Method} {c : Code} {D : va_G} {cy : Nat → ClassId} {H0 : Heap} {C0 N0 : Nat} {r : Int32} {μ' : vg_M} (Z : vg_Z D cy H0 p s m args c cJ1_canEncode_9a6ad RJ1 meth 1 (some .boolean) R 12 C0 N0 "canEncode")    (μ : vg_M) : vg_S p l e R s m args below meth c D cy H0 C0 N0 1 (MQ below (vg_Qc D cy H0 μ' (some (.int r))) args s C0 N0 (vg_fr H0)) r μ' (fJ1_canEncode_9a6ad_15   μ) μ [] [] 15 := by
  intro cn nn H locs cells slots ls hf hH hL hC hN hl
  obtain ⟨X, hml, hr, hlk, hfr, hlo, hRc, hRs, hnm⟩ := id Z
  have hx := X.1
  have hb := X.2.1
  delta fJ1_canEncode_9a6ad_15 at hf
  refine lv_iconst (v := 0) hx hb dJ1_canEncode_9a6ad_15 (by decide) ?_
  exact wJ1_canEncode_9a6ad_16 Z  0 μ _ _ _ _ _ _ _ hf hH hL hC hN (hl.sub [] rfl)
def fJ1_canEncode_9a6ad (v0 : Int32) (μ : vg_M) : vg_R Int32 :=
  if v0 < 0 then (
   fJ1_canEncode_9a6ad_15   μ
   ) else (
   if 255 < v0 then (
    fJ1_canEncode_9a6ad_15   μ
    ) else (
    fJ1_canEncode_9a6ad_16  1 μ
    )
   )
set_option maxHeartbeats 4000000 in
set_option maxRecDepth 100000 in
theorem cJ1_canEncode_9a6ad_met {l : Launch} {D : va_G} {cy : Nat → ClassId} {H0 : Heap} {r : Int32} {μ μ' : vg_M} {cn nn : Nat} {v0 : Int32} (hf : fJ1_canEncode_9a6ad v0 μ = some (r, μ', cn, nn)) : vg_Met l D cy H0 yJ1_canEncode_9a6ad cJ1_canEncode_9a6ad 1 (some .boolean) 12 μ [.int v0] (some (.int r)) μ' cn nn := by
  refine vg_start (by decide +kernel) (List.forall_mem_cons.mpr ⟨rfl, (fun _ h => nomatch h)⟩) (Nat.le_of_ble_eq_true rfl) ?_
  intro p e s m below meth c ls X hml hr hlk hnm hH hl
  have hl : vg_l ls 1 [(0, .int v0)] := hl
  have Z : vg_Z D cy H0 p s m _ c cJ1_canEncode_9a6ad RJ1 meth 1 (some .boolean) (vg_rm 12 cn nn) 12 cn nn _ := ⟨X, hml, hr, hlk, Nat.le_refl _, Nat.le_refl _, Nat.le_refl _, Nat.le_refl _, hnm⟩
  obtain ⟨-, -, -, -, hfr, hlo, hRc, hRs, -⟩ := id Z
  have hx := X.1
  have hb := X.2.1
  have hL : ∀ z ∈ ([] : List Loc), H0.size ≤ z.base := fun _ h => nomatch h
  have hC : 0 + cn = cn := Nat.zero_add _
  have hN : 0 + nn = nn := Nat.zero_add _
  delta fJ1_canEncode_9a6ad at hf
  refine lv_iload_n hx hb dJ1_canEncode_9a6ad_0 rfl (lv_at hl.1 0 rfl) ?_
  refine lv_if_lt (tgt := 15) hx hb dJ1_canEncode_9a6ad_1 (by decide) (fun h8 => ?_) (fun h8 => ?_)
  · have hf := vg_ip h8 hf
    exact wJ1_canEncode_9a6ad_15 Z   μ _ _ _ _ _ _ _ hf hH hL hC hN (hl.sub [] rfl)
  · have hf := vg_if h8 hf
    refine lv_iload_n hx hb dJ1_canEncode_9a6ad_4 rfl (lv_at hl.1 0 rfl) ?_
    refine lv_sipush (v := 255) hx hb dJ1_canEncode_9a6ad_5 (by decide) ?_
    refine lv_icmp_gt (tgt := 15) hx hb dJ1_canEncode_9a6ad_8 (by decide) (fun h8 => ?_) (fun h8 => ?_)
    · have hf := vg_ip h8 hf
      exact wJ1_canEncode_9a6ad_15 Z   μ _ _ _ _ _ _ _ hf hH hL hC hN (hl.sub [] rfl)
    · have hf := vg_if h8 hf
      refine lv_iconst (v := 1) hx hb dJ1_canEncode_9a6ad_11 (by decide) ?_
      refine lv_goto (tgt := 16) hx hb dJ1_canEncode_9a6ad_12 (by decide) ?_
      exact wJ1_canEncode_9a6ad_16 Z  1 μ _ _ _ _ _ _ _ hf hH hL hC hN (hl.sub [] rfl)
def fJ1_indexOfChar_4cfef_7  : Nat → Option Nat → Int32 → Int32 → Int32 → vg_M → vg_R Int32
  | 0, _, _, _, _, _ => none
  | n + 1, v0, v3, v4, v5, μ =>
    if v3 ≤ v5 then (
     vg_ret ((-1)) μ
     ) else (
     vg_o v0 fun a1 =>
     vg_o (vg_aI μ a1 0 v5) fun x2 =>
     if x2 = v4 then (
      vg_ret v5 μ
      ) else (
      (fJ1_indexOfChar_4cfef_7  n) (some a1) v3 v4 (v5 + 1) μ
      )
     )
set_option maxHeartbeats 4000000 in
set_option maxRecDepth 100000 in
theorem wJ1_indexOfChar_4cfef_7 {p : Program} {l : Launch} {e : Env} {R : Room} {s : State} {m : MethodId} {args : Array Value} {below : List Frame} {meth : Method} {c : Code} {D : va_G} {cy : Nat → ClassId} {H0 : Heap} {C0 N0 : Nat} {r : Int32} {μ' : vg_M} (Z : vg_Z D cy H0 p s m args c cJ1_indexOfChar_4cfef RJ1 meth 6 (some .int) R 12 C0 N0 "indexOfChar")   : ∀ (n : Nat) (v0 : Option Nat) (v3 : Int32) (v4 : Int32) (v5 : Int32) (μ : vg_M), vg_S p l e R s m args below meth c D cy H0 C0 N0 6 (MQ below (vg_Qc D cy H0 μ' (some (.int r))) args s C0 N0 (vg_fr H0)) r μ' (fJ1_indexOfChar_4cfef_7  n v0 v3 v4 v5 μ) μ [(0, va_rf v0), (3, .int v3), (4, .int v4), (5, .int v5)] [] 7 := by
  intro n
  induction n with
  | zero =>
    intro v0 v3 v4 v5 μ cn nn H locs cells slots ls hf
    simp [fJ1_indexOfChar_4cfef_7] at hf
  | succ n hk7 =>
    intro v0 v3 v4 v5 μ
    intro cn nn H locs cells slots ls hf hH hL hC hN hl
    obtain ⟨X, hml, hr, hlk, hfr, hlo, hRc, hRs, hnm⟩ := id Z
    have hx := X.1
    have hb := X.2.1
    rw [fJ1_indexOfChar_4cfef_7] at hf
    refine lv_iload hx hb dJ1_indexOfChar_4cfef_7 (lv_at hl.1 3 rfl) ?_
    refine lv_iload_n hx hb dJ1_indexOfChar_4cfef_9 rfl (lv_at hl.1 1 rfl) ?_
    refine lv_icmp_ge (tgt := 31) hx hb dJ1_indexOfChar_4cfef_10 (by decide) (fun h8 => ?_) (fun h8 => ?_)
    · have hf := vg_ip h8 hf
      refine lv_iconst (v := (-1)) hx hb dJ1_indexOfChar_4cfef_31 (by decide) ?_
      exact vg_reti X hr hlk hH hL dJ1_indexOfChar_4cfef_32 hf hC hN
    · have hf := vg_if h8 hf
      refine vg_aload_n hx hb dJ1_indexOfChar_4cfef_13 rfl (lv_at hl.1 0 rfl) ?_
      refine lv_iload hx hb dJ1_indexOfChar_4cfef_14 (lv_at hl.1 3 rfl) ?_
      obtain ⟨a1, h9, hg⟩ := vg_o_inv hf
      clear hf
      subst h9
      have hf := hg
      clear hg
      refine vg_bald X hH dJ1_indexOfChar_4cfef_16 hf (fun x2 hf => ?_)
      refine lv_iload hx hb dJ1_indexOfChar_4cfef_17 (lv_at hl.1 2 rfl) ?_
      refine lv_icmp_ne (tgt := 25) hx hb dJ1_indexOfChar_4cfef_19 (by decide) (fun h8 => ?_) (fun h8 => ?_)
      · have hf := vg_if h8 hf
        refine vg_iinc (v := v5 + 1) (lv' := [(5, .int (v5 + 1)), (0, .ref a1), (3, .int v3), (4, .int v4)]) hx hb dJ1_indexOfChar_4cfef_25 hl (k := 3) rfl rfl (by decide) rfl (fun ls hl => ?_)
        refine lv_goto (tgt := 7) hx hb dJ1_indexOfChar_4cfef_28 (by decide) ?_
        exact hk7 (some a1) v3 v4 (v5 + 1) μ _ _ _ _ _ _ _ hf hH hL hC hN (hl.sub [1, 2, 3, 0] rfl)
      · have hf := vg_ip h8 hf
        refine lv_iload hx hb dJ1_indexOfChar_4cfef_22 (lv_at hl.1 3 rfl) ?_
        exact vg_reti X hr hlk hH hL dJ1_indexOfChar_4cfef_24 hf hC hN
def fJ1_indexOfChar_4cfef (v0 : Option Nat) (v1 : Int32) (v2 : Int32) (v3 : Int32) (μ : vg_M) : vg_R Int32 :=
  fJ1_indexOfChar_4cfef_7  vg_fuel v0 v3 v1.toInt8.toInt32 v2 μ
set_option maxHeartbeats 4000000 in
set_option maxRecDepth 100000 in
theorem cJ1_indexOfChar_4cfef_met {l : Launch} {D : va_G} {cy : Nat → ClassId} {H0 : Heap} {r : Int32} {μ μ' : vg_M} {cn nn : Nat} {v0 : Option Nat} {v1 : Int32} {v2 : Int32} {v3 : Int32} (hf : fJ1_indexOfChar_4cfef v0 v1 v2 v3 μ = some (r, μ', cn, nn)) : vg_Met l D cy H0 yJ1_indexOfChar_4cfef cJ1_indexOfChar_4cfef 6 (some .int) 12 μ [va_rf v0, .int v1, .int v2, .int v3] (some (.int r)) μ' cn nn := by
  refine vg_start (by decide +kernel) (List.forall_mem_cons.mpr ⟨vg_rfc _, (List.forall_mem_cons.mpr ⟨rfl, (List.forall_mem_cons.mpr ⟨rfl, (List.forall_mem_cons.mpr ⟨rfl, (fun _ h => nomatch h)⟩)⟩)⟩)⟩) (Nat.le_of_ble_eq_true rfl) ?_
  intro p e s m below meth c ls X hml hr hlk hnm hH hl
  have hl : vg_l ls 6 [(0, va_rf v0), (1, .int v1), (2, .int v2), (3, .int v3)] := hl
  have Z : vg_Z D cy H0 p s m _ c cJ1_indexOfChar_4cfef RJ1 meth 6 (some .int) (vg_rm 12 cn nn) 12 cn nn _ := ⟨X, hml, hr, hlk, Nat.le_refl _, Nat.le_refl _, Nat.le_refl _, Nat.le_refl _, hnm⟩
  obtain ⟨-, -, -, -, hfr, hlo, hRc, hRs, -⟩ := id Z
  have hx := X.1
  have hb := X.2.1
  have hL : ∀ z ∈ ([] : List Loc), H0.size ≤ z.base := fun _ h => nomatch h
  have hC : 0 + cn = cn := Nat.zero_add _
  have hN : 0 + nn = nn := Nat.zero_add _
  delta fJ1_indexOfChar_4cfef at hf
  refine lv_iload_n hx hb dJ1_indexOfChar_4cfef_0 rfl (lv_at hl.1 1 rfl) ?_
  refine lv_i2b hx hb dJ1_indexOfChar_4cfef_1 rfl ?_
  refine vg_istore (lv' := [(4, .int v1.toInt8.toInt32), (0, va_rf v0), (1, .int v1), (2, .int v2), (3, .int v3)]) hx hb dJ1_indexOfChar_4cfef_2 hl (by decide) rfl (fun ls hl => ?_)
  refine lv_iload_n hx hb dJ1_indexOfChar_4cfef_4 rfl (lv_at hl.1 3 rfl) ?_
  refine vg_istore (lv' := [(5, .int v2), (4, .int v1.toInt8.toInt32), (0, va_rf v0), (1, .int v1), (2, .int v2), (3, .int v3)]) hx hb dJ1_indexOfChar_4cfef_5 hl (by decide) rfl (fun ls hl => ?_)
  exact wJ1_indexOfChar_4cfef_7 Z  vg_fuel v0 v3 v1.toInt8.toInt32 v2 μ _ _ _ _ _ _ _ hf hH hL hC hN (hl.sub [2, 5, 1, 0] rfl)
def fJ1_indexOf_4cfef (v0 : Option Nat) (v1 : Int32) (v2 : Int32) (v3 : Int32) (μ : vg_M) : vg_R Int32 :=
  vg_b (fJ1_canEncode_9a6ad v1 μ) fun x1 μ2 =>
  if x1 = 0 then (
   vg_ret ((-1)) μ2
   ) else (
   vg_o v0 fun a3 =>
   vg_o (vg_al μ2 a3) fun x4 =>
   if (if v2 < 0 then 0 else v2) < (if x4 < v3 then x4 else v3) then (
    vg_b (fJ1_indexOfChar_4cfef (some a3) v1 (if v2 < 0 then 0 else v2) (if x4 < v3 then x4 else v3) μ2) fun x5 μ6 =>
    vg_ret x5 μ6
    ) else (
    vg_ret ((-1)) μ2
    )
   )
set_option maxHeartbeats 4000000 in
set_option maxRecDepth 100000 in
theorem cJ1_indexOf_4cfef_met {l : Launch} {D : va_G} {cy : Nat → ClassId} {H0 : Heap} {r : Int32} {μ μ' : vg_M} {cn nn : Nat} {v0 : Option Nat} {v1 : Int32} {v2 : Int32} {v3 : Int32} (hf : fJ1_indexOf_4cfef v0 v1 v2 v3 μ = some (r, μ', cn, nn)) : vg_Met l D cy H0 yJ1_indexOf_4cfef cJ1_indexOf_4cfef 4 (some .int) 13 μ [va_rf v0, .int v1, .int v2, .int v3] (some (.int r)) μ' cn nn := by
  refine vg_start (by decide +kernel) (List.forall_mem_cons.mpr ⟨vg_rfc _, (List.forall_mem_cons.mpr ⟨rfl, (List.forall_mem_cons.mpr ⟨rfl, (List.forall_mem_cons.mpr ⟨rfl, (fun _ h => nomatch h)⟩)⟩)⟩)⟩) (Nat.le_of_ble_eq_true rfl) ?_
  intro p e s m below meth c ls X hml hr hlk hnm hH hl
  have hl : vg_l ls 4 [(0, va_rf v0), (1, .int v1), (2, .int v2), (3, .int v3)] := hl
  have Z : vg_Z D cy H0 p s m _ c cJ1_indexOf_4cfef RJ1 meth 4 (some .int) (vg_rm 13 cn nn) 13 cn nn _ := ⟨X, hml, hr, hlk, Nat.le_refl _, Nat.le_refl _, Nat.le_refl _, Nat.le_refl _, hnm⟩
  obtain ⟨-, -, -, -, hfr, hlo, hRc, hRs, -⟩ := id Z
  have hx := X.1
  have hb := X.2.1
  have hL : ∀ z ∈ ([] : List Loc), H0.size ≤ z.base := fun _ h => nomatch h
  have hC : 0 + cn = cn := Nat.zero_add _
  have hN : 0 + nn = nn := Nat.zero_add _
  delta fJ1_indexOf_4cfef at hf
  refine lv_iload_n hx hb dJ1_indexOf_4cfef_0 rfl (lv_at hl.1 1 rfl) ?_
  refine vg_callSi X hml hl hH hL fCS_J1_88 [.int v1] rfl rfl (Nat.le_of_ble_eq_true rfl) dJ1_indexOf_4cfef_1 hf hC hN hRc hRs hfr hlo (by decide) (fun _ _ _ _ h => cJ1_canEncode_9a6ad_met h) (fun x1 μ2 cn nn H locs cells slots hf hC hN hH hL => ?_)
  refine lv_if_ne (tgt := 9) hx hb dJ1_indexOf_4cfef_4 (by decide) (fun h8 => ?_) (fun h8 => ?_)
  · have hf := vg_if h8 hf
    refine lv_iload_n hx hb dJ1_indexOf_4cfef_9 rfl (lv_at hl.1 2 rfl) ?_
    refine lv_iconst (v := 0) hx hb dJ1_indexOf_4cfef_10 (by decide) ?_
    refine vg_mmax X hml hl kw_935550608 kw_365850442 kw_386489653 kw_226353876 (Nat.le_of_ble_eq_true rfl) hC hN hRc hRs (Nat.le_trans (by decide) hfr) (Nat.le_trans (by decide) hlo) dJ1_indexOf_4cfef_11 ?_
    refine vg_istore_n (lv' := [(2, .int (if v2 < 0 then 0 else v2)), (0, va_rf v0), (1, .int v1), (3, .int v3)]) hx hb dJ1_indexOf_4cfef_14 rfl hl (by decide) rfl (fun ls hl => ?_)
    refine lv_iload_n hx hb dJ1_indexOf_4cfef_15 rfl (lv_at hl.1 3 rfl) ?_
    refine vg_aload_n hx hb dJ1_indexOf_4cfef_16 rfl (lv_at hl.1 1 rfl) ?_
    obtain ⟨a3, h9, hg⟩ := vg_o_inv hf
    clear hf
    subst h9
    have hf := hg
    clear hg
    refine vg_alen X hH dJ1_indexOf_4cfef_17 hf (fun x4 hf => ?_)
    refine vg_mmin X hml hl kw_905171243 kw_875827865 kw_386489653 kw_394918299 (Nat.le_of_ble_eq_true rfl) hC hN hRc hRs (Nat.le_trans (by decide) hfr) (Nat.le_trans (by decide) hlo) dJ1_indexOf_4cfef_18 ?_
    refine vg_istore_n (lv' := [(3, .int (if x4 < v3 then x4 else v3)), (2, .int (if v2 < 0 then 0 else v2)), (0, .ref a3), (1, .int v1)]) hx hb dJ1_indexOf_4cfef_21 rfl hl (by decide) rfl (fun ls hl => ?_)
    refine lv_iload_n hx hb dJ1_indexOf_4cfef_22 rfl (lv_at hl.1 1 rfl) ?_
    refine lv_iload_n hx hb dJ1_indexOf_4cfef_23 rfl (lv_at hl.1 0 rfl) ?_
    refine lv_icmp_lt (tgt := 29) hx hb dJ1_indexOf_4cfef_24 (by decide) (fun h8 => ?_) (fun h8 => ?_)
    · have hf := vg_ip h8 hf
      refine lv_aload_n hx hb dJ1_indexOf_4cfef_29 rfl (lv_at hl.1 2 rfl) ?_
      refine lv_iload_n hx hb dJ1_indexOf_4cfef_30 rfl (lv_at hl.1 3 rfl) ?_
      refine lv_iload_n hx hb dJ1_indexOf_4cfef_31 rfl (lv_at hl.1 1 rfl) ?_
      refine lv_iload_n hx hb dJ1_indexOf_4cfef_32 rfl (lv_at hl.1 0 rfl) ?_
      refine vg_callSi X hml hl hH hL fCS_J1_95 [.ref a3, .int v1, .int (if v2 < 0 then 0 else v2), .int (if x4 < v3 then x4 else v3)] rfl rfl (Nat.le_of_ble_eq_true rfl) dJ1_indexOf_4cfef_33 hf hC hN hRc hRs hfr hlo (by decide) (fun _ _ _ _ h => cJ1_indexOfChar_4cfef_met h) (fun x5 μ6 cn nn H locs cells slots hf hC hN hH hL => ?_)
      exact vg_reti X hr hlk hH hL dJ1_indexOf_4cfef_36 hf hC hN
    · have hf := vg_if h8 hf
      refine lv_iconst (v := (-1)) hx hb dJ1_indexOf_4cfef_27 (by decide) ?_
      exact vg_reti X hr hlk hH hL dJ1_indexOf_4cfef_28 hf hC hN
  · have hf := vg_ip h8 hf
    refine lv_iconst (v := (-1)) hx hb dJ1_indexOf_4cfef_7 (by decide) ?_
    exact vg_reti X hr hlk hH hL dJ1_indexOf_4cfef_8 hf hC hN
def fJ0_indexOf_7cf53 (v0 : Nat) (v1 : Int32) (v2 : Int32) (μ : vg_M) : vg_R Int32 :=
  vg_cv 0 v0 μ (fJ0_isLatin1_aae02 v0  μ) fun x1 μ2 =>
  if x1 = 0 then (
   vg_o (vg_gR μ2 v0 0 0) fun x3 =>
   vg_cv 0 v0 μ2 (fJ0_length_8abf5 v0  μ2) fun x4 μ5 =>
   none
   ) else (
   vg_o (vg_gR μ2 v0 0 0) fun x6 =>
   vg_cv 0 v0 μ2 (fJ0_length_8abf5 v0  μ2) fun x7 μ8 =>
   vg_b (fJ1_indexOf_4cfef x6 v1 v2 x7 μ8) fun x9 μ10 =>
   vg_ret x9 μ10
   )
set_option maxHeartbeats 4000000 in
set_option maxRecDepth 100000 in
theorem cJ0_indexOf_7cf53_met {l : Launch} {D : va_G} {cy : Nat → ClassId} {H0 : Heap} {r : Int32} {μ μ' : vg_M} {cn nn : Nat} {v0 : Nat} {v1 : Int32} {v2 : Int32} (hf : fJ0_indexOf_7cf53 v0 v1 v2 μ = some (r, μ', cn, nn)) : vg_Met l D cy H0 yJ0_indexOf_7cf53 cJ0_indexOf_7cf53 3 (some .int) 14 μ [.ref v0, .int v1, .int v2] (some (.int r)) μ' cn nn := by
  refine vg_start (by decide +kernel) (List.forall_mem_cons.mpr ⟨rfl, (List.forall_mem_cons.mpr ⟨rfl, (List.forall_mem_cons.mpr ⟨rfl, (fun _ h => nomatch h)⟩)⟩)⟩) (Nat.le_of_ble_eq_true rfl) ?_
  intro p e s m below meth c ls X hml hr hlk hnm hH hl
  have hl : vg_l ls 3 [(0, .ref v0), (1, .int v1), (2, .int v2)] := hl
  have Z : vg_Z D cy H0 p s m _ c cJ0_indexOf_7cf53 RJ0 meth 3 (some .int) (vg_rm 14 cn nn) 14 cn nn _ := ⟨X, hml, hr, hlk, Nat.le_refl _, Nat.le_refl _, Nat.le_refl _, Nat.le_refl _, hnm⟩
  obtain ⟨-, -, -, -, hfr, hlo, hRc, hRs, -⟩ := id Z
  have hx := X.1
  have hb := X.2.1
  have hL : ∀ z ∈ ([] : List Loc), H0.size ≤ z.base := fun _ h => nomatch h
  have hC : 0 + cn = cn := Nat.zero_add _
  have hN : 0 + nn = nn := Nat.zero_add _
  delta fJ0_indexOf_7cf53 at hf
  refine lv_aload_n hx hb dJ0_indexOf_7cf53_0 rfl (lv_at hl.1 0 rfl) ?_
  refine vg_callVi (ci := 0) X hml hl hH hL fCV_J0_492 rfl [] rfl rfl (Nat.le_of_ble_eq_true rfl) dJ0_indexOf_7cf53_1 hf hC hN hRc hRs hfr hlo (by decide) (fun _ _ _ _ h => cJ0_isLatin1_aae02_met h) (fun x1 μ2 cn nn H locs cells slots hf hC hN hH hL => ?_)
  refine lv_if_eq (tgt := 23) hx hb dJ0_indexOf_7cf53_4 (by decide) (fun h8 => ?_) (fun h8 => ?_)
  · have hf := vg_ip h8 hf
    refine lv_aload_n hx hb dJ0_indexOf_7cf53_23 rfl (lv_at hl.1 0 rfl) ?_
    refine vg_getR X hH fF_J0_9 dJ0_indexOf_7cf53_24 hf (fun x3 hf => ?_)
    refine lv_iload_n hx hb dJ0_indexOf_7cf53_27 rfl (lv_at hl.1 1 rfl) ?_
    refine lv_iload_n hx hb dJ0_indexOf_7cf53_28 rfl (lv_at hl.1 2 rfl) ?_
    refine lv_aload_n hx hb dJ0_indexOf_7cf53_29 rfl (lv_at hl.1 0 rfl) ?_
    refine vg_callVi (ci := 0) X hml hl hH hL fCV_J0_505 rfl [] rfl rfl (vg_cs (List.forall_mem_cons.mpr ⟨rfl, (List.forall_mem_cons.mpr ⟨rfl, (List.forall_mem_cons.mpr ⟨vg_rfc _, (fun _ h => nomatch h)⟩)⟩)⟩) (Nat.le_of_ble_eq_true rfl)) dJ0_indexOf_7cf53_30 hf hC hN hRc hRs hfr hlo (by decide) (fun _ _ _ _ h => cJ0_length_8abf5_met h) (fun x4 μ5 cn nn H locs cells slots hf hC hN hH hL => ?_)
    cases hf
  · have hf := vg_if h8 hf
    refine lv_aload_n hx hb dJ0_indexOf_7cf53_7 rfl (lv_at hl.1 0 rfl) ?_
    refine vg_getR X hH fF_J0_9 dJ0_indexOf_7cf53_8 hf (fun x6 hf => ?_)
    refine lv_iload_n hx hb dJ0_indexOf_7cf53_11 rfl (lv_at hl.1 1 rfl) ?_
    refine lv_iload_n hx hb dJ0_indexOf_7cf53_12 rfl (lv_at hl.1 2 rfl) ?_
    refine lv_aload_n hx hb dJ0_indexOf_7cf53_13 rfl (lv_at hl.1 0 rfl) ?_
    refine vg_callVi (ci := 0) X hml hl hH hL fCV_J0_505 rfl [] rfl rfl (vg_cs (List.forall_mem_cons.mpr ⟨rfl, (List.forall_mem_cons.mpr ⟨rfl, (List.forall_mem_cons.mpr ⟨vg_rfc _, (fun _ h => nomatch h)⟩)⟩)⟩) (Nat.le_of_ble_eq_true rfl)) dJ0_indexOf_7cf53_14 hf hC hN hRc hRs hfr hlo (by decide) (fun _ _ _ _ h => cJ0_length_8abf5_met h) (fun x7 μ8 cn nn H locs cells slots hf hC hN hH hL => ?_)
    refine vg_callSi X hml hl hH hL fCS_J0_637 [va_rf x6, .int v1, .int v2, .int x7] rfl rfl (Nat.le_of_ble_eq_true rfl) dJ0_indexOf_7cf53_17 hf hC hN hRc hRs hfr hlo (by decide) (fun _ _ _ _ h => cJ1_indexOf_4cfef_met h) (fun x9 μ10 cn nn H locs cells slots hf hC hN hH hL => ?_)
    refine lv_goto (tgt := 36) hx hb dJ0_indexOf_7cf53_20 (by decide) ?_
    exact vg_reti X hr hlk hH hL dJ0_indexOf_7cf53_36 hf hC hN
def fJ0_indexOf_0f7a4 (v0 : Nat) (v1 : Int32) (μ : vg_M) : vg_R Int32 :=
  vg_cv 0 v0 μ (fJ0_indexOf_7cf53 v0 v1 0 μ) fun x1 μ2 =>
  vg_ret x1 μ2
set_option maxHeartbeats 4000000 in
set_option maxRecDepth 100000 in
theorem cJ0_indexOf_0f7a4_met {l : Launch} {D : va_G} {cy : Nat → ClassId} {H0 : Heap} {r : Int32} {μ μ' : vg_M} {cn nn : Nat} {v0 : Nat} {v1 : Int32} (hf : fJ0_indexOf_0f7a4 v0 v1 μ = some (r, μ', cn, nn)) : vg_Met l D cy H0 yJ0_indexOf_0f7a4 cJ0_indexOf_0f7a4 2 (some .int) 15 μ [.ref v0, .int v1] (some (.int r)) μ' cn nn := by
  refine vg_start (by decide +kernel) (List.forall_mem_cons.mpr ⟨rfl, (List.forall_mem_cons.mpr ⟨rfl, (fun _ h => nomatch h)⟩)⟩) (Nat.le_of_ble_eq_true rfl) ?_
  intro p e s m below meth c ls X hml hr hlk hnm hH hl
  have hl : vg_l ls 2 [(0, .ref v0), (1, .int v1)] := hl
  have Z : vg_Z D cy H0 p s m _ c cJ0_indexOf_0f7a4 RJ0 meth 2 (some .int) (vg_rm 15 cn nn) 15 cn nn _ := ⟨X, hml, hr, hlk, Nat.le_refl _, Nat.le_refl _, Nat.le_refl _, Nat.le_refl _, hnm⟩
  obtain ⟨-, -, -, -, hfr, hlo, hRc, hRs, -⟩ := id Z
  have hx := X.1
  have hb := X.2.1
  have hL : ∀ z ∈ ([] : List Loc), H0.size ≤ z.base := fun _ h => nomatch h
  have hC : 0 + cn = cn := Nat.zero_add _
  have hN : 0 + nn = nn := Nat.zero_add _
  delta fJ0_indexOf_0f7a4 at hf
  refine lv_aload_n hx hb dJ0_indexOf_0f7a4_0 rfl (lv_at hl.1 0 rfl) ?_
  refine lv_iload_n hx hb dJ0_indexOf_0f7a4_1 rfl (lv_at hl.1 1 rfl) ?_
  refine lv_iconst (v := 0) hx hb dJ0_indexOf_0f7a4_2 (by decide) ?_
  refine vg_callVi (ci := 0) X hml hl hH hL fCV_J0_633 rfl [.int v1, .int 0] rfl rfl (Nat.le_of_ble_eq_true rfl) dJ0_indexOf_0f7a4_3 hf hC hN hRc hRs hfr hlo (by decide) (fun _ _ _ _ h => cJ0_indexOf_7cf53_met h) (fun x1 μ2 cn nn H locs cells slots hf hC hN hH hL => ?_)
  exact vg_reti X hr hlk hH hL dJ0_indexOf_0f7a4_6 hf hC hN
def fJ0_init_031fb (v0 : Nat) (v1 : Option Nat) (v2 : Int32) (μ : vg_M) : vg_R Unit :=
  vg_o (vg_p μ v0 0 0 (va_rf v1)) fun μ1 =>
  vg_o (vg_z .byte v2) fun z => vg_o (vg_p μ1 v0 0 1 (.int z)) fun μ2 =>
  vg_ret () μ2
set_option maxHeartbeats 4000000 in
set_option maxRecDepth 100000 in
theorem cJ0_init_031fb_met {l : Launch} {D : va_G} {cy : Nat → ClassId} {H0 : Heap} {r : Unit} {μ μ' : vg_M} {cn nn : Nat} {v0 : Nat} {v1 : Option Nat} {v2 : Int32} (hf : fJ0_init_031fb v0 v1 v2 μ = some (r, μ', cn, nn)) : vg_Met l D cy H0 yJ0_init_031fb cJ0_init_031fb 3 none 12 μ [.ref v0, va_rf v1, .int v2] none μ' cn nn := by
  refine vg_start (by decide +kernel) (List.forall_mem_cons.mpr ⟨rfl, (List.forall_mem_cons.mpr ⟨vg_rfc _, (List.forall_mem_cons.mpr ⟨rfl, (fun _ h => nomatch h)⟩)⟩)⟩) (Nat.le_of_ble_eq_true rfl) ?_
  intro p e s m below meth c ls X hml hr hlk hnm hH hl
  have hl : vg_l ls 3 [(0, .ref v0), (1, va_rf v1), (2, .int v2)] := hl
  have Z : vg_Z D cy H0 p s m _ c cJ0_init_031fb RJ0 meth 3 none (vg_rm 12 cn nn) 12 cn nn _ := ⟨X, hml, hr, hlk, Nat.le_refl _, Nat.le_refl _, Nat.le_refl _, Nat.le_refl _, hnm⟩
  obtain ⟨-, -, -, -, hfr, hlo, hRc, hRs, -⟩ := id Z
  have hx := X.1
  have hb := X.2.1
  have hL : ∀ z ∈ ([] : List Loc), H0.size ≤ z.base := fun _ h => nomatch h
  have hC : 0 + cn = cn := Nat.zero_add _
  have hN : 0 + nn = nn := Nat.zero_add _
  delta fJ0_init_031fb at hf
  refine lv_aload_n hx hb dJ0_init_031fb_0 rfl (lv_at hl.1 0 rfl) ?_
  refine vg_objInit X hml hl kw_958174210 kw_624348017 kw_835052908 dJ0_init_031fb_1 (Nat.le_of_ble_eq_true rfl) (Nat.le_trans (by decide) hfr) (Nat.le_trans (by decide) hlo) ?_
  refine lv_aload_n hx hb dJ0_init_031fb_4 rfl (lv_at hl.1 0 rfl) ?_
  refine vg_aload_n hx hb dJ0_init_031fb_5 rfl (lv_at hl.1 1 rfl) ?_
  refine vg_putF X hnm hH hL fF_J0_9 (vg_fitR (by simp) v1).1 (vg_fitR (by simp) v1).2 dJ0_init_031fb_6 hf (fun μ1 H locs hf hH hL => ?_)
  refine lv_aload_n hx hb dJ0_init_031fb_9 rfl (lv_at hl.1 0 rfl) ?_
  refine lv_iload_n hx hb dJ0_init_031fb_10 rfl (lv_at hl.1 2 rfl) ?_
  refine vg_putFZ X hnm hH hL (by simp) fF_J0_15 dJ0_init_031fb_11 hf (fun μ2 H locs hf hH hL => ?_)
  exact vg_retv X hr hlk hH hL dJ0_init_031fb_14 hf hC hN
def fJ5_length_8abf5 (v0 : Nat) (μ : vg_M) : vg_R Int32 :=
  vg_o (vg_gI μ v0 1 3) fun x1 =>
  vg_ret x1 μ
set_option maxHeartbeats 4000000 in
set_option maxRecDepth 100000 in
theorem cJ5_length_8abf5_met {l : Launch} {D : va_G} {cy : Nat → ClassId} {H0 : Heap} {r : Int32} {μ μ' : vg_M} {cn nn : Nat} {v0 : Nat} (hf : fJ5_length_8abf5 v0 μ = some (r, μ', cn, nn)) : vg_Met l D cy H0 yJ5_length_8abf5 cJ5_length_8abf5 1 (some .int) 12 μ [.ref v0] (some (.int r)) μ' cn nn := by
  refine vg_start (by decide +kernel) (List.forall_mem_cons.mpr ⟨rfl, (fun _ h => nomatch h)⟩) (Nat.le_of_ble_eq_true rfl) ?_
  intro p e s m below meth c ls X hml hr hlk hnm hH hl
  have hl : vg_l ls 1 [(0, .ref v0)] := hl
  have Z : vg_Z D cy H0 p s m _ c cJ5_length_8abf5 RJ5 meth 1 (some .int) (vg_rm 12 cn nn) 12 cn nn _ := ⟨X, hml, hr, hlk, Nat.le_refl _, Nat.le_refl _, Nat.le_refl _, Nat.le_refl _, hnm⟩
  obtain ⟨-, -, -, -, hfr, hlo, hRc, hRs, -⟩ := id Z
  have hx := X.1
  have hb := X.2.1
  have hL : ∀ z ∈ ([] : List Loc), H0.size ≤ z.base := fun _ h => nomatch h
  have hC : 0 + cn = cn := Nat.zero_add _
  have hN : 0 + nn = nn := Nat.zero_add _
  delta fJ5_length_8abf5 at hf
  refine lv_aload_n hx hb dJ5_length_8abf5_0 rfl (lv_at hl.1 0 rfl) ?_
  refine vg_getI X hH fF_J5_79 dJ5_length_8abf5_1 hf (fun x1 hf => ?_)
  exact vg_reti X hr hlk hH hL dJ5_length_8abf5_4 hf hC hN
def fJ4_length_8abf5 (v0 : Nat) (μ : vg_M) : vg_R Int32 :=
  vg_cv 1 v0 μ (fJ5_length_8abf5 v0  μ) fun x1 μ2 =>
  vg_ret x1 μ2
set_option maxHeartbeats 4000000 in
set_option maxRecDepth 100000 in
theorem cJ4_length_8abf5_met {l : Launch} {D : va_G} {cy : Nat → ClassId} {H0 : Heap} {r : Int32} {μ μ' : vg_M} {cn nn : Nat} {v0 : Nat} (hf : fJ4_length_8abf5 v0 μ = some (r, μ', cn, nn)) : vg_Met l D cy H0 yJ4_length_8abf5 cJ4_length_8abf5 1 (some .int) 13 μ [.ref v0] (some (.int r)) μ' cn nn := by
  refine vg_start (by decide +kernel) (List.forall_mem_cons.mpr ⟨rfl, (fun _ h => nomatch h)⟩) (Nat.le_of_ble_eq_true rfl) ?_
  intro p e s m below meth c ls X hml hr hlk hnm hH hl
  have hl : vg_l ls 1 [(0, .ref v0)] := hl
  have Z : vg_Z D cy H0 p s m _ c cJ4_length_8abf5 RJ4 meth 1 (some .int) (vg_rm 13 cn nn) 13 cn nn _ := ⟨X, hml, hr, hlk, Nat.le_refl _, Nat.le_refl _, Nat.le_refl _, Nat.le_refl _, hnm⟩
  obtain ⟨-, -, -, -, hfr, hlo, hRc, hRs, -⟩ := id Z
  have hx := X.1
  have hb := X.2.1
  have hL : ∀ z ∈ ([] : List Loc), H0.size ≤ z.base := fun _ h => nomatch h
  have hC : 0 + cn = cn := Nat.zero_add _
  have hN : 0 + nn = nn := Nat.zero_add _
  delta fJ4_length_8abf5 at hf
  refine lv_aload_n hx hb dJ4_length_8abf5_0 rfl (lv_at hl.1 0 rfl) ?_
  refine vg_callUi (ci := 1) X hml hl hH hL fCU_J4_343 rfl [] rfl rfl (Nat.le_of_ble_eq_true rfl) dJ4_length_8abf5_1 hf hC hN hRc hRs hfr hlo (by decide) (fun _ _ _ _ h => cJ5_length_8abf5_met h) (fun x1 μ2 cn nn H locs cells slots hf hC hN hH hL => ?_)
  exact vg_reti X hr hlk hH hL dJ4_length_8abf5_4 hf hC hN
def fJ5_getValue_6d5f1 (v0 : Nat) (μ : vg_M) : vg_R (Option Nat) :=
  vg_o (vg_gR μ v0 1 0) fun x1 =>
  vg_ret x1 μ
set_option maxHeartbeats 4000000 in
set_option maxRecDepth 100000 in
theorem cJ5_getValue_6d5f1_met {l : Launch} {D : va_G} {cy : Nat → ClassId} {H0 : Heap} {r : (Option Nat)} {μ μ' : vg_M} {cn nn : Nat} {v0 : Nat} (hf : fJ5_getValue_6d5f1 v0 μ = some (r, μ', cn, nn)) : vg_Met l D cy H0 yJ5_getValue_6d5f1 cJ5_getValue_6d5f1 1 (some (.array .byte)) 12 μ [.ref v0] (some (va_rf r)) μ' cn nn := by
  refine vg_start (by decide +kernel) (List.forall_mem_cons.mpr ⟨rfl, (fun _ h => nomatch h)⟩) (Nat.le_of_ble_eq_true rfl) ?_
  intro p e s m below meth c ls X hml hr hlk hnm hH hl
  have hl : vg_l ls 1 [(0, .ref v0)] := hl
  have Z : vg_Z D cy H0 p s m _ c cJ5_getValue_6d5f1 RJ5 meth 1 (some (.array .byte)) (vg_rm 12 cn nn) 12 cn nn _ := ⟨X, hml, hr, hlk, Nat.le_refl _, Nat.le_refl _, Nat.le_refl _, Nat.le_refl _, hnm⟩
  obtain ⟨-, -, -, -, hfr, hlo, hRc, hRs, -⟩ := id Z
  have hx := X.1
  have hb := X.2.1
  have hL : ∀ z ∈ ([] : List Loc), H0.size ≤ z.base := fun _ h => nomatch h
  have hC : 0 + cn = cn := Nat.zero_add _
  have hN : 0 + nn = nn := Nat.zero_add _
  delta fJ5_getValue_6d5f1 at hf
  refine lv_aload_n hx hb dJ5_getValue_6d5f1_0 rfl (lv_at hl.1 0 rfl) ?_
  refine vg_getR X hH fF_J5_15 dJ5_getValue_6d5f1_1 hf (fun x1 hf => ?_)
  exact vg_reta X (by simp) hr hlk hH hL dJ5_getValue_6d5f1_4 hf hC hN
def fJ5_isLatin1_aae02_18  (k0 : Int32) (μ : vg_M) : vg_R Int32 :=
  vg_o (vg_z .boolean k0) fun z => vg_ret z μ
set_option maxHeartbeats 4000000 in
set_option maxRecDepth 100000 in
theorem wJ5_isLatin1_aae02_18 {p : Program} {l : Launch} {e : Env} {R : Room} {s : State} {m : MethodId} {args : Array Value} {below : List Frame} {meth : Method} {c : Code} {D : va_G} {cy : Nat → ClassId} {H0 : Heap} {C0 N0 : Nat} {r : Int32} {μ' : vg_M} (Z : vg_Z D cy H0 p s m args c cJ5_isLatin1_aae02 RJ5 meth 1 (some .boolean) R 12 C0 N0 "isLatin1")   (k0 : Int32) (μ : vg_M) : vg_S p l e R s m args below meth c D cy H0 C0 N0 1 (MQ below (vg_Qc D cy H0 μ' (some (.int r))) args s C0 N0 (vg_fr H0)) r μ' (fJ5_isLatin1_aae02_18  k0 μ) μ [] [.int k0] 18 := by
  intro cn nn H locs cells slots ls hf hH hL hC hN hl
  obtain ⟨X, hml, hr, hlk, hfr, hlo, hRc, hRs, hnm⟩ := id Z
  have hx := X.1
  have hb := X.2.1
  delta fJ5_isLatin1_aae02_18 at hf
  exact vg_retz X (by simp) hr hlk hH hL dJ5_isLatin1_aae02_18 hf hC hN
def fJ5_isLatin1_aae02_17   (μ : vg_M) : vg_R Int32 :=
  fJ5_isLatin1_aae02_18  0 μ
set_option maxHeartbeats 4000000 in
set_option maxRecDepth 100000 in
theorem wJ5_isLatin1_aae02_17 {p : Program} {l : Launch} {e : Env} {R : Room} {s : State} {m : MethodId} {args : Array Value} {below : List Frame} {meth : Method} {c : Code} {D : va_G} {cy : Nat → ClassId} {H0 : Heap} {C0 N0 : Nat} {r : Int32} {μ' : vg_M} (Z : vg_Z D cy H0 p s m args c cJ5_isLatin1_aae02 RJ5 meth 1 (some .boolean) R 12 C0 N0 "isLatin1")    (μ : vg_M) : vg_S p l e R s m args below meth c D cy H0 C0 N0 1 (MQ below (vg_Qc D cy H0 μ' (some (.int r))) args s C0 N0 (vg_fr H0)) r μ' (fJ5_isLatin1_aae02_17   μ) μ [] [] 17 := by
  intro cn nn H locs cells slots ls hf hH hL hC hN hl
  obtain ⟨X, hml, hr, hlk, hfr, hlo, hRc, hRs, hnm⟩ := id Z
  have hx := X.1
  have hb := X.2.1
  delta fJ5_isLatin1_aae02_17 at hf
  refine lv_iconst (v := 0) hx hb dJ5_isLatin1_aae02_17 (by decide) ?_
  exact wJ5_isLatin1_aae02_18 Z  0 μ _ _ _ _ _ _ _ hf hH hL hC hN (hl.sub [] rfl)
def fJ5_isLatin1_aae02 (v0 : Nat) (μ : vg_M) : vg_R Int32 :=
  vg_o (vg_gI μ v0 1 1) fun x1 =>
  if x1 = 0 then (
   fJ5_isLatin1_aae02_18  1 μ
   ) else (
   fJ5_isLatin1_aae02_17   μ
   )
set_option maxHeartbeats 4000000 in
set_option maxRecDepth 100000 in
theorem cJ5_isLatin1_aae02_met {l : Launch} {D : va_G} {cy : Nat → ClassId} {H0 : Heap} {r : Int32} {μ μ' : vg_M} {cn nn : Nat} {v0 : Nat} (hf : fJ5_isLatin1_aae02 v0 μ = some (r, μ', cn, nn)) : vg_Met l D cy H0 yJ5_isLatin1_aae02 cJ5_isLatin1_aae02 1 (some .boolean) 12 μ [.ref v0] (some (.int r)) μ' cn nn := by
  refine vg_start (by decide +kernel) (List.forall_mem_cons.mpr ⟨rfl, (fun _ h => nomatch h)⟩) (Nat.le_of_ble_eq_true rfl) ?_
  intro p e s m below meth c ls X hml hr hlk hnm hH hl
  have hl : vg_l ls 1 [(0, .ref v0)] := hl
  have Z : vg_Z D cy H0 p s m _ c cJ5_isLatin1_aae02 RJ5 meth 1 (some .boolean) (vg_rm 12 cn nn) 12 cn nn _ := ⟨X, hml, hr, hlk, Nat.le_refl _, Nat.le_refl _, Nat.le_refl _, Nat.le_refl _, hnm⟩
  obtain ⟨-, -, -, -, hfr, hlo, hRc, hRs, -⟩ := id Z
  have hx := X.1
  have hb := X.2.1
  have hL : ∀ z ∈ ([] : List Loc), H0.size ≤ z.base := fun _ h => nomatch h
  have hC : 0 + cn = cn := Nat.zero_add _
  have hN : 0 + nn = nn := Nat.zero_add _
  delta fJ5_isLatin1_aae02 at hf
  refine vg_gsC X hH kw_680449123 dJ5_isLatin1_aae02_0 ?_
  refine lv_if_eq (tgt := 17) hx hb dJ5_isLatin1_aae02_3 (by decide) (fun h8 => ?_) (fun h8 => ?_)
  · exact absurd h8 (by decide)
  · refine lv_aload_n hx hb dJ5_isLatin1_aae02_6 rfl (lv_at hl.1 0 rfl) ?_
    refine vg_getI X hH fF_J5_22 dJ5_isLatin1_aae02_7 hf (fun x1 hf => ?_)
    refine lv_if_ne (tgt := 17) hx hb dJ5_isLatin1_aae02_10 (by decide) (fun h8 => ?_) (fun h8 => ?_)
    · have hf := vg_if h8 hf
      exact wJ5_isLatin1_aae02_17 Z   μ _ _ _ _ _ _ _ hf hH hL hC hN (hl.sub [] rfl)
    · have hf := vg_ip h8 hf
      refine lv_iconst (v := 1) hx hb dJ5_isLatin1_aae02_13 (by decide) ?_
      refine lv_goto (tgt := 18) hx hb dJ5_isLatin1_aae02_14 (by decide) ?_
      exact wJ5_isLatin1_aae02_18 Z  1 μ _ _ _ _ _ _ _ hf hH hL hC hN (hl.sub [] rfl)
def fJ7_checkLength_df160 (v0 : Int32) (v1 : Int32) (μ : vg_M) : vg_R Unit :=
  if v0 ≤ v1 then (
   vg_ret () μ
   ) else (
   none
   )
set_option maxHeartbeats 4000000 in
set_option maxRecDepth 100000 in
theorem cJ7_checkLength_df160_met {l : Launch} {D : va_G} {cy : Nat → ClassId} {H0 : Heap} {r : Unit} {μ μ' : vg_M} {cn nn : Nat} {v0 : Int32} {v1 : Int32} (hf : fJ7_checkLength_df160 v0 v1 μ = some (r, μ', cn, nn)) : vg_Met l D cy H0 yJ7_checkLength_df160 cJ7_checkLength_df160 2 none 12 μ [.int v0, .int v1] none μ' cn nn := by
  refine vg_start (by decide +kernel) (List.forall_mem_cons.mpr ⟨rfl, (List.forall_mem_cons.mpr ⟨rfl, (fun _ h => nomatch h)⟩)⟩) (Nat.le_of_ble_eq_true rfl) ?_
  intro p e s m below meth c ls X hml hr hlk hnm hH hl
  have hl : vg_l ls 2 [(0, .int v0), (1, .int v1)] := hl
  have Z : vg_Z D cy H0 p s m _ c cJ7_checkLength_df160 RJ7 meth 2 none (vg_rm 12 cn nn) 12 cn nn _ := ⟨X, hml, hr, hlk, Nat.le_refl _, Nat.le_refl _, Nat.le_refl _, Nat.le_refl _, hnm⟩
  obtain ⟨-, -, -, -, hfr, hlo, hRc, hRs, -⟩ := id Z
  have hx := X.1
  have hb := X.2.1
  have hL : ∀ z ∈ ([] : List Loc), H0.size ≤ z.base := fun _ h => nomatch h
  have hC : 0 + cn = cn := Nat.zero_add _
  have hN : 0 + nn = nn := Nat.zero_add _
  delta fJ7_checkLength_df160 at hf
  refine lv_iload_n hx hb dJ7_checkLength_df160_0 rfl (lv_at hl.1 1 rfl) ?_
  refine lv_iload_n hx hb dJ7_checkLength_df160_1 rfl (lv_at hl.1 0 rfl) ?_
  refine lv_icmp_ge (tgt := 37) hx hb dJ7_checkLength_df160_2 (by decide) (fun h8 => ?_) (fun h8 => ?_)
  · have hf := vg_ip h8 hf
    exact vg_retv X hr hlk hH hL dJ7_checkLength_df160_37 hf hC hN
  · have hf := vg_if h8 hf
    cases hf
def fJ7_copyOfRangeByte_39247 (v0 : Option Nat) (v1 : Int32) (v2 : Int32) (μ : vg_M) : vg_R (Option Nat) :=
  vg_b (fJ7_checkLength_df160 v1 v2 μ) fun _ μ2 =>
  vg_o (vg_len (v2 - v1)) fun n => vg_nw n μ2.2.1 (vg_nA μ2 0 n) fun a3 μ4 =>
  vg_o v0 fun a5 =>
  vg_o (vg_al μ4 a5) fun x6 =>
  vg_o (vg_cpB μ4 a5 v1 a3 0 (if v2 - v1 < x6 - v1 then v2 - v1 else x6 - v1)) fun μ7 =>
  vg_ret (some a3) μ7
set_option maxHeartbeats 4000000 in
set_option maxRecDepth 100000 in
theorem cJ7_copyOfRangeByte_39247_met {l : Launch} {D : va_G} {cy : Nat → ClassId} {H0 : Heap} {r : (Option Nat)} {μ μ' : vg_M} {cn nn : Nat} {v0 : Option Nat} {v1 : Int32} {v2 : Int32} (hf : fJ7_copyOfRangeByte_39247 v0 v1 v2 μ = some (r, μ', cn, nn)) : vg_Met l D cy H0 yJ7_copyOfRangeByte_39247 cJ7_copyOfRangeByte_39247 5 (some (.array .byte)) 13 μ [va_rf v0, .int v1, .int v2] (some (va_rf r)) μ' cn nn := by
  refine vg_start (by decide +kernel) (List.forall_mem_cons.mpr ⟨vg_rfc _, (List.forall_mem_cons.mpr ⟨rfl, (List.forall_mem_cons.mpr ⟨rfl, (fun _ h => nomatch h)⟩)⟩)⟩) (Nat.le_of_ble_eq_true rfl) ?_
  intro p e s m below meth c ls X hml hr hlk hnm hH hl
  have hl : vg_l ls 5 [(0, va_rf v0), (1, .int v1), (2, .int v2)] := hl
  have Z : vg_Z D cy H0 p s m _ c cJ7_copyOfRangeByte_39247 RJ7 meth 5 (some (.array .byte)) (vg_rm 13 cn nn) 13 cn nn _ := ⟨X, hml, hr, hlk, Nat.le_refl _, Nat.le_refl _, Nat.le_refl _, Nat.le_refl _, hnm⟩
  obtain ⟨-, -, -, -, hfr, hlo, hRc, hRs, -⟩ := id Z
  have hx := X.1
  have hb := X.2.1
  have hL : ∀ z ∈ ([] : List Loc), H0.size ≤ z.base := fun _ h => nomatch h
  have hC : 0 + cn = cn := Nat.zero_add _
  have hN : 0 + nn = nn := Nat.zero_add _
  delta fJ7_copyOfRangeByte_39247 at hf
  refine lv_iload_n hx hb dJ7_copyOfRangeByte_39247_0 rfl (lv_at hl.1 1 rfl) ?_
  refine lv_iload_n hx hb dJ7_copyOfRangeByte_39247_1 rfl (lv_at hl.1 2 rfl) ?_
  refine vg_callSv X hml hl hH hL fCS_J7_343 [.int v1, .int v2] rfl rfl (Nat.le_of_ble_eq_true rfl) dJ7_copyOfRangeByte_39247_2 hf hC hN hRc hRs hfr hlo (by decide) (fun _ _ _ _ h => cJ7_checkLength_df160_met h) (fun _ μ2 cn nn H locs cells slots hf hC hN hH hL => ?_)
  refine lv_iload_n hx hb dJ7_copyOfRangeByte_39247_5 rfl (lv_at hl.1 2 rfl) ?_
  refine lv_iload_n hx hb dJ7_copyOfRangeByte_39247_6 rfl (lv_at hl.1 1 rfl) ?_
  refine lv_isub hx hb dJ7_copyOfRangeByte_39247_7 ?_
  refine vg_istore_n (lv' := [(3, .int (v2 - v1)), (0, va_rf v0), (1, .int v1), (2, .int v2)]) hx hb dJ7_copyOfRangeByte_39247_8 rfl hl (by decide) rfl (fun ls hl => ?_)
  refine lv_iload_n hx hb dJ7_copyOfRangeByte_39247_9 rfl (lv_at hl.1 0 rfl) ?_
  refine vg_newa X hH (atype := .byte) (t := 0) kw_180627857 rfl (by decide) dJ7_copyOfRangeByte_39247_10 hf hC hN hRc hRs (fun _ a3 μ4 cn nn H hf hC hN hH => ?_)
  refine vg_astore (x := some a3) (lv' := [(4, .ref a3), (3, .int (v2 - v1)), (0, va_rf v0), (1, .int v1), (2, .int v2)]) hx hb dJ7_copyOfRangeByte_39247_12 hl (by decide) rfl (fun ls hl => ?_)
  refine vg_aload_n hx hb dJ7_copyOfRangeByte_39247_14 rfl (lv_at hl.1 2 rfl) ?_
  refine lv_iload_n hx hb dJ7_copyOfRangeByte_39247_15 rfl (lv_at hl.1 3 rfl) ?_
  refine lv_aload hx hb dJ7_copyOfRangeByte_39247_16 (lv_at hl.1 0 rfl) ?_
  refine lv_iconst (v := 0) hx hb dJ7_copyOfRangeByte_39247_18 (by decide) ?_
  refine vg_aload_n hx hb dJ7_copyOfRangeByte_39247_19 rfl (lv_at hl.1 2 rfl) ?_
  obtain ⟨a5, h9, hg⟩ := vg_o_inv hf
  clear hf
  subst h9
  have hf := hg
  clear hg
  refine vg_alen X hH dJ7_copyOfRangeByte_39247_20 hf (fun x6 hf => ?_)
  refine lv_iload_n hx hb dJ7_copyOfRangeByte_39247_21 rfl (lv_at hl.1 3 rfl) ?_
  refine lv_isub hx hb dJ7_copyOfRangeByte_39247_22 ?_
  refine lv_iload_n hx hb dJ7_copyOfRangeByte_39247_23 rfl (lv_at hl.1 1 rfl) ?_
  refine vg_mmin X hml hl kw_186725841 kw_875827865 kw_386489653 kw_394918299 (Nat.le_of_ble_eq_true rfl) hC hN hRc hRs (Nat.le_trans (by decide) hfr) (Nat.le_trans (by decide) hlo) dJ7_copyOfRangeByte_39247_24 ?_
  refine vg_acopyB X hml hl hH hL kw_120856667 kw_93826578 kw_984968033 kw_630143193 (Nat.le_of_ble_eq_true rfl) (Nat.le_trans (by decide) hfr) (Nat.le_trans (by decide) hlo) dJ7_copyOfRangeByte_39247_27 hf (fun μ7 H locs hf hH hL => ?_)
  refine lv_aload hx hb dJ7_copyOfRangeByte_39247_30 (lv_at hl.1 0 rfl) ?_
  exact vg_reta X (by simp) hr hlk hH hL dJ7_copyOfRangeByte_39247_32 hf hC hN
def fJ7_copyOfRange_39247_10  (v0 : Option Nat) (v1 : Int32) (v2 : Int32) (μ : vg_M) : vg_R (Option Nat) :=
  vg_b (fJ7_copyOfRangeByte_39247 v0 v1 v2 μ) fun x1 μ2 =>
  vg_ret x1 μ2
set_option maxHeartbeats 4000000 in
set_option maxRecDepth 100000 in
theorem wJ7_copyOfRange_39247_10 {p : Program} {l : Launch} {e : Env} {R : Room} {s : State} {m : MethodId} {args : Array Value} {below : List Frame} {meth : Method} {c : Code} {D : va_G} {cy : Nat → ClassId} {H0 : Heap} {C0 N0 : Nat} {r : (Option Nat)} {μ' : vg_M} (Z : vg_Z D cy H0 p s m args c cJ7_copyOfRange_39247 RJ7 meth 3 (some (.array .byte)) R 14 C0 N0 "copyOfRange")   (v0 : Option Nat) (v1 : Int32) (v2 : Int32) (μ : vg_M) : vg_S p l e R s m args below meth c D cy H0 C0 N0 3 (MQ below (vg_Qc D cy H0 μ' (some (va_rf r))) args s C0 N0 (vg_fr H0)) r μ' (fJ7_copyOfRange_39247_10  v0 v1 v2 μ) μ [(0, va_rf v0), (1, .int v1), (2, .int v2)] [] 10 := by
  intro cn nn H locs cells slots ls hf hH hL hC hN hl
  obtain ⟨X, hml, hr, hlk, hfr, hlo, hRc, hRs, hnm⟩ := id Z
  have hx := X.1
  have hb := X.2.1
  delta fJ7_copyOfRange_39247_10 at hf
  refine vg_aload_n hx hb dJ7_copyOfRange_39247_10 rfl (lv_at hl.1 0 rfl) ?_
  refine lv_iload_n hx hb dJ7_copyOfRange_39247_11 rfl (lv_at hl.1 1 rfl) ?_
  refine lv_iload_n hx hb dJ7_copyOfRange_39247_12 rfl (lv_at hl.1 2 rfl) ?_
  refine vg_callSr X hml hl hH hL fCS_J7_339 [va_rf v0, .int v1, .int v2] rfl rfl (Nat.le_of_ble_eq_true rfl) dJ7_copyOfRange_39247_13 hf hC hN hRc hRs hfr hlo (by decide) (fun _ _ _ _ h => cJ7_copyOfRangeByte_39247_met h) (fun x1 μ2 cn nn H locs cells slots hf hC hN hH hL => ?_)
  exact vg_reta X (by simp) hr hlk hH hL dJ7_copyOfRange_39247_16 hf hC hN
def fJ7_copyOfRange_39247 (v0 : Option Nat) (v1 : Int32) (v2 : Int32) (μ : vg_M) : vg_R (Option Nat) :=
  if v1 = 0 then (
   vg_o v0 fun a3 =>
   vg_o (vg_al μ a3) fun x4 =>
   if v2 = x4 then (
    vg_cl μ a3 fun a5 μ6 =>
    vg_cka μ6 a5 0 <|
    vg_ret (some a5) μ6
    ) else (
    fJ7_copyOfRange_39247_10  (some a3) v1 v2 μ
    )
   ) else (
   fJ7_copyOfRange_39247_10  v0 v1 v2 μ
   )
set_option maxHeartbeats 4000000 in
set_option maxRecDepth 100000 in
theorem cJ7_copyOfRange_39247_met {l : Launch} {D : va_G} {cy : Nat → ClassId} {H0 : Heap} {r : (Option Nat)} {μ μ' : vg_M} {cn nn : Nat} {v0 : Option Nat} {v1 : Int32} {v2 : Int32} (hf : fJ7_copyOfRange_39247 v0 v1 v2 μ = some (r, μ', cn, nn)) : vg_Met l D cy H0 yJ7_copyOfRange_39247 cJ7_copyOfRange_39247 3 (some (.array .byte)) 14 μ [va_rf v0, .int v1, .int v2] (some (va_rf r)) μ' cn nn := by
  refine vg_start (by decide +kernel) (List.forall_mem_cons.mpr ⟨vg_rfc _, (List.forall_mem_cons.mpr ⟨rfl, (List.forall_mem_cons.mpr ⟨rfl, (fun _ h => nomatch h)⟩)⟩)⟩) (Nat.le_of_ble_eq_true rfl) ?_
  intro p e s m below meth c ls X hml hr hlk hnm hH hl
  have hl : vg_l ls 3 [(0, va_rf v0), (1, .int v1), (2, .int v2)] := hl
  have Z : vg_Z D cy H0 p s m _ c cJ7_copyOfRange_39247 RJ7 meth 3 (some (.array .byte)) (vg_rm 14 cn nn) 14 cn nn _ := ⟨X, hml, hr, hlk, Nat.le_refl _, Nat.le_refl _, Nat.le_refl _, Nat.le_refl _, hnm⟩
  obtain ⟨-, -, -, -, hfr, hlo, hRc, hRs, -⟩ := id Z
  have hx := X.1
  have hb := X.2.1
  have hL : ∀ z ∈ ([] : List Loc), H0.size ≤ z.base := fun _ h => nomatch h
  have hC : 0 + cn = cn := Nat.zero_add _
  have hN : 0 + nn = nn := Nat.zero_add _
  delta fJ7_copyOfRange_39247 at hf
  refine lv_iload_n hx hb dJ7_copyOfRange_39247_0 rfl (lv_at hl.1 1 rfl) ?_
  refine lv_if_ne (tgt := 10) hx hb dJ7_copyOfRange_39247_1 (by decide) (fun h8 => ?_) (fun h8 => ?_)
  · have hf := vg_if h8 hf
    exact wJ7_copyOfRange_39247_10 Z  v0 v1 v2 μ _ _ _ _ _ _ _ hf hH hL hC hN (hl.sub [0, 1, 2] rfl)
  · have hf := vg_ip h8 hf
    refine lv_iload_n hx hb dJ7_copyOfRange_39247_4 rfl (lv_at hl.1 2 rfl) ?_
    refine vg_aload_n hx hb dJ7_copyOfRange_39247_5 rfl (lv_at hl.1 0 rfl) ?_
    obtain ⟨a3, h9, hg⟩ := vg_o_inv hf
    clear hf
    subst h9
    have hf := hg
    clear hg
    refine vg_alen X hH dJ7_copyOfRange_39247_6 hf (fun x4 hf => ?_)
    refine lv_icmp_eq (tgt := 17) hx hb dJ7_copyOfRange_39247_7 (by decide) (fun h8 => ?_) (fun h8 => ?_)
    · have hf := vg_ip h8 hf
      refine lv_aload_n hx hb dJ7_copyOfRange_39247_17 rfl (lv_at hl.1 0 rfl) ?_
      refine vg_clone X hml hl hH kw_718439370 kw_701103453 kw_380930768 kw_67871540 kw_491343065 (Nat.le_of_ble_eq_true rfl) (Nat.le_trans (by decide) hfr) (Nat.le_trans (by decide) hlo) dJ7_copyOfRange_39247_18 hf hC hN hRc hRs (fun a5 μ6 cn nn H cells slots hf hC hN hH => ?_)
      refine vg_castB X hH kw_38243193 dJ7_copyOfRange_39247_21 hf (fun hf => ?_)
      exact vg_reta X (by simp) hr hlk hH hL dJ7_copyOfRange_39247_24 hf hC hN
    · have hf := vg_if h8 hf
      exact wJ7_copyOfRange_39247_10 Z  (some a3) v1 v2 μ _ _ _ _ _ _ _ hf hH hL hC hN (hl.sub [0, 1, 2] rfl)
def fJ0_init_db425_97   (μ : vg_M) : vg_R Unit :=
  vg_ret () μ
set_option maxHeartbeats 4000000 in
set_option maxRecDepth 100000 in
theorem wJ0_init_db425_97 {p : Program} {l : Launch} {e : Env} {R : Room} {s : State} {m : MethodId} {args : Array Value} {below : List Frame} {meth : Method} {c : Code} {D : va_G} {cy : Nat → ClassId} {H0 : Heap} {C0 N0 : Nat} {r : Unit} {μ' : vg_M} (Z : vg_Z D cy H0 p s m args c cJ0_init_db425 RJ0 meth 5 none R 15 C0 N0 "<init>")    (μ : vg_M) : vg_S p l e R s m args below meth c D cy H0 C0 N0 5 (MQ below (vg_Qc D cy H0 μ' none) args s C0 N0 (vg_fr H0)) r μ' (fJ0_init_db425_97   μ) μ [] [] 97 := by
  intro cn nn H locs cells slots ls hf hH hL hC hN hl
  obtain ⟨X, hml, hr, hlk, hfr, hlo, hRc, hRs, hnm⟩ := id Z
  have hx := X.1
  have hb := X.2.1
  delta fJ0_init_db425_97 at hf
  exact vg_retv X hr hlk hH hL dJ0_init_db425_97 hf hC hN
def fJ0_init_db425_79  (v0 : Nat) (v3 : Option Nat) (v4 : Int32) (μ : vg_M) : vg_R Unit :=
  vg_o (vg_z .byte 1) fun z => vg_o (vg_p μ v0 0 1 (.int z)) fun μ1 =>
  vg_b (fJ7_copyOfRange_39247 v3 0 (v4 <<< (1 &&& 31)) μ1) fun x2 μ3 =>
  vg_o (vg_p μ3 v0 0 0 (va_rf x2)) fun μ4 =>
  fJ0_init_db425_97   μ4
set_option maxHeartbeats 4000000 in
set_option maxRecDepth 100000 in
theorem wJ0_init_db425_79 {p : Program} {l : Launch} {e : Env} {R : Room} {s : State} {m : MethodId} {args : Array Value} {below : List Frame} {meth : Method} {c : Code} {D : va_G} {cy : Nat → ClassId} {H0 : Heap} {C0 N0 : Nat} {r : Unit} {μ' : vg_M} (Z : vg_Z D cy H0 p s m args c cJ0_init_db425 RJ0 meth 5 none R 15 C0 N0 "<init>")   (v0 : Nat) (v3 : Option Nat) (v4 : Int32) (μ : vg_M) : vg_S p l e R s m args below meth c D cy H0 C0 N0 5 (MQ below (vg_Qc D cy H0 μ' none) args s C0 N0 (vg_fr H0)) r μ' (fJ0_init_db425_79  v0 v3 v4 μ) μ [(0, .ref v0), (3, va_rf v3), (4, .int v4)] [] 79 := by
  intro cn nn H locs cells slots ls hf hH hL hC hN hl
  obtain ⟨X, hml, hr, hlk, hfr, hlo, hRc, hRs, hnm⟩ := id Z
  have hx := X.1
  have hb := X.2.1
  delta fJ0_init_db425_79 at hf
  refine lv_aload_n hx hb dJ0_init_db425_79 rfl (lv_at hl.1 0 rfl) ?_
  refine lv_iconst (v := 1) hx hb dJ0_init_db425_80 (by decide) ?_
  refine vg_putFZ X hnm hH hL (by simp) fF_J0_15 dJ0_init_db425_81 hf (fun μ1 H locs hf hH hL => ?_)
  refine lv_aload_n hx hb dJ0_init_db425_84 rfl (lv_at hl.1 0 rfl) ?_
  refine vg_aload_n hx hb dJ0_init_db425_85 rfl (lv_at hl.1 1 rfl) ?_
  refine lv_iconst (v := 0) hx hb dJ0_init_db425_86 (by decide) ?_
  refine lv_iload hx hb dJ0_init_db425_87 (lv_at hl.1 2 rfl) ?_
  refine lv_iconst (v := 1) hx hb dJ0_init_db425_89 (by decide) ?_
  refine lv_ishl hx hb dJ0_init_db425_90 ?_
  refine vg_callSr X hml hl hH hL fCS_J0_54 [va_rf v3, .int 0, .int (v4 <<< (1 &&& 31))] rfl rfl (Nat.le_of_ble_eq_true rfl) dJ0_init_db425_91 hf hC hN hRc hRs hfr hlo (by decide) (fun _ _ _ _ h => cJ7_copyOfRange_39247_met h) (fun x2 μ3 cn nn H locs cells slots hf hC hN hH hL => ?_)
  refine vg_putF X hnm hH hL fF_J0_9 (vg_fitR (by simp) x2).1 (vg_fitR (by simp) x2).2 dJ0_init_db425_94 hf (fun μ4 H locs hf hH hL => ?_)
  exact wJ0_init_db425_97 Z   μ4 _ _ _ _ _ _ _ hf hH hL hC hN (hl.sub [] rfl)
def fJ0_init_db425 (v0 : Nat) (v1 : Option Nat) (v2 : Option Nat) (μ : vg_M) : vg_R Unit :=
  vg_o v1 fun a5 =>
  vg_cv 1 a5 μ (fJ5_getValue_6d5f1 a5  μ) fun x6 μ7 =>
  vg_cv 1 a5 μ7 (fJ4_length_8abf5 a5  μ7) fun x8 μ9 =>
  vg_cv 1 a5 μ9 (fJ5_isLatin1_aae02 a5  μ9) fun x10 μ11 =>
  if x10 = 0 then (
   vg_o (vg_gI μ11 a5 1 2) fun x12 =>
   if x12 = 0 then (
    fJ0_init_db425_79  v0 x6 x8 μ11
    ) else (
    none
    )
   ) else (
   vg_o (vg_z .byte 0) fun z => vg_o (vg_p μ11 v0 0 1 (.int z)) fun μ13 =>
   vg_b (fJ7_copyOfRange_39247 x6 0 x8 μ13) fun x14 μ15 =>
   vg_o (vg_p μ15 v0 0 0 (va_rf x14)) fun μ16 =>
   fJ0_init_db425_97   μ16
   )
set_option maxHeartbeats 4000000 in
set_option maxRecDepth 100000 in
theorem cJ0_init_db425_met {l : Launch} {D : va_G} {cy : Nat → ClassId} {H0 : Heap} {r : Unit} {μ μ' : vg_M} {cn nn : Nat} {v0 : Nat} {v1 : Option Nat} {v2 : Option Nat} (hf : fJ0_init_db425 v0 v1 v2 μ = some (r, μ', cn, nn)) : vg_Met l D cy H0 yJ0_init_db425 cJ0_init_db425 5 none 15 μ [.ref v0, va_rf v1, va_rf v2] none μ' cn nn := by
  refine vg_start (by decide +kernel) (List.forall_mem_cons.mpr ⟨rfl, (List.forall_mem_cons.mpr ⟨vg_rfc _, (List.forall_mem_cons.mpr ⟨vg_rfc _, (fun _ h => nomatch h)⟩)⟩)⟩) (Nat.le_of_ble_eq_true rfl) ?_
  intro p e s m below meth c ls X hml hr hlk hnm hH hl
  have hl : vg_l ls 5 [(0, .ref v0), (1, va_rf v1), (2, va_rf v2)] := hl
  have Z : vg_Z D cy H0 p s m _ c cJ0_init_db425 RJ0 meth 5 none (vg_rm 15 cn nn) 15 cn nn _ := ⟨X, hml, hr, hlk, Nat.le_refl _, Nat.le_refl _, Nat.le_refl _, Nat.le_refl _, hnm⟩
  obtain ⟨-, -, -, -, hfr, hlo, hRc, hRs, -⟩ := id Z
  have hx := X.1
  have hb := X.2.1
  have hL : ∀ z ∈ ([] : List Loc), H0.size ≤ z.base := fun _ h => nomatch h
  have hC : 0 + cn = cn := Nat.zero_add _
  have hN : 0 + nn = nn := Nat.zero_add _
  delta fJ0_init_db425 at hf
  refine lv_aload_n hx hb dJ0_init_db425_0 rfl (lv_at hl.1 0 rfl) ?_
  refine vg_objInit X hml hl kw_958174210 kw_624348017 kw_835052908 dJ0_init_db425_1 (Nat.le_of_ble_eq_true rfl) (Nat.le_trans (by decide) hfr) (Nat.le_trans (by decide) hlo) ?_
  refine vg_aload_n hx hb dJ0_init_db425_4 rfl (lv_at hl.1 1 rfl) ?_
  obtain ⟨a5, h9, hg⟩ := vg_o_inv hf
  clear hf
  subst h9
  have hf := hg
  clear hg
  refine vg_callWr (ci := 1) X hml hl hH hL fCW_J0_552 rfl [] rfl rfl (Nat.le_of_ble_eq_true rfl) dJ0_init_db425_5 hf hC hN hRc hRs hfr hlo (by decide) (fun _ _ _ _ h => cJ5_getValue_6d5f1_met h) (fun x6 μ7 cn nn H locs cells slots hf hC hN hH hL => ?_)
  refine vg_astore_n (lv' := [(3, va_rf x6), (0, .ref v0), (1, .ref a5), (2, va_rf v2)]) hx hb dJ0_init_db425_8 rfl hl (by decide) rfl (fun ls hl => ?_)
  refine lv_aload_n hx hb dJ0_init_db425_9 rfl (lv_at hl.1 2 rfl) ?_
  refine vg_callWi (ci := 1) X hml hl hH hL fCW_J0_549 rfl [] rfl rfl (Nat.le_of_ble_eq_true rfl) dJ0_init_db425_10 hf hC hN hRc hRs hfr hlo (by decide) (fun _ _ _ _ h => cJ4_length_8abf5_met h) (fun x8 μ9 cn nn H locs cells slots hf hC hN hH hL => ?_)
  refine vg_istore (lv' := [(4, .int x8), (3, va_rf x6), (0, .ref v0), (1, .ref a5), (2, va_rf v2)]) hx hb dJ0_init_db425_13 hl (by decide) rfl (fun ls hl => ?_)
  refine lv_aload_n hx hb dJ0_init_db425_15 rfl (lv_at hl.1 3 rfl) ?_
  refine vg_callWi (ci := 1) X hml hl hH hL fCW_J0_1047 rfl [] rfl rfl (Nat.le_of_ble_eq_true rfl) dJ0_init_db425_16 hf hC hN hRc hRs hfr hlo (by decide) (fun _ _ _ _ h => cJ5_isLatin1_aae02_met h) (fun x10 μ11 cn nn H locs cells slots hf hC hN hH hL => ?_)
  refine lv_if_eq (tgt := 41) hx hb dJ0_init_db425_19 (by decide) (fun h8 => ?_) (fun h8 => ?_)
  · have hf := vg_ip h8 hf
    refine vg_gsC X hH kw_639528659 dJ0_init_db425_41 ?_
    refine lv_if_eq (tgt := 79) hx hb dJ0_init_db425_44 (by decide) (fun h8 => ?_) (fun h8 => ?_)
    · exact absurd h8 (by decide)
    · refine lv_aload_n hx hb dJ0_init_db425_47 rfl (lv_at hl.1 3 rfl) ?_
      refine vg_getI X hH fF_J0_1048 dJ0_init_db425_48 hf (fun x12 hf => ?_)
      refine lv_if_eq (tgt := 79) hx hb dJ0_init_db425_51 (by decide) (fun h8 => ?_) (fun h8 => ?_)
      · have hf := vg_ip h8 hf
        exact wJ0_init_db425_79 Z  v0 x6 x8 μ11 _ _ _ _ _ _ _ hf hH hL hC hN (hl.sub [2, 1, 0] rfl)
      · have hf := vg_if h8 hf
        refine lv_aload_n hx hb dJ0_init_db425_54 rfl (lv_at hl.1 2 rfl) ?_
        refine vg_aload_n hx hb dJ0_init_db425_55 rfl (lv_at hl.1 1 rfl) ?_
        refine lv_iconst (v := 0) hx hb dJ0_init_db425_56 (by decide) ?_
        refine lv_iload hx hb dJ0_init_db425_57 (lv_at hl.1 0 rfl) ?_
        cases hf
  · have hf := vg_if h8 hf
    refine lv_aload_n hx hb dJ0_init_db425_22 rfl (lv_at hl.1 2 rfl) ?_
    refine lv_iconst (v := 0) hx hb dJ0_init_db425_23 (by decide) ?_
    refine vg_putFZ X hnm hH hL (by simp) fF_J0_15 dJ0_init_db425_24 hf (fun μ13 H locs hf hH hL => ?_)
    refine lv_aload_n hx hb dJ0_init_db425_27 rfl (lv_at hl.1 2 rfl) ?_
    refine vg_aload_n hx hb dJ0_init_db425_28 rfl (lv_at hl.1 1 rfl) ?_
    refine lv_iconst (v := 0) hx hb dJ0_init_db425_29 (by decide) ?_
    refine lv_iload hx hb dJ0_init_db425_30 (lv_at hl.1 0 rfl) ?_
    refine vg_callSr X hml hl hH hL fCS_J0_54 [va_rf x6, .int 0, .int x8] rfl rfl (Nat.le_of_ble_eq_true rfl) dJ0_init_db425_32 hf hC hN hRc hRs hfr hlo (by decide) (fun _ _ _ _ h => cJ7_copyOfRange_39247_met h) (fun x14 μ15 cn nn H locs cells slots hf hC hN hH hL => ?_)
    refine vg_putF X hnm hH hL fF_J0_9 (vg_fitR (by simp) x14).1 (vg_fitR (by simp) x14).2 dJ0_init_db425_35 hf (fun μ16 H locs hf hH hL => ?_)
    refine lv_goto (tgt := 97) hx hb dJ0_init_db425_38 (by decide) ?_
    exact wJ0_init_db425_97 Z   μ16 _ _ _ _ _ _ _ hf hH hL hC hN (hl.sub [] rfl)
def fJ0_init_81219 (v0 : Nat) (v1 : Option Nat) (μ : vg_M) : vg_R Unit :=
  vg_b (fJ0_init_db425 v0 v1 none μ) fun _ μ2 =>
  vg_ret () μ2
set_option maxHeartbeats 4000000 in
set_option maxRecDepth 100000 in
theorem cJ0_init_81219_met {l : Launch} {D : va_G} {cy : Nat → ClassId} {H0 : Heap} {r : Unit} {μ μ' : vg_M} {cn nn : Nat} {v0 : Nat} {v1 : Option Nat} (hf : fJ0_init_81219 v0 v1 μ = some (r, μ', cn, nn)) : vg_Met l D cy H0 yJ0_init_81219 cJ0_init_81219 2 none 16 μ [.ref v0, va_rf v1] none μ' cn nn := by
  refine vg_start (by decide +kernel) (List.forall_mem_cons.mpr ⟨rfl, (List.forall_mem_cons.mpr ⟨vg_rfc _, (fun _ h => nomatch h)⟩)⟩) (Nat.le_of_ble_eq_true rfl) ?_
  intro p e s m below meth c ls X hml hr hlk hnm hH hl
  have hl : vg_l ls 2 [(0, .ref v0), (1, va_rf v1)] := hl
  have Z : vg_Z D cy H0 p s m _ c cJ0_init_81219 RJ0 meth 2 none (vg_rm 16 cn nn) 16 cn nn _ := ⟨X, hml, hr, hlk, Nat.le_refl _, Nat.le_refl _, Nat.le_refl _, Nat.le_refl _, hnm⟩
  obtain ⟨-, -, -, -, hfr, hlo, hRc, hRs, -⟩ := id Z
  have hx := X.1
  have hb := X.2.1
  have hL : ∀ z ∈ ([] : List Loc), H0.size ≤ z.base := fun _ h => nomatch h
  have hC : 0 + cn = cn := Nat.zero_add _
  have hN : 0 + nn = nn := Nat.zero_add _
  delta fJ0_init_81219 at hf
  refine lv_aload_n hx hb dJ0_init_81219_0 rfl (lv_at hl.1 0 rfl) ?_
  refine vg_aload_n hx hb dJ0_init_81219_1 rfl (lv_at hl.1 1 rfl) ?_
  refine lv_null hx hb dJ0_init_81219_2 ?_
  refine vg_callIv X hml hl hH hL fCI_J0_489 [va_rf v1, .null] rfl rfl (Nat.le_of_ble_eq_true rfl) dJ0_init_81219_3 hf hC hN hRc hRs hfr hlo (by decide) (fun _ _ _ _ h => cJ0_init_db425_met h) (fun _ μ2 cn nn H locs cells slots hf hC hN hH hL => ?_)
  exact vg_retv X hr hlk hH hL dJ0_init_81219_6 hf hC hN
def fJ0_isEmpty_aae02_13  (k0 : Int32) (μ : vg_M) : vg_R Int32 :=
  vg_o (vg_z .boolean k0) fun z => vg_ret z μ
set_option maxHeartbeats 4000000 in
set_option maxRecDepth 100000 in
theorem wJ0_isEmpty_aae02_13 {p : Program} {l : Launch} {e : Env} {R : Room} {s : State} {m : MethodId} {args : Array Value} {below : List Frame} {meth : Method} {c : Code} {D : va_G} {cy : Nat → ClassId} {H0 : Heap} {C0 N0 : Nat} {r : Int32} {μ' : vg_M} (Z : vg_Z D cy H0 p s m args c cJ0_isEmpty_aae02 RJ0 meth 1 (some .boolean) R 12 C0 N0 "isEmpty")   (k0 : Int32) (μ : vg_M) : vg_S p l e R s m args below meth c D cy H0 C0 N0 1 (MQ below (vg_Qc D cy H0 μ' (some (.int r))) args s C0 N0 (vg_fr H0)) r μ' (fJ0_isEmpty_aae02_13  k0 μ) μ [] [.int k0] 13 := by
  intro cn nn H locs cells slots ls hf hH hL hC hN hl
  obtain ⟨X, hml, hr, hlk, hfr, hlo, hRc, hRs, hnm⟩ := id Z
  have hx := X.1
  have hb := X.2.1
  delta fJ0_isEmpty_aae02_13 at hf
  exact vg_retz X (by simp) hr hlk hH hL dJ0_isEmpty_aae02_13 hf hC hN
def fJ0_isEmpty_aae02 (v0 : Nat) (μ : vg_M) : vg_R Int32 :=
  vg_o (vg_gR μ v0 0 0) fun x1 =>
  vg_o x1 fun a2 =>
  vg_o (vg_al μ a2) fun x3 =>
  if x3 = 0 then (
   fJ0_isEmpty_aae02_13  1 μ
   ) else (
   fJ0_isEmpty_aae02_13  0 μ
   )
set_option maxHeartbeats 4000000 in
set_option maxRecDepth 100000 in
theorem cJ0_isEmpty_aae02_met {l : Launch} {D : va_G} {cy : Nat → ClassId} {H0 : Heap} {r : Int32} {μ μ' : vg_M} {cn nn : Nat} {v0 : Nat} (hf : fJ0_isEmpty_aae02 v0 μ = some (r, μ', cn, nn)) : vg_Met l D cy H0 yJ0_isEmpty_aae02 cJ0_isEmpty_aae02 1 (some .boolean) 12 μ [.ref v0] (some (.int r)) μ' cn nn := by
  refine vg_start (by decide +kernel) (List.forall_mem_cons.mpr ⟨rfl, (fun _ h => nomatch h)⟩) (Nat.le_of_ble_eq_true rfl) ?_
  intro p e s m below meth c ls X hml hr hlk hnm hH hl
  have hl : vg_l ls 1 [(0, .ref v0)] := hl
  have Z : vg_Z D cy H0 p s m _ c cJ0_isEmpty_aae02 RJ0 meth 1 (some .boolean) (vg_rm 12 cn nn) 12 cn nn _ := ⟨X, hml, hr, hlk, Nat.le_refl _, Nat.le_refl _, Nat.le_refl _, Nat.le_refl _, hnm⟩
  obtain ⟨-, -, -, -, hfr, hlo, hRc, hRs, -⟩ := id Z
  have hx := X.1
  have hb := X.2.1
  have hL : ∀ z ∈ ([] : List Loc), H0.size ≤ z.base := fun _ h => nomatch h
  have hC : 0 + cn = cn := Nat.zero_add _
  have hN : 0 + nn = nn := Nat.zero_add _
  delta fJ0_isEmpty_aae02 at hf
  refine lv_aload_n hx hb dJ0_isEmpty_aae02_0 rfl (lv_at hl.1 0 rfl) ?_
  refine vg_getR X hH fF_J0_9 dJ0_isEmpty_aae02_1 hf (fun x1 hf => ?_)
  obtain ⟨a2, h9, hg⟩ := vg_o_inv hf
  clear hf
  subst h9
  have hf := hg
  clear hg
  refine vg_alen X hH dJ0_isEmpty_aae02_4 hf (fun x3 hf => ?_)
  refine lv_if_ne (tgt := 12) hx hb dJ0_isEmpty_aae02_5 (by decide) (fun h8 => ?_) (fun h8 => ?_)
  · have hf := vg_if h8 hf
    refine lv_iconst (v := 0) hx hb dJ0_isEmpty_aae02_12 (by decide) ?_
    exact wJ0_isEmpty_aae02_13 Z  0 μ _ _ _ _ _ _ _ hf hH hL hC hN (hl.sub [] rfl)
  · have hf := vg_ip h8 hf
    refine lv_iconst (v := 1) hx hb dJ0_isEmpty_aae02_8 (by decide) ?_
    refine lv_goto (tgt := 13) hx hb dJ0_isEmpty_aae02_9 (by decide) ?_
    exact wJ0_isEmpty_aae02_13 Z  1 μ _ _ _ _ _ _ _ hf hH hL hC hN (hl.sub [] rfl)
def fJ1_newString_b4f7a (v0 : Option Nat) (v1 : Int32) (v2 : Int32) (μ : vg_M) : vg_R (Option Nat) :=
  if v2 = 0 then (
   vg_k μ 1 fun a7 =>
   vg_ret (some a7) μ
   ) else (
   vg_nw 4 μ.2.1 (vg_nO μ 0 [.null, .int 0, .int 0, .int 0]) fun a1 μ2 =>
   vg_b (fJ7_copyOfRange_39247 v0 v1 (v1 + v2) μ2) fun x3 μ4 =>
   vg_b (fJ0_init_031fb a1 x3 0 μ4) fun _ μ6 =>
   vg_ret (some a1) μ6
   )
set_option maxHeartbeats 4000000 in
set_option maxRecDepth 100000 in
theorem cJ1_newString_b4f7a_met {l : Launch} {D : va_G} {cy : Nat → ClassId} {H0 : Heap} {r : (Option Nat)} {μ μ' : vg_M} {cn nn : Nat} {v0 : Option Nat} {v1 : Int32} {v2 : Int32} (hf : fJ1_newString_b4f7a v0 v1 v2 μ = some (r, μ', cn, nn)) : vg_Met l D cy H0 yJ1_newString_b4f7a cJ1_newString_b4f7a 3 (some (.object "java/lang/String")) 15 μ [va_rf v0, .int v1, .int v2] (some (va_rf r)) μ' cn nn := by
  refine vg_start (by decide +kernel) (List.forall_mem_cons.mpr ⟨vg_rfc _, (List.forall_mem_cons.mpr ⟨rfl, (List.forall_mem_cons.mpr ⟨rfl, (fun _ h => nomatch h)⟩)⟩)⟩) (Nat.le_of_ble_eq_true rfl) ?_
  intro p e s m below meth c ls X hml hr hlk hnm hH hl
  have hl : vg_l ls 3 [(0, va_rf v0), (1, .int v1), (2, .int v2)] := hl
  have Z : vg_Z D cy H0 p s m _ c cJ1_newString_b4f7a RJ1 meth 3 (some (.object "java/lang/String")) (vg_rm 15 cn nn) 15 cn nn _ := ⟨X, hml, hr, hlk, Nat.le_refl _, Nat.le_refl _, Nat.le_refl _, Nat.le_refl _, hnm⟩
  obtain ⟨-, -, -, -, hfr, hlo, hRc, hRs, -⟩ := id Z
  have hx := X.1
  have hb := X.2.1
  have hL : ∀ z ∈ ([] : List Loc), H0.size ≤ z.base := fun _ h => nomatch h
  have hC : 0 + cn = cn := Nat.zero_add _
  have hN : 0 + nn = nn := Nat.zero_add _
  delta fJ1_newString_b4f7a at hf
  refine lv_iload_n hx hb dJ1_newString_b4f7a_0 rfl (lv_at hl.1 2 rfl) ?_
  refine lv_if_ne (tgt := 7) hx hb dJ1_newString_b4f7a_1 (by decide) (fun h8 => ?_) (fun h8 => ?_)
  · have hf := vg_if h8 hf
    refine vg_new X hH fN_J1_1 dJ1_newString_b4f7a_7 hf hC hN hRc hRs (fun a1 μ2 cn nn H hf hC hN hH => ?_)
    refine lv_dup hx hb dJ1_newString_b4f7a_10 rfl ?_
    refine vg_aload_n hx hb dJ1_newString_b4f7a_11 rfl (lv_at hl.1 0 rfl) ?_
    refine lv_iload_n hx hb dJ1_newString_b4f7a_12 rfl (lv_at hl.1 1 rfl) ?_
    refine lv_iload_n hx hb dJ1_newString_b4f7a_13 rfl (lv_at hl.1 1 rfl) ?_
    refine lv_iload_n hx hb dJ1_newString_b4f7a_14 rfl (lv_at hl.1 2 rfl) ?_
    refine lv_iadd hx hb dJ1_newString_b4f7a_15 ?_
    refine vg_callSr X hml hl hH hL fCS_J1_232 [va_rf v0, .int v1, .int (v1 + v2)] rfl rfl (Nat.le_of_ble_eq_true rfl) dJ1_newString_b4f7a_16 hf hC hN hRc hRs hfr hlo (by decide) (fun _ _ _ _ h => cJ7_copyOfRange_39247_met h) (fun x3 μ4 cn nn H locs cells slots hf hC hN hH hL => ?_)
    refine lv_iconst (v := 0) hx hb dJ1_newString_b4f7a_19 (by decide) ?_
    refine vg_callIv X hml hl hH hL fCI_J1_112 [va_rf x3, .int 0] rfl rfl (Nat.le_of_ble_eq_true rfl) dJ1_newString_b4f7a_20 hf hC hN hRc hRs hfr hlo (by decide) (fun _ _ _ _ h => cJ0_init_031fb_met h) (fun _ μ6 cn nn H locs cells slots hf hC hN hH hL => ?_)
    exact vg_reta X (by simp) hr hlk hH hL dJ1_newString_b4f7a_23 hf hC hN
  · have hf := vg_ip h8 hf
    refine vg_ldcS X hH (show (RJ1, 151, "", 1) ∈ vg_lits from List.mem_of_getElem? (i := 1) (by decide +kernel)) dJ1_newString_b4f7a_4 hf (fun a7 hf => ?_)
    exact vg_reta X (by simp) hr hlk hH hL dJ1_newString_b4f7a_6 hf hC hN
def fJ0_substring_37a41_22  (v0 : Nat) (v1 : Int32) (v2 : Int32) (μ : vg_M) : vg_R (Option Nat) :=
  vg_cv 0 v0 μ (fJ0_isLatin1_aae02 v0  μ) fun x1 μ2 =>
  if x1 = 0 then (
   vg_o (vg_gR μ2 v0 0 0) fun x3 =>
   none
   ) else (
   vg_o (vg_gR μ2 v0 0 0) fun x4 =>
   vg_b (fJ1_newString_b4f7a x4 v1 (v2 - v1) μ2) fun x5 μ6 =>
   vg_ret x5 μ6
   )
set_option maxHeartbeats 4000000 in
set_option maxRecDepth 100000 in
theorem wJ0_substring_37a41_22 {p : Program} {l : Launch} {e : Env} {R : Room} {s : State} {m : MethodId} {args : Array Value} {below : List Frame} {meth : Method} {c : Code} {D : va_G} {cy : Nat → ClassId} {H0 : Heap} {C0 N0 : Nat} {r : (Option Nat)} {μ' : vg_M} (Z : vg_Z D cy H0 p s m args c cJ0_substring_37a41 RJ0 meth 5 (some (.object "java/lang/String")) R 16 C0 N0 "substring")   (v0 : Nat) (v1 : Int32) (v2 : Int32) (μ : vg_M) : vg_S p l e R s m args below meth c D cy H0 C0 N0 5 (MQ below (vg_Qc D cy H0 μ' (some (va_rf r))) args s C0 N0 (vg_fr H0)) r μ' (fJ0_substring_37a41_22  v0 v1 v2 μ) μ [(0, .ref v0), (1, .int v1), (2, .int v2)] [] 22 := by
  intro cn nn H locs cells slots ls hf hH hL hC hN hl
  obtain ⟨X, hml, hr, hlk, hfr, hlo, hRc, hRs, hnm⟩ := id Z
  have hx := X.1
  have hb := X.2.1
  delta fJ0_substring_37a41_22 at hf
  refine lv_iload_n hx hb dJ0_substring_37a41_22 rfl (lv_at hl.1 2 rfl) ?_
  refine lv_iload_n hx hb dJ0_substring_37a41_23 rfl (lv_at hl.1 1 rfl) ?_
  refine lv_isub hx hb dJ0_substring_37a41_24 ?_
  refine vg_istore (lv' := [(4, .int (v2 - v1)), (0, .ref v0), (1, .int v1), (2, .int v2)]) hx hb dJ0_substring_37a41_25 hl (by decide) rfl (fun ls hl => ?_)
  refine lv_aload_n hx hb dJ0_substring_37a41_27 rfl (lv_at hl.1 1 rfl) ?_
  refine vg_callVi (ci := 0) X hml hl hH hL fCV_J0_492 rfl [] rfl rfl (Nat.le_of_ble_eq_true rfl) dJ0_substring_37a41_28 hf hC hN hRc hRs hfr hlo (by decide) (fun _ _ _ _ h => cJ0_isLatin1_aae02_met h) (fun x1 μ2 cn nn H locs cells slots hf hC hN hH hL => ?_)
  refine lv_if_eq (tgt := 47) hx hb dJ0_substring_37a41_31 (by decide) (fun h8 => ?_) (fun h8 => ?_)
  · have hf := vg_ip h8 hf
    refine lv_aload_n hx hb dJ0_substring_37a41_47 rfl (lv_at hl.1 1 rfl) ?_
    refine vg_getR X hH fF_J0_9 dJ0_substring_37a41_48 hf (fun x3 hf => ?_)
    refine lv_iload_n hx hb dJ0_substring_37a41_51 rfl (lv_at hl.1 2 rfl) ?_
    refine lv_iload hx hb dJ0_substring_37a41_52 (lv_at hl.1 0 rfl) ?_
    cases hf
  · have hf := vg_if h8 hf
    refine lv_aload_n hx hb dJ0_substring_37a41_34 rfl (lv_at hl.1 1 rfl) ?_
    refine vg_getR X hH fF_J0_9 dJ0_substring_37a41_35 hf (fun x4 hf => ?_)
    refine lv_iload_n hx hb dJ0_substring_37a41_38 rfl (lv_at hl.1 2 rfl) ?_
    refine lv_iload hx hb dJ0_substring_37a41_39 (lv_at hl.1 0 rfl) ?_
    refine vg_callSr X hml hl hH hL fCS_J0_685 [va_rf x4, .int v1, .int (v2 - v1)] rfl rfl (Nat.le_of_ble_eq_true rfl) dJ0_substring_37a41_41 hf hC hN hRc hRs hfr hlo (by decide) (fun _ _ _ _ h => cJ1_newString_b4f7a_met h) (fun x5 μ6 cn nn H locs cells slots hf hC hN hH hL => ?_)
    refine lv_goto (tgt := 57) hx hb dJ0_substring_37a41_44 (by decide) ?_
    exact vg_reta X (by simp) hr hlk hH hL dJ0_substring_37a41_57 hf hC hN
def fJ0_substring_37a41 (v0 : Nat) (v1 : Int32) (v2 : Int32) (μ : vg_M) : vg_R (Option Nat) :=
  vg_cv 0 v0 μ (fJ0_length_8abf5 v0  μ) fun x7 μ8 =>
  vg_b (fJ0_checkBoundsBeginEnd_23922 v1 v2 x7 μ8) fun _ μ10 =>
  if v1 = 0 then (
   if v2 = x7 then (
    vg_ret (some v0) μ10
    ) else (
    fJ0_substring_37a41_22  v0 v1 v2 μ10
    )
   ) else (
   fJ0_substring_37a41_22  v0 v1 v2 μ10
   )
set_option maxHeartbeats 4000000 in
set_option maxRecDepth 100000 in
theorem cJ0_substring_37a41_met {l : Launch} {D : va_G} {cy : Nat → ClassId} {H0 : Heap} {r : (Option Nat)} {μ μ' : vg_M} {cn nn : Nat} {v0 : Nat} {v1 : Int32} {v2 : Int32} (hf : fJ0_substring_37a41 v0 v1 v2 μ = some (r, μ', cn, nn)) : vg_Met l D cy H0 yJ0_substring_37a41 cJ0_substring_37a41 5 (some (.object "java/lang/String")) 16 μ [.ref v0, .int v1, .int v2] (some (va_rf r)) μ' cn nn := by
  refine vg_start (by decide +kernel) (List.forall_mem_cons.mpr ⟨rfl, (List.forall_mem_cons.mpr ⟨rfl, (List.forall_mem_cons.mpr ⟨rfl, (fun _ h => nomatch h)⟩)⟩)⟩) (Nat.le_of_ble_eq_true rfl) ?_
  intro p e s m below meth c ls X hml hr hlk hnm hH hl
  have hl : vg_l ls 5 [(0, .ref v0), (1, .int v1), (2, .int v2)] := hl
  have Z : vg_Z D cy H0 p s m _ c cJ0_substring_37a41 RJ0 meth 5 (some (.object "java/lang/String")) (vg_rm 16 cn nn) 16 cn nn _ := ⟨X, hml, hr, hlk, Nat.le_refl _, Nat.le_refl _, Nat.le_refl _, Nat.le_refl _, hnm⟩
  obtain ⟨-, -, -, -, hfr, hlo, hRc, hRs, -⟩ := id Z
  have hx := X.1
  have hb := X.2.1
  have hL : ∀ z ∈ ([] : List Loc), H0.size ≤ z.base := fun _ h => nomatch h
  have hC : 0 + cn = cn := Nat.zero_add _
  have hN : 0 + nn = nn := Nat.zero_add _
  delta fJ0_substring_37a41 at hf
  refine lv_aload_n hx hb dJ0_substring_37a41_0 rfl (lv_at hl.1 0 rfl) ?_
  refine vg_callVi (ci := 0) X hml hl hH hL fCV_J0_505 rfl [] rfl rfl (Nat.le_of_ble_eq_true rfl) dJ0_substring_37a41_1 hf hC hN hRc hRs hfr hlo (by decide) (fun _ _ _ _ h => cJ0_length_8abf5_met h) (fun x7 μ8 cn nn H locs cells slots hf hC hN hH hL => ?_)
  refine vg_istore_n (lv' := [(3, .int x7), (0, .ref v0), (1, .int v1), (2, .int v2)]) hx hb dJ0_substring_37a41_4 rfl hl (by decide) rfl (fun ls hl => ?_)
  refine lv_iload_n hx hb dJ0_substring_37a41_5 rfl (lv_at hl.1 2 rfl) ?_
  refine lv_iload_n hx hb dJ0_substring_37a41_6 rfl (lv_at hl.1 3 rfl) ?_
  refine lv_iload_n hx hb dJ0_substring_37a41_7 rfl (lv_at hl.1 0 rfl) ?_
  refine vg_callSv X hml hl hH hL fCS_J0_521 [.int v1, .int v2, .int x7] rfl rfl (Nat.le_of_ble_eq_true rfl) dJ0_substring_37a41_8 hf hC hN hRc hRs hfr hlo (by decide) (fun _ _ _ _ h => cJ0_checkBoundsBeginEnd_23922_met h) (fun _ μ10 cn nn H locs cells slots hf hC hN hH hL => ?_)
  refine lv_iload_n hx hb dJ0_substring_37a41_11 rfl (lv_at hl.1 2 rfl) ?_
  refine lv_if_ne (tgt := 22) hx hb dJ0_substring_37a41_12 (by decide) (fun h8 => ?_) (fun h8 => ?_)
  · have hf := vg_if h8 hf
    exact wJ0_substring_37a41_22 Z  v0 v1 v2 μ10 _ _ _ _ _ _ _ hf hH hL hC hN (hl.sub [1, 2, 3] rfl)
  · have hf := vg_ip h8 hf
    refine lv_iload_n hx hb dJ0_substring_37a41_15 rfl (lv_at hl.1 3 rfl) ?_
    refine lv_iload_n hx hb dJ0_substring_37a41_16 rfl (lv_at hl.1 0 rfl) ?_
    refine lv_icmp_ne (tgt := 22) hx hb dJ0_substring_37a41_17 (by decide) (fun h8 => ?_) (fun h8 => ?_)
    · have hf := vg_if h8 hf
      exact wJ0_substring_37a41_22 Z  v0 v1 v2 μ10 _ _ _ _ _ _ _ hf hH hL hC hN (hl.sub [1, 2, 3] rfl)
    · have hf := vg_ip h8 hf
      refine lv_aload_n hx hb dJ0_substring_37a41_20 rfl (lv_at hl.1 1 rfl) ?_
      exact vg_reta X (by simp) hr hlk hH hL dJ0_substring_37a41_21 hf hC hN
def fJ15_checkIndex_7cf53 (v0 : Int32) (v1 : Int32) (μ : vg_M) : vg_R Int32 :=
  vg_b (fJ3_checkIndex_8e157 v0 v1 none μ) fun x1 μ2 =>
  vg_ret x1 μ2
set_option maxHeartbeats 4000000 in
set_option maxRecDepth 100000 in
theorem cJ15_checkIndex_7cf53_met {l : Launch} {D : va_G} {cy : Nat → ClassId} {H0 : Heap} {r : Int32} {μ μ' : vg_M} {cn nn : Nat} {v0 : Int32} {v1 : Int32} (hf : fJ15_checkIndex_7cf53 v0 v1 μ = some (r, μ', cn, nn)) : vg_Met l D cy H0 yJ15_checkIndex_7cf53 cJ15_checkIndex_7cf53 2 (some .int) 13 μ [.int v0, .int v1] (some (.int r)) μ' cn nn := by
  refine vg_start (by decide +kernel) (List.forall_mem_cons.mpr ⟨rfl, (List.forall_mem_cons.mpr ⟨rfl, (fun _ h => nomatch h)⟩)⟩) (Nat.le_of_ble_eq_true rfl) ?_
  intro p e s m below meth c ls X hml hr hlk hnm hH hl
  have hl : vg_l ls 2 [(0, .int v0), (1, .int v1)] := hl
  have Z : vg_Z D cy H0 p s m _ c cJ15_checkIndex_7cf53 RJ15 meth 2 (some .int) (vg_rm 13 cn nn) 13 cn nn _ := ⟨X, hml, hr, hlk, Nat.le_refl _, Nat.le_refl _, Nat.le_refl _, Nat.le_refl _, hnm⟩
  obtain ⟨-, -, -, -, hfr, hlo, hRc, hRs, -⟩ := id Z
  have hx := X.1
  have hb := X.2.1
  have hL : ∀ z ∈ ([] : List Loc), H0.size ≤ z.base := fun _ h => nomatch h
  have hC : 0 + cn = cn := Nat.zero_add _
  have hN : 0 + nn = nn := Nat.zero_add _
  delta fJ15_checkIndex_7cf53 at hf
  refine lv_iload_n hx hb dJ15_checkIndex_7cf53_0 rfl (lv_at hl.1 0 rfl) ?_
  refine lv_iload_n hx hb dJ15_checkIndex_7cf53_1 rfl (lv_at hl.1 1 rfl) ?_
  refine lv_null hx hb dJ15_checkIndex_7cf53_2 ?_
  refine vg_callSi X hml hl hH hL fCS_J15_105 [.int v0, .int v1, .null] rfl rfl (Nat.le_of_ble_eq_true rfl) dJ15_checkIndex_7cf53_3 hf hC hN hRc hRs hfr hlo (by decide) (fun _ _ _ _ h => cJ3_checkIndex_8e157_met h) (fun x1 μ2 cn nn H locs cells slots hf hC hN hH hL => ?_)
  exact vg_reti X hr hlk hH hL dJ15_checkIndex_7cf53_6 hf hC hN
def fJ1_canEncode_fc78d_12  (k0 : Int32) (μ : vg_M) : vg_R Int32 :=
  vg_o (vg_z .boolean k0) fun z => vg_ret z μ
set_option maxHeartbeats 4000000 in
set_option maxRecDepth 100000 in
theorem wJ1_canEncode_fc78d_12 {p : Program} {l : Launch} {e : Env} {R : Room} {s : State} {m : MethodId} {args : Array Value} {below : List Frame} {meth : Method} {c : Code} {D : va_G} {cy : Nat → ClassId} {H0 : Heap} {C0 N0 : Nat} {r : Int32} {μ' : vg_M} (Z : vg_Z D cy H0 p s m args c cJ1_canEncode_fc78d RJ1 meth 1 (some .boolean) R 12 C0 N0 "canEncode")   (k0 : Int32) (μ : vg_M) : vg_S p l e R s m args below meth c D cy H0 C0 N0 1 (MQ below (vg_Qc D cy H0 μ' (some (.int r))) args s C0 N0 (vg_fr H0)) r μ' (fJ1_canEncode_fc78d_12  k0 μ) μ [] [.int k0] 12 := by
  intro cn nn H locs cells slots ls hf hH hL hC hN hl
  obtain ⟨X, hml, hr, hlk, hfr, hlo, hRc, hRs, hnm⟩ := id Z
  have hx := X.1
  have hb := X.2.1
  delta fJ1_canEncode_fc78d_12 at hf
  exact vg_retz X (by simp) hr hlk hH hL dJ1_canEncode_fc78d_12 hf hC hN
def fJ1_canEncode_fc78d (v0 : Int32) (μ : vg_M) : vg_R Int32 :=
  if 255 < v0 then (
   fJ1_canEncode_fc78d_12  0 μ
   ) else (
   fJ1_canEncode_fc78d_12  1 μ
   )
set_option maxHeartbeats 4000000 in
set_option maxRecDepth 100000 in
theorem cJ1_canEncode_fc78d_met {l : Launch} {D : va_G} {cy : Nat → ClassId} {H0 : Heap} {r : Int32} {μ μ' : vg_M} {cn nn : Nat} {v0 : Int32} (hf : fJ1_canEncode_fc78d v0 μ = some (r, μ', cn, nn)) : vg_Met l D cy H0 yJ1_canEncode_fc78d cJ1_canEncode_fc78d 1 (some .boolean) 12 μ [.int v0] (some (.int r)) μ' cn nn := by
  refine vg_start (by decide +kernel) (List.forall_mem_cons.mpr ⟨rfl, (fun _ h => nomatch h)⟩) (Nat.le_of_ble_eq_true rfl) ?_
  intro p e s m below meth c ls X hml hr hlk hnm hH hl
  have hl : vg_l ls 1 [(0, .int v0)] := hl
  have Z : vg_Z D cy H0 p s m _ c cJ1_canEncode_fc78d RJ1 meth 1 (some .boolean) (vg_rm 12 cn nn) 12 cn nn _ := ⟨X, hml, hr, hlk, Nat.le_refl _, Nat.le_refl _, Nat.le_refl _, Nat.le_refl _, hnm⟩
  obtain ⟨-, -, -, -, hfr, hlo, hRc, hRs, -⟩ := id Z
  have hx := X.1
  have hb := X.2.1
  have hL : ∀ z ∈ ([] : List Loc), H0.size ≤ z.base := fun _ h => nomatch h
  have hC : 0 + cn = cn := Nat.zero_add _
  have hN : 0 + nn = nn := Nat.zero_add _
  delta fJ1_canEncode_fc78d at hf
  refine lv_iload_n hx hb dJ1_canEncode_fc78d_0 rfl (lv_at hl.1 0 rfl) ?_
  refine lv_sipush (v := 255) hx hb dJ1_canEncode_fc78d_1 (by decide) ?_
  refine lv_icmp_gt (tgt := 11) hx hb dJ1_canEncode_fc78d_4 (by decide) (fun h8 => ?_) (fun h8 => ?_)
  · have hf := vg_ip h8 hf
    refine lv_iconst (v := 0) hx hb dJ1_canEncode_fc78d_11 (by decide) ?_
    exact wJ1_canEncode_fc78d_12 Z  0 μ _ _ _ _ _ _ _ hf hH hL hC hN (hl.sub [] rfl)
  · have hf := vg_if h8 hf
    refine lv_iconst (v := 1) hx hb dJ1_canEncode_fc78d_7 (by decide) ?_
    refine lv_goto (tgt := 12) hx hb dJ1_canEncode_fc78d_8 (by decide) ?_
    exact wJ1_canEncode_fc78d_12 Z  1 μ _ _ _ _ _ _ _ hf hH hL hC hN (hl.sub [] rfl)
def fJ8_newLength_cabcc_21  (v0 : Int32) (v1 : Int32) (μ : vg_M) : vg_R Int32 :=
  none
set_option maxHeartbeats 4000000 in
set_option maxRecDepth 100000 in
theorem wJ8_newLength_cabcc_21 {p : Program} {l : Launch} {e : Env} {R : Room} {s : State} {m : MethodId} {args : Array Value} {below : List Frame} {meth : Method} {c : Code} {D : va_G} {cy : Nat → ClassId} {H0 : Heap} {C0 N0 : Nat} {r : Int32} {μ' : vg_M} (Z : vg_Z D cy H0 p s m args c cJ8_newLength_cabcc RJ8 meth 4 (some .int) R 12 C0 N0 "newLength")   (v0 : Int32) (v1 : Int32) (μ : vg_M) : vg_S p l e R s m args below meth c D cy H0 C0 N0 4 (MQ below (vg_Qc D cy H0 μ' (some (.int r))) args s C0 N0 (vg_fr H0)) r μ' (fJ8_newLength_cabcc_21  v0 v1 μ) μ [(0, .int v0), (1, .int v1)] [] 21 := by
  intro cn nn H locs cells slots ls hf hH hL hC hN hl
  obtain ⟨X, hml, hr, hlk, hfr, hlo, hRc, hRs, hnm⟩ := id Z
  have hx := X.1
  have hb := X.2.1
  delta fJ8_newLength_cabcc_21 at hf
  refine lv_iload_n hx hb dJ8_newLength_cabcc_21 rfl (lv_at hl.1 0 rfl) ?_
  refine lv_iload_n hx hb dJ8_newLength_cabcc_22 rfl (lv_at hl.1 1 rfl) ?_
  cases hf
def fJ8_newLength_cabcc (v0 : Int32) (v1 : Int32) (v2 : Int32) (μ : vg_M) : vg_R Int32 :=
  if (v0 + (if v1 < v2 then v2 else v1)) ≤ 0 then (
   fJ8_newLength_cabcc_21  v0 v1 μ
   ) else (
   if 2147483639 < (v0 + (if v1 < v2 then v2 else v1)) then (
    fJ8_newLength_cabcc_21  v0 v1 μ
    ) else (
    vg_ret (v0 + (if v1 < v2 then v2 else v1)) μ
    )
   )
set_option maxHeartbeats 4000000 in
set_option maxRecDepth 100000 in
theorem cJ8_newLength_cabcc_met {l : Launch} {D : va_G} {cy : Nat → ClassId} {H0 : Heap} {r : Int32} {μ μ' : vg_M} {cn nn : Nat} {v0 : Int32} {v1 : Int32} {v2 : Int32} (hf : fJ8_newLength_cabcc v0 v1 v2 μ = some (r, μ', cn, nn)) : vg_Met l D cy H0 yJ8_newLength_cabcc cJ8_newLength_cabcc 4 (some .int) 12 μ [.int v0, .int v1, .int v2] (some (.int r)) μ' cn nn := by
  refine vg_start (by decide +kernel) (List.forall_mem_cons.mpr ⟨rfl, (List.forall_mem_cons.mpr ⟨rfl, (List.forall_mem_cons.mpr ⟨rfl, (fun _ h => nomatch h)⟩)⟩)⟩) (Nat.le_of_ble_eq_true rfl) ?_
  intro p e s m below meth c ls X hml hr hlk hnm hH hl
  have hl : vg_l ls 4 [(0, .int v0), (1, .int v1), (2, .int v2)] := hl
  have Z : vg_Z D cy H0 p s m _ c cJ8_newLength_cabcc RJ8 meth 4 (some .int) (vg_rm 12 cn nn) 12 cn nn _ := ⟨X, hml, hr, hlk, Nat.le_refl _, Nat.le_refl _, Nat.le_refl _, Nat.le_refl _, hnm⟩
  obtain ⟨-, -, -, -, hfr, hlo, hRc, hRs, -⟩ := id Z
  have hx := X.1
  have hb := X.2.1
  have hL : ∀ z ∈ ([] : List Loc), H0.size ≤ z.base := fun _ h => nomatch h
  have hC : 0 + cn = cn := Nat.zero_add _
  have hN : 0 + nn = nn := Nat.zero_add _
  delta fJ8_newLength_cabcc at hf
  refine lv_iload_n hx hb dJ8_newLength_cabcc_0 rfl (lv_at hl.1 0 rfl) ?_
  refine lv_iload_n hx hb dJ8_newLength_cabcc_1 rfl (lv_at hl.1 1 rfl) ?_
  refine lv_iload_n hx hb dJ8_newLength_cabcc_2 rfl (lv_at hl.1 2 rfl) ?_
  refine vg_mmax X hml hl kw_457798384 kw_365850442 kw_386489653 kw_226353876 (Nat.le_of_ble_eq_true rfl) hC hN hRc hRs (Nat.le_trans (by decide) hfr) (Nat.le_trans (by decide) hlo) dJ8_newLength_cabcc_3 ?_
  refine lv_iadd hx hb dJ8_newLength_cabcc_6 ?_
  refine vg_istore_n (lv' := [(3, .int (v0 + (if v1 < v2 then v2 else v1))), (0, .int v0), (1, .int v1), (2, .int v2)]) hx hb dJ8_newLength_cabcc_7 rfl hl (by decide) rfl (fun ls hl => ?_)
  refine lv_iconst (v := 0) hx hb dJ8_newLength_cabcc_8 (by decide) ?_
  refine lv_iload_n hx hb dJ8_newLength_cabcc_9 rfl (lv_at hl.1 0 rfl) ?_
  refine lv_icmp_ge (tgt := 21) hx hb dJ8_newLength_cabcc_10 (by decide) (fun h8 => ?_) (fun h8 => ?_)
  · have hf := vg_ip h8 hf
    exact wJ8_newLength_cabcc_21 Z  v0 v1 μ _ _ _ _ _ _ _ hf hH hL hC hN (hl.sub [1, 2] rfl)
  · have hf := vg_if h8 hf
    refine lv_iload_n hx hb dJ8_newLength_cabcc_13 rfl (lv_at hl.1 0 rfl) ?_
    refine lv_ldc (v := 2147483639) hx hb X.2.2.2.1 (X.2.2.1 _ kw_147755404) dJ8_newLength_cabcc_14 ?_
    refine lv_icmp_gt (tgt := 21) hx hb dJ8_newLength_cabcc_16 (by decide) (fun h8 => ?_) (fun h8 => ?_)
    · have hf := vg_ip h8 hf
      exact wJ8_newLength_cabcc_21 Z  v0 v1 μ _ _ _ _ _ _ _ hf hH hL hC hN (hl.sub [1, 2] rfl)
    · have hf := vg_if h8 hf
      refine lv_iload_n hx hb dJ8_newLength_cabcc_19 rfl (lv_at hl.1 0 rfl) ?_
      exact vg_reti X hr hlk hH hL dJ8_newLength_cabcc_20 hf hC hN
def fJ5_newCapacity_0f7a4 (v0 : Nat) (v1 : Int32) (μ : vg_M) : vg_R Int32 :=
  vg_o (vg_gR μ v0 1 0) fun x1 =>
  vg_o x1 fun a2 =>
  vg_o (vg_al μ a2) fun x3 =>
  vg_o (vg_gI μ v0 1 1) fun x4 =>
  vg_o (vg_gI μ v0 1 1) fun x5 =>
  vg_b (fJ8_newLength_cabcc x3 ((v1 <<< (x4 &&& 31)) - x3) (x3 + (2 <<< (x5 &&& 31))) μ) fun x6 μ7 =>
  if x6 = 2147483647 then (
   none
   ) else (
   vg_o (vg_gI μ7 v0 1 1) fun x8 =>
   vg_ret (x6 >>> (x8 &&& 31)) μ7
   )
set_option maxHeartbeats 4000000 in
set_option maxRecDepth 100000 in
theorem cJ5_newCapacity_0f7a4_met {l : Launch} {D : va_G} {cy : Nat → ClassId} {H0 : Heap} {r : Int32} {μ μ' : vg_M} {cn nn : Nat} {v0 : Nat} {v1 : Int32} (hf : fJ5_newCapacity_0f7a4 v0 v1 μ = some (r, μ', cn, nn)) : vg_Met l D cy H0 yJ5_newCapacity_0f7a4 cJ5_newCapacity_0f7a4 6 (some .int) 13 μ [.ref v0, .int v1] (some (.int r)) μ' cn nn := by
  refine vg_start (by decide +kernel) (List.forall_mem_cons.mpr ⟨rfl, (List.forall_mem_cons.mpr ⟨rfl, (fun _ h => nomatch h)⟩)⟩) (Nat.le_of_ble_eq_true rfl) ?_
  intro p e s m below meth c ls X hml hr hlk hnm hH hl
  have hl : vg_l ls 6 [(0, .ref v0), (1, .int v1)] := hl
  have Z : vg_Z D cy H0 p s m _ c cJ5_newCapacity_0f7a4 RJ5 meth 6 (some .int) (vg_rm 13 cn nn) 13 cn nn _ := ⟨X, hml, hr, hlk, Nat.le_refl _, Nat.le_refl _, Nat.le_refl _, Nat.le_refl _, hnm⟩
  obtain ⟨-, -, -, -, hfr, hlo, hRc, hRs, -⟩ := id Z
  have hx := X.1
  have hb := X.2.1
  have hL : ∀ z ∈ ([] : List Loc), H0.size ≤ z.base := fun _ h => nomatch h
  have hC : 0 + cn = cn := Nat.zero_add _
  have hN : 0 + nn = nn := Nat.zero_add _
  delta fJ5_newCapacity_0f7a4 at hf
  refine lv_aload_n hx hb dJ5_newCapacity_0f7a4_0 rfl (lv_at hl.1 0 rfl) ?_
  refine vg_getR X hH fF_J5_15 dJ5_newCapacity_0f7a4_1 hf (fun x1 hf => ?_)
  obtain ⟨a2, h9, hg⟩ := vg_o_inv hf
  clear hf
  subst h9
  have hf := hg
  clear hg
  refine vg_alen X hH dJ5_newCapacity_0f7a4_4 hf (fun x3 hf => ?_)
  refine vg_istore_n (lv' := [(2, .int x3), (0, .ref v0), (1, .int v1)]) hx hb dJ5_newCapacity_0f7a4_5 rfl hl (by decide) rfl (fun ls hl => ?_)
  refine lv_iload_n hx hb dJ5_newCapacity_0f7a4_6 rfl (lv_at hl.1 2 rfl) ?_
  refine lv_aload_n hx hb dJ5_newCapacity_0f7a4_7 rfl (lv_at hl.1 1 rfl) ?_
  refine vg_getI X hH fF_J5_22 dJ5_newCapacity_0f7a4_8 hf (fun x4 hf => ?_)
  refine lv_ishl hx hb dJ5_newCapacity_0f7a4_11 ?_
  refine vg_istore_n (lv' := [(3, .int (v1 <<< (x4 &&& 31))), (2, .int x3), (0, .ref v0), (1, .int v1)]) hx hb dJ5_newCapacity_0f7a4_12 rfl hl (by decide) rfl (fun ls hl => ?_)
  refine lv_iload_n hx hb dJ5_newCapacity_0f7a4_13 rfl (lv_at hl.1 0 rfl) ?_
  refine lv_iload_n hx hb dJ5_newCapacity_0f7a4_14 rfl (lv_at hl.1 1 rfl) ?_
  refine lv_isub hx hb dJ5_newCapacity_0f7a4_15 ?_
  refine vg_istore (lv' := [(4, .int ((v1 <<< (x4 &&& 31)) - x3)), (3, .int (v1 <<< (x4 &&& 31))), (2, .int x3), (0, .ref v0), (1, .int v1)]) hx hb dJ5_newCapacity_0f7a4_16 hl (by decide) rfl (fun ls hl => ?_)
  refine lv_iload_n hx hb dJ5_newCapacity_0f7a4_18 rfl (lv_at hl.1 2 rfl) ?_
  refine lv_iload hx hb dJ5_newCapacity_0f7a4_19 (lv_at hl.1 0 rfl) ?_
  refine lv_iload_n hx hb dJ5_newCapacity_0f7a4_21 rfl (lv_at hl.1 2 rfl) ?_
  refine lv_iconst (v := 2) hx hb dJ5_newCapacity_0f7a4_22 (by decide) ?_
  refine lv_aload_n hx hb dJ5_newCapacity_0f7a4_23 rfl (lv_at hl.1 3 rfl) ?_
  refine vg_getI X hH fF_J5_22 dJ5_newCapacity_0f7a4_24 hf (fun x5 hf => ?_)
  refine lv_ishl hx hb dJ5_newCapacity_0f7a4_27 ?_
  refine lv_iadd hx hb dJ5_newCapacity_0f7a4_28 ?_
  refine vg_callSi X hml hl hH hL fCS_J5_114 [.int x3, .int ((v1 <<< (x4 &&& 31)) - x3), .int (x3 + (2 <<< (x5 &&& 31)))] rfl rfl (Nat.le_of_ble_eq_true rfl) dJ5_newCapacity_0f7a4_29 hf hC hN hRc hRs hfr hlo (by decide) (fun _ _ _ _ h => cJ8_newLength_cabcc_met h) (fun x6 μ7 cn nn H locs cells slots hf hC hN hH hL => ?_)
  refine vg_istore (lv' := [(5, .int x6), (4, .int ((v1 <<< (x4 &&& 31)) - x3)), (3, .int (v1 <<< (x4 &&& 31))), (2, .int x3), (0, .ref v0), (1, .int v1)]) hx hb dJ5_newCapacity_0f7a4_32 hl (by decide) rfl (fun ls hl => ?_)
  refine lv_iload hx hb dJ5_newCapacity_0f7a4_34 (lv_at hl.1 0 rfl) ?_
  refine lv_ldc (v := 2147483647) hx hb X.2.2.2.1 (X.2.2.1 _ kw_41634479) dJ5_newCapacity_0f7a4_36 ?_
  refine lv_icmp_ne (tgt := 51) hx hb dJ5_newCapacity_0f7a4_38 (by decide) (fun h8 => ?_) (fun h8 => ?_)
  · have hf := vg_if h8 hf
    refine lv_iload hx hb dJ5_newCapacity_0f7a4_51 (lv_at hl.1 0 rfl) ?_
    refine lv_aload_n hx hb dJ5_newCapacity_0f7a4_53 rfl (lv_at hl.1 4 rfl) ?_
    refine vg_getI X hH fF_J5_22 dJ5_newCapacity_0f7a4_54 hf (fun x8 hf => ?_)
    refine lv_ishr hx hb dJ5_newCapacity_0f7a4_57 ?_
    exact vg_reti X hr hlk hH hL dJ5_newCapacity_0f7a4_58 hf hC hN
  · have hf := vg_ip h8 hf
    cases hf
def fJ7_copyOf_9075b (v0 : Option Nat) (v1 : Int32) (μ : vg_M) : vg_R (Option Nat) :=
  vg_o v0 fun a1 =>
  vg_o (vg_al μ a1) fun x2 =>
  if v1 = x2 then (
   vg_cl μ a1 fun a7 μ8 =>
   vg_cka μ8 a7 0 <|
   vg_ret (some a7) μ8
   ) else (
   vg_o (vg_len v1) fun n => vg_nw n μ.2.1 (vg_nA μ 0 n) fun a3 μ4 =>
   vg_o (vg_al μ4 a1) fun x5 =>
   vg_o (vg_cpB μ4 a1 0 a3 0 (if v1 < x5 then v1 else x5)) fun μ6 =>
   vg_ret (some a3) μ6
   )
set_option maxHeartbeats 4000000 in
set_option maxRecDepth 100000 in
theorem cJ7_copyOf_9075b_met {l : Launch} {D : va_G} {cy : Nat → ClassId} {H0 : Heap} {r : (Option Nat)} {μ μ' : vg_M} {cn nn : Nat} {v0 : Option Nat} {v1 : Int32} (hf : fJ7_copyOf_9075b v0 v1 μ = some (r, μ', cn, nn)) : vg_Met l D cy H0 yJ7_copyOf_9075b cJ7_copyOf_9075b 3 (some (.array .byte)) 12 μ [va_rf v0, .int v1] (some (va_rf r)) μ' cn nn := by
  refine vg_start (by decide +kernel) (List.forall_mem_cons.mpr ⟨vg_rfc _, (List.forall_mem_cons.mpr ⟨rfl, (fun _ h => nomatch h)⟩)⟩) (Nat.le_of_ble_eq_true rfl) ?_
  intro p e s m below meth c ls X hml hr hlk hnm hH hl
  have hl : vg_l ls 3 [(0, va_rf v0), (1, .int v1)] := hl
  have Z : vg_Z D cy H0 p s m _ c cJ7_copyOf_9075b RJ7 meth 3 (some (.array .byte)) (vg_rm 12 cn nn) 12 cn nn _ := ⟨X, hml, hr, hlk, Nat.le_refl _, Nat.le_refl _, Nat.le_refl _, Nat.le_refl _, hnm⟩
  obtain ⟨-, -, -, -, hfr, hlo, hRc, hRs, -⟩ := id Z
  have hx := X.1
  have hb := X.2.1
  have hL : ∀ z ∈ ([] : List Loc), H0.size ≤ z.base := fun _ h => nomatch h
  have hC : 0 + cn = cn := Nat.zero_add _
  have hN : 0 + nn = nn := Nat.zero_add _
  delta fJ7_copyOf_9075b at hf
  refine lv_iload_n hx hb dJ7_copyOf_9075b_0 rfl (lv_at hl.1 1 rfl) ?_
  refine vg_aload_n hx hb dJ7_copyOf_9075b_1 rfl (lv_at hl.1 0 rfl) ?_
  obtain ⟨a1, h9, hg⟩ := vg_o_inv hf
  clear hf
  subst h9
  have hf := hg
  clear hg
  refine vg_alen X hH dJ7_copyOf_9075b_2 hf (fun x2 hf => ?_)
  refine lv_icmp_ne (tgt := 14) hx hb dJ7_copyOf_9075b_3 (by decide) (fun h8 => ?_) (fun h8 => ?_)
  · have hf := vg_if h8 hf
    refine lv_iload_n hx hb dJ7_copyOf_9075b_14 rfl (lv_at hl.1 1 rfl) ?_
    refine vg_newa X hH (atype := .byte) (t := 0) kw_180627857 rfl (by decide) dJ7_copyOf_9075b_15 hf hC hN hRc hRs (fun _ a3 μ4 cn nn H hf hC hN hH => ?_)
    refine vg_astore_n (x := some a3) (lv' := [(2, .ref a3), (0, .ref a1), (1, .int v1)]) hx hb dJ7_copyOf_9075b_17 rfl hl (by decide) rfl (fun ls hl => ?_)
    refine lv_aload_n hx hb dJ7_copyOf_9075b_18 rfl (lv_at hl.1 1 rfl) ?_
    refine lv_iconst (v := 0) hx hb dJ7_copyOf_9075b_19 (by decide) ?_
    refine lv_aload_n hx hb dJ7_copyOf_9075b_20 rfl (lv_at hl.1 0 rfl) ?_
    refine lv_iconst (v := 0) hx hb dJ7_copyOf_9075b_21 (by decide) ?_
    refine lv_aload_n hx hb dJ7_copyOf_9075b_22 rfl (lv_at hl.1 1 rfl) ?_
    refine vg_alen X hH dJ7_copyOf_9075b_23 hf (fun x5 hf => ?_)
    refine lv_iload_n hx hb dJ7_copyOf_9075b_24 rfl (lv_at hl.1 2 rfl) ?_
    refine vg_mmin X hml hl kw_186725841 kw_875827865 kw_386489653 kw_394918299 (Nat.le_of_ble_eq_true rfl) hC hN hRc hRs (Nat.le_trans (by decide) hfr) (Nat.le_trans (by decide) hlo) dJ7_copyOf_9075b_25 ?_
    refine vg_acopyB X hml hl hH hL kw_120856667 kw_93826578 kw_984968033 kw_630143193 (Nat.le_of_ble_eq_true rfl) (Nat.le_trans (by decide) hfr) (Nat.le_trans (by decide) hlo) dJ7_copyOf_9075b_28 hf (fun μ6 H locs hf hH hL => ?_)
    refine lv_aload_n hx hb dJ7_copyOf_9075b_31 rfl (lv_at hl.1 0 rfl) ?_
    exact vg_reta X (by simp) hr hlk hH hL dJ7_copyOf_9075b_32 hf hC hN
  · have hf := vg_ip h8 hf
    refine lv_aload_n hx hb dJ7_copyOf_9075b_6 rfl (lv_at hl.1 0 rfl) ?_
    refine vg_clone X hml hl hH kw_718439370 kw_701103453 kw_380930768 kw_67871540 kw_491343065 (Nat.le_of_ble_eq_true rfl) (Nat.le_trans (by decide) hfr) (Nat.le_trans (by decide) hlo) dJ7_copyOf_9075b_7 hf hC hN hRc hRs (fun a7 μ8 cn nn H cells slots hf hC hN hH => ?_)
    refine vg_castB X hH kw_38243193 dJ7_copyOf_9075b_10 hf (fun hf => ?_)
    exact vg_reta X (by simp) hr hlk hH hL dJ7_copyOf_9075b_13 hf hC hN
def fJ5_ensureCapacityInternal_d00df_38   (μ : vg_M) : vg_R Unit :=
  vg_ret () μ
set_option maxHeartbeats 4000000 in
set_option maxRecDepth 100000 in
theorem wJ5_ensureCapacityInternal_d00df_38 {p : Program} {l : Launch} {e : Env} {R : Room} {s : State} {m : MethodId} {args : Array Value} {below : List Frame} {meth : Method} {c : Code} {D : va_G} {cy : Nat → ClassId} {H0 : Heap} {C0 N0 : Nat} {r : Unit} {μ' : vg_M} (Z : vg_Z D cy H0 p s m args c cJ5_ensureCapacityInternal_d00df RJ5 meth 3 none R 14 C0 N0 "ensureCapacityInternal")    (μ : vg_M) : vg_S p l e R s m args below meth c D cy H0 C0 N0 3 (MQ below (vg_Qc D cy H0 μ' none) args s C0 N0 (vg_fr H0)) r μ' (fJ5_ensureCapacityInternal_d00df_38   μ) μ [] [] 38 := by
  intro cn nn H locs cells slots ls hf hH hL hC hN hl
  obtain ⟨X, hml, hr, hlk, hfr, hlo, hRc, hRs, hnm⟩ := id Z
  have hx := X.1
  have hb := X.2.1
  delta fJ5_ensureCapacityInternal_d00df_38 at hf
  exact vg_retv X hr hlk hH hL dJ5_ensureCapacityInternal_d00df_38 hf hC hN
def fJ5_ensureCapacityInternal_d00df (v0 : Nat) (v1 : Int32) (μ : vg_M) : vg_R Unit :=
  vg_o (vg_gR μ v0 1 0) fun x1 =>
  vg_o x1 fun a2 =>
  vg_o (vg_al μ a2) fun x3 =>
  vg_o (vg_gI μ v0 1 1) fun x4 =>
  if (v1 - (x3 >>> (x4 &&& 31))) ≤ 0 then (
   fJ5_ensureCapacityInternal_d00df_38   μ
   ) else (
   vg_o (vg_gR μ v0 1 0) fun x5 =>
   vg_cv 1 v0 μ (fJ5_newCapacity_0f7a4 v0 v1 μ) fun x6 μ7 =>
   vg_o (vg_gI μ7 v0 1 1) fun x8 =>
   vg_b (fJ7_copyOf_9075b x5 (x6 <<< (x8 &&& 31)) μ7) fun x9 μ10 =>
   vg_o (vg_p μ10 v0 1 0 (va_rf x9)) fun μ11 =>
   fJ5_ensureCapacityInternal_d00df_38   μ11
   )
set_option maxHeartbeats 4000000 in
set_option maxRecDepth 100000 in
theorem cJ5_ensureCapacityInternal_d00df_met {l : Launch} {D : va_G} {cy : Nat → ClassId} {H0 : Heap} {r : Unit} {μ μ' : vg_M} {cn nn : Nat} {v0 : Nat} {v1 : Int32} (hf : fJ5_ensureCapacityInternal_d00df v0 v1 μ = some (r, μ', cn, nn)) : vg_Met l D cy H0 yJ5_ensureCapacityInternal_d00df cJ5_ensureCapacityInternal_d00df 3 none 14 μ [.ref v0, .int v1] none μ' cn nn := by
  refine vg_start (by decide +kernel) (List.forall_mem_cons.mpr ⟨rfl, (List.forall_mem_cons.mpr ⟨rfl, (fun _ h => nomatch h)⟩)⟩) (Nat.le_of_ble_eq_true rfl) ?_
  intro p e s m below meth c ls X hml hr hlk hnm hH hl
  have hl : vg_l ls 3 [(0, .ref v0), (1, .int v1)] := hl
  have Z : vg_Z D cy H0 p s m _ c cJ5_ensureCapacityInternal_d00df RJ5 meth 3 none (vg_rm 14 cn nn) 14 cn nn _ := ⟨X, hml, hr, hlk, Nat.le_refl _, Nat.le_refl _, Nat.le_refl _, Nat.le_refl _, hnm⟩
  obtain ⟨-, -, -, -, hfr, hlo, hRc, hRs, -⟩ := id Z
  have hx := X.1
  have hb := X.2.1
  have hL : ∀ z ∈ ([] : List Loc), H0.size ≤ z.base := fun _ h => nomatch h
  have hC : 0 + cn = cn := Nat.zero_add _
  have hN : 0 + nn = nn := Nat.zero_add _
  delta fJ5_ensureCapacityInternal_d00df at hf
  refine lv_aload_n hx hb dJ5_ensureCapacityInternal_d00df_0 rfl (lv_at hl.1 0 rfl) ?_
  refine vg_getR X hH fF_J5_15 dJ5_ensureCapacityInternal_d00df_1 hf (fun x1 hf => ?_)
  obtain ⟨a2, h9, hg⟩ := vg_o_inv hf
  clear hf
  subst h9
  have hf := hg
  clear hg
  refine vg_alen X hH dJ5_ensureCapacityInternal_d00df_4 hf (fun x3 hf => ?_)
  refine lv_aload_n hx hb dJ5_ensureCapacityInternal_d00df_5 rfl (lv_at hl.1 0 rfl) ?_
  refine vg_getI X hH fF_J5_22 dJ5_ensureCapacityInternal_d00df_6 hf (fun x4 hf => ?_)
  refine lv_ishr hx hb dJ5_ensureCapacityInternal_d00df_9 ?_
  refine vg_istore_n (lv' := [(2, .int (x3 >>> (x4 &&& 31))), (0, .ref v0), (1, .int v1)]) hx hb dJ5_ensureCapacityInternal_d00df_10 rfl hl (by decide) rfl (fun ls hl => ?_)
  refine lv_iload_n hx hb dJ5_ensureCapacityInternal_d00df_11 rfl (lv_at hl.1 2 rfl) ?_
  refine lv_iload_n hx hb dJ5_ensureCapacityInternal_d00df_12 rfl (lv_at hl.1 0 rfl) ?_
  refine lv_isub hx hb dJ5_ensureCapacityInternal_d00df_13 ?_
  refine lv_if_le (tgt := 38) hx hb dJ5_ensureCapacityInternal_d00df_14 (by decide) (fun h8 => ?_) (fun h8 => ?_)
  · have hf := vg_ip h8 hf
    exact wJ5_ensureCapacityInternal_d00df_38 Z   μ _ _ _ _ _ _ _ hf hH hL hC hN (hl.sub [] rfl)
  · have hf := vg_if h8 hf
    refine lv_aload_n hx hb dJ5_ensureCapacityInternal_d00df_17 rfl (lv_at hl.1 1 rfl) ?_
    refine lv_aload_n hx hb dJ5_ensureCapacityInternal_d00df_18 rfl (lv_at hl.1 1 rfl) ?_
    refine vg_getR X hH fF_J5_15 dJ5_ensureCapacityInternal_d00df_19 hf (fun x5 hf => ?_)
    refine lv_aload_n hx hb dJ5_ensureCapacityInternal_d00df_22 rfl (lv_at hl.1 1 rfl) ?_
    refine lv_iload_n hx hb dJ5_ensureCapacityInternal_d00df_23 rfl (lv_at hl.1 2 rfl) ?_
    refine vg_callWi (ci := 1) X hml hl hH hL fCW_J5_104 rfl [.int v1] rfl rfl (vg_cs (List.forall_mem_cons.mpr ⟨vg_rfc _, (List.forall_mem_cons.mpr ⟨rfl, (fun _ h => nomatch h)⟩)⟩) (Nat.le_of_ble_eq_true rfl)) dJ5_ensureCapacityInternal_d00df_24 hf hC hN hRc hRs hfr hlo (by decide) (fun _ _ _ _ h => cJ5_newCapacity_0f7a4_met h) (fun x6 μ7 cn nn H locs cells slots hf hC hN hH hL => ?_)
    refine lv_aload_n hx hb dJ5_ensureCapacityInternal_d00df_27 rfl (lv_at hl.1 1 rfl) ?_
    refine vg_getI X hH fF_J5_22 dJ5_ensureCapacityInternal_d00df_28 hf (fun x8 hf => ?_)
    refine lv_ishl hx hb dJ5_ensureCapacityInternal_d00df_31 ?_
    refine vg_callSr X hml hl hH hL fCS_J5_108 [va_rf x5, .int (x6 <<< (x8 &&& 31))] rfl rfl (Nat.le_of_ble_eq_true rfl) dJ5_ensureCapacityInternal_d00df_32 hf hC hN hRc hRs hfr hlo (by decide) (fun _ _ _ _ h => cJ7_copyOf_9075b_met h) (fun x9 μ10 cn nn H locs cells slots hf hC hN hH hL => ?_)
    refine vg_putV X hH hL fF_J5_15 (vg_fitR (by simp) x9).1 (vg_fitR (by simp) x9).2 dJ5_ensureCapacityInternal_d00df_35 hf (fun μ11 H locs hf hH hL => ?_)
    exact wJ5_ensureCapacityInternal_d00df_38 Z   μ11 _ _ _ _ _ _ _ hf hH hL hC hN (hl.sub [] rfl)
def fJ5_inflateIfNeededFor_a7421_21   (μ : vg_M) : vg_R Unit :=
  vg_ret () μ
set_option maxHeartbeats 4000000 in
set_option maxRecDepth 100000 in
theorem wJ5_inflateIfNeededFor_a7421_21 {p : Program} {l : Launch} {e : Env} {R : Room} {s : State} {m : MethodId} {args : Array Value} {below : List Frame} {meth : Method} {c : Code} {D : va_G} {cy : Nat → ClassId} {H0 : Heap} {C0 N0 : Nat} {r : Unit} {μ' : vg_M} (Z : vg_Z D cy H0 p s m args c cJ5_inflateIfNeededFor_a7421 RJ5 meth 2 none R 13 C0 N0 "inflateIfNeededFor")    (μ : vg_M) : vg_S p l e R s m args below meth c D cy H0 C0 N0 2 (MQ below (vg_Qc D cy H0 μ' none) args s C0 N0 (vg_fr H0)) r μ' (fJ5_inflateIfNeededFor_a7421_21   μ) μ [] [] 21 := by
  intro cn nn H locs cells slots ls hf hH hL hC hN hl
  obtain ⟨X, hml, hr, hlk, hfr, hlo, hRc, hRs, hnm⟩ := id Z
  have hx := X.1
  have hb := X.2.1
  delta fJ5_inflateIfNeededFor_a7421_21 at hf
  exact vg_retv X hr hlk hH hL dJ5_inflateIfNeededFor_a7421_21 hf hC hN
def fJ5_inflateIfNeededFor_a7421 (v0 : Nat) (v1 : Option Nat) (μ : vg_M) : vg_R Unit :=
  vg_o (vg_gI μ v0 1 1) fun x1 =>
  vg_o v1 fun a2 =>
  vg_cv 0 a2 μ (fJ0_coder_7d493 a2  μ) fun x3 μ4 =>
  if x1 = x3 then (
   fJ5_inflateIfNeededFor_a7421_21   μ4
   ) else (
   none
   )
set_option maxHeartbeats 4000000 in
set_option maxRecDepth 100000 in
theorem cJ5_inflateIfNeededFor_a7421_met {l : Launch} {D : va_G} {cy : Nat → ClassId} {H0 : Heap} {r : Unit} {μ μ' : vg_M} {cn nn : Nat} {v0 : Nat} {v1 : Option Nat} (hf : fJ5_inflateIfNeededFor_a7421 v0 v1 μ = some (r, μ', cn, nn)) : vg_Met l D cy H0 yJ5_inflateIfNeededFor_a7421 cJ5_inflateIfNeededFor_a7421 2 none 13 μ [.ref v0, va_rf v1] none μ' cn nn := by
  refine vg_start (by decide +kernel) (List.forall_mem_cons.mpr ⟨rfl, (List.forall_mem_cons.mpr ⟨vg_rfc _, (fun _ h => nomatch h)⟩)⟩) (Nat.le_of_ble_eq_true rfl) ?_
  intro p e s m below meth c ls X hml hr hlk hnm hH hl
  have hl : vg_l ls 2 [(0, .ref v0), (1, va_rf v1)] := hl
  have Z : vg_Z D cy H0 p s m _ c cJ5_inflateIfNeededFor_a7421 RJ5 meth 2 none (vg_rm 13 cn nn) 13 cn nn _ := ⟨X, hml, hr, hlk, Nat.le_refl _, Nat.le_refl _, Nat.le_refl _, Nat.le_refl _, hnm⟩
  obtain ⟨-, -, -, -, hfr, hlo, hRc, hRs, -⟩ := id Z
  have hx := X.1
  have hb := X.2.1
  have hL : ∀ z ∈ ([] : List Loc), H0.size ≤ z.base := fun _ h => nomatch h
  have hC : 0 + cn = cn := Nat.zero_add _
  have hN : 0 + nn = nn := Nat.zero_add _
  delta fJ5_inflateIfNeededFor_a7421 at hf
  refine vg_gsC X hH kw_680449123 dJ5_inflateIfNeededFor_a7421_0 ?_
  refine lv_if_eq (tgt := 21) hx hb dJ5_inflateIfNeededFor_a7421_3 (by decide) (fun h8 => ?_) (fun h8 => ?_)
  · exact absurd h8 (by decide)
  · refine lv_aload_n hx hb dJ5_inflateIfNeededFor_a7421_6 rfl (lv_at hl.1 0 rfl) ?_
    refine vg_getI X hH fF_J5_22 dJ5_inflateIfNeededFor_a7421_7 hf (fun x1 hf => ?_)
    refine vg_aload_n hx hb dJ5_inflateIfNeededFor_a7421_10 rfl (lv_at hl.1 1 rfl) ?_
    obtain ⟨a2, h9, hg⟩ := vg_o_inv hf
    clear hf
    subst h9
    have hf := hg
    clear hg
    refine vg_callVi (ci := 0) X hml hl hH hL fCV_J5_40 rfl [] rfl rfl (Nat.le_of_ble_eq_true rfl) dJ5_inflateIfNeededFor_a7421_11 hf hC hN hRc hRs hfr hlo (by decide) (fun _ _ _ _ h => cJ0_coder_7d493_met h) (fun x3 μ4 cn nn H locs cells slots hf hC hN hH hL => ?_)
    refine lv_icmp_eq (tgt := 21) hx hb dJ5_inflateIfNeededFor_a7421_14 (by decide) (fun h8 => ?_) (fun h8 => ?_)
    · have hf := vg_ip h8 hf
      exact wJ5_inflateIfNeededFor_a7421_21 Z   μ4 _ _ _ _ _ _ _ hf hH hL hC hN (hl.sub [] rfl)
    · have hf := vg_if h8 hf
      refine lv_aload_n hx hb dJ5_inflateIfNeededFor_a7421_17 rfl (lv_at hl.1 0 rfl) ?_
      cases hf
def fJ5_putStringAt_47b60 (v0 : Nat) (v1 : Int32) (v2 : Option Nat) (μ : vg_M) : vg_R Unit :=
  vg_cv 1 v0 μ (fJ5_inflateIfNeededFor_a7421 v0 v2 μ) fun _ μ2 =>
  vg_o (vg_gR μ2 v0 1 0) fun x3 =>
  vg_o (vg_gI μ2 v0 1 1) fun x4 =>
  vg_o v2 fun a5 =>
  vg_cv 0 a5 μ2 (fJ0_getBytes_840e7 a5 x3 v1 x4 μ2) fun _ μ7 =>
  vg_ret () μ7
set_option maxHeartbeats 4000000 in
set_option maxRecDepth 100000 in
theorem cJ5_putStringAt_47b60_met {l : Launch} {D : va_G} {cy : Nat → ClassId} {H0 : Heap} {r : Unit} {μ μ' : vg_M} {cn nn : Nat} {v0 : Nat} {v1 : Int32} {v2 : Option Nat} (hf : fJ5_putStringAt_47b60 v0 v1 v2 μ = some (r, μ', cn, nn)) : vg_Met l D cy H0 yJ5_putStringAt_47b60 cJ5_putStringAt_47b60 3 none 14 μ [.ref v0, .int v1, va_rf v2] none μ' cn nn := by
  refine vg_start (by decide +kernel) (List.forall_mem_cons.mpr ⟨rfl, (List.forall_mem_cons.mpr ⟨rfl, (List.forall_mem_cons.mpr ⟨vg_rfc _, (fun _ h => nomatch h)⟩)⟩)⟩) (Nat.le_of_ble_eq_true rfl) ?_
  intro p e s m below meth c ls X hml hr hlk hnm hH hl
  have hl : vg_l ls 3 [(0, .ref v0), (1, .int v1), (2, va_rf v2)] := hl
  have Z : vg_Z D cy H0 p s m _ c cJ5_putStringAt_47b60 RJ5 meth 3 none (vg_rm 14 cn nn) 14 cn nn _ := ⟨X, hml, hr, hlk, Nat.le_refl _, Nat.le_refl _, Nat.le_refl _, Nat.le_refl _, hnm⟩
  obtain ⟨-, -, -, -, hfr, hlo, hRc, hRs, -⟩ := id Z
  have hx := X.1
  have hb := X.2.1
  have hL : ∀ z ∈ ([] : List Loc), H0.size ≤ z.base := fun _ h => nomatch h
  have hC : 0 + cn = cn := Nat.zero_add _
  have hN : 0 + nn = nn := Nat.zero_add _
  delta fJ5_putStringAt_47b60 at hf
  refine lv_aload_n hx hb dJ5_putStringAt_47b60_0 rfl (lv_at hl.1 0 rfl) ?_
  refine vg_aload_n hx hb dJ5_putStringAt_47b60_1 rfl (lv_at hl.1 2 rfl) ?_
  refine vg_callWv (ci := 1) X hml hl hH hL fCW_J5_397 rfl [va_rf v2] rfl rfl (Nat.le_of_ble_eq_true rfl) dJ5_putStringAt_47b60_2 hf hC hN hRc hRs hfr hlo (by decide) (fun _ _ _ _ h => cJ5_inflateIfNeededFor_a7421_met h) (fun _ μ2 cn nn H locs cells slots hf hC hN hH hL => ?_)
  refine vg_aload_n hx hb dJ5_putStringAt_47b60_5 rfl (lv_at hl.1 2 rfl) ?_
  refine lv_aload_n hx hb dJ5_putStringAt_47b60_6 rfl (lv_at hl.1 0 rfl) ?_
  refine vg_getR X hH fF_J5_15 dJ5_putStringAt_47b60_7 hf (fun x3 hf => ?_)
  refine lv_iload_n hx hb dJ5_putStringAt_47b60_10 rfl (lv_at hl.1 1 rfl) ?_
  refine lv_aload_n hx hb dJ5_putStringAt_47b60_11 rfl (lv_at hl.1 0 rfl) ?_
  refine vg_getI X hH fF_J5_22 dJ5_putStringAt_47b60_12 hf (fun x4 hf => ?_)
  obtain ⟨a5, h9, hg⟩ := vg_o_inv hf
  clear hf
  subst h9
  have hf := hg
  clear hg
  refine vg_callVv (ci := 0) X hml hl hH hL fCV_J5_399 rfl [va_rf x3, .int v1, .int x4] rfl rfl (Nat.le_of_ble_eq_true rfl) dJ5_putStringAt_47b60_15 hf hC hN hRc hRs hfr hlo (by decide) (fun _ _ _ _ h => cJ0_getBytes_840e7_met h) (fun _ μ7 cn nn H locs cells slots hf hC hN hH hL => ?_)
  exact vg_retv X hr hlk hH hL dJ5_putStringAt_47b60_18 hf hC hN
def fJ5_append_cf1ce (v0 : Nat) (v1 : Option Nat) (μ : vg_M) : vg_R (Option Nat) :=
  vg_m v1 (
   none
   ) fun a1 => (
   vg_cv 0 a1 μ (fJ0_length_8abf5 a1  μ) fun x2 μ3 =>
   vg_o (vg_gI μ3 v0 1 3) fun x4 =>
   vg_cv 1 v0 μ3 (fJ5_ensureCapacityInternal_d00df v0 (x4 + x2) μ3) fun _ μ6 =>
   vg_o (vg_gI μ6 v0 1 3) fun x7 =>
   vg_cv 1 v0 μ6 (fJ5_putStringAt_47b60 v0 x7 (some a1) μ6) fun _ μ9 =>
   vg_o (vg_gI μ9 v0 1 3) fun x10 =>
   vg_o (vg_p μ9 v0 1 3 (.int (x10 + x2))) fun μ11 =>
   vg_ret (some v0) μ11
   )
set_option maxHeartbeats 4000000 in
set_option maxRecDepth 100000 in
theorem cJ5_append_cf1ce_met {l : Launch} {D : va_G} {cy : Nat → ClassId} {H0 : Heap} {r : (Option Nat)} {μ μ' : vg_M} {cn nn : Nat} {v0 : Nat} {v1 : Option Nat} (hf : fJ5_append_cf1ce v0 v1 μ = some (r, μ', cn, nn)) : vg_Met l D cy H0 yJ5_append_cf1ce cJ5_append_cf1ce 3 (some (.object "java/lang/AbstractStringBuilder")) 15 μ [.ref v0, va_rf v1] (some (va_rf r)) μ' cn nn := by
  refine vg_start (by decide +kernel) (List.forall_mem_cons.mpr ⟨rfl, (List.forall_mem_cons.mpr ⟨vg_rfc _, (fun _ h => nomatch h)⟩)⟩) (Nat.le_of_ble_eq_true rfl) ?_
  intro p e s m below meth c ls X hml hr hlk hnm hH hl
  have hl : vg_l ls 3 [(0, .ref v0), (1, va_rf v1)] := hl
  have Z : vg_Z D cy H0 p s m _ c cJ5_append_cf1ce RJ5 meth 3 (some (.object "java/lang/AbstractStringBuilder")) (vg_rm 15 cn nn) 15 cn nn _ := ⟨X, hml, hr, hlk, Nat.le_refl _, Nat.le_refl _, Nat.le_refl _, Nat.le_refl _, hnm⟩
  obtain ⟨-, -, -, -, hfr, hlo, hRc, hRs, -⟩ := id Z
  have hx := X.1
  have hb := X.2.1
  have hL : ∀ z ∈ ([] : List Loc), H0.size ≤ z.base := fun _ h => nomatch h
  have hC : 0 + cn = cn := Nat.zero_add _
  have hN : 0 + nn = nn := Nat.zero_add _
  delta fJ5_append_cf1ce at hf
  refine vg_aload_n hx hb dJ5_append_cf1ce_0 rfl (lv_at hl.1 1 rfl) ?_
  refine vg_ifnonnull (tgt := 9) hx hb dJ5_append_cf1ce_1 (by decide) hf (fun a1 h9 hg => ?_) (fun h9 hg => ?_)
  · clear hf
    subst h9
    have hf := hg
    clear hg
    refine lv_aload_n hx hb dJ5_append_cf1ce_9 rfl (lv_at hl.1 1 rfl) ?_
    refine vg_callVi (ci := 0) X hml hl hH hL fCV_J5_32 rfl [] rfl rfl (Nat.le_of_ble_eq_true rfl) dJ5_append_cf1ce_10 hf hC hN hRc hRs hfr hlo (by decide) (fun _ _ _ _ h => cJ0_length_8abf5_met h) (fun x2 μ3 cn nn H locs cells slots hf hC hN hH hL => ?_)
    refine vg_istore_n (lv' := [(2, .int x2), (0, .ref v0), (1, .ref a1)]) hx hb dJ5_append_cf1ce_13 rfl hl (by decide) rfl (fun ls hl => ?_)
    refine lv_aload_n hx hb dJ5_append_cf1ce_14 rfl (lv_at hl.1 1 rfl) ?_
    refine lv_aload_n hx hb dJ5_append_cf1ce_15 rfl (lv_at hl.1 1 rfl) ?_
    refine vg_getI X hH fF_J5_79 dJ5_append_cf1ce_16 hf (fun x4 hf => ?_)
    refine lv_iload_n hx hb dJ5_append_cf1ce_19 rfl (lv_at hl.1 0 rfl) ?_
    refine lv_iadd hx hb dJ5_append_cf1ce_20 ?_
    refine vg_callWv (ci := 1) X hml hl hH hL fCW_J5_100 rfl [.int (x4 + x2)] rfl rfl (Nat.le_of_ble_eq_true rfl) dJ5_append_cf1ce_21 hf hC hN hRc hRs hfr hlo (by decide) (fun _ _ _ _ h => cJ5_ensureCapacityInternal_d00df_met h) (fun _ μ6 cn nn H locs cells slots hf hC hN hH hL => ?_)
    refine lv_aload_n hx hb dJ5_append_cf1ce_24 rfl (lv_at hl.1 1 rfl) ?_
    refine lv_aload_n hx hb dJ5_append_cf1ce_25 rfl (lv_at hl.1 1 rfl) ?_
    refine vg_getI X hH fF_J5_79 dJ5_append_cf1ce_26 hf (fun x7 hf => ?_)
    refine lv_aload_n hx hb dJ5_append_cf1ce_29 rfl (lv_at hl.1 2 rfl) ?_
    refine vg_callWv (ci := 1) X hml hl hH hL fCW_J5_208 rfl [.int x7, .ref a1] rfl rfl (Nat.le_of_ble_eq_true rfl) dJ5_append_cf1ce_30 hf hC hN hRc hRs hfr hlo (by decide) (fun _ _ _ _ h => cJ5_putStringAt_47b60_met h) (fun _ μ9 cn nn H locs cells slots hf hC hN hH hL => ?_)
    refine lv_aload_n hx hb dJ5_append_cf1ce_33 rfl (lv_at hl.1 1 rfl) ?_
    refine lv_dup hx hb dJ5_append_cf1ce_34 rfl ?_
    refine vg_getI X hH fF_J5_79 dJ5_append_cf1ce_35 hf (fun x10 hf => ?_)
    refine lv_iload_n hx hb dJ5_append_cf1ce_38 rfl (lv_at hl.1 0 rfl) ?_
    refine lv_iadd hx hb dJ5_append_cf1ce_39 ?_
    refine vg_putV X hH hL fF_J5_79 rfl rfl dJ5_append_cf1ce_40 hf (fun μ11 H locs hf hH hL => ?_)
    refine lv_aload_n hx hb dJ5_append_cf1ce_43 rfl (lv_at hl.1 1 rfl) ?_
    exact vg_reta X (by simp) hr hlk hH hL dJ5_append_cf1ce_44 hf hC hN
  · clear hf
    subst h9
    have hf := hg
    clear hg
    refine lv_aload_n hx hb dJ5_append_cf1ce_4 rfl (lv_at hl.1 0 rfl) ?_
    cases hf
def fJ4_append_15ec4 (v0 : Nat) (v1 : Option Nat) (μ : vg_M) : vg_R (Option Nat) :=
  vg_cv 1 v0 μ (fJ5_append_cf1ce v0 v1 μ) fun x1 μ2 =>
  vg_ret (some v0) μ2
set_option maxHeartbeats 4000000 in
set_option maxRecDepth 100000 in
theorem cJ4_append_15ec4_met {l : Launch} {D : va_G} {cy : Nat → ClassId} {H0 : Heap} {r : (Option Nat)} {μ μ' : vg_M} {cn nn : Nat} {v0 : Nat} {v1 : Option Nat} (hf : fJ4_append_15ec4 v0 v1 μ = some (r, μ', cn, nn)) : vg_Met l D cy H0 yJ4_append_15ec4 cJ4_append_15ec4 2 (some (.object "java/lang/StringBuilder")) 16 μ [.ref v0, va_rf v1] (some (va_rf r)) μ' cn nn := by
  refine vg_start (by decide +kernel) (List.forall_mem_cons.mpr ⟨rfl, (List.forall_mem_cons.mpr ⟨vg_rfc _, (fun _ h => nomatch h)⟩)⟩) (Nat.le_of_ble_eq_true rfl) ?_
  intro p e s m below meth c ls X hml hr hlk hnm hH hl
  have hl : vg_l ls 2 [(0, .ref v0), (1, va_rf v1)] := hl
  have Z : vg_Z D cy H0 p s m _ c cJ4_append_15ec4 RJ4 meth 2 (some (.object "java/lang/StringBuilder")) (vg_rm 16 cn nn) 16 cn nn _ := ⟨X, hml, hr, hlk, Nat.le_refl _, Nat.le_refl _, Nat.le_refl _, Nat.le_refl _, hnm⟩
  obtain ⟨-, -, -, -, hfr, hlo, hRc, hRs, -⟩ := id Z
  have hx := X.1
  have hb := X.2.1
  have hL : ∀ z ∈ ([] : List Loc), H0.size ≤ z.base := fun _ h => nomatch h
  have hC : 0 + cn = cn := Nat.zero_add _
  have hN : 0 + nn = nn := Nat.zero_add _
  delta fJ4_append_15ec4 at hf
  refine lv_aload_n hx hb dJ4_append_15ec4_0 rfl (lv_at hl.1 0 rfl) ?_
  refine vg_aload_n hx hb dJ4_append_15ec4_1 rfl (lv_at hl.1 1 rfl) ?_
  refine vg_callUr (ci := 1) X hml hl hH hL fCU_J4_29 rfl [va_rf v1] rfl rfl (Nat.le_of_ble_eq_true rfl) dJ4_append_15ec4_2 hf hC hN hRc hRs hfr hlo (by decide) (fun _ _ _ _ h => cJ5_append_cf1ce_met h) (fun x1 μ2 cn nn H locs cells slots hf hC hN hH hL => ?_)
  refine lv_pop hx hb dJ4_append_15ec4_5 (vg_rfc _) ?_
  refine lv_aload_n hx hb dJ4_append_15ec4_6 rfl (lv_at hl.1 0 rfl) ?_
  exact vg_reta X (by simp) hr hlk hH hL dJ4_append_15ec4_7 hf hC hN
def fJ5_append_3fe6f_45  (v0 : Nat) (v1 : Int32) (μ : vg_M) : vg_R (Option Nat) :=
  vg_cv 1 v0 μ (fJ5_isLatin1_aae02 v0  μ) fun x1 μ2 =>
  if x1 = 0 then (
   vg_o (vg_gR μ2 v0 1 0) fun x3 =>
   vg_o (vg_gI μ2 v0 1 3) fun x4 =>
   vg_o (vg_p μ2 v0 1 3 (.int (x4 + 1))) fun μ5 =>
   none
   ) else (
   none
   )
set_option maxHeartbeats 4000000 in
set_option maxRecDepth 100000 in
theorem wJ5_append_3fe6f_45 {p : Program} {l : Launch} {e : Env} {R : Room} {s : State} {m : MethodId} {args : Array Value} {below : List Frame} {meth : Method} {c : Code} {D : va_G} {cy : Nat → ClassId} {H0 : Heap} {C0 N0 : Nat} {r : (Option Nat)} {μ' : vg_M} (Z : vg_Z D cy H0 p s m args c cJ5_append_3fe6f RJ5 meth 2 (some (.object "java/lang/AbstractStringBuilder")) R 15 C0 N0 "append")   (v0 : Nat) (v1 : Int32) (μ : vg_M) : vg_S p l e R s m args below meth c D cy H0 C0 N0 2 (MQ below (vg_Qc D cy H0 μ' (some (va_rf r))) args s C0 N0 (vg_fr H0)) r μ' (fJ5_append_3fe6f_45  v0 v1 μ) μ [(0, .ref v0), (1, .int v1)] [] 45 := by
  intro cn nn H locs cells slots ls hf hH hL hC hN hl
  obtain ⟨X, hml, hr, hlk, hfr, hlo, hRc, hRs, hnm⟩ := id Z
  have hx := X.1
  have hb := X.2.1
  delta fJ5_append_3fe6f_45 at hf
  refine lv_aload_n hx hb dJ5_append_3fe6f_45 rfl (lv_at hl.1 0 rfl) ?_
  refine vg_callWi (ci := 1) X hml hl hH hL fCW_J5_83 rfl [] rfl rfl (Nat.le_of_ble_eq_true rfl) dJ5_append_3fe6f_46 hf hC hN hRc hRs hfr hlo (by decide) (fun _ _ _ _ h => cJ5_isLatin1_aae02_met h) (fun x1 μ2 cn nn H locs cells slots hf hC hN hH hL => ?_)
  refine lv_if_eq (tgt := 56) hx hb dJ5_append_3fe6f_49 (by decide) (fun h8 => ?_) (fun h8 => ?_)
  · have hf := vg_ip h8 hf
    refine lv_aload_n hx hb dJ5_append_3fe6f_56 rfl (lv_at hl.1 0 rfl) ?_
    refine vg_getR X hH fF_J5_15 dJ5_append_3fe6f_57 hf (fun x3 hf => ?_)
    refine lv_aload_n hx hb dJ5_append_3fe6f_60 rfl (lv_at hl.1 0 rfl) ?_
    refine lv_dup hx hb dJ5_append_3fe6f_61 rfl ?_
    refine vg_getI X hH fF_J5_79 dJ5_append_3fe6f_62 hf (fun x4 hf => ?_)
    refine lv_dup_x1 hx hb dJ5_append_3fe6f_65 rfl rfl ?_
    refine lv_iconst (v := 1) hx hb dJ5_append_3fe6f_66 (by decide) ?_
    refine lv_iadd hx hb dJ5_append_3fe6f_67 ?_
    refine vg_putV X hH hL fF_J5_79 rfl rfl dJ5_append_3fe6f_68 hf (fun μ5 H locs hf hH hL => ?_)
    refine lv_iload_n hx hb dJ5_append_3fe6f_71 rfl (lv_at hl.1 1 rfl) ?_
    cases hf
  · have hf := vg_if h8 hf
    refine lv_aload_n hx hb dJ5_append_3fe6f_52 rfl (lv_at hl.1 0 rfl) ?_
    cases hf
def fJ5_append_3fe6f (v0 : Nat) (v1 : Int32) (μ : vg_M) : vg_R (Option Nat) :=
  vg_o (vg_gI μ v0 1 3) fun x6 =>
  vg_cv 1 v0 μ (fJ5_ensureCapacityInternal_d00df v0 (x6 + 1) μ) fun _ μ8 =>
  vg_cv 1 v0 μ8 (fJ5_isLatin1_aae02 v0  μ8) fun x9 μ10 =>
  if x9 = 0 then (
   fJ5_append_3fe6f_45  v0 v1 μ10
   ) else (
   vg_b (fJ1_canEncode_fc78d v1 μ10) fun x11 μ12 =>
   if x11 = 0 then (
    fJ5_append_3fe6f_45  v0 v1 μ12
    ) else (
    vg_o (vg_gR μ12 v0 1 0) fun x13 =>
    vg_o (vg_gI μ12 v0 1 3) fun x14 =>
    vg_o (vg_p μ12 v0 1 3 (.int (x14 + 1))) fun μ15 =>
    vg_o x13 fun a16 =>
    vg_o (vg_sI μ15 a16 0 x14 v1.toInt8.toInt32) fun μ17 =>
    vg_ret (some v0) μ17
    )
   )
set_option maxHeartbeats 4000000 in
set_option maxRecDepth 100000 in
theorem cJ5_append_3fe6f_met {l : Launch} {D : va_G} {cy : Nat → ClassId} {H0 : Heap} {r : (Option Nat)} {μ μ' : vg_M} {cn nn : Nat} {v0 : Nat} {v1 : Int32} (hf : fJ5_append_3fe6f v0 v1 μ = some (r, μ', cn, nn)) : vg_Met l D cy H0 yJ5_append_3fe6f cJ5_append_3fe6f 2 (some (.object "java/lang/AbstractStringBuilder")) 15 μ [.ref v0, .int v1] (some (va_rf r)) μ' cn nn := by
  refine vg_start (by decide +kernel) (List.forall_mem_cons.mpr ⟨rfl, (List.forall_mem_cons.mpr ⟨rfl, (fun _ h => nomatch h)⟩)⟩) (Nat.le_of_ble_eq_true rfl) ?_
  intro p e s m below meth c ls X hml hr hlk hnm hH hl
  have hl : vg_l ls 2 [(0, .ref v0), (1, .int v1)] := hl
  have Z : vg_Z D cy H0 p s m _ c cJ5_append_3fe6f RJ5 meth 2 (some (.object "java/lang/AbstractStringBuilder")) (vg_rm 15 cn nn) 15 cn nn _ := ⟨X, hml, hr, hlk, Nat.le_refl _, Nat.le_refl _, Nat.le_refl _, Nat.le_refl _, hnm⟩
  obtain ⟨-, -, -, -, hfr, hlo, hRc, hRs, -⟩ := id Z
  have hx := X.1
  have hb := X.2.1
  have hL : ∀ z ∈ ([] : List Loc), H0.size ≤ z.base := fun _ h => nomatch h
  have hC : 0 + cn = cn := Nat.zero_add _
  have hN : 0 + nn = nn := Nat.zero_add _
  delta fJ5_append_3fe6f at hf
  refine lv_aload_n hx hb dJ5_append_3fe6f_0 rfl (lv_at hl.1 0 rfl) ?_
  refine lv_aload_n hx hb dJ5_append_3fe6f_1 rfl (lv_at hl.1 0 rfl) ?_
  refine vg_getI X hH fF_J5_79 dJ5_append_3fe6f_2 hf (fun x6 hf => ?_)
  refine lv_iconst (v := 1) hx hb dJ5_append_3fe6f_5 (by decide) ?_
  refine lv_iadd hx hb dJ5_append_3fe6f_6 ?_
  refine vg_callWv (ci := 1) X hml hl hH hL fCW_J5_100 rfl [.int (x6 + 1)] rfl rfl (Nat.le_of_ble_eq_true rfl) dJ5_append_3fe6f_7 hf hC hN hRc hRs hfr hlo (by decide) (fun _ _ _ _ h => cJ5_ensureCapacityInternal_d00df_met h) (fun _ μ8 cn nn H locs cells slots hf hC hN hH hL => ?_)
  refine lv_aload_n hx hb dJ5_append_3fe6f_10 rfl (lv_at hl.1 0 rfl) ?_
  refine vg_callWi (ci := 1) X hml hl hH hL fCW_J5_83 rfl [] rfl rfl (Nat.le_of_ble_eq_true rfl) dJ5_append_3fe6f_11 hf hC hN hRc hRs hfr hlo (by decide) (fun _ _ _ _ h => cJ5_isLatin1_aae02_met h) (fun x9 μ10 cn nn H locs cells slots hf hC hN hH hL => ?_)
  refine lv_if_eq (tgt := 45) hx hb dJ5_append_3fe6f_14 (by decide) (fun h8 => ?_) (fun h8 => ?_)
  · have hf := vg_ip h8 hf
    exact wJ5_append_3fe6f_45 Z  v0 v1 μ10 _ _ _ _ _ _ _ hf hH hL hC hN (hl.sub [0, 1] rfl)
  · have hf := vg_if h8 hf
    refine lv_iload_n hx hb dJ5_append_3fe6f_17 rfl (lv_at hl.1 1 rfl) ?_
    refine vg_callSi X hml hl hH hL fCS_J5_191 [.int v1] rfl rfl (Nat.le_of_ble_eq_true rfl) dJ5_append_3fe6f_18 hf hC hN hRc hRs hfr hlo (by decide) (fun _ _ _ _ h => cJ1_canEncode_fc78d_met h) (fun x11 μ12 cn nn H locs cells slots hf hC hN hH hL => ?_)
    refine lv_if_eq (tgt := 45) hx hb dJ5_append_3fe6f_21 (by decide) (fun h8 => ?_) (fun h8 => ?_)
    · have hf := vg_ip h8 hf
      exact wJ5_append_3fe6f_45 Z  v0 v1 μ12 _ _ _ _ _ _ _ hf hH hL hC hN (hl.sub [0, 1] rfl)
    · have hf := vg_if h8 hf
      refine lv_aload_n hx hb dJ5_append_3fe6f_24 rfl (lv_at hl.1 0 rfl) ?_
      refine vg_getR X hH fF_J5_15 dJ5_append_3fe6f_25 hf (fun x13 hf => ?_)
      refine lv_aload_n hx hb dJ5_append_3fe6f_28 rfl (lv_at hl.1 0 rfl) ?_
      refine lv_dup hx hb dJ5_append_3fe6f_29 rfl ?_
      refine vg_getI X hH fF_J5_79 dJ5_append_3fe6f_30 hf (fun x14 hf => ?_)
      refine lv_dup_x1 hx hb dJ5_append_3fe6f_33 rfl rfl ?_
      refine lv_iconst (v := 1) hx hb dJ5_append_3fe6f_34 (by decide) ?_
      refine lv_iadd hx hb dJ5_append_3fe6f_35 ?_
      refine vg_putV X hH hL fF_J5_79 rfl rfl dJ5_append_3fe6f_36 hf (fun μ15 H locs hf hH hL => ?_)
      refine lv_iload_n hx hb dJ5_append_3fe6f_39 rfl (lv_at hl.1 1 rfl) ?_
      refine lv_i2b hx hb dJ5_append_3fe6f_40 rfl ?_
      obtain ⟨a16, h9, hg⟩ := vg_o_inv hf
      clear hf
      subst h9
      have hf := hg
      clear hg
      refine vg_bast X hH hL dJ5_append_3fe6f_41 hf (fun μ17 H locs hf hH hL => ?_)
      refine lv_goto (tgt := 75) hx hb dJ5_append_3fe6f_42 (by decide) ?_
      refine lv_aload_n hx hb dJ5_append_3fe6f_75 rfl (lv_at hl.1 0 rfl) ?_
      exact vg_reta X (by simp) hr hlk hH hL dJ5_append_3fe6f_76 hf hC hN
def fJ4_append_cf468 (v0 : Nat) (v1 : Int32) (μ : vg_M) : vg_R (Option Nat) :=
  vg_cv 1 v0 μ (fJ5_append_3fe6f v0 v1 μ) fun x1 μ2 =>
  vg_ret (some v0) μ2
set_option maxHeartbeats 4000000 in
set_option maxRecDepth 100000 in
theorem cJ4_append_cf468_met {l : Launch} {D : va_G} {cy : Nat → ClassId} {H0 : Heap} {r : (Option Nat)} {μ μ' : vg_M} {cn nn : Nat} {v0 : Nat} {v1 : Int32} (hf : fJ4_append_cf468 v0 v1 μ = some (r, μ', cn, nn)) : vg_Met l D cy H0 yJ4_append_cf468 cJ4_append_cf468 2 (some (.object "java/lang/StringBuilder")) 16 μ [.ref v0, .int v1] (some (va_rf r)) μ' cn nn := by
  refine vg_start (by decide +kernel) (List.forall_mem_cons.mpr ⟨rfl, (List.forall_mem_cons.mpr ⟨rfl, (fun _ h => nomatch h)⟩)⟩) (Nat.le_of_ble_eq_true rfl) ?_
  intro p e s m below meth c ls X hml hr hlk hnm hH hl
  have hl : vg_l ls 2 [(0, .ref v0), (1, .int v1)] := hl
  have Z : vg_Z D cy H0 p s m _ c cJ4_append_cf468 RJ4 meth 2 (some (.object "java/lang/StringBuilder")) (vg_rm 16 cn nn) 16 cn nn _ := ⟨X, hml, hr, hlk, Nat.le_refl _, Nat.le_refl _, Nat.le_refl _, Nat.le_refl _, hnm⟩
  obtain ⟨-, -, -, -, hfr, hlo, hRc, hRs, -⟩ := id Z
  have hx := X.1
  have hb := X.2.1
  have hL : ∀ z ∈ ([] : List Loc), H0.size ≤ z.base := fun _ h => nomatch h
  have hC : 0 + cn = cn := Nat.zero_add _
  have hN : 0 + nn = nn := Nat.zero_add _
  delta fJ4_append_cf468 at hf
  refine lv_aload_n hx hb dJ4_append_cf468_0 rfl (lv_at hl.1 0 rfl) ?_
  refine lv_iload_n hx hb dJ4_append_cf468_1 rfl (lv_at hl.1 1 rfl) ?_
  refine vg_callUr (ci := 1) X hml hl hH hL fCU_J4_50 rfl [.int v1] rfl rfl (Nat.le_of_ble_eq_true rfl) dJ4_append_cf468_2 hf hC hN hRc hRs hfr hlo (by decide) (fun _ _ _ _ h => cJ5_append_3fe6f_met h) (fun x1 μ2 cn nn H locs cells slots hf hC hN hH hL => ?_)
  refine lv_pop hx hb dJ4_append_cf468_5 (vg_rfc _) ?_
  refine lv_aload_n hx hb dJ4_append_cf468_6 rfl (lv_at hl.1 0 rfl) ?_
  exact vg_reta X (by simp) hr hlk hH hL dJ4_append_cf468_7 hf hC hN
def fJ5_charAt_5068e (v0 : Nat) (v1 : Int32) (μ : vg_M) : vg_R Int32 :=
  vg_o (vg_gI μ v0 1 1) fun x1 =>
  vg_o (vg_gR μ v0 1 0) fun x2 =>
  vg_o (vg_gI μ v0 1 3) fun x3 =>
  vg_o x2 fun a4 =>
  vg_o (vg_al μ a4) fun x5 =>
  vg_b (fJ0_checkIndex_df160 v1 (if x5 >>> (x1 &&& 31) < x3 then x5 >>> (x1 &&& 31) else x3) μ) fun _ μ7 =>
  if x1 = 0 then (
   vg_o (vg_aI μ7 a4 0 v1) fun x8 =>
   vg_o (vg_z .char (((x8 &&& 255).toUInt32 % 65536).toInt32)) fun z => vg_ret z μ7
   ) else (
   none
   )
set_option maxHeartbeats 4000000 in
set_option maxRecDepth 100000 in
theorem cJ5_charAt_5068e_met {l : Launch} {D : va_G} {cy : Nat → ClassId} {H0 : Heap} {r : Int32} {μ μ' : vg_M} {cn nn : Nat} {v0 : Nat} {v1 : Int32} (hf : fJ5_charAt_5068e v0 v1 μ = some (r, μ', cn, nn)) : vg_Met l D cy H0 yJ5_charAt_5068e cJ5_charAt_5068e 5 (some .char) 14 μ [.ref v0, .int v1] (some (.int r)) μ' cn nn := by
  refine vg_start (by decide +kernel) (List.forall_mem_cons.mpr ⟨rfl, (List.forall_mem_cons.mpr ⟨rfl, (fun _ h => nomatch h)⟩)⟩) (Nat.le_of_ble_eq_true rfl) ?_
  intro p e s m below meth c ls X hml hr hlk hnm hH hl
  have hl : vg_l ls 5 [(0, .ref v0), (1, .int v1)] := hl
  have Z : vg_Z D cy H0 p s m _ c cJ5_charAt_5068e RJ5 meth 5 (some .char) (vg_rm 14 cn nn) 14 cn nn _ := ⟨X, hml, hr, hlk, Nat.le_refl _, Nat.le_refl _, Nat.le_refl _, Nat.le_refl _, hnm⟩
  obtain ⟨-, -, -, -, hfr, hlo, hRc, hRs, -⟩ := id Z
  have hx := X.1
  have hb := X.2.1
  have hL : ∀ z ∈ ([] : List Loc), H0.size ≤ z.base := fun _ h => nomatch h
  have hC : 0 + cn = cn := Nat.zero_add _
  have hN : 0 + nn = nn := Nat.zero_add _
  delta fJ5_charAt_5068e at hf
  refine lv_aload_n hx hb dJ5_charAt_5068e_0 rfl (lv_at hl.1 0 rfl) ?_
  refine vg_getI X hH fF_J5_22 dJ5_charAt_5068e_1 hf (fun x1 hf => ?_)
  refine vg_istore_n (lv' := [(2, .int x1), (0, .ref v0), (1, .int v1)]) hx hb dJ5_charAt_5068e_4 rfl hl (by decide) rfl (fun ls hl => ?_)
  refine lv_aload_n hx hb dJ5_charAt_5068e_5 rfl (lv_at hl.1 1 rfl) ?_
  refine vg_getR X hH fF_J5_15 dJ5_charAt_5068e_6 hf (fun x2 hf => ?_)
  refine vg_astore_n (lv' := [(3, va_rf x2), (2, .int x1), (0, .ref v0), (1, .int v1)]) hx hb dJ5_charAt_5068e_9 rfl hl (by decide) rfl (fun ls hl => ?_)
  refine lv_aload_n hx hb dJ5_charAt_5068e_10 rfl (lv_at hl.1 2 rfl) ?_
  refine vg_getI X hH fF_J5_79 dJ5_charAt_5068e_11 hf (fun x3 hf => ?_)
  refine vg_aload_n hx hb dJ5_charAt_5068e_14 rfl (lv_at hl.1 0 rfl) ?_
  obtain ⟨a4, h9, hg⟩ := vg_o_inv hf
  clear hf
  subst h9
  have hf := hg
  clear hg
  refine vg_alen X hH dJ5_charAt_5068e_15 hf (fun x5 hf => ?_)
  refine lv_iload_n hx hb dJ5_charAt_5068e_16 rfl (lv_at hl.1 1 rfl) ?_
  refine lv_ishr hx hb dJ5_charAt_5068e_17 ?_
  refine vg_mmin X hml hl kw_822454510 kw_875827865 kw_386489653 kw_394918299 (Nat.le_of_ble_eq_true rfl) hC hN hRc hRs (Nat.le_trans (by decide) hfr) (Nat.le_trans (by decide) hlo) dJ5_charAt_5068e_18 ?_
  refine vg_istore (lv' := [(4, .int (if x5 >>> (x1 &&& 31) < x3 then x5 >>> (x1 &&& 31) else x3)), (3, .ref a4), (2, .int x1), (0, .ref v0), (1, .int v1)]) hx hb dJ5_charAt_5068e_21 hl (by decide) rfl (fun ls hl => ?_)
  refine lv_iload_n hx hb dJ5_charAt_5068e_23 rfl (lv_at hl.1 4 rfl) ?_
  refine lv_iload hx hb dJ5_charAt_5068e_24 (lv_at hl.1 0 rfl) ?_
  refine vg_callSv X hml hl hH hL fCS_J5_144 [.int v1, .int (if x5 >>> (x1 &&& 31) < x3 then x5 >>> (x1 &&& 31) else x3)] rfl rfl (Nat.le_of_ble_eq_true rfl) dJ5_charAt_5068e_26 hf hC hN hRc hRs hfr hlo (by decide) (fun _ _ _ _ h => cJ0_checkIndex_df160_met h) (fun _ μ7 cn nn H locs cells slots hf hC hN hH hL => ?_)
  refine lv_iload_n hx hb dJ5_charAt_5068e_29 rfl (lv_at hl.1 2 rfl) ?_
  refine lv_if_ne (tgt := 42) hx hb dJ5_charAt_5068e_30 (by decide) (fun h8 => ?_) (fun h8 => ?_)
  · have hf := vg_if h8 hf
    refine lv_aload_n hx hb dJ5_charAt_5068e_42 rfl (lv_at hl.1 1 rfl) ?_
    refine lv_iload_n hx hb dJ5_charAt_5068e_43 rfl (lv_at hl.1 4 rfl) ?_
    cases hf
  · have hf := vg_ip h8 hf
    refine lv_aload_n hx hb dJ5_charAt_5068e_33 rfl (lv_at hl.1 1 rfl) ?_
    refine lv_iload_n hx hb dJ5_charAt_5068e_34 rfl (lv_at hl.1 4 rfl) ?_
    refine vg_bald X hH dJ5_charAt_5068e_35 hf (fun x8 hf => ?_)
    refine lv_sipush (v := 255) hx hb dJ5_charAt_5068e_36 (by decide) ?_
    refine lv_iand hx hb dJ5_charAt_5068e_39 ?_
    refine lv_i2c hx hb dJ5_charAt_5068e_40 rfl ?_
    exact vg_retz X (by simp) hr hlk hH hL dJ5_charAt_5068e_41 hf hC hN
def fJ4_charAt_5068e (v0 : Nat) (v1 : Int32) (μ : vg_M) : vg_R Int32 :=
  vg_cv 1 v0 μ (fJ5_charAt_5068e v0 v1 μ) fun x1 μ2 =>
  vg_o (vg_z .char x1) fun z => vg_ret z μ2
set_option maxHeartbeats 4000000 in
set_option maxRecDepth 100000 in
theorem cJ4_charAt_5068e_met {l : Launch} {D : va_G} {cy : Nat → ClassId} {H0 : Heap} {r : Int32} {μ μ' : vg_M} {cn nn : Nat} {v0 : Nat} {v1 : Int32} (hf : fJ4_charAt_5068e v0 v1 μ = some (r, μ', cn, nn)) : vg_Met l D cy H0 yJ4_charAt_5068e cJ4_charAt_5068e 2 (some .char) 15 μ [.ref v0, .int v1] (some (.int r)) μ' cn nn := by
  refine vg_start (by decide +kernel) (List.forall_mem_cons.mpr ⟨rfl, (List.forall_mem_cons.mpr ⟨rfl, (fun _ h => nomatch h)⟩)⟩) (Nat.le_of_ble_eq_true rfl) ?_
  intro p e s m below meth c ls X hml hr hlk hnm hH hl
  have hl : vg_l ls 2 [(0, .ref v0), (1, .int v1)] := hl
  have Z : vg_Z D cy H0 p s m _ c cJ4_charAt_5068e RJ4 meth 2 (some .char) (vg_rm 15 cn nn) 15 cn nn _ := ⟨X, hml, hr, hlk, Nat.le_refl _, Nat.le_refl _, Nat.le_refl _, Nat.le_refl _, hnm⟩
  obtain ⟨-, -, -, -, hfr, hlo, hRc, hRs, -⟩ := id Z
  have hx := X.1
  have hb := X.2.1
  have hL : ∀ z ∈ ([] : List Loc), H0.size ≤ z.base := fun _ h => nomatch h
  have hC : 0 + cn = cn := Nat.zero_add _
  have hN : 0 + nn = nn := Nat.zero_add _
  delta fJ4_charAt_5068e at hf
  refine lv_aload_n hx hb dJ4_charAt_5068e_0 rfl (lv_at hl.1 0 rfl) ?_
  refine lv_iload_n hx hb dJ4_charAt_5068e_1 rfl (lv_at hl.1 1 rfl) ?_
  refine vg_callUi (ci := 1) X hml hl hH hL fCU_J4_329 rfl [.int v1] rfl rfl (Nat.le_of_ble_eq_true rfl) dJ4_charAt_5068e_2 hf hC hN hRc hRs hfr hlo (by decide) (fun _ _ _ _ h => cJ5_charAt_5068e_met h) (fun x1 μ2 cn nn H locs cells slots hf hC hN hH hL => ?_)
  exact vg_retz X (by simp) hr hlk hH hL dJ4_charAt_5068e_5 hf hC hN
def fJ5_init_d00df (v0 : Nat) (v1 : Int32) (μ : vg_M) : vg_R Unit :=
  vg_o (vg_len v1) fun n => vg_nw n μ.2.1 (vg_nA μ 0 n) fun a1 μ2 =>
  vg_o (vg_p μ2 v0 1 0 (.ref a1)) fun μ3 =>
  vg_o (vg_z .byte 0) fun z => vg_o (vg_p μ3 v0 1 1 (.int z)) fun μ4 =>
  vg_ret () μ4
set_option maxHeartbeats 4000000 in
set_option maxRecDepth 100000 in
theorem cJ5_init_d00df_met {l : Launch} {D : va_G} {cy : Nat → ClassId} {H0 : Heap} {r : Unit} {μ μ' : vg_M} {cn nn : Nat} {v0 : Nat} {v1 : Int32} (hf : fJ5_init_d00df v0 v1 μ = some (r, μ', cn, nn)) : vg_Met l D cy H0 yJ5_init_d00df cJ5_init_d00df 2 none 12 μ [.ref v0, .int v1] none μ' cn nn := by
  refine vg_start (by decide +kernel) (List.forall_mem_cons.mpr ⟨rfl, (List.forall_mem_cons.mpr ⟨rfl, (fun _ h => nomatch h)⟩)⟩) (Nat.le_of_ble_eq_true rfl) ?_
  intro p e s m below meth c ls X hml hr hlk hnm hH hl
  have hl : vg_l ls 2 [(0, .ref v0), (1, .int v1)] := hl
  have Z : vg_Z D cy H0 p s m _ c cJ5_init_d00df RJ5 meth 2 none (vg_rm 12 cn nn) 12 cn nn _ := ⟨X, hml, hr, hlk, Nat.le_refl _, Nat.le_refl _, Nat.le_refl _, Nat.le_refl _, hnm⟩
  obtain ⟨-, -, -, -, hfr, hlo, hRc, hRs, -⟩ := id Z
  have hx := X.1
  have hb := X.2.1
  have hL : ∀ z ∈ ([] : List Loc), H0.size ≤ z.base := fun _ h => nomatch h
  have hC : 0 + cn = cn := Nat.zero_add _
  have hN : 0 + nn = nn := Nat.zero_add _
  delta fJ5_init_d00df at hf
  refine lv_aload_n hx hb dJ5_init_d00df_0 rfl (lv_at hl.1 0 rfl) ?_
  refine vg_objInit X hml hl kw_621593554 kw_624348017 kw_835052908 dJ5_init_d00df_1 (Nat.le_of_ble_eq_true rfl) (Nat.le_trans (by decide) hfr) (Nat.le_trans (by decide) hlo) ?_
  refine vg_gsC X hH kw_680449123 dJ5_init_d00df_4 ?_
  refine lv_if_eq (tgt := 25) hx hb dJ5_init_d00df_7 (by decide) (fun h8 => ?_) (fun h8 => ?_)
  · exact absurd h8 (by decide)
  · refine lv_aload_n hx hb dJ5_init_d00df_10 rfl (lv_at hl.1 0 rfl) ?_
    refine lv_iload_n hx hb dJ5_init_d00df_11 rfl (lv_at hl.1 1 rfl) ?_
    refine vg_newa X hH (atype := .byte) (t := 0) kw_180627857 rfl (by decide) dJ5_init_d00df_12 hf hC hN hRc hRs (fun _ a1 μ2 cn nn H hf hC hN hH => ?_)
    refine vg_putV X hH hL fF_J5_15 (vg_fitR (by simp) (some a1)).1 (vg_fitR (by simp) (some a1)).2 dJ5_init_d00df_14 hf (fun μ3 H locs hf hH hL => ?_)
    refine lv_aload_n hx hb dJ5_init_d00df_17 rfl (lv_at hl.1 0 rfl) ?_
    refine lv_iconst (v := 0) hx hb dJ5_init_d00df_18 (by decide) ?_
    refine vg_putZ X hH hL (by simp) fF_J5_22 dJ5_init_d00df_19 hf (fun μ4 H locs hf hH hL => ?_)
    refine lv_goto (tgt := 38) hx hb dJ5_init_d00df_22 (by decide) ?_
    exact vg_retv X hr hlk hH hL dJ5_init_d00df_38 hf hC hN
def fJ4_init_da8c8 (v0 : Nat) (μ : vg_M) : vg_R Unit :=
  vg_b (fJ5_init_d00df v0 16 μ) fun _ μ2 =>
  vg_ret () μ2
set_option maxHeartbeats 4000000 in
set_option maxRecDepth 100000 in
theorem cJ4_init_da8c8_met {l : Launch} {D : va_G} {cy : Nat → ClassId} {H0 : Heap} {r : Unit} {μ μ' : vg_M} {cn nn : Nat} {v0 : Nat} (hf : fJ4_init_da8c8 v0 μ = some (r, μ', cn, nn)) : vg_Met l D cy H0 yJ4_init_da8c8 cJ4_init_da8c8 1 none 13 μ [.ref v0] none μ' cn nn := by
  refine vg_start (by decide +kernel) (List.forall_mem_cons.mpr ⟨rfl, (fun _ h => nomatch h)⟩) (Nat.le_of_ble_eq_true rfl) ?_
  intro p e s m below meth c ls X hml hr hlk hnm hH hl
  have hl : vg_l ls 1 [(0, .ref v0)] := hl
  have Z : vg_Z D cy H0 p s m _ c cJ4_init_da8c8 RJ4 meth 1 none (vg_rm 13 cn nn) 13 cn nn _ := ⟨X, hml, hr, hlk, Nat.le_refl _, Nat.le_refl _, Nat.le_refl _, Nat.le_refl _, hnm⟩
  obtain ⟨-, -, -, -, hfr, hlo, hRc, hRs, -⟩ := id Z
  have hx := X.1
  have hb := X.2.1
  have hL : ∀ z ∈ ([] : List Loc), H0.size ≤ z.base := fun _ h => nomatch h
  have hC : 0 + cn = cn := Nat.zero_add _
  have hN : 0 + nn = nn := Nat.zero_add _
  delta fJ4_init_da8c8 at hf
  refine lv_aload_n hx hb dJ4_init_da8c8_0 rfl (lv_at hl.1 0 rfl) ?_
  refine lv_bipush (v := 16) hx hb dJ4_init_da8c8_1 (by decide) ?_
  refine vg_callIv X hml hl hH hL fCI_J4_1 [.int 16] rfl rfl (Nat.le_of_ble_eq_true rfl) dJ4_init_da8c8_3 hf hC hN hRc hRs hfr hlo (by decide) (fun _ _ _ _ h => cJ5_init_d00df_met h) (fun _ μ2 cn nn H locs cells slots hf hC hN hH hL => ?_)
  exact vg_retv X hr hlk hH hL dJ4_init_da8c8_6 hf hC hN
def fJ5_setLength_d00df_76  (v0 : Nat) (v1 : Int32) (μ : vg_M) : vg_R Unit :=
  vg_o (vg_p μ v0 1 3 (.int v1)) fun μ1 =>
  vg_ret () μ1
set_option maxHeartbeats 4000000 in
set_option maxRecDepth 100000 in
theorem wJ5_setLength_d00df_76 {p : Program} {l : Launch} {e : Env} {R : Room} {s : State} {m : MethodId} {args : Array Value} {below : List Frame} {meth : Method} {c : Code} {D : va_G} {cy : Nat → ClassId} {H0 : Heap} {C0 N0 : Nat} {r : Unit} {μ' : vg_M} (Z : vg_Z D cy H0 p s m args c cJ5_setLength_d00df RJ5 meth 2 none R 15 C0 N0 "setLength")   (v0 : Nat) (v1 : Int32) (μ : vg_M) : vg_S p l e R s m args below meth c D cy H0 C0 N0 2 (MQ below (vg_Qc D cy H0 μ' none) args s C0 N0 (vg_fr H0)) r μ' (fJ5_setLength_d00df_76  v0 v1 μ) μ [(0, .ref v0), (1, .int v1)] [] 76 := by
  intro cn nn H locs cells slots ls hf hH hL hC hN hl
  obtain ⟨X, hml, hr, hlk, hfr, hlo, hRc, hRs, hnm⟩ := id Z
  have hx := X.1
  have hb := X.2.1
  delta fJ5_setLength_d00df_76 at hf
  refine lv_aload_n hx hb dJ5_setLength_d00df_76 rfl (lv_at hl.1 0 rfl) ?_
  refine lv_iload_n hx hb dJ5_setLength_d00df_77 rfl (lv_at hl.1 1 rfl) ?_
  refine vg_putV X hH hL fF_J5_79 rfl rfl dJ5_setLength_d00df_78 hf (fun μ1 H locs hf hH hL => ?_)
  exact vg_retv X hr hlk hH hL dJ5_setLength_d00df_81 hf hC hN
def fJ5_setLength_d00df (v0 : Nat) (v1 : Int32) (μ : vg_M) : vg_R Unit :=
  if 0 ≤ v1 then (
   vg_cv 1 v0 μ (fJ5_ensureCapacityInternal_d00df v0 v1 μ) fun _ μ3 =>
   vg_o (vg_gI μ3 v0 1 3) fun x4 =>
   if v1 ≤ x4 then (
    vg_o (vg_gI μ3 v0 1 3) fun x5 =>
    if x5 ≤ v1 then (
     fJ5_setLength_d00df_76  v0 v1 μ3
     ) else (
     vg_o (vg_z .boolean 1) fun z => vg_o (vg_p μ3 v0 1 2 (.int z)) fun μ6 =>
     fJ5_setLength_d00df_76  v0 v1 μ6
     )
    ) else (
    vg_cv 1 v0 μ3 (fJ5_isLatin1_aae02 v0  μ3) fun x7 μ8 =>
    if x7 = 0 then (
     vg_o (vg_gR μ8 v0 1 0) fun x9 =>
     vg_o (vg_gI μ8 v0 1 3) fun x10 =>
     none
     ) else (
     vg_o (vg_gR μ8 v0 1 0) fun x11 =>
     vg_o (vg_gI μ8 v0 1 3) fun x12 =>
     none
     )
    )
   ) else (
   none
   )
set_option maxHeartbeats 4000000 in
set_option maxRecDepth 100000 in
theorem cJ5_setLength_d00df_met {l : Launch} {D : va_G} {cy : Nat → ClassId} {H0 : Heap} {r : Unit} {μ μ' : vg_M} {cn nn : Nat} {v0 : Nat} {v1 : Int32} (hf : fJ5_setLength_d00df v0 v1 μ = some (r, μ', cn, nn)) : vg_Met l D cy H0 yJ5_setLength_d00df cJ5_setLength_d00df 2 none 15 μ [.ref v0, .int v1] none μ' cn nn := by
  refine vg_start (by decide +kernel) (List.forall_mem_cons.mpr ⟨rfl, (List.forall_mem_cons.mpr ⟨rfl, (fun _ h => nomatch h)⟩)⟩) (Nat.le_of_ble_eq_true rfl) ?_
  intro p e s m below meth c ls X hml hr hlk hnm hH hl
  have hl : vg_l ls 2 [(0, .ref v0), (1, .int v1)] := hl
  have Z : vg_Z D cy H0 p s m _ c cJ5_setLength_d00df RJ5 meth 2 none (vg_rm 15 cn nn) 15 cn nn _ := ⟨X, hml, hr, hlk, Nat.le_refl _, Nat.le_refl _, Nat.le_refl _, Nat.le_refl _, hnm⟩
  obtain ⟨-, -, -, -, hfr, hlo, hRc, hRs, -⟩ := id Z
  have hx := X.1
  have hb := X.2.1
  have hL : ∀ z ∈ ([] : List Loc), H0.size ≤ z.base := fun _ h => nomatch h
  have hC : 0 + cn = cn := Nat.zero_add _
  have hN : 0 + nn = nn := Nat.zero_add _
  delta fJ5_setLength_d00df at hf
  refine lv_iload_n hx hb dJ5_setLength_d00df_0 rfl (lv_at hl.1 1 rfl) ?_
  refine lv_if_ge (tgt := 13) hx hb dJ5_setLength_d00df_1 (by decide) (fun h8 => ?_) (fun h8 => ?_)
  · have hf := vg_ip h8 hf
    refine lv_aload_n hx hb dJ5_setLength_d00df_13 rfl (lv_at hl.1 0 rfl) ?_
    refine lv_iload_n hx hb dJ5_setLength_d00df_14 rfl (lv_at hl.1 1 rfl) ?_
    refine vg_callWv (ci := 1) X hml hl hH hL fCW_J5_100 rfl [.int v1] rfl rfl (Nat.le_of_ble_eq_true rfl) dJ5_setLength_d00df_15 hf hC hN hRc hRs hfr hlo (by decide) (fun _ _ _ _ h => cJ5_ensureCapacityInternal_d00df_met h) (fun _ μ3 cn nn H locs cells slots hf hC hN hH hL => ?_)
    refine lv_aload_n hx hb dJ5_setLength_d00df_18 rfl (lv_at hl.1 0 rfl) ?_
    refine vg_getI X hH fF_J5_79 dJ5_setLength_d00df_19 hf (fun x4 hf => ?_)
    refine lv_iload_n hx hb dJ5_setLength_d00df_22 rfl (lv_at hl.1 1 rfl) ?_
    refine lv_icmp_ge (tgt := 63) hx hb dJ5_setLength_d00df_23 (by decide) (fun h8 => ?_) (fun h8 => ?_)
    · have hf := vg_ip h8 hf
      refine lv_aload_n hx hb dJ5_setLength_d00df_63 rfl (lv_at hl.1 0 rfl) ?_
      refine vg_getI X hH fF_J5_79 dJ5_setLength_d00df_64 hf (fun x5 hf => ?_)
      refine lv_iload_n hx hb dJ5_setLength_d00df_67 rfl (lv_at hl.1 1 rfl) ?_
      refine lv_icmp_le (tgt := 76) hx hb dJ5_setLength_d00df_68 (by decide) (fun h8 => ?_) (fun h8 => ?_)
      · have hf := vg_ip h8 hf
        exact wJ5_setLength_d00df_76 Z  v0 v1 μ3 _ _ _ _ _ _ _ hf hH hL hC hN (hl.sub [0, 1] rfl)
      · have hf := vg_if h8 hf
        refine lv_aload_n hx hb dJ5_setLength_d00df_71 rfl (lv_at hl.1 0 rfl) ?_
        refine lv_iconst (v := 1) hx hb dJ5_setLength_d00df_72 (by decide) ?_
        refine vg_putZ X hH hL (by simp) fF_J5_73 dJ5_setLength_d00df_73 hf (fun μ6 H locs hf hH hL => ?_)
        exact wJ5_setLength_d00df_76 Z  v0 v1 μ6 _ _ _ _ _ _ _ hf hH hL hC hN (hl.sub [0, 1] rfl)
    · have hf := vg_if h8 hf
      refine lv_aload_n hx hb dJ5_setLength_d00df_26 rfl (lv_at hl.1 0 rfl) ?_
      refine vg_callWi (ci := 1) X hml hl hH hL fCW_J5_83 rfl [] rfl rfl (Nat.le_of_ble_eq_true rfl) dJ5_setLength_d00df_27 hf hC hN hRc hRs hfr hlo (by decide) (fun _ _ _ _ h => cJ5_isLatin1_aae02_met h) (fun x7 μ8 cn nn H locs cells slots hf hC hN hH hL => ?_)
      refine lv_if_eq (tgt := 48) hx hb dJ5_setLength_d00df_30 (by decide) (fun h8 => ?_) (fun h8 => ?_)
      · have hf := vg_ip h8 hf
        refine lv_aload_n hx hb dJ5_setLength_d00df_48 rfl (lv_at hl.1 0 rfl) ?_
        refine vg_getR X hH fF_J5_15 dJ5_setLength_d00df_49 hf (fun x9 hf => ?_)
        refine lv_aload_n hx hb dJ5_setLength_d00df_52 rfl (lv_at hl.1 0 rfl) ?_
        refine vg_getI X hH fF_J5_79 dJ5_setLength_d00df_53 hf (fun x10 hf => ?_)
        refine lv_iload_n hx hb dJ5_setLength_d00df_56 rfl (lv_at hl.1 1 rfl) ?_
        cases hf
      · have hf := vg_if h8 hf
        refine lv_aload_n hx hb dJ5_setLength_d00df_33 rfl (lv_at hl.1 0 rfl) ?_
        refine vg_getR X hH fF_J5_15 dJ5_setLength_d00df_34 hf (fun x11 hf => ?_)
        refine lv_aload_n hx hb dJ5_setLength_d00df_37 rfl (lv_at hl.1 0 rfl) ?_
        refine vg_getI X hH fF_J5_79 dJ5_setLength_d00df_38 hf (fun x12 hf => ?_)
        refine lv_iload_n hx hb dJ5_setLength_d00df_41 rfl (lv_at hl.1 1 rfl) ?_
        cases hf
  · have hf := vg_if h8 hf
    cases hf
def fJ4_setLength_d00df (v0 : Nat) (v1 : Int32) (μ : vg_M) : vg_R Unit :=
  vg_cv 1 v0 μ (fJ5_setLength_d00df v0 v1 μ) fun _ μ2 =>
  vg_ret () μ2
set_option maxHeartbeats 4000000 in
set_option maxRecDepth 100000 in
theorem cJ4_setLength_d00df_met {l : Launch} {D : va_G} {cy : Nat → ClassId} {H0 : Heap} {r : Unit} {μ μ' : vg_M} {cn nn : Nat} {v0 : Nat} {v1 : Int32} (hf : fJ4_setLength_d00df v0 v1 μ = some (r, μ', cn, nn)) : vg_Met l D cy H0 yJ4_setLength_d00df cJ4_setLength_d00df 2 none 16 μ [.ref v0, .int v1] none μ' cn nn := by
  refine vg_start (by decide +kernel) (List.forall_mem_cons.mpr ⟨rfl, (List.forall_mem_cons.mpr ⟨rfl, (fun _ h => nomatch h)⟩)⟩) (Nat.le_of_ble_eq_true rfl) ?_
  intro p e s m below meth c ls X hml hr hlk hnm hH hl
  have hl : vg_l ls 2 [(0, .ref v0), (1, .int v1)] := hl
  have Z : vg_Z D cy H0 p s m _ c cJ4_setLength_d00df RJ4 meth 2 none (vg_rm 16 cn nn) 16 cn nn _ := ⟨X, hml, hr, hlk, Nat.le_refl _, Nat.le_refl _, Nat.le_refl _, Nat.le_refl _, hnm⟩
  obtain ⟨-, -, -, -, hfr, hlo, hRc, hRs, -⟩ := id Z
  have hx := X.1
  have hb := X.2.1
  have hL : ∀ z ∈ ([] : List Loc), H0.size ≤ z.base := fun _ h => nomatch h
  have hC : 0 + cn = cn := Nat.zero_add _
  have hN : 0 + nn = nn := Nat.zero_add _
  delta fJ4_setLength_d00df at hf
  refine lv_aload_n hx hb dJ4_setLength_d00df_0 rfl (lv_at hl.1 0 rfl) ?_
  refine lv_iload_n hx hb dJ4_setLength_d00df_1 rfl (lv_at hl.1 1 rfl) ?_
  refine vg_callUv (ci := 1) X hml hl hH hL fCU_J4_333 rfl [.int v1] rfl rfl (Nat.le_of_ble_eq_true rfl) dJ4_setLength_d00df_2 hf hC hN hRc hRs hfr hlo (by decide) (fun _ _ _ _ h => cJ5_setLength_d00df_met h) (fun _ μ2 cn nn H locs cells slots hf hC hN hH hL => ?_)
  exact vg_retv X hr hlk hH hL dJ4_setLength_d00df_5 hf hC hN
def fJ4_toString_0e30d (v0 : Nat) (μ : vg_M) : vg_R (Option Nat) :=
  vg_nw 4 μ.2.1 (vg_nO μ 0 [.null, .int 0, .int 0, .int 0]) fun a1 μ2 =>
  vg_b (fJ0_init_81219 a1 (some v0) μ2) fun _ μ4 =>
  vg_ret (some a1) μ4
set_option maxHeartbeats 4000000 in
set_option maxRecDepth 100000 in
theorem cJ4_toString_0e30d_met {l : Launch} {D : va_G} {cy : Nat → ClassId} {H0 : Heap} {r : (Option Nat)} {μ μ' : vg_M} {cn nn : Nat} {v0 : Nat} (hf : fJ4_toString_0e30d v0 μ = some (r, μ', cn, nn)) : vg_Met l D cy H0 yJ4_toString_0e30d cJ4_toString_0e30d 1 (some (.object "java/lang/String")) 17 μ [.ref v0] (some (va_rf r)) μ' cn nn := by
  refine vg_start (by decide +kernel) (List.forall_mem_cons.mpr ⟨rfl, (fun _ h => nomatch h)⟩) (Nat.le_of_ble_eq_true rfl) ?_
  intro p e s m below meth c ls X hml hr hlk hnm hH hl
  have hl : vg_l ls 1 [(0, .ref v0)] := hl
  have Z : vg_Z D cy H0 p s m _ c cJ4_toString_0e30d RJ4 meth 1 (some (.object "java/lang/String")) (vg_rm 17 cn nn) 17 cn nn _ := ⟨X, hml, hr, hlk, Nat.le_refl _, Nat.le_refl _, Nat.le_refl _, Nat.le_refl _, hnm⟩
  obtain ⟨-, -, -, -, hfr, hlo, hRc, hRs, -⟩ := id Z
  have hx := X.1
  have hb := X.2.1
  have hL : ∀ z ∈ ([] : List Loc), H0.size ≤ z.base := fun _ h => nomatch h
  have hC : 0 + cn = cn := Nat.zero_add _
  have hN : 0 + nn = nn := Nat.zero_add _
  delta fJ4_toString_0e30d at hf
  refine vg_new X hH fN_J4_18 dJ4_toString_0e30d_0 hf hC hN hRc hRs (fun a1 μ2 cn nn H hf hC hN hH => ?_)
  refine lv_dup hx hb dJ4_toString_0e30d_3 rfl ?_
  refine lv_aload_n hx hb dJ4_toString_0e30d_4 rfl (lv_at hl.1 0 rfl) ?_
  refine vg_callIv X hml hl hH hL fCI_J4_137 [.ref v0] rfl rfl (Nat.le_of_ble_eq_true rfl) dJ4_toString_0e30d_5 hf hC hN hRc hRs hfr hlo (by decide) (fun _ _ _ _ h => cJ0_init_81219_met h) (fun _ μ4 cn nn H locs cells slots hf hC hN hH hL => ?_)
  exact vg_reta X (by simp) hr hlk hH hL dJ4_toString_0e30d_8 hf hC hN
def fJ7_copyOf_6403c (v0 : Option Nat) (v1 : Int32) (v2 : Option Nat) (μ : vg_M) : vg_R (Option Nat) :=
  vg_k μ 32 fun a1 =>
  if v2 = (some a1) then (
   vg_o (vg_len v1) fun n => vg_nw n μ.2.1 (vg_nR μ n) fun a2 μ3 =>
   vg_o v0 fun a4 =>
   vg_o (vg_al μ3 a4) fun x5 =>
   vg_o (vg_cpR μ3 a4 0 a2 0 (if v1 < x5 then v1 else x5)) fun μ6 =>
   vg_ret (some a2) μ6
   ) else (
   none
   )
set_option maxHeartbeats 4000000 in
set_option maxRecDepth 100000 in
theorem cJ7_copyOf_6403c_met {l : Launch} {D : va_G} {cy : Nat → ClassId} {H0 : Heap} {r : (Option Nat)} {μ μ' : vg_M} {cn nn : Nat} {v0 : Option Nat} {v1 : Int32} {v2 : Option Nat} (hf : fJ7_copyOf_6403c v0 v1 v2 μ = some (r, μ', cn, nn)) : vg_Met l D cy H0 yJ7_copyOf_6403c cJ7_copyOf_6403c 4 (some (.array (.object "java/lang/Object"))) 12 μ [va_rf v0, .int v1, va_rf v2] (some (va_rf r)) μ' cn nn := by
  refine vg_start (by decide +kernel) (List.forall_mem_cons.mpr ⟨vg_rfc _, (List.forall_mem_cons.mpr ⟨rfl, (List.forall_mem_cons.mpr ⟨vg_rfc _, (fun _ h => nomatch h)⟩)⟩)⟩) (Nat.le_of_ble_eq_true rfl) ?_
  intro p e s m below meth c ls X hml hr hlk hnm hH hl
  have hl : vg_l ls 4 [(0, va_rf v0), (1, .int v1), (2, va_rf v2)] := hl
  have Z : vg_Z D cy H0 p s m _ c cJ7_copyOf_6403c RJ7 meth 4 (some (.array (.object "java/lang/Object"))) (vg_rm 12 cn nn) 12 cn nn _ := ⟨X, hml, hr, hlk, Nat.le_refl _, Nat.le_refl _, Nat.le_refl _, Nat.le_refl _, hnm⟩
  obtain ⟨-, -, -, -, hfr, hlo, hRc, hRs, -⟩ := id Z
  have hx := X.1
  have hb := X.2.1
  have hL : ∀ z ∈ ([] : List Loc), H0.size ≤ z.base := fun _ h => nomatch h
  have hC : 0 + cn = cn := Nat.zero_add _
  have hN : 0 + nn = nn := Nat.zero_add _
  delta fJ7_copyOf_6403c at hf
  refine vg_aload_n hx hb dJ7_copyOf_6403c_0 rfl (lv_at hl.1 2 rfl) ?_
  refine vg_ldcM X hH kw_629990088 dJ7_copyOf_6403c_1 hf (fun a1 hf => ?_)
  refine lv_acmp_ne (rx := v2) (ry := (some a1)) (tgt := 13) hx hb dJ7_copyOf_6403c_3 (by decide) (fun h8 => ?_) (fun h8 => ?_)
  · have hf := vg_if h8 hf
    refine vg_aload_n hx hb dJ7_copyOf_6403c_13 rfl (lv_at hl.1 2 rfl) ?_
    cases hf
  · have hf := vg_ip h8 hf
    refine lv_iload_n hx hb dJ7_copyOf_6403c_6 rfl (lv_at hl.1 1 rfl) ?_
    refine vg_anew X hH kw_438753203 dJ7_copyOf_6403c_7 hf hC hN hRc hRs (fun a2 μ3 cn nn H cells slots hf hC hN hH => ?_)
    refine lv_goto (tgt := 24) hx hb dJ7_copyOf_6403c_10 (by decide) ?_
    refine vg_astore_n (x := some a2) (lv' := [(3, .ref a2), (0, va_rf v0), (1, .int v1), (2, va_rf v2)]) hx hb dJ7_copyOf_6403c_24 rfl hl (by decide) rfl (fun ls hl => ?_)
    refine vg_aload_n hx hb dJ7_copyOf_6403c_25 rfl (lv_at hl.1 1 rfl) ?_
    refine lv_iconst (v := 0) hx hb dJ7_copyOf_6403c_26 (by decide) ?_
    refine lv_aload_n hx hb dJ7_copyOf_6403c_27 rfl (lv_at hl.1 0 rfl) ?_
    refine lv_iconst (v := 0) hx hb dJ7_copyOf_6403c_28 (by decide) ?_
    refine vg_aload_n hx hb dJ7_copyOf_6403c_29 rfl (lv_at hl.1 1 rfl) ?_
    obtain ⟨a4, h9, hg⟩ := vg_o_inv hf
    clear hf
    subst h9
    have hf := hg
    clear hg
    refine vg_alen X hH dJ7_copyOf_6403c_30 hf (fun x5 hf => ?_)
    refine lv_iload_n hx hb dJ7_copyOf_6403c_31 rfl (lv_at hl.1 2 rfl) ?_
    refine vg_mmin X hml hl kw_186725841 kw_875827865 kw_386489653 kw_394918299 (Nat.le_of_ble_eq_true rfl) hC hN hRc hRs (Nat.le_trans (by decide) hfr) (Nat.le_trans (by decide) hlo) dJ7_copyOf_6403c_32 ?_
    refine vg_acopyR X hml hl hH hL kw_120856667 kw_93826578 kw_984968033 kw_630143193 (Nat.le_of_ble_eq_true rfl) (Nat.le_trans (by decide) hfr) (Nat.le_trans (by decide) hlo) dJ7_copyOf_6403c_35 hf (fun μ6 H locs hf hH hL => ?_)
    refine lv_aload_n hx hb dJ7_copyOf_6403c_38 rfl (lv_at hl.1 0 rfl) ?_
    exact vg_reta X (by simp) hr hlk hH hL dJ7_copyOf_6403c_39 hf hC hN
def fJ7_copyOf_1904c (v0 : Option Nat) (v1 : Int32) (μ : vg_M) : vg_R (Option Nat) :=
  vg_o v0 fun a1 =>
  vg_cka μ a1 5 <| vg_k μ 32 fun a2 =>
  vg_b (fJ7_copyOf_6403c (some a1) v1 (some a2) μ) fun x3 μ4 =>
  vg_ret x3 μ4
set_option maxHeartbeats 4000000 in
set_option maxRecDepth 100000 in
theorem cJ7_copyOf_1904c_met {l : Launch} {D : va_G} {cy : Nat → ClassId} {H0 : Heap} {r : (Option Nat)} {μ μ' : vg_M} {cn nn : Nat} {v0 : Option Nat} {v1 : Int32} (hf : fJ7_copyOf_1904c v0 v1 μ = some (r, μ', cn, nn)) : vg_Met l D cy H0 yJ7_copyOf_1904c cJ7_copyOf_1904c 2 (some (.array (.object "java/lang/Object"))) 13 μ [va_rf v0, .int v1] (some (va_rf r)) μ' cn nn := by
  refine vg_start (by decide +kernel) (List.forall_mem_cons.mpr ⟨vg_rfc _, (List.forall_mem_cons.mpr ⟨rfl, (fun _ h => nomatch h)⟩)⟩) (Nat.le_of_ble_eq_true rfl) ?_
  intro p e s m below meth c ls X hml hr hlk hnm hH hl
  have hl : vg_l ls 2 [(0, va_rf v0), (1, .int v1)] := hl
  have Z : vg_Z D cy H0 p s m _ c cJ7_copyOf_1904c RJ7 meth 2 (some (.array (.object "java/lang/Object"))) (vg_rm 13 cn nn) 13 cn nn _ := ⟨X, hml, hr, hlk, Nat.le_refl _, Nat.le_refl _, Nat.le_refl _, Nat.le_refl _, hnm⟩
  obtain ⟨-, -, -, -, hfr, hlo, hRc, hRs, -⟩ := id Z
  have hx := X.1
  have hb := X.2.1
  have hL : ∀ z ∈ ([] : List Loc), H0.size ≤ z.base := fun _ h => nomatch h
  have hC : 0 + cn = cn := Nat.zero_add _
  have hN : 0 + nn = nn := Nat.zero_add _
  delta fJ7_copyOf_1904c at hf
  refine vg_aload_n hx hb dJ7_copyOf_1904c_0 rfl (lv_at hl.1 0 rfl) ?_
  refine lv_iload_n hx hb dJ7_copyOf_1904c_1 rfl (lv_at hl.1 1 rfl) ?_
  refine vg_aload_n hx hb dJ7_copyOf_1904c_2 rfl (lv_at hl.1 0 rfl) ?_
  obtain ⟨a1, h9, hg⟩ := vg_o_inv hf
  clear hf
  subst h9
  have hf := hg
  clear hg
  refine vg_getC X hml hl hH kw_75086790 kw_991365863 kw_534208249 kw_943582353 (Nat.le_of_ble_eq_true rfl) (Nat.le_trans (by decide) hfr) (Nat.le_trans (by decide) hlo) dJ7_copyOf_1904c_3 hf (fun a2 hf => ?_)
  refine vg_callSr X hml hl hH hL fCS_J7_300 [.ref a1, .int v1, .ref a2] rfl rfl (Nat.le_of_ble_eq_true rfl) dJ7_copyOf_1904c_6 hf hC hN hRc hRs hfr hlo (by decide) (fun _ _ _ _ h => cJ7_copyOf_6403c_met h) (fun x3 μ4 cn nn H locs cells slots hf hC hN hH hL => ?_)
  exact vg_reta X (by simp) hr hlk hH hL dJ7_copyOf_1904c_9 hf hC hN
def fJ7_fill_53178_5  : Nat → Option Nat → Int32 → Int32 → Int32 → vg_M → vg_R Unit
  | 0, _, _, _, _, _ => none
  | n + 1, v0, v1, v2, v3, μ =>
    if v3 ≤ v2 then (
     vg_ret () μ
     ) else (
     vg_o v0 fun a1 =>
     vg_o (vg_sI μ a1 2 v2 v1) fun μ2 =>
     (fJ7_fill_53178_5  n) (some a1) v1 (v2 + 1) v3 μ2
     )
set_option maxHeartbeats 4000000 in
set_option maxRecDepth 100000 in
theorem wJ7_fill_53178_5 {p : Program} {l : Launch} {e : Env} {R : Room} {s : State} {m : MethodId} {args : Array Value} {below : List Frame} {meth : Method} {c : Code} {D : va_G} {cy : Nat → ClassId} {H0 : Heap} {C0 N0 : Nat} {r : Unit} {μ' : vg_M} (Z : vg_Z D cy H0 p s m args c cJ7_fill_53178 RJ7 meth 4 none R 12 C0 N0 "fill")   : ∀ (n : Nat) (v0 : Option Nat) (v1 : Int32) (v2 : Int32) (v3 : Int32) (μ : vg_M), vg_S p l e R s m args below meth c D cy H0 C0 N0 4 (MQ below (vg_Qc D cy H0 μ' none) args s C0 N0 (vg_fr H0)) r μ' (fJ7_fill_53178_5  n v0 v1 v2 v3 μ) μ [(0, va_rf v0), (1, .int v1), (2, .int v2), (3, .int v3)] [] 5 := by
  intro n
  induction n with
  | zero =>
    intro v0 v1 v2 v3 μ cn nn H locs cells slots ls hf
    simp [fJ7_fill_53178_5] at hf
  | succ n hk5 =>
    intro v0 v1 v2 v3 μ
    intro cn nn H locs cells slots ls hf hH hL hC hN hl
    obtain ⟨X, hml, hr, hlk, hfr, hlo, hRc, hRs, hnm⟩ := id Z
    have hx := X.1
    have hb := X.2.1
    rw [fJ7_fill_53178_5] at hf
    refine lv_iload_n hx hb dJ7_fill_53178_5 rfl (lv_at hl.1 2 rfl) ?_
    refine lv_iload_n hx hb dJ7_fill_53178_6 rfl (lv_at hl.1 3 rfl) ?_
    refine lv_icmp_ge (tgt := 20) hx hb dJ7_fill_53178_7 (by decide) (fun h8 => ?_) (fun h8 => ?_)
    · have hf := vg_ip h8 hf
      exact vg_retv X hr hlk hH hL dJ7_fill_53178_20 hf hC hN
    · have hf := vg_if h8 hf
      refine vg_aload_n hx hb dJ7_fill_53178_10 rfl (lv_at hl.1 0 rfl) ?_
      refine lv_iload_n hx hb dJ7_fill_53178_11 rfl (lv_at hl.1 2 rfl) ?_
      refine lv_iload_n hx hb dJ7_fill_53178_12 rfl (lv_at hl.1 1 rfl) ?_
      obtain ⟨a1, h9, hg⟩ := vg_o_inv hf
      clear hf
      subst h9
      have hf := hg
      clear hg
      refine vg_iast X hH hL dJ7_fill_53178_13 hf (fun μ2 H locs hf hH hL => ?_)
      refine vg_iinc (v := v2 + 1) (lv' := [(2, .int (v2 + 1)), (0, .ref a1), (1, .int v1), (3, .int v3)]) hx hb dJ7_fill_53178_14 hl (k := 2) rfl rfl (by decide) rfl (fun ls hl => ?_)
      refine lv_goto (tgt := 5) hx hb dJ7_fill_53178_17 (by decide) ?_
      exact hk5 (some a1) v1 (v2 + 1) v3 μ2 _ _ _ _ _ _ _ hf hH hL hC hN (hl.sub [1, 2, 0, 3] rfl)
def fJ7_fill_53178 (v0 : Option Nat) (v1 : Int32) (μ : vg_M) : vg_R Unit :=
  vg_o v0 fun a3 =>
  vg_o (vg_al μ a3) fun x4 =>
  fJ7_fill_53178_5  vg_fuel (some a3) v1 0 x4 μ
set_option maxHeartbeats 4000000 in
set_option maxRecDepth 100000 in
theorem cJ7_fill_53178_met {l : Launch} {D : va_G} {cy : Nat → ClassId} {H0 : Heap} {r : Unit} {μ μ' : vg_M} {cn nn : Nat} {v0 : Option Nat} {v1 : Int32} (hf : fJ7_fill_53178 v0 v1 μ = some (r, μ', cn, nn)) : vg_Met l D cy H0 yJ7_fill_53178 cJ7_fill_53178 4 none 12 μ [va_rf v0, .int v1] none μ' cn nn := by
  refine vg_start (by decide +kernel) (List.forall_mem_cons.mpr ⟨vg_rfc _, (List.forall_mem_cons.mpr ⟨rfl, (fun _ h => nomatch h)⟩)⟩) (Nat.le_of_ble_eq_true rfl) ?_
  intro p e s m below meth c ls X hml hr hlk hnm hH hl
  have hl : vg_l ls 4 [(0, va_rf v0), (1, .int v1)] := hl
  have Z : vg_Z D cy H0 p s m _ c cJ7_fill_53178 RJ7 meth 4 none (vg_rm 12 cn nn) 12 cn nn _ := ⟨X, hml, hr, hlk, Nat.le_refl _, Nat.le_refl _, Nat.le_refl _, Nat.le_refl _, hnm⟩
  obtain ⟨-, -, -, -, hfr, hlo, hRc, hRs, -⟩ := id Z
  have hx := X.1
  have hb := X.2.1
  have hL : ∀ z ∈ ([] : List Loc), H0.size ≤ z.base := fun _ h => nomatch h
  have hC : 0 + cn = cn := Nat.zero_add _
  have hN : 0 + nn = nn := Nat.zero_add _
  delta fJ7_fill_53178 at hf
  refine lv_iconst (v := 0) hx hb dJ7_fill_53178_0 (by decide) ?_
  refine vg_istore_n (lv' := [(2, .int 0), (0, va_rf v0), (1, .int v1)]) hx hb dJ7_fill_53178_1 rfl hl (by decide) rfl (fun ls hl => ?_)
  refine vg_aload_n hx hb dJ7_fill_53178_2 rfl (lv_at hl.1 1 rfl) ?_
  obtain ⟨a3, h9, hg⟩ := vg_o_inv hf
  clear hf
  subst h9
  have hf := hg
  clear hg
  refine vg_alen X hH dJ7_fill_53178_3 hf (fun x4 hf => ?_)
  refine vg_istore_n (lv' := [(3, .int x4), (2, .int 0), (0, .ref a3), (1, .int v1)]) hx hb dJ7_fill_53178_4 rfl hl (by decide) rfl (fun ls hl => ?_)
  exact wJ7_fill_53178_5 Z  vg_fuel (some a3) v1 0 x4 μ _ _ _ _ _ _ _ hf hH hL hC hN (hl.sub [2, 3, 1, 0] rfl)
def fJx4a65c_grow_92f84_20  (v0 : Nat) (v1 : Int32) (v2 : Int32) (μ : vg_M) : vg_R (Option Nat) :=
  vg_b (fJ8_newLength_cabcc v2 (v1 - v2) (v2 >>> (1 &&& 31)) μ) fun x1 μ2 =>
  vg_o (vg_gR μ2 v0 2 1) fun x3 =>
  vg_b (fJ7_copyOf_1904c x3 x1 μ2) fun x4 μ5 =>
  vg_o (vg_p μ5 v0 2 1 (va_rf x4)) fun μ6 =>
  vg_ret x4 μ6
set_option maxHeartbeats 4000000 in
set_option maxRecDepth 100000 in
theorem wJx4a65c_grow_92f84_20 {p : Program} {l : Launch} {e : Env} {R : Room} {s : State} {m : MethodId} {args : Array Value} {below : List Frame} {meth : Method} {c : Code} {D : va_G} {cy : Nat → ClassId} {H0 : Heap} {C0 N0 : Nat} {r : (Option Nat)} {μ' : vg_M} (Z : vg_Z D cy H0 p s m args c cJx4a65c_grow_92f84 RJx4a65c meth 4 (some (.array (.object "java/lang/Object"))) R 14 C0 N0 "grow")   (v0 : Nat) (v1 : Int32) (v2 : Int32) (μ : vg_M) : vg_S p l e R s m args below meth c D cy H0 C0 N0 4 (MQ below (vg_Qc D cy H0 μ' (some (va_rf r))) args s C0 N0 (vg_fr H0)) r μ' (fJx4a65c_grow_92f84_20  v0 v1 v2 μ) μ [(0, .ref v0), (1, .int v1), (2, .int v2)] [] 20 := by
  intro cn nn H locs cells slots ls hf hH hL hC hN hl
  obtain ⟨X, hml, hr, hlk, hfr, hlo, hRc, hRs, hnm⟩ := id Z
  have hx := X.1
  have hb := X.2.1
  delta fJx4a65c_grow_92f84_20 at hf
  refine lv_iload_n hx hb dJx4a65c_grow_92f84_20 rfl (lv_at hl.1 2 rfl) ?_
  refine lv_iload_n hx hb dJx4a65c_grow_92f84_21 rfl (lv_at hl.1 1 rfl) ?_
  refine lv_iload_n hx hb dJx4a65c_grow_92f84_22 rfl (lv_at hl.1 2 rfl) ?_
  refine lv_isub hx hb dJx4a65c_grow_92f84_23 ?_
  refine lv_iload_n hx hb dJx4a65c_grow_92f84_24 rfl (lv_at hl.1 2 rfl) ?_
  refine lv_iconst (v := 1) hx hb dJx4a65c_grow_92f84_25 (by decide) ?_
  refine lv_ishr hx hb dJx4a65c_grow_92f84_26 ?_
  refine vg_callSi X hml hl hH hL fCS_Jx4a65c_73 [.int v2, .int (v1 - v2), .int (v2 >>> (1 &&& 31))] rfl rfl (Nat.le_of_ble_eq_true rfl) dJx4a65c_grow_92f84_27 hf hC hN hRc hRs hfr hlo (by decide) (fun _ _ _ _ h => cJ8_newLength_cabcc_met h) (fun x1 μ2 cn nn H locs cells slots hf hC hN hH hL => ?_)
  refine vg_istore_n (lv' := [(3, .int x1), (0, .ref v0), (1, .int v1), (2, .int v2)]) hx hb dJx4a65c_grow_92f84_30 rfl hl (by decide) rfl (fun ls hl => ?_)
  refine lv_aload_n hx hb dJx4a65c_grow_92f84_31 rfl (lv_at hl.1 1 rfl) ?_
  refine lv_aload_n hx hb dJx4a65c_grow_92f84_32 rfl (lv_at hl.1 1 rfl) ?_
  refine vg_getR X hH fF_Jx4a65c_9 dJx4a65c_grow_92f84_33 hf (fun x3 hf => ?_)
  refine lv_iload_n hx hb dJx4a65c_grow_92f84_36 rfl (lv_at hl.1 0 rfl) ?_
  refine vg_callSr X hml hl hH hL fCS_Jx4a65c_66 [va_rf x3, .int x1] rfl rfl (Nat.le_of_ble_eq_true rfl) dJx4a65c_grow_92f84_37 hf hC hN hRc hRs hfr hlo (by decide) (fun _ _ _ _ h => cJ7_copyOf_1904c_met h) (fun x4 μ5 cn nn H locs cells slots hf hC hN hH hL => ?_)
  refine lv_dup_x1 hx hb dJx4a65c_grow_92f84_40 (vg_rfc _) rfl ?_
  refine vg_putV X hH hL fF_Jx4a65c_9 (vg_fitR (by simp) x4).1 (vg_fitR (by simp) x4).2 dJx4a65c_grow_92f84_41 hf (fun μ6 H locs hf hH hL => ?_)
  exact vg_reta X (by simp) hr hlk hH hL dJx4a65c_grow_92f84_44 hf hC hN
def fJx4a65c_grow_92f84 (v0 : Nat) (v1 : Int32) (μ : vg_M) : vg_R (Option Nat) :=
  vg_o (vg_gR μ v0 2 1) fun x7 =>
  vg_o x7 fun a8 =>
  vg_o (vg_al μ a8) fun x9 =>
  if 0 < x9 then (
   fJx4a65c_grow_92f84_20  v0 v1 x9 μ
   ) else (
   vg_o (vg_gR μ v0 2 1) fun x10 =>
   vg_k μ 31 fun a11 =>
   if x10 = (some a11) then (
    vg_o (vg_len (if 10 < v1 then v1 else 10)) fun n => vg_nw n μ.2.1 (vg_nR μ n) fun a12 μ13 =>
    vg_o (vg_p μ13 v0 2 1 (.ref a12)) fun μ14 =>
    vg_ret (some a12) μ14
    ) else (
    fJx4a65c_grow_92f84_20  v0 v1 x9 μ
    )
   )
set_option maxHeartbeats 4000000 in
set_option maxRecDepth 100000 in
theorem cJx4a65c_grow_92f84_met {l : Launch} {D : va_G} {cy : Nat → ClassId} {H0 : Heap} {r : (Option Nat)} {μ μ' : vg_M} {cn nn : Nat} {v0 : Nat} {v1 : Int32} (hf : fJx4a65c_grow_92f84 v0 v1 μ = some (r, μ', cn, nn)) : vg_Met l D cy H0 yJx4a65c_grow_92f84 cJx4a65c_grow_92f84 4 (some (.array (.object "java/lang/Object"))) 14 μ [.ref v0, .int v1] (some (va_rf r)) μ' cn nn := by
  refine vg_start (by decide +kernel) (List.forall_mem_cons.mpr ⟨rfl, (List.forall_mem_cons.mpr ⟨rfl, (fun _ h => nomatch h)⟩)⟩) (Nat.le_of_ble_eq_true rfl) ?_
  intro p e s m below meth c ls X hml hr hlk hnm hH hl
  have hl : vg_l ls 4 [(0, .ref v0), (1, .int v1)] := hl
  have Z : vg_Z D cy H0 p s m _ c cJx4a65c_grow_92f84 RJx4a65c meth 4 (some (.array (.object "java/lang/Object"))) (vg_rm 14 cn nn) 14 cn nn _ := ⟨X, hml, hr, hlk, Nat.le_refl _, Nat.le_refl _, Nat.le_refl _, Nat.le_refl _, hnm⟩
  obtain ⟨-, -, -, -, hfr, hlo, hRc, hRs, -⟩ := id Z
  have hx := X.1
  have hb := X.2.1
  have hL : ∀ z ∈ ([] : List Loc), H0.size ≤ z.base := fun _ h => nomatch h
  have hC : 0 + cn = cn := Nat.zero_add _
  have hN : 0 + nn = nn := Nat.zero_add _
  delta fJx4a65c_grow_92f84 at hf
  refine lv_aload_n hx hb dJx4a65c_grow_92f84_0 rfl (lv_at hl.1 0 rfl) ?_
  refine vg_getR X hH fF_Jx4a65c_9 dJx4a65c_grow_92f84_1 hf (fun x7 hf => ?_)
  obtain ⟨a8, h9, hg⟩ := vg_o_inv hf
  clear hf
  subst h9
  have hf := hg
  clear hg
  refine vg_alen X hH dJx4a65c_grow_92f84_4 hf (fun x9 hf => ?_)
  refine vg_istore_n (lv' := [(2, .int x9), (0, .ref v0), (1, .int v1)]) hx hb dJx4a65c_grow_92f84_5 rfl hl (by decide) rfl (fun ls hl => ?_)
  refine lv_iload_n hx hb dJx4a65c_grow_92f84_6 rfl (lv_at hl.1 0 rfl) ?_
  refine lv_if_gt (tgt := 20) hx hb dJx4a65c_grow_92f84_7 (by decide) (fun h8 => ?_) (fun h8 => ?_)
  · have hf := vg_ip h8 hf
    exact wJx4a65c_grow_92f84_20 Z  v0 v1 x9 μ _ _ _ _ _ _ _ hf hH hL hC hN (hl.sub [1, 2, 0] rfl)
  · have hf := vg_if h8 hf
    refine lv_aload_n hx hb dJx4a65c_grow_92f84_10 rfl (lv_at hl.1 1 rfl) ?_
    refine vg_getR X hH fF_Jx4a65c_9 dJx4a65c_grow_92f84_11 hf (fun x10 hf => ?_)
    refine vg_gsE X hH kw_554507245 dJx4a65c_grow_92f84_14 hf (fun a11 hf => ?_)
    refine lv_acmp_eq (rx := x10) (ry := (some a11)) (tgt := 45) hx hb dJx4a65c_grow_92f84_17 (by decide) (fun h8 => ?_) (fun h8 => ?_)
    · have hf := vg_ip h8 hf
      refine lv_aload_n hx hb dJx4a65c_grow_92f84_45 rfl (lv_at hl.1 1 rfl) ?_
      refine lv_bipush (v := 10) hx hb dJx4a65c_grow_92f84_46 (by decide) ?_
      refine lv_iload_n hx hb dJx4a65c_grow_92f84_48 rfl (lv_at hl.1 2 rfl) ?_
      refine vg_mmax X hml hl kw_3539269 kw_365850442 kw_386489653 kw_226353876 (Nat.le_of_ble_eq_true rfl) hC hN hRc hRs (Nat.le_trans (by decide) hfr) (Nat.le_trans (by decide) hlo) dJx4a65c_grow_92f84_49 ?_
      refine vg_anew X hH kw_14512870 dJx4a65c_grow_92f84_52 hf hC hN hRc hRs (fun a12 μ13 cn nn H cells slots hf hC hN hH => ?_)
      refine lv_dup_x1 hx hb dJx4a65c_grow_92f84_55 rfl rfl ?_
      refine vg_putV X hH hL fF_Jx4a65c_9 (vg_fitR (by simp) (some a12)).1 (vg_fitR (by simp) (some a12)).2 dJx4a65c_grow_92f84_56 hf (fun μ14 H locs hf hH hL => ?_)
      exact vg_reta X (by simp) hr hlk hH hL dJx4a65c_grow_92f84_59 hf hC hN
    · have hf := vg_if h8 hf
      exact wJx4a65c_grow_92f84_20 Z  v0 v1 x9 μ _ _ _ _ _ _ _ hf hH hL hC hN (hl.sub [1, 2, 0] rfl)
def fJx4a65c_grow_d5877 (v0 : Nat) (μ : vg_M) : vg_R (Option Nat) :=
  vg_o (vg_gI μ v0 2 2) fun x1 =>
  vg_cv 2 v0 μ (fJx4a65c_grow_92f84 v0 (x1 + 1) μ) fun x2 μ3 =>
  vg_ret x2 μ3
set_option maxHeartbeats 4000000 in
set_option maxRecDepth 100000 in
theorem cJx4a65c_grow_d5877_met {l : Launch} {D : va_G} {cy : Nat → ClassId} {H0 : Heap} {r : (Option Nat)} {μ μ' : vg_M} {cn nn : Nat} {v0 : Nat} (hf : fJx4a65c_grow_d5877 v0 μ = some (r, μ', cn, nn)) : vg_Met l D cy H0 yJx4a65c_grow_d5877 cJx4a65c_grow_d5877 1 (some (.array (.object "java/lang/Object"))) 15 μ [.ref v0] (some (va_rf r)) μ' cn nn := by
  refine vg_start (by decide +kernel) (List.forall_mem_cons.mpr ⟨rfl, (fun _ h => nomatch h)⟩) (Nat.le_of_ble_eq_true rfl) ?_
  intro p e s m below meth c ls X hml hr hlk hnm hH hl
  have hl : vg_l ls 1 [(0, .ref v0)] := hl
  have Z : vg_Z D cy H0 p s m _ c cJx4a65c_grow_d5877 RJx4a65c meth 1 (some (.array (.object "java/lang/Object"))) (vg_rm 15 cn nn) 15 cn nn _ := ⟨X, hml, hr, hlk, Nat.le_refl _, Nat.le_refl _, Nat.le_refl _, Nat.le_refl _, hnm⟩
  obtain ⟨-, -, -, -, hfr, hlo, hRc, hRs, -⟩ := id Z
  have hx := X.1
  have hb := X.2.1
  have hL : ∀ z ∈ ([] : List Loc), H0.size ≤ z.base := fun _ h => nomatch h
  have hC : 0 + cn = cn := Nat.zero_add _
  have hN : 0 + nn = nn := Nat.zero_add _
  delta fJx4a65c_grow_d5877 at hf
  refine lv_aload_n hx hb dJx4a65c_grow_d5877_0 rfl (lv_at hl.1 0 rfl) ?_
  refine lv_aload_n hx hb dJx4a65c_grow_d5877_1 rfl (lv_at hl.1 0 rfl) ?_
  refine vg_getI X hH fF_Jx4a65c_48 dJx4a65c_grow_d5877_2 hf (fun x1 hf => ?_)
  refine lv_iconst (v := 1) hx hb dJx4a65c_grow_d5877_5 (by decide) ?_
  refine lv_iadd hx hb dJx4a65c_grow_d5877_6 ?_
  refine vg_callVr (ci := 2) X hml hl hH hL fCV_Jx4a65c_69 rfl [.int (x1 + 1)] rfl rfl (Nat.le_of_ble_eq_true rfl) dJx4a65c_grow_d5877_7 hf hC hN hRc hRs hfr hlo (by decide) (fun _ _ _ _ h => cJx4a65c_grow_92f84_met h) (fun x2 μ3 cn nn H locs cells slots hf hC hN hH hL => ?_)
  exact vg_reta X (by simp) hr hlk hH hL dJx4a65c_grow_d5877_10 hf hC hN
def fJx4a65c_add_72be8_11  (v0 : Nat) (v1 : Option Nat) (v2 : Option Nat) (v3 : Int32) (μ : vg_M) : vg_R Unit :=
  vg_o v2 fun a1 =>
  vg_o (vg_sR μ a1 v3 v1) fun μ2 =>
  vg_o (vg_p μ2 v0 2 2 (.int (v3 + 1))) fun μ3 =>
  vg_ret () μ3
set_option maxHeartbeats 4000000 in
set_option maxRecDepth 100000 in
theorem wJx4a65c_add_72be8_11 {p : Program} {l : Launch} {e : Env} {R : Room} {s : State} {m : MethodId} {args : Array Value} {below : List Frame} {meth : Method} {c : Code} {D : va_G} {cy : Nat → ClassId} {H0 : Heap} {C0 N0 : Nat} {r : Unit} {μ' : vg_M} (Z : vg_Z D cy H0 p s m args c cJx4a65c_add_72be8 RJx4a65c meth 4 none R 16 C0 N0 "add")   (v0 : Nat) (v1 : Option Nat) (v2 : Option Nat) (v3 : Int32) (μ : vg_M) : vg_S p l e R s m args below meth c D cy H0 C0 N0 4 (MQ below (vg_Qc D cy H0 μ' none) args s C0 N0 (vg_fr H0)) r μ' (fJx4a65c_add_72be8_11  v0 v1 v2 v3 μ) μ [(0, .ref v0), (1, va_rf v1), (2, va_rf v2), (3, .int v3)] [] 11 := by
  intro cn nn H locs cells slots ls hf hH hL hC hN hl
  obtain ⟨X, hml, hr, hlk, hfr, hlo, hRc, hRs, hnm⟩ := id Z
  have hx := X.1
  have hb := X.2.1
  delta fJx4a65c_add_72be8_11 at hf
  refine vg_aload_n hx hb dJx4a65c_add_72be8_11 rfl (lv_at hl.1 2 rfl) ?_
  refine lv_iload_n hx hb dJx4a65c_add_72be8_12 rfl (lv_at hl.1 3 rfl) ?_
  refine vg_aload_n hx hb dJx4a65c_add_72be8_13 rfl (lv_at hl.1 1 rfl) ?_
  obtain ⟨a1, h9, hg⟩ := vg_o_inv hf
  clear hf
  subst h9
  have hf := hg
  clear hg
  refine vg_aast X hH hL (x := v1) dJx4a65c_add_72be8_14 hf (fun μ2 H locs hf hH hL => ?_)
  refine lv_aload_n hx hb dJx4a65c_add_72be8_15 rfl (lv_at hl.1 0 rfl) ?_
  refine lv_iload_n hx hb dJx4a65c_add_72be8_16 rfl (lv_at hl.1 3 rfl) ?_
  refine lv_iconst (v := 1) hx hb dJx4a65c_add_72be8_17 (by decide) ?_
  refine lv_iadd hx hb dJx4a65c_add_72be8_18 ?_
  refine vg_putV X hH hL fF_Jx4a65c_48 rfl rfl dJx4a65c_add_72be8_19 hf (fun μ3 H locs hf hH hL => ?_)
  exact vg_retv X hr hlk hH hL dJx4a65c_add_72be8_22 hf hC hN
def fJx4a65c_add_72be8 (v0 : Nat) (v1 : Option Nat) (v2 : Option Nat) (v3 : Int32) (μ : vg_M) : vg_R Unit :=
  vg_o v2 fun a4 =>
  vg_o (vg_al μ a4) fun x5 =>
  if v3 = x5 then (
   vg_cv 2 v0 μ (fJx4a65c_grow_d5877 v0  μ) fun x6 μ7 =>
   fJx4a65c_add_72be8_11  v0 v1 x6 v3 μ7
   ) else (
   fJx4a65c_add_72be8_11  v0 v1 (some a4) v3 μ
   )
set_option maxHeartbeats 4000000 in
set_option maxRecDepth 100000 in
theorem cJx4a65c_add_72be8_met {l : Launch} {D : va_G} {cy : Nat → ClassId} {H0 : Heap} {r : Unit} {μ μ' : vg_M} {cn nn : Nat} {v0 : Nat} {v1 : Option Nat} {v2 : Option Nat} {v3 : Int32} (hf : fJx4a65c_add_72be8 v0 v1 v2 v3 μ = some (r, μ', cn, nn)) : vg_Met l D cy H0 yJx4a65c_add_72be8 cJx4a65c_add_72be8 4 none 16 μ [.ref v0, va_rf v1, va_rf v2, .int v3] none μ' cn nn := by
  refine vg_start (by decide +kernel) (List.forall_mem_cons.mpr ⟨rfl, (List.forall_mem_cons.mpr ⟨vg_rfc _, (List.forall_mem_cons.mpr ⟨vg_rfc _, (List.forall_mem_cons.mpr ⟨rfl, (fun _ h => nomatch h)⟩)⟩)⟩)⟩) (Nat.le_of_ble_eq_true rfl) ?_
  intro p e s m below meth c ls X hml hr hlk hnm hH hl
  have hl : vg_l ls 4 [(0, .ref v0), (1, va_rf v1), (2, va_rf v2), (3, .int v3)] := hl
  have Z : vg_Z D cy H0 p s m _ c cJx4a65c_add_72be8 RJx4a65c meth 4 none (vg_rm 16 cn nn) 16 cn nn _ := ⟨X, hml, hr, hlk, Nat.le_refl _, Nat.le_refl _, Nat.le_refl _, Nat.le_refl _, hnm⟩
  obtain ⟨-, -, -, -, hfr, hlo, hRc, hRs, -⟩ := id Z
  have hx := X.1
  have hb := X.2.1
  have hL : ∀ z ∈ ([] : List Loc), H0.size ≤ z.base := fun _ h => nomatch h
  have hC : 0 + cn = cn := Nat.zero_add _
  have hN : 0 + nn = nn := Nat.zero_add _
  delta fJx4a65c_add_72be8 at hf
  refine lv_iload_n hx hb dJx4a65c_add_72be8_0 rfl (lv_at hl.1 3 rfl) ?_
  refine vg_aload_n hx hb dJx4a65c_add_72be8_1 rfl (lv_at hl.1 2 rfl) ?_
  obtain ⟨a4, h9, hg⟩ := vg_o_inv hf
  clear hf
  subst h9
  have hf := hg
  clear hg
  refine vg_alen X hH dJx4a65c_add_72be8_2 hf (fun x5 hf => ?_)
  refine lv_icmp_ne (tgt := 11) hx hb dJx4a65c_add_72be8_3 (by decide) (fun h8 => ?_) (fun h8 => ?_)
  · have hf := vg_if h8 hf
    exact wJx4a65c_add_72be8_11 Z  v0 v1 (some a4) v3 μ _ _ _ _ _ _ _ hf hH hL hC hN (hl.sub [0, 1, 2, 3] rfl)
  · have hf := vg_ip h8 hf
    refine lv_aload_n hx hb dJx4a65c_add_72be8_6 rfl (lv_at hl.1 0 rfl) ?_
    refine vg_callVr (ci := 2) X hml hl hH hL fCV_Jx4a65c_129 rfl [] rfl rfl (Nat.le_of_ble_eq_true rfl) dJx4a65c_add_72be8_7 hf hC hN hRc hRs hfr hlo (by decide) (fun _ _ _ _ h => cJx4a65c_grow_d5877_met h) (fun x6 μ7 cn nn H locs cells slots hf hC hN hH hL => ?_)
    refine vg_astore_n (lv' := [(2, va_rf x6), (0, .ref v0), (1, va_rf v1), (3, .int v3)]) hx hb dJx4a65c_add_72be8_10 rfl hl (by decide) rfl (fun ls hl => ?_)
    exact wJx4a65c_add_72be8_11 Z  v0 v1 x6 v3 μ7 _ _ _ _ _ _ _ hf hH hL hC hN (hl.sub [1, 2, 0, 3] rfl)
def fJx4a65c_rangeCheckForAdd_d00df_12   (μ : vg_M) : vg_R Unit :=
  none
set_option maxHeartbeats 4000000 in
set_option maxRecDepth 100000 in
theorem wJx4a65c_rangeCheckForAdd_d00df_12 {p : Program} {l : Launch} {e : Env} {R : Room} {s : State} {m : MethodId} {args : Array Value} {below : List Frame} {meth : Method} {c : Code} {D : va_G} {cy : Nat → ClassId} {H0 : Heap} {C0 N0 : Nat} {r : Unit} {μ' : vg_M} (Z : vg_Z D cy H0 p s m args c cJx4a65c_rangeCheckForAdd_d00df RJx4a65c meth 2 none R 12 C0 N0 "rangeCheckForAdd")    (μ : vg_M) : vg_S p l e R s m args below meth c D cy H0 C0 N0 2 (MQ below (vg_Qc D cy H0 μ' none) args s C0 N0 (vg_fr H0)) r μ' (fJx4a65c_rangeCheckForAdd_d00df_12   μ) μ [] [] 12 := by
  intro cn nn H locs cells slots ls hf hH hL hC hN hl
  obtain ⟨X, hml, hr, hlk, hfr, hlo, hRc, hRs, hnm⟩ := id Z
  have hx := X.1
  have hb := X.2.1
  delta fJx4a65c_rangeCheckForAdd_d00df_12 at hf
  cases hf
def fJx4a65c_rangeCheckForAdd_d00df (v0 : Nat) (v1 : Int32) (μ : vg_M) : vg_R Unit :=
  vg_o (vg_gI μ v0 2 2) fun x1 =>
  if x1 < v1 then (
   fJx4a65c_rangeCheckForAdd_d00df_12   μ
   ) else (
   if 0 ≤ v1 then (
    vg_ret () μ
    ) else (
    fJx4a65c_rangeCheckForAdd_d00df_12   μ
    )
   )
set_option maxHeartbeats 4000000 in
set_option maxRecDepth 100000 in
theorem cJx4a65c_rangeCheckForAdd_d00df_met {l : Launch} {D : va_G} {cy : Nat → ClassId} {H0 : Heap} {r : Unit} {μ μ' : vg_M} {cn nn : Nat} {v0 : Nat} {v1 : Int32} (hf : fJx4a65c_rangeCheckForAdd_d00df v0 v1 μ = some (r, μ', cn, nn)) : vg_Met l D cy H0 yJx4a65c_rangeCheckForAdd_d00df cJx4a65c_rangeCheckForAdd_d00df 2 none 12 μ [.ref v0, .int v1] none μ' cn nn := by
  refine vg_start (by decide +kernel) (List.forall_mem_cons.mpr ⟨rfl, (List.forall_mem_cons.mpr ⟨rfl, (fun _ h => nomatch h)⟩)⟩) (Nat.le_of_ble_eq_true rfl) ?_
  intro p e s m below meth c ls X hml hr hlk hnm hH hl
  have hl : vg_l ls 2 [(0, .ref v0), (1, .int v1)] := hl
  have Z : vg_Z D cy H0 p s m _ c cJx4a65c_rangeCheckForAdd_d00df RJx4a65c meth 2 none (vg_rm 12 cn nn) 12 cn nn _ := ⟨X, hml, hr, hlk, Nat.le_refl _, Nat.le_refl _, Nat.le_refl _, Nat.le_refl _, hnm⟩
  obtain ⟨-, -, -, -, hfr, hlo, hRc, hRs, -⟩ := id Z
  have hx := X.1
  have hb := X.2.1
  have hL : ∀ z ∈ ([] : List Loc), H0.size ≤ z.base := fun _ h => nomatch h
  have hC : 0 + cn = cn := Nat.zero_add _
  have hN : 0 + nn = nn := Nat.zero_add _
  delta fJx4a65c_rangeCheckForAdd_d00df at hf
  refine lv_iload_n hx hb dJx4a65c_rangeCheckForAdd_d00df_0 rfl (lv_at hl.1 1 rfl) ?_
  refine lv_aload_n hx hb dJx4a65c_rangeCheckForAdd_d00df_1 rfl (lv_at hl.1 0 rfl) ?_
  refine vg_getI X hH fF_Jx4a65c_48 dJx4a65c_rangeCheckForAdd_d00df_2 hf (fun x1 hf => ?_)
  refine lv_icmp_gt (tgt := 12) hx hb dJx4a65c_rangeCheckForAdd_d00df_5 (by decide) (fun h8 => ?_) (fun h8 => ?_)
  · have hf := vg_ip h8 hf
    exact wJx4a65c_rangeCheckForAdd_d00df_12 Z   μ _ _ _ _ _ _ _ hf hH hL hC hN (hl.sub [] rfl)
  · have hf := vg_if h8 hf
    refine lv_iload_n hx hb dJx4a65c_rangeCheckForAdd_d00df_8 rfl (lv_at hl.1 1 rfl) ?_
    refine lv_if_ge (tgt := 25) hx hb dJx4a65c_rangeCheckForAdd_d00df_9 (by decide) (fun h8 => ?_) (fun h8 => ?_)
    · have hf := vg_ip h8 hf
      exact vg_retv X hr hlk hH hL dJx4a65c_rangeCheckForAdd_d00df_25 hf hC hN
    · have hf := vg_if h8 hf
      exact wJx4a65c_rangeCheckForAdd_d00df_12 Z   μ _ _ _ _ _ _ _ hf hH hL hC hN (hl.sub [] rfl)
def fJx4a65c_add_7a177_38  (v0 : Nat) (v1 : Int32) (v2 : Option Nat) (v3 : Int32) (v4 : Option Nat) (μ : vg_M) : vg_R Unit :=
  vg_o v4 fun a1 =>
  vg_o (vg_cpR μ a1 v1 a1 (v1 + 1) (v3 - v1)) fun μ2 =>
  vg_o (vg_sR μ2 a1 v1 v2) fun μ3 =>
  vg_o (vg_p μ3 v0 2 2 (.int (v3 + 1))) fun μ4 =>
  vg_ret () μ4
set_option maxHeartbeats 4000000 in
set_option maxRecDepth 100000 in
theorem wJx4a65c_add_7a177_38 {p : Program} {l : Launch} {e : Env} {R : Room} {s : State} {m : MethodId} {args : Array Value} {below : List Frame} {meth : Method} {c : Code} {D : va_G} {cy : Nat → ClassId} {H0 : Heap} {C0 N0 : Nat} {r : Unit} {μ' : vg_M} (Z : vg_Z D cy H0 p s m args c cJx4a65c_add_7a177 RJx4a65c meth 5 none R 16 C0 N0 "add")   (v0 : Nat) (v1 : Int32) (v2 : Option Nat) (v3 : Int32) (v4 : Option Nat) (μ : vg_M) : vg_S p l e R s m args below meth c D cy H0 C0 N0 5 (MQ below (vg_Qc D cy H0 μ' none) args s C0 N0 (vg_fr H0)) r μ' (fJx4a65c_add_7a177_38  v0 v1 v2 v3 v4 μ) μ [(0, .ref v0), (1, .int v1), (2, va_rf v2), (3, .int v3), (4, va_rf v4)] [] 38 := by
  intro cn nn H locs cells slots ls hf hH hL hC hN hl
  obtain ⟨X, hml, hr, hlk, hfr, hlo, hRc, hRs, hnm⟩ := id Z
  have hx := X.1
  have hb := X.2.1
  delta fJx4a65c_add_7a177_38 at hf
  refine vg_aload hx hb dJx4a65c_add_7a177_38 (lv_at hl.1 4 rfl) ?_
  refine lv_iload_n hx hb dJx4a65c_add_7a177_40 rfl (lv_at hl.1 1 rfl) ?_
  refine vg_aload hx hb dJx4a65c_add_7a177_41 (lv_at hl.1 4 rfl) ?_
  refine lv_iload_n hx hb dJx4a65c_add_7a177_43 rfl (lv_at hl.1 1 rfl) ?_
  refine lv_iconst (v := 1) hx hb dJx4a65c_add_7a177_44 (by decide) ?_
  refine lv_iadd hx hb dJx4a65c_add_7a177_45 ?_
  refine lv_iload_n hx hb dJx4a65c_add_7a177_46 rfl (lv_at hl.1 3 rfl) ?_
  refine lv_iload_n hx hb dJx4a65c_add_7a177_47 rfl (lv_at hl.1 1 rfl) ?_
  refine lv_isub hx hb dJx4a65c_add_7a177_48 ?_
  obtain ⟨a1, h9, hg⟩ := vg_o_inv hf
  clear hf
  subst h9
  have hf := hg
  clear hg
  refine vg_acopyR X hml hl hH hL kw_879918667 kw_93826578 kw_984968033 kw_630143193 (Nat.le_of_ble_eq_true rfl) (Nat.le_trans (by decide) hfr) (Nat.le_trans (by decide) hlo) dJx4a65c_add_7a177_49 hf (fun μ2 H locs hf hH hL => ?_)
  refine lv_aload hx hb dJx4a65c_add_7a177_52 (lv_at hl.1 4 rfl) ?_
  refine lv_iload_n hx hb dJx4a65c_add_7a177_54 rfl (lv_at hl.1 1 rfl) ?_
  refine vg_aload_n hx hb dJx4a65c_add_7a177_55 rfl (lv_at hl.1 2 rfl) ?_
  refine vg_aast X hH hL (x := v2) dJx4a65c_add_7a177_56 hf (fun μ3 H locs hf hH hL => ?_)
  refine lv_aload_n hx hb dJx4a65c_add_7a177_57 rfl (lv_at hl.1 0 rfl) ?_
  refine lv_iload_n hx hb dJx4a65c_add_7a177_58 rfl (lv_at hl.1 3 rfl) ?_
  refine lv_iconst (v := 1) hx hb dJx4a65c_add_7a177_59 (by decide) ?_
  refine lv_iadd hx hb dJx4a65c_add_7a177_60 ?_
  refine vg_putV X hH hL fF_Jx4a65c_48 rfl rfl dJx4a65c_add_7a177_61 hf (fun μ4 H locs hf hH hL => ?_)
  exact vg_retv X hr hlk hH hL dJx4a65c_add_7a177_64 hf hC hN
def fJx4a65c_add_7a177 (v0 : Nat) (v1 : Int32) (v2 : Option Nat) (μ : vg_M) : vg_R Unit :=
  vg_cv 2 v0 μ (fJx4a65c_rangeCheckForAdd_d00df v0 v1 μ) fun _ μ6 =>
  vg_o (vg_gI μ6 v0 2 0) fun x7 =>
  vg_o (vg_p μ6 v0 2 0 (.int (x7 + 1))) fun μ8 =>
  vg_o (vg_gI μ8 v0 2 2) fun x9 =>
  vg_o (vg_gR μ8 v0 2 1) fun x10 =>
  vg_o x10 fun a11 =>
  vg_o (vg_al μ8 a11) fun x12 =>
  if x9 = x12 then (
   vg_cv 2 v0 μ8 (fJx4a65c_grow_d5877 v0  μ8) fun x13 μ14 =>
   fJx4a65c_add_7a177_38  v0 v1 v2 x9 x13 μ14
   ) else (
   fJx4a65c_add_7a177_38  v0 v1 v2 x9 (some a11) μ8
   )
set_option maxHeartbeats 4000000 in
set_option maxRecDepth 100000 in
theorem cJx4a65c_add_7a177_met {l : Launch} {D : va_G} {cy : Nat → ClassId} {H0 : Heap} {r : Unit} {μ μ' : vg_M} {cn nn : Nat} {v0 : Nat} {v1 : Int32} {v2 : Option Nat} (hf : fJx4a65c_add_7a177 v0 v1 v2 μ = some (r, μ', cn, nn)) : vg_Met l D cy H0 yJx4a65c_add_7a177 cJx4a65c_add_7a177 5 none 16 μ [.ref v0, .int v1, va_rf v2] none μ' cn nn := by
  refine vg_start (by decide +kernel) (List.forall_mem_cons.mpr ⟨rfl, (List.forall_mem_cons.mpr ⟨rfl, (List.forall_mem_cons.mpr ⟨vg_rfc _, (fun _ h => nomatch h)⟩)⟩)⟩) (Nat.le_of_ble_eq_true rfl) ?_
  intro p e s m below meth c ls X hml hr hlk hnm hH hl
  have hl : vg_l ls 5 [(0, .ref v0), (1, .int v1), (2, va_rf v2)] := hl
  have Z : vg_Z D cy H0 p s m _ c cJx4a65c_add_7a177 RJx4a65c meth 5 none (vg_rm 16 cn nn) 16 cn nn _ := ⟨X, hml, hr, hlk, Nat.le_refl _, Nat.le_refl _, Nat.le_refl _, Nat.le_refl _, hnm⟩
  obtain ⟨-, -, -, -, hfr, hlo, hRc, hRs, -⟩ := id Z
  have hx := X.1
  have hb := X.2.1
  have hL : ∀ z ∈ ([] : List Loc), H0.size ≤ z.base := fun _ h => nomatch h
  have hC : 0 + cn = cn := Nat.zero_add _
  have hN : 0 + nn = nn := Nat.zero_add _
  delta fJx4a65c_add_7a177 at hf
  refine lv_aload_n hx hb dJx4a65c_add_7a177_0 rfl (lv_at hl.1 0 rfl) ?_
  refine lv_iload_n hx hb dJx4a65c_add_7a177_1 rfl (lv_at hl.1 1 rfl) ?_
  refine vg_callVv (ci := 2) X hml hl hH hL fCV_Jx4a65c_135 rfl [.int v1] rfl rfl (Nat.le_of_ble_eq_true rfl) dJx4a65c_add_7a177_2 hf hC hN hRc hRs hfr hlo (by decide) (fun _ _ _ _ h => cJx4a65c_rangeCheckForAdd_d00df_met h) (fun _ μ6 cn nn H locs cells slots hf hC hN hH hL => ?_)
  refine lv_aload_n hx hb dJx4a65c_add_7a177_5 rfl (lv_at hl.1 0 rfl) ?_
  refine lv_dup hx hb dJx4a65c_add_7a177_6 rfl ?_
  refine vg_getI X hH fF_Jx4a65c_63 dJx4a65c_add_7a177_7 hf (fun x7 hf => ?_)
  refine lv_iconst (v := 1) hx hb dJx4a65c_add_7a177_10 (by decide) ?_
  refine lv_iadd hx hb dJx4a65c_add_7a177_11 ?_
  refine vg_putV X hH hL fF_Jx4a65c_63 rfl rfl dJx4a65c_add_7a177_12 hf (fun μ8 H locs hf hH hL => ?_)
  refine lv_aload_n hx hb dJx4a65c_add_7a177_15 rfl (lv_at hl.1 0 rfl) ?_
  refine vg_getI X hH fF_Jx4a65c_48 dJx4a65c_add_7a177_16 hf (fun x9 hf => ?_)
  refine lv_dup hx hb dJx4a65c_add_7a177_19 rfl ?_
  refine vg_istore_n (lv' := [(3, .int x9), (0, .ref v0), (1, .int v1), (2, va_rf v2)]) hx hb dJx4a65c_add_7a177_20 rfl hl (by decide) rfl (fun ls hl => ?_)
  refine lv_aload_n hx hb dJx4a65c_add_7a177_21 rfl (lv_at hl.1 1 rfl) ?_
  refine vg_getR X hH fF_Jx4a65c_9 dJx4a65c_add_7a177_22 hf (fun x10 hf => ?_)
  refine lv_dup hx hb dJx4a65c_add_7a177_25 (vg_rfc _) ?_
  refine vg_astore (lv' := [(4, va_rf x10), (3, .int x9), (0, .ref v0), (1, .int v1), (2, va_rf v2)]) hx hb dJx4a65c_add_7a177_26 hl (by decide) rfl (fun ls hl => ?_)
  obtain ⟨a11, h9, hg⟩ := vg_o_inv hf
  clear hf
  subst h9
  have hf := hg
  clear hg
  refine vg_alen X hH dJx4a65c_add_7a177_28 hf (fun x12 hf => ?_)
  refine lv_icmp_ne (tgt := 38) hx hb dJx4a65c_add_7a177_29 (by decide) (fun h8 => ?_) (fun h8 => ?_)
  · have hf := vg_if h8 hf
    exact wJx4a65c_add_7a177_38 Z  v0 v1 v2 x9 (some a11) μ8 _ _ _ _ _ _ _ hf hH hL hC hN (hl.sub [2, 3, 4, 1, 0] rfl)
  · have hf := vg_ip h8 hf
    refine lv_aload_n hx hb dJx4a65c_add_7a177_32 rfl (lv_at hl.1 2 rfl) ?_
    refine vg_callVr (ci := 2) X hml hl hH hL fCV_Jx4a65c_129 rfl [] rfl rfl (Nat.le_of_ble_eq_true rfl) dJx4a65c_add_7a177_33 hf hC hN hRc hRs hfr hlo (by decide) (fun _ _ _ _ h => cJx4a65c_grow_d5877_met h) (fun x13 μ14 cn nn H locs cells slots hf hC hN hH hL => ?_)
    refine vg_astore (lv' := [(4, va_rf x13), (3, .int x9), (0, .ref v0), (1, .int v1), (2, va_rf v2)]) hx hb dJx4a65c_add_7a177_36 hl (by decide) rfl (fun ls hl => ?_)
    exact wJx4a65c_add_7a177_38 Z  v0 v1 v2 x9 x13 μ14 _ _ _ _ _ _ _ hf hH hL hC hN (hl.sub [2, 3, 4, 1, 0] rfl)
def fJx4a65c_add_9ea2d (v0 : Nat) (v1 : Option Nat) (μ : vg_M) : vg_R Int32 :=
  vg_o (vg_gI μ v0 2 0) fun x1 =>
  vg_o (vg_p μ v0 2 0 (.int (x1 + 1))) fun μ2 =>
  vg_o (vg_gR μ2 v0 2 1) fun x3 =>
  vg_o (vg_gI μ2 v0 2 2) fun x4 =>
  vg_cv 2 v0 μ2 (fJx4a65c_add_72be8 v0 v1 x3 x4 μ2) fun _ μ6 =>
  vg_o (vg_z .boolean 1) fun z => vg_ret z μ6
set_option maxHeartbeats 4000000 in
set_option maxRecDepth 100000 in
theorem cJx4a65c_add_9ea2d_met {l : Launch} {D : va_G} {cy : Nat → ClassId} {H0 : Heap} {r : Int32} {μ μ' : vg_M} {cn nn : Nat} {v0 : Nat} {v1 : Option Nat} (hf : fJx4a65c_add_9ea2d v0 v1 μ = some (r, μ', cn, nn)) : vg_Met l D cy H0 yJx4a65c_add_9ea2d cJx4a65c_add_9ea2d 2 (some .boolean) 17 μ [.ref v0, va_rf v1] (some (.int r)) μ' cn nn := by
  refine vg_start (by decide +kernel) (List.forall_mem_cons.mpr ⟨rfl, (List.forall_mem_cons.mpr ⟨vg_rfc _, (fun _ h => nomatch h)⟩)⟩) (Nat.le_of_ble_eq_true rfl) ?_
  intro p e s m below meth c ls X hml hr hlk hnm hH hl
  have hl : vg_l ls 2 [(0, .ref v0), (1, va_rf v1)] := hl
  have Z : vg_Z D cy H0 p s m _ c cJx4a65c_add_9ea2d RJx4a65c meth 2 (some .boolean) (vg_rm 17 cn nn) 17 cn nn _ := ⟨X, hml, hr, hlk, Nat.le_refl _, Nat.le_refl _, Nat.le_refl _, Nat.le_refl _, hnm⟩
  obtain ⟨-, -, -, -, hfr, hlo, hRc, hRs, -⟩ := id Z
  have hx := X.1
  have hb := X.2.1
  have hL : ∀ z ∈ ([] : List Loc), H0.size ≤ z.base := fun _ h => nomatch h
  have hC : 0 + cn = cn := Nat.zero_add _
  have hN : 0 + nn = nn := Nat.zero_add _
  delta fJx4a65c_add_9ea2d at hf
  refine lv_aload_n hx hb dJx4a65c_add_9ea2d_0 rfl (lv_at hl.1 0 rfl) ?_
  refine lv_dup hx hb dJx4a65c_add_9ea2d_1 rfl ?_
  refine vg_getI X hH fF_Jx4a65c_63 dJx4a65c_add_9ea2d_2 hf (fun x1 hf => ?_)
  refine lv_iconst (v := 1) hx hb dJx4a65c_add_9ea2d_5 (by decide) ?_
  refine lv_iadd hx hb dJx4a65c_add_9ea2d_6 ?_
  refine vg_putV X hH hL fF_Jx4a65c_63 rfl rfl dJx4a65c_add_9ea2d_7 hf (fun μ2 H locs hf hH hL => ?_)
  refine lv_aload_n hx hb dJx4a65c_add_9ea2d_10 rfl (lv_at hl.1 0 rfl) ?_
  refine vg_aload_n hx hb dJx4a65c_add_9ea2d_11 rfl (lv_at hl.1 1 rfl) ?_
  refine lv_aload_n hx hb dJx4a65c_add_9ea2d_12 rfl (lv_at hl.1 0 rfl) ?_
  refine vg_getR X hH fF_Jx4a65c_9 dJx4a65c_add_9ea2d_13 hf (fun x3 hf => ?_)
  refine lv_aload_n hx hb dJx4a65c_add_9ea2d_16 rfl (lv_at hl.1 0 rfl) ?_
  refine vg_getI X hH fF_Jx4a65c_48 dJx4a65c_add_9ea2d_17 hf (fun x4 hf => ?_)
  refine vg_callVv (ci := 2) X hml hl hH hL fCV_Jx4a65c_131 rfl [va_rf v1, va_rf x3, .int x4] rfl rfl (Nat.le_of_ble_eq_true rfl) dJx4a65c_add_9ea2d_20 hf hC hN hRc hRs hfr hlo (by decide) (fun _ _ _ _ h => cJx4a65c_add_72be8_met h) (fun _ μ6 cn nn H locs cells slots hf hC hN hH hL => ?_)
  refine lv_iconst (v := 1) hx hb dJx4a65c_add_9ea2d_23 (by decide) ?_
  exact vg_retz X (by simp) hr hlk hH hL dJx4a65c_add_9ea2d_24 hf hC hN
def fJx4a65c_elementData_915e3 (v0 : Nat) (v1 : Int32) (μ : vg_M) : vg_R (Option Nat) :=
  vg_o (vg_gR μ v0 2 1) fun x1 =>
  vg_o x1 fun a2 =>
  vg_o (vg_aR μ a2 v1) fun x3 =>
  vg_ret x3 μ
set_option maxHeartbeats 4000000 in
set_option maxRecDepth 100000 in
theorem cJx4a65c_elementData_915e3_met {l : Launch} {D : va_G} {cy : Nat → ClassId} {H0 : Heap} {r : (Option Nat)} {μ μ' : vg_M} {cn nn : Nat} {v0 : Nat} {v1 : Int32} (hf : fJx4a65c_elementData_915e3 v0 v1 μ = some (r, μ', cn, nn)) : vg_Met l D cy H0 yJx4a65c_elementData_915e3 cJx4a65c_elementData_915e3 2 (some (.object "java/lang/Object")) 12 μ [.ref v0, .int v1] (some (va_rf r)) μ' cn nn := by
  refine vg_start (by decide +kernel) (List.forall_mem_cons.mpr ⟨rfl, (List.forall_mem_cons.mpr ⟨rfl, (fun _ h => nomatch h)⟩)⟩) (Nat.le_of_ble_eq_true rfl) ?_
  intro p e s m below meth c ls X hml hr hlk hnm hH hl
  have hl : vg_l ls 2 [(0, .ref v0), (1, .int v1)] := hl
  have Z : vg_Z D cy H0 p s m _ c cJx4a65c_elementData_915e3 RJx4a65c meth 2 (some (.object "java/lang/Object")) (vg_rm 12 cn nn) 12 cn nn _ := ⟨X, hml, hr, hlk, Nat.le_refl _, Nat.le_refl _, Nat.le_refl _, Nat.le_refl _, hnm⟩
  obtain ⟨-, -, -, -, hfr, hlo, hRc, hRs, -⟩ := id Z
  have hx := X.1
  have hb := X.2.1
  have hL : ∀ z ∈ ([] : List Loc), H0.size ≤ z.base := fun _ h => nomatch h
  have hC : 0 + cn = cn := Nat.zero_add _
  have hN : 0 + nn = nn := Nat.zero_add _
  delta fJx4a65c_elementData_915e3 at hf
  refine lv_aload_n hx hb dJx4a65c_elementData_915e3_0 rfl (lv_at hl.1 0 rfl) ?_
  refine vg_getR X hH fF_Jx4a65c_9 dJx4a65c_elementData_915e3_1 hf (fun x1 hf => ?_)
  refine lv_iload_n hx hb dJx4a65c_elementData_915e3_4 rfl (lv_at hl.1 1 rfl) ?_
  obtain ⟨a2, h9, hg⟩ := vg_o_inv hf
  clear hf
  subst h9
  have hf := hg
  clear hg
  refine vg_aald X hH dJx4a65c_elementData_915e3_5 hf (fun x3 hf => ?_)
  exact vg_reta X (by simp) hr hlk hH hL dJx4a65c_elementData_915e3_6 hf hC hN
def fJx4a65c_fastRemove_b59b0_34  (v0 : Nat) (v1 : Option Nat) (v3 : Int32) (μ : vg_M) : vg_R Unit :=
  vg_o (vg_p μ v0 2 2 (.int v3)) fun μ1 =>
  vg_o v1 fun a2 =>
  vg_o (vg_sR μ1 a2 v3 none) fun μ3 =>
  vg_ret () μ3
set_option maxHeartbeats 4000000 in
set_option maxRecDepth 100000 in
theorem wJx4a65c_fastRemove_b59b0_34 {p : Program} {l : Launch} {e : Env} {R : Room} {s : State} {m : MethodId} {args : Array Value} {below : List Frame} {meth : Method} {c : Code} {D : va_G} {cy : Nat → ClassId} {H0 : Heap} {C0 N0 : Nat} {r : Unit} {μ' : vg_M} (Z : vg_Z D cy H0 p s m args c cJx4a65c_fastRemove_b59b0 RJx4a65c meth 4 none R 12 C0 N0 "fastRemove")   (v0 : Nat) (v1 : Option Nat) (v3 : Int32) (μ : vg_M) : vg_S p l e R s m args below meth c D cy H0 C0 N0 4 (MQ below (vg_Qc D cy H0 μ' none) args s C0 N0 (vg_fr H0)) r μ' (fJx4a65c_fastRemove_b59b0_34  v0 v1 v3 μ) μ [(0, .ref v0), (1, va_rf v1), (3, .int v3)] [] 34 := by
  intro cn nn H locs cells slots ls hf hH hL hC hN hl
  obtain ⟨X, hml, hr, hlk, hfr, hlo, hRc, hRs, hnm⟩ := id Z
  have hx := X.1
  have hb := X.2.1
  delta fJx4a65c_fastRemove_b59b0_34 at hf
  refine vg_aload_n hx hb dJx4a65c_fastRemove_b59b0_34 rfl (lv_at hl.1 1 rfl) ?_
  refine lv_aload_n hx hb dJx4a65c_fastRemove_b59b0_35 rfl (lv_at hl.1 0 rfl) ?_
  refine lv_iload_n hx hb dJx4a65c_fastRemove_b59b0_36 rfl (lv_at hl.1 2 rfl) ?_
  refine lv_dup_x1 hx hb dJx4a65c_fastRemove_b59b0_37 rfl rfl ?_
  refine vg_putV X hH hL fF_Jx4a65c_48 rfl rfl dJx4a65c_fastRemove_b59b0_38 hf (fun μ1 H locs hf hH hL => ?_)
  refine lv_null hx hb dJx4a65c_fastRemove_b59b0_41 ?_
  obtain ⟨a2, h9, hg⟩ := vg_o_inv hf
  clear hf
  subst h9
  have hf := hg
  clear hg
  refine vg_aast X hH hL (x := none) dJx4a65c_fastRemove_b59b0_42 hf (fun μ3 H locs hf hH hL => ?_)
  exact vg_retv X hr hlk hH hL dJx4a65c_fastRemove_b59b0_43 hf hC hN
def fJx4a65c_fastRemove_b59b0 (v0 : Nat) (v1 : Option Nat) (v2 : Int32) (μ : vg_M) : vg_R Unit :=
  vg_o (vg_gI μ v0 2 0) fun x4 =>
  vg_o (vg_p μ v0 2 0 (.int (x4 + 1))) fun μ5 =>
  vg_o (vg_gI μ5 v0 2 2) fun x6 =>
  if (x6 - 1) ≤ v2 then (
   fJx4a65c_fastRemove_b59b0_34  v0 v1 (x6 - 1) μ5
   ) else (
   vg_o v1 fun a7 =>
   vg_o (vg_cpR μ5 a7 (v2 + 1) a7 v2 ((x6 - 1) - v2)) fun μ8 =>
   fJx4a65c_fastRemove_b59b0_34  v0 (some a7) (x6 - 1) μ8
   )
set_option maxHeartbeats 4000000 in
set_option maxRecDepth 100000 in
theorem cJx4a65c_fastRemove_b59b0_met {l : Launch} {D : va_G} {cy : Nat → ClassId} {H0 : Heap} {r : Unit} {μ μ' : vg_M} {cn nn : Nat} {v0 : Nat} {v1 : Option Nat} {v2 : Int32} (hf : fJx4a65c_fastRemove_b59b0 v0 v1 v2 μ = some (r, μ', cn, nn)) : vg_Met l D cy H0 yJx4a65c_fastRemove_b59b0 cJx4a65c_fastRemove_b59b0 4 none 12 μ [.ref v0, va_rf v1, .int v2] none μ' cn nn := by
  refine vg_start (by decide +kernel) (List.forall_mem_cons.mpr ⟨rfl, (List.forall_mem_cons.mpr ⟨vg_rfc _, (List.forall_mem_cons.mpr ⟨rfl, (fun _ h => nomatch h)⟩)⟩)⟩) (Nat.le_of_ble_eq_true rfl) ?_
  intro p e s m below meth c ls X hml hr hlk hnm hH hl
  have hl : vg_l ls 4 [(0, .ref v0), (1, va_rf v1), (2, .int v2)] := hl
  have Z : vg_Z D cy H0 p s m _ c cJx4a65c_fastRemove_b59b0 RJx4a65c meth 4 none (vg_rm 12 cn nn) 12 cn nn _ := ⟨X, hml, hr, hlk, Nat.le_refl _, Nat.le_refl _, Nat.le_refl _, Nat.le_refl _, hnm⟩
  obtain ⟨-, -, -, -, hfr, hlo, hRc, hRs, -⟩ := id Z
  have hx := X.1
  have hb := X.2.1
  have hL : ∀ z ∈ ([] : List Loc), H0.size ≤ z.base := fun _ h => nomatch h
  have hC : 0 + cn = cn := Nat.zero_add _
  have hN : 0 + nn = nn := Nat.zero_add _
  delta fJx4a65c_fastRemove_b59b0 at hf
  refine lv_aload_n hx hb dJx4a65c_fastRemove_b59b0_0 rfl (lv_at hl.1 0 rfl) ?_
  refine lv_dup hx hb dJx4a65c_fastRemove_b59b0_1 rfl ?_
  refine vg_getI X hH fF_Jx4a65c_63 dJx4a65c_fastRemove_b59b0_2 hf (fun x4 hf => ?_)
  refine lv_iconst (v := 1) hx hb dJx4a65c_fastRemove_b59b0_5 (by decide) ?_
  refine lv_iadd hx hb dJx4a65c_fastRemove_b59b0_6 ?_
  refine vg_putV X hH hL fF_Jx4a65c_63 rfl rfl dJx4a65c_fastRemove_b59b0_7 hf (fun μ5 H locs hf hH hL => ?_)
  refine lv_aload_n hx hb dJx4a65c_fastRemove_b59b0_10 rfl (lv_at hl.1 0 rfl) ?_
  refine vg_getI X hH fF_Jx4a65c_48 dJx4a65c_fastRemove_b59b0_11 hf (fun x6 hf => ?_)
  refine lv_iconst (v := 1) hx hb dJx4a65c_fastRemove_b59b0_14 (by decide) ?_
  refine lv_isub hx hb dJx4a65c_fastRemove_b59b0_15 ?_
  refine lv_dup hx hb dJx4a65c_fastRemove_b59b0_16 rfl ?_
  refine vg_istore_n (lv' := [(3, .int (x6 - 1)), (0, .ref v0), (1, va_rf v1), (2, .int v2)]) hx hb dJx4a65c_fastRemove_b59b0_17 rfl hl (by decide) rfl (fun ls hl => ?_)
  refine lv_iload_n hx hb dJx4a65c_fastRemove_b59b0_18 rfl (lv_at hl.1 3 rfl) ?_
  refine lv_icmp_le (tgt := 34) hx hb dJx4a65c_fastRemove_b59b0_19 (by decide) (fun h8 => ?_) (fun h8 => ?_)
  · have hf := vg_ip h8 hf
    exact wJx4a65c_fastRemove_b59b0_34 Z  v0 v1 (x6 - 1) μ5 _ _ _ _ _ _ _ hf hH hL hC hN (hl.sub [1, 2, 0] rfl)
  · have hf := vg_if h8 hf
    refine vg_aload_n hx hb dJx4a65c_fastRemove_b59b0_22 rfl (lv_at hl.1 2 rfl) ?_
    refine lv_iload_n hx hb dJx4a65c_fastRemove_b59b0_23 rfl (lv_at hl.1 3 rfl) ?_
    refine lv_iconst (v := 1) hx hb dJx4a65c_fastRemove_b59b0_24 (by decide) ?_
    refine lv_iadd hx hb dJx4a65c_fastRemove_b59b0_25 ?_
    refine vg_aload_n hx hb dJx4a65c_fastRemove_b59b0_26 rfl (lv_at hl.1 2 rfl) ?_
    refine lv_iload_n hx hb dJx4a65c_fastRemove_b59b0_27 rfl (lv_at hl.1 3 rfl) ?_
    refine lv_iload_n hx hb dJx4a65c_fastRemove_b59b0_28 rfl (lv_at hl.1 0 rfl) ?_
    refine lv_iload_n hx hb dJx4a65c_fastRemove_b59b0_29 rfl (lv_at hl.1 3 rfl) ?_
    refine lv_isub hx hb dJx4a65c_fastRemove_b59b0_30 ?_
    obtain ⟨a7, h9, hg⟩ := vg_o_inv hf
    clear hf
    subst h9
    have hf := hg
    clear hg
    refine vg_acopyR X hml hl hH hL kw_879918667 kw_93826578 kw_984968033 kw_630143193 (Nat.le_of_ble_eq_true rfl) (Nat.le_trans (by decide) hfr) (Nat.le_trans (by decide) hlo) dJx4a65c_fastRemove_b59b0_31 hf (fun μ8 H locs hf hH hL => ?_)
    exact wJx4a65c_fastRemove_b59b0_34 Z  v0 (some a7) (x6 - 1) μ8 _ _ _ _ _ _ _ hf hH hL hC hN (hl.sub [1, 2, 0] rfl)
def fJx4a65c_get_915e3 (v0 : Nat) (v1 : Int32) (μ : vg_M) : vg_R (Option Nat) :=
  vg_o (vg_gI μ v0 2 2) fun x1 =>
  vg_b (fJ15_checkIndex_7cf53 v1 x1 μ) fun x2 μ3 =>
  vg_cv 2 v0 μ3 (fJx4a65c_elementData_915e3 v0 v1 μ3) fun x4 μ5 =>
  vg_ret x4 μ5
set_option maxHeartbeats 4000000 in
set_option maxRecDepth 100000 in
theorem cJx4a65c_get_915e3_met {l : Launch} {D : va_G} {cy : Nat → ClassId} {H0 : Heap} {r : (Option Nat)} {μ μ' : vg_M} {cn nn : Nat} {v0 : Nat} {v1 : Int32} (hf : fJx4a65c_get_915e3 v0 v1 μ = some (r, μ', cn, nn)) : vg_Met l D cy H0 yJx4a65c_get_915e3 cJx4a65c_get_915e3 2 (some (.object "java/lang/Object")) 14 μ [.ref v0, .int v1] (some (va_rf r)) μ' cn nn := by
  refine vg_start (by decide +kernel) (List.forall_mem_cons.mpr ⟨rfl, (List.forall_mem_cons.mpr ⟨rfl, (fun _ h => nomatch h)⟩)⟩) (Nat.le_of_ble_eq_true rfl) ?_
  intro p e s m below meth c ls X hml hr hlk hnm hH hl
  have hl : vg_l ls 2 [(0, .ref v0), (1, .int v1)] := hl
  have Z : vg_Z D cy H0 p s m _ c cJx4a65c_get_915e3 RJx4a65c meth 2 (some (.object "java/lang/Object")) (vg_rm 14 cn nn) 14 cn nn _ := ⟨X, hml, hr, hlk, Nat.le_refl _, Nat.le_refl _, Nat.le_refl _, Nat.le_refl _, hnm⟩
  obtain ⟨-, -, -, -, hfr, hlo, hRc, hRs, -⟩ := id Z
  have hx := X.1
  have hb := X.2.1
  have hL : ∀ z ∈ ([] : List Loc), H0.size ≤ z.base := fun _ h => nomatch h
  have hC : 0 + cn = cn := Nat.zero_add _
  have hN : 0 + nn = nn := Nat.zero_add _
  delta fJx4a65c_get_915e3 at hf
  refine lv_iload_n hx hb dJx4a65c_get_915e3_0 rfl (lv_at hl.1 1 rfl) ?_
  refine lv_aload_n hx hb dJx4a65c_get_915e3_1 rfl (lv_at hl.1 0 rfl) ?_
  refine vg_getI X hH fF_Jx4a65c_48 dJx4a65c_get_915e3_2 hf (fun x1 hf => ?_)
  refine vg_callSi X hml hl hH hL fCS_Jx4a65c_118 [.int v1, .int x1] rfl rfl (Nat.le_of_ble_eq_true rfl) dJx4a65c_get_915e3_5 hf hC hN hRc hRs hfr hlo (by decide) (fun _ _ _ _ h => cJ15_checkIndex_7cf53_met h) (fun x2 μ3 cn nn H locs cells slots hf hC hN hH hL => ?_)
  refine lv_pop hx hb dJx4a65c_get_915e3_8 rfl ?_
  refine lv_aload_n hx hb dJx4a65c_get_915e3_9 rfl (lv_at hl.1 0 rfl) ?_
  refine lv_iload_n hx hb dJx4a65c_get_915e3_10 rfl (lv_at hl.1 1 rfl) ?_
  refine vg_callVr (ci := 2) X hml hl hH hL fCV_Jx4a65c_123 rfl [.int v1] rfl rfl (Nat.le_of_ble_eq_true rfl) dJx4a65c_get_915e3_11 hf hC hN hRc hRs hfr hlo (by decide) (fun _ _ _ _ h => cJx4a65c_elementData_915e3_met h) (fun x4 μ5 cn nn H locs cells slots hf hC hN hH hL => ?_)
  exact vg_reta X (by simp) hr hlk hH hL dJx4a65c_get_915e3_14 hf hC hN
def fJxa1e45_init_da8c8 (v0 : Nat) (μ : vg_M) : vg_R Unit :=
  vg_ret () μ
set_option maxHeartbeats 4000000 in
set_option maxRecDepth 100000 in
theorem cJxa1e45_init_da8c8_met {l : Launch} {D : va_G} {cy : Nat → ClassId} {H0 : Heap} {r : Unit} {μ μ' : vg_M} {cn nn : Nat} {v0 : Nat} (hf : fJxa1e45_init_da8c8 v0 μ = some (r, μ', cn, nn)) : vg_Met l D cy H0 yJxa1e45_init_da8c8 cJxa1e45_init_da8c8 1 none 12 μ [.ref v0] none μ' cn nn := by
  refine vg_start (by decide +kernel) (List.forall_mem_cons.mpr ⟨rfl, (fun _ h => nomatch h)⟩) (Nat.le_of_ble_eq_true rfl) ?_
  intro p e s m below meth c ls X hml hr hlk hnm hH hl
  have hl : vg_l ls 1 [(0, .ref v0)] := hl
  have Z : vg_Z D cy H0 p s m _ c cJxa1e45_init_da8c8 RJxa1e45 meth 1 none (vg_rm 12 cn nn) 12 cn nn _ := ⟨X, hml, hr, hlk, Nat.le_refl _, Nat.le_refl _, Nat.le_refl _, Nat.le_refl _, hnm⟩
  obtain ⟨-, -, -, -, hfr, hlo, hRc, hRs, -⟩ := id Z
  have hx := X.1
  have hb := X.2.1
  have hL : ∀ z ∈ ([] : List Loc), H0.size ≤ z.base := fun _ h => nomatch h
  have hC : 0 + cn = cn := Nat.zero_add _
  have hN : 0 + nn = nn := Nat.zero_add _
  delta fJxa1e45_init_da8c8 at hf
  refine lv_aload_n hx hb dJxa1e45_init_da8c8_0 rfl (lv_at hl.1 0 rfl) ?_
  refine vg_objInit X hml hl kw_118366681 kw_624348017 kw_835052908 dJxa1e45_init_da8c8_1 (Nat.le_of_ble_eq_true rfl) (Nat.le_trans (by decide) hfr) (Nat.le_trans (by decide) hlo) ?_
  exact vg_retv X hr hlk hH hL dJxa1e45_init_da8c8_4 hf hC hN
def fJxc12de_init_da8c8 (v0 : Nat) (μ : vg_M) : vg_R Unit :=
  vg_b (fJxa1e45_init_da8c8 v0  μ) fun _ μ2 =>
  vg_o (vg_p μ2 v0 2 0 (.int 0)) fun μ3 =>
  vg_ret () μ3
set_option maxHeartbeats 4000000 in
set_option maxRecDepth 100000 in
theorem cJxc12de_init_da8c8_met {l : Launch} {D : va_G} {cy : Nat → ClassId} {H0 : Heap} {r : Unit} {μ μ' : vg_M} {cn nn : Nat} {v0 : Nat} (hf : fJxc12de_init_da8c8 v0 μ = some (r, μ', cn, nn)) : vg_Met l D cy H0 yJxc12de_init_da8c8 cJxc12de_init_da8c8 1 none 13 μ [.ref v0] none μ' cn nn := by
  refine vg_start (by decide +kernel) (List.forall_mem_cons.mpr ⟨rfl, (fun _ h => nomatch h)⟩) (Nat.le_of_ble_eq_true rfl) ?_
  intro p e s m below meth c ls X hml hr hlk hnm hH hl
  have hl : vg_l ls 1 [(0, .ref v0)] := hl
  have Z : vg_Z D cy H0 p s m _ c cJxc12de_init_da8c8 RJxc12de meth 1 none (vg_rm 13 cn nn) 13 cn nn _ := ⟨X, hml, hr, hlk, Nat.le_refl _, Nat.le_refl _, Nat.le_refl _, Nat.le_refl _, hnm⟩
  obtain ⟨-, -, -, -, hfr, hlo, hRc, hRs, -⟩ := id Z
  have hx := X.1
  have hb := X.2.1
  have hL : ∀ z ∈ ([] : List Loc), H0.size ≤ z.base := fun _ h => nomatch h
  have hC : 0 + cn = cn := Nat.zero_add _
  have hN : 0 + nn = nn := Nat.zero_add _
  delta fJxc12de_init_da8c8 at hf
  refine lv_aload_n hx hb dJxc12de_init_da8c8_0 rfl (lv_at hl.1 0 rfl) ?_
  refine vg_callIv X hml hl hH hL fCI_Jxc12de_1 [] rfl rfl (Nat.le_of_ble_eq_true rfl) dJxc12de_init_da8c8_1 hf hC hN hRc hRs hfr hlo (by decide) (fun _ _ _ _ h => cJxa1e45_init_da8c8_met h) (fun _ μ2 cn nn H locs cells slots hf hC hN hH hL => ?_)
  refine lv_aload_n hx hb dJxc12de_init_da8c8_4 rfl (lv_at hl.1 0 rfl) ?_
  refine lv_iconst (v := 0) hx hb dJxc12de_init_da8c8_5 (by decide) ?_
  refine vg_putV X hH hL fF_Jxc12de_7 rfl rfl dJxc12de_init_da8c8_6 hf (fun μ3 H locs hf hH hL => ?_)
  exact vg_retv X hr hlk hH hL dJxc12de_init_da8c8_9 hf hC hN
def fJx4a65c_init_da8c8 (v0 : Nat) (μ : vg_M) : vg_R Unit :=
  vg_b (fJxc12de_init_da8c8 v0  μ) fun _ μ2 =>
  vg_k μ2 31 fun a3 =>
  vg_o (vg_p μ2 v0 2 1 (.ref a3)) fun μ4 =>
  vg_ret () μ4
set_option maxHeartbeats 4000000 in
set_option maxRecDepth 100000 in
theorem cJx4a65c_init_da8c8_met {l : Launch} {D : va_G} {cy : Nat → ClassId} {H0 : Heap} {r : Unit} {μ μ' : vg_M} {cn nn : Nat} {v0 : Nat} (hf : fJx4a65c_init_da8c8 v0 μ = some (r, μ', cn, nn)) : vg_Met l D cy H0 yJx4a65c_init_da8c8 cJx4a65c_init_da8c8 1 none 14 μ [.ref v0] none μ' cn nn := by
  refine vg_start (by decide +kernel) (List.forall_mem_cons.mpr ⟨rfl, (fun _ h => nomatch h)⟩) (Nat.le_of_ble_eq_true rfl) ?_
  intro p e s m below meth c ls X hml hr hlk hnm hH hl
  have hl : vg_l ls 1 [(0, .ref v0)] := hl
  have Z : vg_Z D cy H0 p s m _ c cJx4a65c_init_da8c8 RJx4a65c meth 1 none (vg_rm 14 cn nn) 14 cn nn _ := ⟨X, hml, hr, hlk, Nat.le_refl _, Nat.le_refl _, Nat.le_refl _, Nat.le_refl _, hnm⟩
  obtain ⟨-, -, -, -, hfr, hlo, hRc, hRs, -⟩ := id Z
  have hx := X.1
  have hb := X.2.1
  have hL : ∀ z ∈ ([] : List Loc), H0.size ≤ z.base := fun _ h => nomatch h
  have hC : 0 + cn = cn := Nat.zero_add _
  have hN : 0 + nn = nn := Nat.zero_add _
  delta fJx4a65c_init_da8c8 at hf
  refine lv_aload_n hx hb dJx4a65c_init_da8c8_0 rfl (lv_at hl.1 0 rfl) ?_
  refine vg_callIv X hml hl hH hL fCI_Jx4a65c_1 [] rfl rfl (Nat.le_of_ble_eq_true rfl) dJx4a65c_init_da8c8_1 hf hC hN hRc hRs hfr hlo (by decide) (fun _ _ _ _ h => cJxc12de_init_da8c8_met h) (fun _ μ2 cn nn H locs cells slots hf hC hN hH hL => ?_)
  refine lv_aload_n hx hb dJx4a65c_init_da8c8_4 rfl (lv_at hl.1 0 rfl) ?_
  refine vg_gsE X hH kw_554507245 dJx4a65c_init_da8c8_5 hf (fun a3 hf => ?_)
  refine vg_putV X hH hL fF_Jx4a65c_9 (vg_fitR (by simp) (some a3)).1 (vg_fitR (by simp) (some a3)).2 dJx4a65c_init_da8c8_8 hf (fun μ4 H locs hf hH hL => ?_)
  exact vg_retv X hr hlk hH hL dJx4a65c_init_da8c8_11 hf hC hN
def fJx4a65c_isEmpty_aae02_12  (k0 : Int32) (μ : vg_M) : vg_R Int32 :=
  vg_o (vg_z .boolean k0) fun z => vg_ret z μ
set_option maxHeartbeats 4000000 in
set_option maxRecDepth 100000 in
theorem wJx4a65c_isEmpty_aae02_12 {p : Program} {l : Launch} {e : Env} {R : Room} {s : State} {m : MethodId} {args : Array Value} {below : List Frame} {meth : Method} {c : Code} {D : va_G} {cy : Nat → ClassId} {H0 : Heap} {C0 N0 : Nat} {r : Int32} {μ' : vg_M} (Z : vg_Z D cy H0 p s m args c cJx4a65c_isEmpty_aae02 RJx4a65c meth 1 (some .boolean) R 12 C0 N0 "isEmpty")   (k0 : Int32) (μ : vg_M) : vg_S p l e R s m args below meth c D cy H0 C0 N0 1 (MQ below (vg_Qc D cy H0 μ' (some (.int r))) args s C0 N0 (vg_fr H0)) r μ' (fJx4a65c_isEmpty_aae02_12  k0 μ) μ [] [.int k0] 12 := by
  intro cn nn H locs cells slots ls hf hH hL hC hN hl
  obtain ⟨X, hml, hr, hlk, hfr, hlo, hRc, hRs, hnm⟩ := id Z
  have hx := X.1
  have hb := X.2.1
  delta fJx4a65c_isEmpty_aae02_12 at hf
  exact vg_retz X (by simp) hr hlk hH hL dJx4a65c_isEmpty_aae02_12 hf hC hN
def fJx4a65c_isEmpty_aae02 (v0 : Nat) (μ : vg_M) : vg_R Int32 :=
  vg_o (vg_gI μ v0 2 2) fun x1 =>
  if x1 = 0 then (
   fJx4a65c_isEmpty_aae02_12  1 μ
   ) else (
   fJx4a65c_isEmpty_aae02_12  0 μ
   )
set_option maxHeartbeats 4000000 in
set_option maxRecDepth 100000 in
theorem cJx4a65c_isEmpty_aae02_met {l : Launch} {D : va_G} {cy : Nat → ClassId} {H0 : Heap} {r : Int32} {μ μ' : vg_M} {cn nn : Nat} {v0 : Nat} (hf : fJx4a65c_isEmpty_aae02 v0 μ = some (r, μ', cn, nn)) : vg_Met l D cy H0 yJx4a65c_isEmpty_aae02 cJx4a65c_isEmpty_aae02 1 (some .boolean) 12 μ [.ref v0] (some (.int r)) μ' cn nn := by
  refine vg_start (by decide +kernel) (List.forall_mem_cons.mpr ⟨rfl, (fun _ h => nomatch h)⟩) (Nat.le_of_ble_eq_true rfl) ?_
  intro p e s m below meth c ls X hml hr hlk hnm hH hl
  have hl : vg_l ls 1 [(0, .ref v0)] := hl
  have Z : vg_Z D cy H0 p s m _ c cJx4a65c_isEmpty_aae02 RJx4a65c meth 1 (some .boolean) (vg_rm 12 cn nn) 12 cn nn _ := ⟨X, hml, hr, hlk, Nat.le_refl _, Nat.le_refl _, Nat.le_refl _, Nat.le_refl _, hnm⟩
  obtain ⟨-, -, -, -, hfr, hlo, hRc, hRs, -⟩ := id Z
  have hx := X.1
  have hb := X.2.1
  have hL : ∀ z ∈ ([] : List Loc), H0.size ≤ z.base := fun _ h => nomatch h
  have hC : 0 + cn = cn := Nat.zero_add _
  have hN : 0 + nn = nn := Nat.zero_add _
  delta fJx4a65c_isEmpty_aae02 at hf
  refine lv_aload_n hx hb dJx4a65c_isEmpty_aae02_0 rfl (lv_at hl.1 0 rfl) ?_
  refine vg_getI X hH fF_Jx4a65c_48 dJx4a65c_isEmpty_aae02_1 hf (fun x1 hf => ?_)
  refine lv_if_ne (tgt := 11) hx hb dJx4a65c_isEmpty_aae02_4 (by decide) (fun h8 => ?_) (fun h8 => ?_)
  · have hf := vg_if h8 hf
    refine lv_iconst (v := 0) hx hb dJx4a65c_isEmpty_aae02_11 (by decide) ?_
    exact wJx4a65c_isEmpty_aae02_12 Z  0 μ _ _ _ _ _ _ _ hf hH hL hC hN (hl.sub [] rfl)
  · have hf := vg_ip h8 hf
    refine lv_iconst (v := 1) hx hb dJx4a65c_isEmpty_aae02_7 (by decide) ?_
    refine lv_goto (tgt := 12) hx hb dJx4a65c_isEmpty_aae02_8 (by decide) ?_
    exact wJx4a65c_isEmpty_aae02_12 Z  1 μ _ _ _ _ _ _ _ hf hH hL hC hN (hl.sub [] rfl)
def fJx4a65c_remove_915e3 (v0 : Nat) (v1 : Int32) (μ : vg_M) : vg_R (Option Nat) :=
  vg_o (vg_gI μ v0 2 2) fun x1 =>
  vg_b (fJ15_checkIndex_7cf53 v1 x1 μ) fun x2 μ3 =>
  vg_o (vg_gR μ3 v0 2 1) fun x4 =>
  vg_o x4 fun a5 =>
  vg_o (vg_aR μ3 a5 v1) fun x6 =>
  vg_cv 2 v0 μ3 (fJx4a65c_fastRemove_b59b0 v0 (some a5) v1 μ3) fun _ μ8 =>
  vg_ret x6 μ8
set_option maxHeartbeats 4000000 in
set_option maxRecDepth 100000 in
theorem cJx4a65c_remove_915e3_met {l : Launch} {D : va_G} {cy : Nat → ClassId} {H0 : Heap} {r : (Option Nat)} {μ μ' : vg_M} {cn nn : Nat} {v0 : Nat} {v1 : Int32} (hf : fJx4a65c_remove_915e3 v0 v1 μ = some (r, μ', cn, nn)) : vg_Met l D cy H0 yJx4a65c_remove_915e3 cJx4a65c_remove_915e3 4 (some (.object "java/lang/Object")) 14 μ [.ref v0, .int v1] (some (va_rf r)) μ' cn nn := by
  refine vg_start (by decide +kernel) (List.forall_mem_cons.mpr ⟨rfl, (List.forall_mem_cons.mpr ⟨rfl, (fun _ h => nomatch h)⟩)⟩) (Nat.le_of_ble_eq_true rfl) ?_
  intro p e s m below meth c ls X hml hr hlk hnm hH hl
  have hl : vg_l ls 4 [(0, .ref v0), (1, .int v1)] := hl
  have Z : vg_Z D cy H0 p s m _ c cJx4a65c_remove_915e3 RJx4a65c meth 4 (some (.object "java/lang/Object")) (vg_rm 14 cn nn) 14 cn nn _ := ⟨X, hml, hr, hlk, Nat.le_refl _, Nat.le_refl _, Nat.le_refl _, Nat.le_refl _, hnm⟩
  obtain ⟨-, -, -, -, hfr, hlo, hRc, hRs, -⟩ := id Z
  have hx := X.1
  have hb := X.2.1
  have hL : ∀ z ∈ ([] : List Loc), H0.size ≤ z.base := fun _ h => nomatch h
  have hC : 0 + cn = cn := Nat.zero_add _
  have hN : 0 + nn = nn := Nat.zero_add _
  delta fJx4a65c_remove_915e3 at hf
  refine lv_iload_n hx hb dJx4a65c_remove_915e3_0 rfl (lv_at hl.1 1 rfl) ?_
  refine lv_aload_n hx hb dJx4a65c_remove_915e3_1 rfl (lv_at hl.1 0 rfl) ?_
  refine vg_getI X hH fF_Jx4a65c_48 dJx4a65c_remove_915e3_2 hf (fun x1 hf => ?_)
  refine vg_callSi X hml hl hH hL fCS_Jx4a65c_118 [.int v1, .int x1] rfl rfl (Nat.le_of_ble_eq_true rfl) dJx4a65c_remove_915e3_5 hf hC hN hRc hRs hfr hlo (by decide) (fun _ _ _ _ h => cJ15_checkIndex_7cf53_met h) (fun x2 μ3 cn nn H locs cells slots hf hC hN hH hL => ?_)
  refine lv_pop hx hb dJx4a65c_remove_915e3_8 rfl ?_
  refine lv_aload_n hx hb dJx4a65c_remove_915e3_9 rfl (lv_at hl.1 0 rfl) ?_
  refine vg_getR X hH fF_Jx4a65c_9 dJx4a65c_remove_915e3_10 hf (fun x4 hf => ?_)
  refine vg_astore_n (lv' := [(2, va_rf x4), (0, .ref v0), (1, .int v1)]) hx hb dJx4a65c_remove_915e3_13 rfl hl (by decide) rfl (fun ls hl => ?_)
  refine vg_aload_n hx hb dJx4a65c_remove_915e3_14 rfl (lv_at hl.1 0 rfl) ?_
  refine lv_iload_n hx hb dJx4a65c_remove_915e3_15 rfl (lv_at hl.1 2 rfl) ?_
  obtain ⟨a5, h9, hg⟩ := vg_o_inv hf
  clear hf
  subst h9
  have hf := hg
  clear hg
  refine vg_aald X hH dJx4a65c_remove_915e3_16 hf (fun x6 hf => ?_)
  refine vg_astore_n (lv' := [(3, va_rf x6), (2, .ref a5), (0, .ref v0), (1, .int v1)]) hx hb dJx4a65c_remove_915e3_17 rfl hl (by decide) rfl (fun ls hl => ?_)
  refine lv_aload_n hx hb dJx4a65c_remove_915e3_18 rfl (lv_at hl.1 2 rfl) ?_
  refine lv_aload_n hx hb dJx4a65c_remove_915e3_19 rfl (lv_at hl.1 1 rfl) ?_
  refine lv_iload_n hx hb dJx4a65c_remove_915e3_20 rfl (lv_at hl.1 3 rfl) ?_
  refine vg_callVv (ci := 2) X hml hl hH hL fCV_Jx4a65c_144 rfl [.ref a5, .int v1] rfl rfl (Nat.le_of_ble_eq_true rfl) dJx4a65c_remove_915e3_21 hf hC hN hRc hRs hfr hlo (by decide) (fun _ _ _ _ h => cJx4a65c_fastRemove_b59b0_met h) (fun _ μ8 cn nn H locs cells slots hf hC hN hH hL => ?_)
  refine vg_aload_n hx hb dJx4a65c_remove_915e3_24 rfl (lv_at hl.1 0 rfl) ?_
  exact vg_reta X (by simp) hr hlk hH hL dJx4a65c_remove_915e3_25 hf hC hN
def fJx4a65c_size_8abf5 (v0 : Nat) (μ : vg_M) : vg_R Int32 :=
  vg_o (vg_gI μ v0 2 2) fun x1 =>
  vg_ret x1 μ
set_option maxHeartbeats 4000000 in
set_option maxRecDepth 100000 in
theorem cJx4a65c_size_8abf5_met {l : Launch} {D : va_G} {cy : Nat → ClassId} {H0 : Heap} {r : Int32} {μ μ' : vg_M} {cn nn : Nat} {v0 : Nat} (hf : fJx4a65c_size_8abf5 v0 μ = some (r, μ', cn, nn)) : vg_Met l D cy H0 yJx4a65c_size_8abf5 cJx4a65c_size_8abf5 1 (some .int) 12 μ [.ref v0] (some (.int r)) μ' cn nn := by
  refine vg_start (by decide +kernel) (List.forall_mem_cons.mpr ⟨rfl, (fun _ h => nomatch h)⟩) (Nat.le_of_ble_eq_true rfl) ?_
  intro p e s m below meth c ls X hml hr hlk hnm hH hl
  have hl : vg_l ls 1 [(0, .ref v0)] := hl
  have Z : vg_Z D cy H0 p s m _ c cJx4a65c_size_8abf5 RJx4a65c meth 1 (some .int) (vg_rm 12 cn nn) 12 cn nn _ := ⟨X, hml, hr, hlk, Nat.le_refl _, Nat.le_refl _, Nat.le_refl _, Nat.le_refl _, hnm⟩
  obtain ⟨-, -, -, -, hfr, hlo, hRc, hRs, -⟩ := id Z
  have hx := X.1
  have hb := X.2.1
  have hL : ∀ z ∈ ([] : List Loc), H0.size ≤ z.base := fun _ h => nomatch h
  have hC : 0 + cn = cn := Nat.zero_add _
  have hN : 0 + nn = nn := Nat.zero_add _
  delta fJx4a65c_size_8abf5 at hf
  refine lv_aload_n hx hb dJx4a65c_size_8abf5_0 rfl (lv_at hl.1 0 rfl) ?_
  refine vg_getI X hH fF_Jx4a65c_48 dJx4a65c_size_8abf5_1 hf (fun x1 hf => ?_)
  exact vg_reti X hr hlk hH hL dJx4a65c_size_8abf5_4 hf hC hN
