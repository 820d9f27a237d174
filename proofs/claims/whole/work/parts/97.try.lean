/-! The law's own methods that catch. -/
section VYT
variable {p : Program} {l : Launch} {e : Env} {R : Room} {s : State} {m : MethodId} {args : Array Value} {below : List Frame} {meth : Method} {c : Code} {H : Heap} {locs : List Loc} {cells slots : Nat} {Q : State → Prop}
variable {cc : ByteArray} {pc : Nat} {ls : Array Slot} {rest : List Value} {D : va_G} {cy : Nat → ClassId} {H0 : Heap} {μ μ' : vg_M} {own : String} {a cn nn nL : Nat} {lv : List (Nat × Value)}
/-- a call that may throw, the throw caught here -/
theorem vy_callX {α : Type} (X : vg_X D cy H0 p s m args c cc own) (hml : c.maxLocals = nL) (hl : vg_l ls nL lv) (hH : vg_H D cy H0 μ H) (hL : ∀ z ∈ locs, H0.size ≤ z.base) {index ci maxL n h : Nat} {C : String} {y : MethodName} {bytes : ByteArray} {ret : Option FieldType} (hS : vg_CV own index C y bytes maxL ret n) {T0 : u_T} {N : Nat} (hci : vwCl[ci]? = some (C, T0, N))
    (As : List Value) (hn : As.length = n) {st0 : List Value} (hst : st0 = As.reverse ++ .ref a :: rest) (hcat : (rest.map fun v => v.category).sum ≤ 8) (hdg : decode cc pc = .ok (.invokevirtual index, 3))
    {rv : α → Option Value} {r : α ⊕ Nat} (ha : ∃ fs, μ.1 a = some (.inr (ci, fs))) (hRc : cells + cn ≤ R.cells) (hRs : slots + nn ≤ R.slots) {h1 : Nat} (hRf : h1 ≤ R.frames) (hRl : 60 * h1 ≤ R.locals) (hh : h + 1 ≤ h1)
    (hM : vg_MetX l D cy H0 y bytes maxL ret h μ (.ref a :: As) rv r μ' cn nn)
    (kk : ∀ (x : α) (H1 : Heap) (locs1 : List Loc), r = .inl x → vg_H D cy H0 μ' H1 → (∀ z ∈ locs1, H0.size ≤ z.base) → W p l e R s m args below meth c H1 locs1 (cells + cn) (slots + nn) Q (F0 m (pc + 3) ls ((rv x).toList ++ rest)))
    (kx : ∀ (k z : Nat) (ce : Cell) (q : Addr) (H1 : Heap) (locs1 : List Loc), r = .inr k → vg_H D cy H0 (μ'.1, z, μ'.2.2) H1 → (∀ z ∈ locs1, H0.size ≤ z.base) → H1[q]? = some ce → ce.vm = .none → s.vm.findClass (vg_ex k) = some ce.cls → vx_W p l e R s m args below meth c H1 locs1 (cells + cn) (slots + nn) Q (F0 m pc ls rest) q) : W p l e R s m args below meth c H locs cells slots Q (F0 m pc ls st0) := by
  subst hst
  obtain ⟨hx, hb, hts, hown, hG⟩ := X
  have hK := hG.1
  obtain ⟨hmk, hins, hsel, hini, hcode, hd, hmx⟩ := hS
  obtain ⟨fs, hrc⟩ := ha
  have hrecv := vgw_recv hK (hH.rd hrc) hci
  have hGd : GoodIn vg_T (wsV own index C y (Cond.code y bytes maxL ret :: vg_T)) := by
    intro w hw
    have hw' : w ∈ ([.methodLink own index y, .instanceMethod y, .selects C y y, .initialized C] : List Cond) ++ (Cond.code y bytes maxL ret :: vg_T) := hw
    rcases List.mem_append.mp hw' with h1 | h1
    · simp only [List.mem_cons, List.not_mem_nil, or_false] at h1
      rcases h1 with rfl | rfl | rfl | rfl
      · exact vg_goodT hmk _ List.mem_cons_self
      · exact vg_goodT hins _ List.mem_cons_self
      · exact vg_goodT hsel _ List.mem_cons_self
      · exact vg_goodT hini _ List.mem_cons_self
    · exact vg_goodC hcode w h1
  have hr := vx_runV (g := F0 m pc ls (As.reverse ++ .ref a :: rest)) (As := As) (rest := rest) ⟨hx, hb, hml, hown, hts⟩ hM (cwV n hts hGd rfl rfl rfl hd ⟨Nat.le_trans hh hRf, by show 8 + (maxL + 11) + 60 * h ≤ R.locals; omega⟩) ⟨vg_blind, hrecv, fun U hU hW => ⟨rfl, by rw [hU]; exact hH, hG.warm hW⟩⟩ rfl hn hl.1.1 rfl (lv_room hcat) hdg (e := e) (below := below) (meth := meth) (H := H) (locs := locs) (cells := cells) (slots := slots) ⟨hRc, hRs⟩
  have hLL : ∀ (L : List Loc), (∀ q ∈ L, vg_fr H0 q.base) → ∀ z ∈ locs ++ L, H0.size ≤ z.base := fun L hL' q hq => by
    rcases List.mem_append.mp hq with h | h
    · exact hL q h
    · exact hL' q h
  intro T hT Y
  rcases hr T hT Y with ⟨v, st₀, t, T', L, h0, X', hL', e1, e2, ⟨x, hz, hv, hh1⟩, st⟩ | ⟨q, st₀, t, T', L, E, ce, h0, X', hL', e1, e2, ⟨k, zz, hz, hE, hh1⟩, hce, hcv, hcl, st⟩
  · cases hv
    obtain ⟨t2, a1, b1⟩ := kk x T'.heap (locs ++ L) hz (by rw [e1]; exact hh1) (hLL L hL') T' rfl X'
    exact ⟨t2, st t2 a1, b1⟩
  · subst hE
    obtain ⟨t2, a1, b1⟩ := kx k zz ce q T'.heap (locs ++ L) hz (by rw [e1]; exact hh1) (hLL L hL') (by rw [e1]; exact hce) hcv hcl T' rfl X'
    exact ⟨t2, st.trans a1, b1⟩
/-- a store of a long -/
theorem vy_last (X : vg_X D cy H0 p s m args c cc own) (hH : vg_H D cy H0 μ H) (hL : ∀ z ∈ locs, H0.size ≤ z.base) {i : Int32} {x : Int64} {n : Nat} {f : Nat → Int64} (ha : μ.1 a = some (.inl (4, n, .inr (.inl f)))) (hs : μ.2.2.1 ≤ a) (hin : vp_in i n) (hdg : decode cc pc = .ok (.lastore, 1))
    (kk : ∀ (H1 : Heap) (locs1 : List Loc), vg_H D cy H0 (va_up μ.1 a (some (.inl (4, n, .inr (.inl (vp_updL f i.toNatClampNeg x))))), μ.2) H1 → (∀ z ∈ locs1, H0.size ≤ z.base) → W p l e R s m args below meth c H1 locs1 cells slots Q (F0 m (pc + 1) ls rest)) : W p l e R s m args below meth c H locs cells slots Q (F0 m pc ls (.long x :: .int i :: .ref a :: rest)) := by
  obtain ⟨hx, hb, hts, hown, hG⟩ := X
  have hK := hG.1
  have hat : va_at D vwCl (a, .inl (cy 4, n, .inr (.inl f))) H := hH.ex ha hs
  refine W.last hx hb hat ((hK.2 4 _ rfl).1 n (fun j => .long (f j))) (fun q => by cases q) (by show ¬ (i < 0 ∨ (arrV _ _ _).slots.size ≤ _); rw [arrV_size]; exact hin) rfl rfl hdg fun H1 e z oq => ?_
  refine kk H1 _ (hH.put hs ?_ z oq) (vg_locs hL hH hs)
  show H1[a]? = some (vp_cell (cy 4) (n, .inr (.inl (vp_updL f i.toNatClampNeg x))))
  rw [e, vp_cell_l, vp_cell_l, arrV_store]
  congr 2
  funext q
  by_cases hq : q = i.toNatClampNeg
  · subst hq
    simp [updV, vp_updL]
  · simp [updV, vp_updL, hq]
theorem vy_lald (X : vg_X D cy H0 p s m args c cc own) (hH : vg_H D cy H0 μ H) {i : Int32} {n : Nat} {f : Nat → Int64} (ha : μ.1 a = some (.inl (4, n, .inr (.inl f)))) (hin : vp_in i n) (hdg : decode cc pc = .ok (.laload, 1))
    (kk : W p l e R s m args below meth c H locs cells slots Q (F0 m (pc + 1) ls (.long (f i.toNatClampNeg) :: rest))) : W p l e R s m args below meth c H locs cells slots Q (F0 m pc ls (.int i :: .ref a :: rest)) := by
  obtain ⟨hx, hb, hts, hown, hG⟩ := X
  exact vgw_lald hx hb hG (hH.rd ha) hin hdg kk
/-- what a caught call leaves: its answer and its memory -/
def vy_Pc (D : va_G) (cy : Nat → ClassId) (H0 : Heap) (μ : vg_M) (av : List Value) : Array Value → State → Prop := fun v U => vg_Pc D cy H0 μ av v U ∧ va_Nc "java/lang/IllegalStateException" "java/lang/IllegalArgumentException" U
def vy_Qc {α : Type} (D : va_G) (cy : Nat → ClassId) (H0 : Heap) (r : α ⊕ Nat) (μo : α → vg_M) (μ' : vg_M) : Array Value → State → Outcome → State → Prop := fun _ _ o t => match r with
  | .inl v => o = .returned (some (.int 0)) ∧ vg_H D cy H0 (μo v) t.heap
  | .inr k => o = .returned (some (.int (nI k))) ∧ ∃ z, vg_H D cy H0 (μ'.1, z, μ'.2.2) t.heap
theorem vy_blind {av : List Value} : FrameBlind (vy_Pc D cy H0 μ av) := fun a U g mk q => ⟨vg_blind a U g mk q.1, va_Nc.moved (u := U) (U := U.calling g mk a) (Vm.Alike.refl U.vm) q.2⟩
theorem vy_fin {α : Type} {r : α ⊕ Nat} {μo : α → vg_M} {k z : Nat} (X : vg_X D cy H0 p s m args c cc own) (hr : meth.sig.returnType = some .int) (hlocks : meth.locks = false) (hrk : r = .inr k) (hH : vg_H D cy H0 (μ'.1, z, μ'.2.2) H) (hL : ∀ z ∈ locs, H0.size ≤ z.base) (hdg : decode cc pc = .ok (.ireturn, 1)) :
    W p l e R s m args below meth c H locs cells slots (MQ below (vy_Qc D cy H0 r μo μ') args s cells slots (vg_fr H0)) (F0 m pc ls [.int (nI k)]) := by
  subst hrk
  exact W.iret X.1 X.2.1 hr (fun t ht _ => ⟨rfl, z, by rw [ht]; exact hH⟩) hL hdg hlocks
theorem vy_fin0 {α : Type} {r : α ⊕ Nat} {μo : α → vg_M} {v : α} (X : vg_X D cy H0 p s m args c cc own) (hr : meth.sig.returnType = some .int) (hlocks : meth.locks = false) (hrk : r = .inl v) (hH : vg_H D cy H0 (μo v) H) (hL : ∀ z ∈ locs, H0.size ≤ z.base) (hdg : decode cc pc = .ok (.ireturn, 1)) :
    W p l e R s m args below meth c H locs cells slots (MQ below (vy_Qc D cy H0 r μo μ') args s cells slots (vg_fr H0)) (F0 m pc ls [.int 0]) := by
  subst hrk
  exact W.iret X.1 X.2.1 hr (fun t ht _ => ⟨rfl, by rw [ht]; exact hH⟩) hL hdg hlocks
theorem cL_file_met (hls : l.stackTraces = false) {x out : Nat} {r : Int32 ⊕ Nat} {fo : Nat → Int64} (hf : fX10_file x μ = some (r, μ', cn, nn)) (hx0 : ∃ fs, μ.1 x = some (.inr (13, fs))) (ho : μ'.1 out = some (.inl (4, 1, .inr (.inl fo)))) (hs : μ'.2.2.1 ≤ out) (hk : ∀ k, r = .inr k → k = 1 ∨ k = 2) : Met l yL_file (.codeWith yL_file cL_file 3 (some .int) hL_file :: vg_T) (vg_rm 45 cn nn) (vy_Pc D cy H0 μ [.ref x, .ref out]) (vy_Qc D cy H0 r (fun v => (va_up μ'.1 out (some (.inl (4, 1, .inr (.inl (vp_updL fo 0 v.toInt64))))), μ'.2)) μ') cn nn (vg_fr H0) := by
  refine va_MetW (cc := cL_file) (maxL := 3) (ret := some .int) (hh := hL_file) (by decide +kernel) rfl ?_
  intro p e s m args below meth c s₁ B hml hv
  obtain ⟨⟨rfl, hH, hG⟩, hNc⟩ := hv
  have hts := atoms_spec (ws := Cond.codeWith yL_file cL_file 3 (some .int) hL_file :: vg_T) B.pre
  have hown : s.vm.findClass RL = some m.cls := findClass_of_methodNamed B.named
  have htab : c.exceptionTable.toList = tableOf hL_file := vx_table (x := yL_file) B (hts _ List.mem_cons_self)
  have hl := lv_entry ([.ref x, .ref out]) (n := 3) (Nat.le_of_ble_eq_true rfl)
  rw [lg_entry_eq]
  generalize (lg_sl ([.ref x, .ref out]) ++ List.replicate (3 - (lg_sl ([.ref x, .ref out])).length) Slot.unset).toArray = ls at hl ⊢
  have hl : vg_l ls 3 [(0, .ref x), (1, .ref out)] := ⟨hl, fun q hq => by simp only [List.mem_cons, List.not_mem_nil, or_false] at hq; rcases hq with rfl | rfl <;> rfl⟩
  have X : vg_X D cy H0 p s m _ c cL_file RL := ⟨B.exec, B.bytes, fun w hw => hts w (List.mem_cons_of_mem _ hw), hown, hG⟩
  have hx := X.1
  have hb := X.2.1
  have hr : meth.sig.returnType = some .int := B.returns
  have hlk := B.notSynchronized
  have hL : ∀ z ∈ ([] : List Loc), H0.size ≤ z.base := fun _ h => nomatch h
  refine lv_aload_n hx hb dL_file_0 rfl (lv_at hl.1 1 rfl) ?_
  refine lv_iconst (v := 0) hx hb dL_file_1 (by decide) ?_
  refine lv_aload_n hx hb dL_file_2 rfl (lv_at hl.1 0 rfl) ?_
  refine vy_callX (h1 := 45) (ci := 13) (rest := [.int 0, .ref out]) X hml hl hH hL fCV_L_7 rfl [] rfl rfl (Nat.le_of_ble_eq_true rfl) dL_file_3 hx0 (by rw [Nat.zero_add]; exact Nat.le_refl _) (by rw [Nat.zero_add]; exact Nat.le_refl _) (Nat.le_refl _) (Nat.le_refl _) (by decide) (cX10_file_met hls hf) (fun v H1 locs1 hrv hH1 hL1 => ?_) (fun k z ce q H1 locs1 hrk hH1 hL1 hce hcv hcl => ?_)
  · refine lv_i2l (v := v.toInt64) hx hb dL_file_6 rfl ?_
    refine vy_last (x := v.toInt64) X hH1 hL1 ho hs (by unfold vp_in; decide) dL_file_7 (fun H2 locs2 hH2 hL2 => ?_)
    refine lv_goto (tgt := 17) hx hb dL_file_8 (by decide) ?_
    refine lv_iconst (v := 0) hx hb dL_file_17 (by decide) ?_
    refine W.widen (k := cn) (n := nn) (by omega) (by omega) ?_
    exact vy_fin0 X hr hlk hrv hH2 hL2 dL_file_18
  · have hkk := hk k hrk
    by_cases h1 : k = 1
    · subst h1
      refine vy_catch (own := RL) (name := "java/lang/IllegalArgumentException") (E := vg_ex 1) hown [] ⟨0, 8, 11, 13⟩ [⟨0, 8, 14, 15⟩] (by rw [htab]; rfl) (fun z hz => nomatch hz) (by decide) (by decide) (X.2.2.1 _ kL_13) (va_Nw.use (by decide +kernel) (hG.2.2.2.2.2.2.1 (.castable "java/lang/IllegalArgumentException" "java/lang/IllegalArgumentException") (by decide +kernel))) hce hcv hcl ?_
      refine vg_astore_n (x := some q) (lv' := [(2, va_rf (some q)), (0, .ref x), (1, .ref out)]) hx hb dL_file_11 rfl hl (by decide) rfl (fun ls hl => ?_)
      refine lv_iconst (v := 1) hx hb dL_file_12 (by decide) ?_
      refine W.widen (k := cn) (n := nn) (by omega) (by omega) ?_
      exact vy_fin (k := 1) X hr hlk hrk hH1 hL1 dL_file_13
    · have h2 : k = 2 := by omega
      subst h2
      refine vy_catch (own := RL) (name := "java/lang/IllegalStateException") (E := vg_ex 2) hown [⟨0, 8, 11, 13⟩] ⟨0, 8, 14, 15⟩ [] (by rw [htab]; rfl) (fun z hz => ?_) (by decide) (by decide) (X.2.2.1 _ kL_15) (va_Nw.use (by decide +kernel) (hG.2.2.2.2.2.2.1 (.castable "java/lang/IllegalStateException" "java/lang/IllegalStateException") (by decide +kernel))) hce hcv hcl ?_
      · rw [List.mem_singleton.mp hz]
        exact ⟨by decide, by decide, _, X.2.2.1 _ kL_13, hNc⟩
      · refine vg_astore_n (x := some q) (lv' := [(2, va_rf (some q)), (0, .ref x), (1, .ref out)]) hx hb dL_file_14 rfl hl (by decide) rfl (fun ls hl => ?_)
        refine lv_iconst (v := 2) hx hb dL_file_15 (by decide) ?_
        refine W.widen (k := cn) (n := nn) (by omega) (by omega) ?_
        exact vy_fin (k := 2) X hr hlk hrk hH1 hL1 dL_file_16
theorem cL_folder_met (hls : l.stackTraces = false) {x out : Nat} {r : Int32 ⊕ Nat} {fo : Nat → Int64} (hf : fX10_folder x μ = some (r, μ', cn, nn)) (hx0 : ∃ fs, μ.1 x = some (.inr (13, fs))) (ho : μ'.1 out = some (.inl (4, 1, .inr (.inl fo)))) (hs : μ'.2.2.1 ≤ out) (hk : ∀ k, r = .inr k → k = 1 ∨ k = 2) : Met l yL_folder (.codeWith yL_folder cL_folder 3 (some .int) hL_folder :: vg_T) (vg_rm 45 cn nn) (vy_Pc D cy H0 μ [.ref x, .ref out]) (vy_Qc D cy H0 r (fun v => (va_up μ'.1 out (some (.inl (4, 1, .inr (.inl (vp_updL fo 0 v.toInt64))))), μ'.2)) μ') cn nn (vg_fr H0) := by
  refine va_MetW (cc := cL_folder) (maxL := 3) (ret := some .int) (hh := hL_folder) (by decide +kernel) rfl ?_
  intro p e s m args below meth c s₁ B hml hv
  obtain ⟨⟨rfl, hH, hG⟩, hNc⟩ := hv
  have hts := atoms_spec (ws := Cond.codeWith yL_folder cL_folder 3 (some .int) hL_folder :: vg_T) B.pre
  have hown : s.vm.findClass RL = some m.cls := findClass_of_methodNamed B.named
  have htab : c.exceptionTable.toList = tableOf hL_folder := vx_table (x := yL_folder) B (hts _ List.mem_cons_self)
  have hl := lv_entry ([.ref x, .ref out]) (n := 3) (Nat.le_of_ble_eq_true rfl)
  rw [lg_entry_eq]
  generalize (lg_sl ([.ref x, .ref out]) ++ List.replicate (3 - (lg_sl ([.ref x, .ref out])).length) Slot.unset).toArray = ls at hl ⊢
  have hl : vg_l ls 3 [(0, .ref x), (1, .ref out)] := ⟨hl, fun q hq => by simp only [List.mem_cons, List.not_mem_nil, or_false] at hq; rcases hq with rfl | rfl <;> rfl⟩
  have X : vg_X D cy H0 p s m _ c cL_folder RL := ⟨B.exec, B.bytes, fun w hw => hts w (List.mem_cons_of_mem _ hw), hown, hG⟩
  have hx := X.1
  have hb := X.2.1
  have hr : meth.sig.returnType = some .int := B.returns
  have hlk := B.notSynchronized
  have hL : ∀ z ∈ ([] : List Loc), H0.size ≤ z.base := fun _ h => nomatch h
  refine lv_aload_n hx hb dL_folder_0 rfl (lv_at hl.1 1 rfl) ?_
  refine lv_iconst (v := 0) hx hb dL_folder_1 (by decide) ?_
  refine lv_aload_n hx hb dL_folder_2 rfl (lv_at hl.1 0 rfl) ?_
  refine vy_callX (h1 := 45) (ci := 13) (rest := [.int 0, .ref out]) X hml hl hH hL fCV_L_17 rfl [] rfl rfl (Nat.le_of_ble_eq_true rfl) dL_folder_3 hx0 (by rw [Nat.zero_add]; exact Nat.le_refl _) (by rw [Nat.zero_add]; exact Nat.le_refl _) (Nat.le_refl _) (Nat.le_refl _) (by decide) (cX10_folder_met hls hf) (fun v H1 locs1 hrv hH1 hL1 => ?_) (fun k z ce q H1 locs1 hrk hH1 hL1 hce hcv hcl => ?_)
  · refine lv_i2l (v := v.toInt64) hx hb dL_folder_6 rfl ?_
    refine vy_last (x := v.toInt64) X hH1 hL1 ho hs (by unfold vp_in; decide) dL_folder_7 (fun H2 locs2 hH2 hL2 => ?_)
    refine lv_goto (tgt := 17) hx hb dL_folder_8 (by decide) ?_
    refine lv_iconst (v := 0) hx hb dL_folder_17 (by decide) ?_
    refine W.widen (k := cn) (n := nn) (by omega) (by omega) ?_
    exact vy_fin0 X hr hlk hrv hH2 hL2 dL_folder_18
  · have hkk := hk k hrk
    by_cases h1 : k = 1
    · subst h1
      refine vy_catch (own := RL) (name := "java/lang/IllegalArgumentException") (E := vg_ex 1) hown [] ⟨0, 8, 11, 13⟩ [⟨0, 8, 14, 15⟩] (by rw [htab]; rfl) (fun z hz => nomatch hz) (by decide) (by decide) (X.2.2.1 _ kL_13) (va_Nw.use (by decide +kernel) (hG.2.2.2.2.2.2.1 (.castable "java/lang/IllegalArgumentException" "java/lang/IllegalArgumentException") (by decide +kernel))) hce hcv hcl ?_
      refine vg_astore_n (x := some q) (lv' := [(2, va_rf (some q)), (0, .ref x), (1, .ref out)]) hx hb dL_folder_11 rfl hl (by decide) rfl (fun ls hl => ?_)
      refine lv_iconst (v := 1) hx hb dL_folder_12 (by decide) ?_
      refine W.widen (k := cn) (n := nn) (by omega) (by omega) ?_
      exact vy_fin (k := 1) X hr hlk hrk hH1 hL1 dL_folder_13
    · have h2 : k = 2 := by omega
      subst h2
      refine vy_catch (own := RL) (name := "java/lang/IllegalStateException") (E := vg_ex 2) hown [⟨0, 8, 11, 13⟩] ⟨0, 8, 14, 15⟩ [] (by rw [htab]; rfl) (fun z hz => ?_) (by decide) (by decide) (X.2.2.1 _ kL_15) (va_Nw.use (by decide +kernel) (hG.2.2.2.2.2.2.1 (.castable "java/lang/IllegalStateException" "java/lang/IllegalStateException") (by decide +kernel))) hce hcv hcl ?_
      · rw [List.mem_singleton.mp hz]
        exact ⟨by decide, by decide, _, X.2.2.1 _ kL_13, hNc⟩
      · refine vg_astore_n (x := some q) (lv' := [(2, va_rf (some q)), (0, .ref x), (1, .ref out)]) hx hb dL_folder_14 rfl hl (by decide) rfl (fun ls hl => ?_)
        refine lv_iconst (v := 2) hx hb dL_folder_15 (by decide) ?_
        refine W.widen (k := cn) (n := nn) (by omega) (by omega) ?_
        exact vy_fin (k := 2) X hr hlk hrk hH1 hL1 dL_folder_16
theorem cL_remove_met (hls : l.stackTraces = false) {x out : Nat} {r : Int32 ⊕ Nat} {fo : Nat → Int64} (hf : fX10_remove x μ = some (r, μ', cn, nn)) (hx0 : ∃ fs, μ.1 x = some (.inr (13, fs))) (ho : μ'.1 out = some (.inl (4, 1, .inr (.inl fo)))) (hs : μ'.2.2.1 ≤ out) (hk : ∀ k, r = .inr k → k = 1 ∨ k = 2) : Met l yL_remove (.codeWith yL_remove cL_remove 3 (some .int) hL_remove :: vg_T) (vg_rm 45 cn nn) (vy_Pc D cy H0 μ [.ref x, .ref out]) (vy_Qc D cy H0 r (fun v => (va_up μ'.1 out (some (.inl (4, 1, .inr (.inl (vp_updL fo 0 v.toInt64))))), μ'.2)) μ') cn nn (vg_fr H0) := by
  refine va_MetW (cc := cL_remove) (maxL := 3) (ret := some .int) (hh := hL_remove) (by decide +kernel) rfl ?_
  intro p e s m args below meth c s₁ B hml hv
  obtain ⟨⟨rfl, hH, hG⟩, hNc⟩ := hv
  have hts := atoms_spec (ws := Cond.codeWith yL_remove cL_remove 3 (some .int) hL_remove :: vg_T) B.pre
  have hown : s.vm.findClass RL = some m.cls := findClass_of_methodNamed B.named
  have htab : c.exceptionTable.toList = tableOf hL_remove := vx_table (x := yL_remove) B (hts _ List.mem_cons_self)
  have hl := lv_entry ([.ref x, .ref out]) (n := 3) (Nat.le_of_ble_eq_true rfl)
  rw [lg_entry_eq]
  generalize (lg_sl ([.ref x, .ref out]) ++ List.replicate (3 - (lg_sl ([.ref x, .ref out])).length) Slot.unset).toArray = ls at hl ⊢
  have hl : vg_l ls 3 [(0, .ref x), (1, .ref out)] := ⟨hl, fun q hq => by simp only [List.mem_cons, List.not_mem_nil, or_false] at hq; rcases hq with rfl | rfl <;> rfl⟩
  have X : vg_X D cy H0 p s m _ c cL_remove RL := ⟨B.exec, B.bytes, fun w hw => hts w (List.mem_cons_of_mem _ hw), hown, hG⟩
  have hx := X.1
  have hb := X.2.1
  have hr : meth.sig.returnType = some .int := B.returns
  have hlk := B.notSynchronized
  have hL : ∀ z ∈ ([] : List Loc), H0.size ≤ z.base := fun _ h => nomatch h
  refine lv_aload_n hx hb dL_remove_0 rfl (lv_at hl.1 1 rfl) ?_
  refine lv_iconst (v := 0) hx hb dL_remove_1 (by decide) ?_
  refine lv_aload_n hx hb dL_remove_2 rfl (lv_at hl.1 0 rfl) ?_
  refine vy_callX (h1 := 45) (ci := 13) (rest := [.int 0, .ref out]) X hml hl hH hL fCV_L_20 rfl [] rfl rfl (Nat.le_of_ble_eq_true rfl) dL_remove_3 hx0 (by rw [Nat.zero_add]; exact Nat.le_refl _) (by rw [Nat.zero_add]; exact Nat.le_refl _) (Nat.le_refl _) (Nat.le_refl _) (by decide) (cX10_remove_met hls hf) (fun v H1 locs1 hrv hH1 hL1 => ?_) (fun k z ce q H1 locs1 hrk hH1 hL1 hce hcv hcl => ?_)
  · refine lv_i2l (v := v.toInt64) hx hb dL_remove_6 rfl ?_
    refine vy_last (x := v.toInt64) X hH1 hL1 ho hs (by unfold vp_in; decide) dL_remove_7 (fun H2 locs2 hH2 hL2 => ?_)
    refine lv_goto (tgt := 17) hx hb dL_remove_8 (by decide) ?_
    refine lv_iconst (v := 0) hx hb dL_remove_17 (by decide) ?_
    refine W.widen (k := cn) (n := nn) (by omega) (by omega) ?_
    exact vy_fin0 X hr hlk hrv hH2 hL2 dL_remove_18
  · have hkk := hk k hrk
    by_cases h1 : k = 1
    · subst h1
      refine vy_catch (own := RL) (name := "java/lang/IllegalArgumentException") (E := vg_ex 1) hown [] ⟨0, 8, 11, 13⟩ [⟨0, 8, 14, 15⟩] (by rw [htab]; rfl) (fun z hz => nomatch hz) (by decide) (by decide) (X.2.2.1 _ kL_13) (va_Nw.use (by decide +kernel) (hG.2.2.2.2.2.2.1 (.castable "java/lang/IllegalArgumentException" "java/lang/IllegalArgumentException") (by decide +kernel))) hce hcv hcl ?_
      refine vg_astore_n (x := some q) (lv' := [(2, va_rf (some q)), (0, .ref x), (1, .ref out)]) hx hb dL_remove_11 rfl hl (by decide) rfl (fun ls hl => ?_)
      refine lv_iconst (v := 1) hx hb dL_remove_12 (by decide) ?_
      refine W.widen (k := cn) (n := nn) (by omega) (by omega) ?_
      exact vy_fin (k := 1) X hr hlk hrk hH1 hL1 dL_remove_13
    · have h2 : k = 2 := by omega
      subst h2
      refine vy_catch (own := RL) (name := "java/lang/IllegalStateException") (E := vg_ex 2) hown [⟨0, 8, 11, 13⟩] ⟨0, 8, 14, 15⟩ [] (by rw [htab]; rfl) (fun z hz => ?_) (by decide) (by decide) (X.2.2.1 _ kL_15) (va_Nw.use (by decide +kernel) (hG.2.2.2.2.2.2.1 (.castable "java/lang/IllegalStateException" "java/lang/IllegalStateException") (by decide +kernel))) hce hcv hcl ?_
      · rw [List.mem_singleton.mp hz]
        exact ⟨by decide, by decide, _, X.2.2.1 _ kL_13, hNc⟩
      · refine vg_astore_n (x := some q) (lv' := [(2, va_rf (some q)), (0, .ref x), (1, .ref out)]) hx hb dL_remove_14 rfl hl (by decide) rfl (fun ls hl => ?_)
        refine lv_iconst (v := 2) hx hb dL_remove_15 (by decide) ?_
        refine W.widen (k := cn) (n := nn) (by omega) (by omega) ?_
        exact vy_fin (k := 2) X hr hlk hrk hH1 hL1 dL_remove_16
theorem cL_query_met (hls : l.stackTraces = false) {x out : Nat} {r : Int32 ⊕ Nat} {fo : Nat → Int64} (hf : fX10_query x μ = some (r, μ', cn, nn)) (hx0 : ∃ fs, μ.1 x = some (.inr (13, fs))) (ho : μ'.1 out = some (.inl (4, 1, .inr (.inl fo)))) (hs : μ'.2.2.1 ≤ out) (hk : ∀ k, r = .inr k → k = 1 ∨ k = 2) : Met l yL_query (.codeWith yL_query cL_query 3 (some .int) hL_query :: vg_T) (vg_rm 45 cn nn) (vy_Pc D cy H0 μ [.ref x, .ref out]) (vy_Qc D cy H0 r (fun v => (va_up μ'.1 out (some (.inl (4, 1, .inr (.inl (vp_updL fo 0 v.toInt64))))), μ'.2)) μ') cn nn (vg_fr H0) := by
  refine va_MetW (cc := cL_query) (maxL := 3) (ret := some .int) (hh := hL_query) (by decide +kernel) rfl ?_
  intro p e s m args below meth c s₁ B hml hv
  obtain ⟨⟨rfl, hH, hG⟩, hNc⟩ := hv
  have hts := atoms_spec (ws := Cond.codeWith yL_query cL_query 3 (some .int) hL_query :: vg_T) B.pre
  have hown : s.vm.findClass RL = some m.cls := findClass_of_methodNamed B.named
  have htab : c.exceptionTable.toList = tableOf hL_query := vx_table (x := yL_query) B (hts _ List.mem_cons_self)
  have hl := lv_entry ([.ref x, .ref out]) (n := 3) (Nat.le_of_ble_eq_true rfl)
  rw [lg_entry_eq]
  generalize (lg_sl ([.ref x, .ref out]) ++ List.replicate (3 - (lg_sl ([.ref x, .ref out])).length) Slot.unset).toArray = ls at hl ⊢
  have hl : vg_l ls 3 [(0, .ref x), (1, .ref out)] := ⟨hl, fun q hq => by simp only [List.mem_cons, List.not_mem_nil, or_false] at hq; rcases hq with rfl | rfl <;> rfl⟩
  have X : vg_X D cy H0 p s m _ c cL_query RL := ⟨B.exec, B.bytes, fun w hw => hts w (List.mem_cons_of_mem _ hw), hown, hG⟩
  have hx := X.1
  have hb := X.2.1
  have hr : meth.sig.returnType = some .int := B.returns
  have hlk := B.notSynchronized
  have hL : ∀ z ∈ ([] : List Loc), H0.size ≤ z.base := fun _ h => nomatch h
  refine lv_aload_n hx hb dL_query_0 rfl (lv_at hl.1 1 rfl) ?_
  refine lv_iconst (v := 0) hx hb dL_query_1 (by decide) ?_
  refine lv_aload_n hx hb dL_query_2 rfl (lv_at hl.1 0 rfl) ?_
  refine vy_callX (h1 := 45) (ci := 13) (rest := [.int 0, .ref out]) X hml hl hH hL fCV_L_27 rfl [] rfl rfl (Nat.le_of_ble_eq_true rfl) dL_query_3 hx0 (by rw [Nat.zero_add]; exact Nat.le_refl _) (by rw [Nat.zero_add]; exact Nat.le_refl _) (Nat.le_refl _) (Nat.le_refl _) (by decide) (cX10_query_met hls hf) (fun v H1 locs1 hrv hH1 hL1 => ?_) (fun k z ce q H1 locs1 hrk hH1 hL1 hce hcv hcl => ?_)
  · refine lv_i2l (v := v.toInt64) hx hb dL_query_6 rfl ?_
    refine vy_last (x := v.toInt64) X hH1 hL1 ho hs (by unfold vp_in; decide) dL_query_7 (fun H2 locs2 hH2 hL2 => ?_)
    refine lv_goto (tgt := 17) hx hb dL_query_8 (by decide) ?_
    refine lv_iconst (v := 0) hx hb dL_query_17 (by decide) ?_
    refine W.widen (k := cn) (n := nn) (by omega) (by omega) ?_
    exact vy_fin0 X hr hlk hrv hH2 hL2 dL_query_18
  · have hkk := hk k hrk
    by_cases h1 : k = 1
    · subst h1
      refine vy_catch (own := RL) (name := "java/lang/IllegalArgumentException") (E := vg_ex 1) hown [] ⟨0, 8, 11, 13⟩ [⟨0, 8, 14, 15⟩] (by rw [htab]; rfl) (fun z hz => nomatch hz) (by decide) (by decide) (X.2.2.1 _ kL_13) (va_Nw.use (by decide +kernel) (hG.2.2.2.2.2.2.1 (.castable "java/lang/IllegalArgumentException" "java/lang/IllegalArgumentException") (by decide +kernel))) hce hcv hcl ?_
      refine vg_astore_n (x := some q) (lv' := [(2, va_rf (some q)), (0, .ref x), (1, .ref out)]) hx hb dL_query_11 rfl hl (by decide) rfl (fun ls hl => ?_)
      refine lv_iconst (v := 1) hx hb dL_query_12 (by decide) ?_
      refine W.widen (k := cn) (n := nn) (by omega) (by omega) ?_
      exact vy_fin (k := 1) X hr hlk hrk hH1 hL1 dL_query_13
    · have h2 : k = 2 := by omega
      subst h2
      refine vy_catch (own := RL) (name := "java/lang/IllegalStateException") (E := vg_ex 2) hown [⟨0, 8, 11, 13⟩] ⟨0, 8, 14, 15⟩ [] (by rw [htab]; rfl) (fun z hz => ?_) (by decide) (by decide) (X.2.2.1 _ kL_15) (va_Nw.use (by decide +kernel) (hG.2.2.2.2.2.2.1 (.castable "java/lang/IllegalStateException" "java/lang/IllegalStateException") (by decide +kernel))) hce hcv hcl ?_
      · rw [List.mem_singleton.mp hz]
        exact ⟨by decide, by decide, _, X.2.2.1 _ kL_13, hNc⟩
      · refine vg_astore_n (x := some q) (lv' := [(2, va_rf (some q)), (0, .ref x), (1, .ref out)]) hx hb dL_query_14 rfl hl (by decide) rfl (fun ls hl => ?_)
        refine lv_iconst (v := 2) hx hb dL_query_15 (by decide) ?_
        refine W.widen (k := cn) (n := nn) (by omega) (by omega) ?_
        exact vy_fin (k := 2) X hr hlk hrk hH1 hL1 dL_query_16
theorem cL_pack_met (hls : l.stackTraces = false) {x : Nat} {v1 : Int32} {r : Unit ⊕ Nat} (hf : fX10_pack x v1 μ = some (r, μ', cn, nn)) (hx0 : ∃ fs, μ.1 x = some (.inr (13, fs))) (hk : ∀ k, r = .inr k → k = 1 ∨ k = 2) : Met l yL_pack (.codeWith yL_pack cL_pack 3 (some .int) hL_pack :: vg_T) (vg_rm 45 cn nn) (vy_Pc D cy H0 μ [.ref x, .int v1]) (vy_Qc D cy H0 r (fun _ => μ') μ') cn nn (vg_fr H0) := by
  refine va_MetW (cc := cL_pack) (maxL := 3) (ret := some .int) (hh := hL_pack) (by decide +kernel) rfl ?_
  intro p e s m args below meth c s₁ B hml hv
  obtain ⟨⟨rfl, hH, hG⟩, hNc⟩ := hv
  have hts := atoms_spec (ws := Cond.codeWith yL_pack cL_pack 3 (some .int) hL_pack :: vg_T) B.pre
  have hown : s.vm.findClass RL = some m.cls := findClass_of_methodNamed B.named
  have htab : c.exceptionTable.toList = tableOf hL_pack := vx_table (x := yL_pack) B (hts _ List.mem_cons_self)
  have hl := lv_entry ([.ref x, .int v1]) (n := 3) (Nat.le_of_ble_eq_true rfl)
  rw [lg_entry_eq]
  generalize (lg_sl ([.ref x, .int v1]) ++ List.replicate (3 - (lg_sl ([.ref x, .int v1])).length) Slot.unset).toArray = ls at hl ⊢
  have hl : vg_l ls 3 [(0, .ref x), (1, .int v1)] := ⟨hl, fun q hq => by simp only [List.mem_cons, List.not_mem_nil, or_false] at hq; rcases hq with rfl | rfl <;> rfl⟩
  have X : vg_X D cy H0 p s m _ c cL_pack RL := ⟨B.exec, B.bytes, fun w hw => hts w (List.mem_cons_of_mem _ hw), hown, hG⟩
  have hx := X.1
  have hb := X.2.1
  have hr : meth.sig.returnType = some .int := B.returns
  have hlk := B.notSynchronized
  have hL : ∀ z ∈ ([] : List Loc), H0.size ≤ z.base := fun _ h => nomatch h
  refine lv_aload_n hx hb dL_pack_0 rfl (lv_at hl.1 0 rfl) ?_
  refine lv_iload_n hx hb dL_pack_1 rfl (lv_at hl.1 1 rfl) ?_
  refine vy_callX (h1 := 45) (ci := 13) (rest := []) X hml hl hH hL fCV_L_23 rfl [.int v1] rfl rfl (Nat.le_of_ble_eq_true rfl) dL_pack_2 hx0 (by rw [Nat.zero_add]; exact Nat.le_refl _) (by rw [Nat.zero_add]; exact Nat.le_refl _) (Nat.le_refl _) (Nat.le_refl _) (by decide) (cX10_pack_met hls hf) (fun v H1 locs1 hrv hH1 hL1 => ?_) (fun k z ce q H1 locs1 hrk hH1 hL1 hce hcv hcl => ?_)
  · refine lv_goto (tgt := 14) hx hb dL_pack_5 (by decide) ?_
    refine lv_iconst (v := 0) hx hb dL_pack_14 (by decide) ?_
    refine W.widen (k := cn) (n := nn) (by omega) (by omega) ?_
    exact vy_fin0 X hr hlk hrv hH1 hL1 dL_pack_15
  · have hkk := hk k hrk
    by_cases h1 : k = 1
    · subst h1
      refine vy_catch (own := RL) (name := "java/lang/IllegalArgumentException") (E := vg_ex 1) hown [] ⟨0, 5, 8, 13⟩ [⟨0, 5, 11, 15⟩] (by rw [htab]; rfl) (fun z hz => nomatch hz) (by decide) (by decide) (X.2.2.1 _ kL_13) (va_Nw.use (by decide +kernel) (hG.2.2.2.2.2.2.1 (.castable "java/lang/IllegalArgumentException" "java/lang/IllegalArgumentException") (by decide +kernel))) hce hcv hcl ?_
      refine vg_astore_n (x := some q) (lv' := [(2, va_rf (some q)), (0, .ref x), (1, .int v1)]) hx hb dL_pack_8 rfl hl (by decide) rfl (fun ls hl => ?_)
      refine lv_iconst (v := 1) hx hb dL_pack_9 (by decide) ?_
      refine W.widen (k := cn) (n := nn) (by omega) (by omega) ?_
      exact vy_fin (k := 1) X hr hlk hrk hH1 hL1 dL_pack_10
    · have h2 : k = 2 := by omega
      subst h2
      refine vy_catch (own := RL) (name := "java/lang/IllegalStateException") (E := vg_ex 2) hown [⟨0, 5, 8, 13⟩] ⟨0, 5, 11, 15⟩ [] (by rw [htab]; rfl) (fun z hz => ?_) (by decide) (by decide) (X.2.2.1 _ kL_15) (va_Nw.use (by decide +kernel) (hG.2.2.2.2.2.2.1 (.castable "java/lang/IllegalStateException" "java/lang/IllegalStateException") (by decide +kernel))) hce hcv hcl ?_
      · rw [List.mem_singleton.mp hz]
        exact ⟨by decide, by decide, _, X.2.2.1 _ kL_13, hNc⟩
      · refine vg_astore_n (x := some q) (lv' := [(2, va_rf (some q)), (0, .ref x), (1, .int v1)]) hx hb dL_pack_11 rfl hl (by decide) rfl (fun ls hl => ?_)
        refine lv_iconst (v := 2) hx hb dL_pack_12 (by decide) ?_
        refine W.widen (k := cn) (n := nn) (by omega) (by omega) ?_
        exact vy_fin (k := 2) X hr hlk hrk hH1 hL1 dL_pack_13
theorem cL_pattern_met (hls : l.stackTraces = false) {x : Nat} {v1 v2 : Int32} {r : Unit ⊕ Nat} (hf : fX10_pattern x v1 v2 μ = some (r, μ', cn, nn)) (hx0 : ∃ fs, μ.1 x = some (.inr (13, fs))) (hk : ∀ k, r = .inr k → k = 1 ∨ k = 2) : Met l yL_pattern (.codeWith yL_pattern cL_pattern 4 (some .int) hL_pattern :: vg_T) (vg_rm 45 cn nn) (vy_Pc D cy H0 μ [.ref x, .int v1, .int v2]) (vy_Qc D cy H0 r (fun _ => μ') μ') cn nn (vg_fr H0) := by
  refine va_MetW (cc := cL_pattern) (maxL := 4) (ret := some .int) (hh := hL_pattern) (by decide +kernel) rfl ?_
  intro p e s m args below meth c s₁ B hml hv
  obtain ⟨⟨rfl, hH, hG⟩, hNc⟩ := hv
  have hts := atoms_spec (ws := Cond.codeWith yL_pattern cL_pattern 4 (some .int) hL_pattern :: vg_T) B.pre
  have hown : s.vm.findClass RL = some m.cls := findClass_of_methodNamed B.named
  have htab : c.exceptionTable.toList = tableOf hL_pattern := vx_table (x := yL_pattern) B (hts _ List.mem_cons_self)
  have hl := lv_entry ([.ref x, .int v1, .int v2]) (n := 4) (Nat.le_of_ble_eq_true rfl)
  rw [lg_entry_eq]
  generalize (lg_sl ([.ref x, .int v1, .int v2]) ++ List.replicate (4 - (lg_sl ([.ref x, .int v1, .int v2])).length) Slot.unset).toArray = ls at hl ⊢
  have hl : vg_l ls 4 [(0, .ref x), (1, .int v1), (2, .int v2)] := ⟨hl, fun q hq => by simp only [List.mem_cons, List.not_mem_nil, or_false] at hq; rcases hq with rfl | rfl | rfl <;> rfl⟩
  have X : vg_X D cy H0 p s m _ c cL_pattern RL := ⟨B.exec, B.bytes, fun w hw => hts w (List.mem_cons_of_mem _ hw), hown, hG⟩
  have hx := X.1
  have hb := X.2.1
  have hr : meth.sig.returnType = some .int := B.returns
  have hlk := B.notSynchronized
  have hL : ∀ z ∈ ([] : List Loc), H0.size ≤ z.base := fun _ h => nomatch h
  refine lv_aload_n hx hb dL_pattern_0 rfl (lv_at hl.1 0 rfl) ?_
  refine lv_iload_n hx hb dL_pattern_1 rfl (lv_at hl.1 1 rfl) ?_
  refine lv_iload_n hx hb dL_pattern_2 rfl (lv_at hl.1 2 rfl) ?_
  refine vy_callX (h1 := 45) (ci := 13) (rest := []) X hml hl hH hL fCV_L_30 rfl [.int v1, .int v2] rfl rfl (Nat.le_of_ble_eq_true rfl) dL_pattern_3 hx0 (by rw [Nat.zero_add]; exact Nat.le_refl _) (by rw [Nat.zero_add]; exact Nat.le_refl _) (Nat.le_refl _) (Nat.le_refl _) (by decide) (cX10_pattern_met hls hf) (fun v H1 locs1 hrv hH1 hL1 => ?_) (fun k z ce q H1 locs1 hrk hH1 hL1 hce hcv hcl => ?_)
  · refine lv_goto (tgt := 15) hx hb dL_pattern_6 (by decide) ?_
    refine lv_iconst (v := 0) hx hb dL_pattern_15 (by decide) ?_
    refine W.widen (k := cn) (n := nn) (by omega) (by omega) ?_
    exact vy_fin0 X hr hlk hrv hH1 hL1 dL_pattern_16
  · have hkk := hk k hrk
    by_cases h1 : k = 1
    · subst h1
      refine vy_catch (own := RL) (name := "java/lang/IllegalArgumentException") (E := vg_ex 1) hown [] ⟨0, 6, 9, 13⟩ [⟨0, 6, 12, 15⟩] (by rw [htab]; rfl) (fun z hz => nomatch hz) (by decide) (by decide) (X.2.2.1 _ kL_13) (va_Nw.use (by decide +kernel) (hG.2.2.2.2.2.2.1 (.castable "java/lang/IllegalArgumentException" "java/lang/IllegalArgumentException") (by decide +kernel))) hce hcv hcl ?_
      refine vg_astore_n (x := some q) (lv' := [(3, va_rf (some q)), (0, .ref x), (1, .int v1), (2, .int v2)]) hx hb dL_pattern_9 rfl hl (by decide) rfl (fun ls hl => ?_)
      refine lv_iconst (v := 1) hx hb dL_pattern_10 (by decide) ?_
      refine W.widen (k := cn) (n := nn) (by omega) (by omega) ?_
      exact vy_fin (k := 1) X hr hlk hrk hH1 hL1 dL_pattern_11
    · have h2 : k = 2 := by omega
      subst h2
      refine vy_catch (own := RL) (name := "java/lang/IllegalStateException") (E := vg_ex 2) hown [⟨0, 6, 9, 13⟩] ⟨0, 6, 12, 15⟩ [] (by rw [htab]; rfl) (fun z hz => ?_) (by decide) (by decide) (X.2.2.1 _ kL_15) (va_Nw.use (by decide +kernel) (hG.2.2.2.2.2.2.1 (.castable "java/lang/IllegalStateException" "java/lang/IllegalStateException") (by decide +kernel))) hce hcv hcl ?_
      · rw [List.mem_singleton.mp hz]
        exact ⟨by decide, by decide, _, X.2.2.1 _ kL_13, hNc⟩
      · refine vg_astore_n (x := some q) (lv' := [(3, va_rf (some q)), (0, .ref x), (1, .int v1), (2, .int v2)]) hx hb dL_pattern_12 rfl hl (by decide) rfl (fun ls hl => ?_)
        refine lv_iconst (v := 2) hx hb dL_pattern_13 (by decide) ?_
        refine W.widen (k := cn) (n := nn) (by omega) (by omega) ?_
        exact vy_fin (k := 2) X hr hlk hrk hH1 hL1 dL_pattern_14
end VYT
