/-! THE CLAIM OUT OF ONE WALK OF THE LAW'S BODY. Your part is whole_start (and what it stands on); all else here is the same for every law, but numbers. -/
def R_law : String := "GlobRowsLaw"
def lw_P (b : Addr) (xs : List Int32) (args : Array Value) (s : State) : Prop := args = #[.ref b] ∧ s.IntsAt b xs ∧ xs.length ≤ 1536 ∧ (Jvm.Cond.and given_1 narrow_1).before args s = true
def lw_Q (_ : Array Value) (s : State) (o : Outcome) (t : State) : Prop := o = .returned (some (.int 1)) ∧ Framed s o t [] 601024 7293033
def lw_Z (below : List Frame) (a : Array Value) (s : State) : State → Prop := fun t => ∃ o, t.status = .running ∧ Ended t below o ∧ lw_Q a s o t
/-- the law's own end, with 1 on the stack, nothing written that was there before, its room as the claim has it -/
theorem lw_ret {p : Program} {l : Launch} {e : Env} {s : State} {m : MethodId} {below : List Frame} {meth : Method} {c : Code} {b : Nat} (hx : p.tables.exec = Jvm.exec) (hb : c.code = code) (hr : meth.sig.returnType = ret) (hlocks : meth.locks = false) {pc : Nat} {H : Heap} {ls : Array Slot} (hdg : decode code pc = .ok (.ireturn, 1)) : W p l e room_1 s m #[Value.ref b] below meth c H [] 601024 7293033 (lw_Z below #[Value.ref b] s) (F0 m pc ls [.int 1]) := by
  intro T hT X
  obtain ⟨fs, hret, hrun, hended, hW, hframe⟩ := X.leave (v := some (.int 1)) (hlocks := hlocks) (fun h => by rw [hr] at h; cases h)
  have hmeth' : T.vm.method? m = some meth := X.method'
  refine ⟨T.setFrames fs, ?_, .returned (some (.int 1)), hrun, hended, rfl, ⟨_, rfl⟩, hW, hframe⟩
  jvm_step X.here [X.here.top, hx, hb, hdg, hmeth', hr, ret, narrow_b1]
  (try refine ⟨rfl, ?_⟩); (try refine ⟨rfl, ?_⟩)
  first | (intro acts; rw [hret _ acts rfl rfl rfl]) | rw [hret _ _ rfl rfl rfl]
  exact Steps.refl _
/-- what holds at the law's entry: the machine, the code, the tables' words (any of lw_tbl by 'hts w (by decide +kernel)'), the script of L ints xs at the cell b, what the Statement gives of the start (any of its parts by flat_of_before) -/
def lw_At (p : Program) (s : State) (m : MethodId) (meth : Method) (c : Code) (b L : Nat) (xs : Nat → Int32) : Prop :=
  p.tables.exec = Jvm.exec ∧ c.code = code ∧ meth.sig.returnType = ret ∧ c.maxLocals = 7 ∧ s.vm.findClass R_law = some m.cls ∧ (∀ w ∈ lw_tbl, w.before #[Value.ref b] s = true) ∧ va_X b L xs s s.heap ∧ b < s.heap.size ∧ meth.locks = false ∧ (Jvm.Cond.and given_1 narrow_1).before #[Value.ref b] s = true
/-! The law's loop. -/
section LWL
variable {p : Program} {l : Launch} {e : Env} {s : State} {m : MethodId} {below : List Frame} {meth : Method} {c : Code}
variable {D : va_G} {cy : Nat → ClassId} {b L x mm out : Nat} {xs : Nat → Int32}
theorem lw_lt {i : Nat} (hL : L ≤ 1536) (hi : i ≤ 1536) (h : ¬ nI L - 3 < nI i) : i + 2 < L := by
  have h1 : (nI L - 3).toInt = (L : Int) - 3 := by
    have e3 : (3 : Int32).toInt = 3 := by decide
    rw [Int32.toInt_sub, nI_toInt (by omega), e3]
    rw [Int.bmod_eq_of_le (by omega) (by omega)]
  have h2 : ¬ (nI L - 3).toInt < (nI i).toInt := fun q => h (Int32.lt_iff_toInt_lt.mpr q)
  rw [h1, nI_toInt (by omega)] at h2
  omega
theorem law_loop (K : LK D cy l p s m c b L xs) (hr : meth.sig.returnType = ret) (hlocks : meth.locks = false) : ∀ (n j : Nat) (H : Heap) (locs : List Loc) (ls : Array Slot), 3 * j ≤ L → L + 1 ≤ 3 * j + n → LJ D cy s x mm out (1 + 12 * j) H locs → vg_l ls 7 (lv5 b x mm out (3 * j)) → W p l e room_1 s m #[Value.ref b] below meth c H locs (100 + 310 * j) (20000 + 8480 * j) (lw_Z below #[Value.ref b] s) (F0 m 23 ls []) := by
  obtain ⟨X, hml, hX, hbl, hNc, hL6, hls⟩ := id K
  have hx := X.1
  have hb := X.2.1
  intro n
  induction n with
  | zero => intro j H locs ls h1 h2; exact absurd h2 (by omega)
  | succ n ih =>
    intro j H locs ls h1 h2 hJ hl
    obtain ⟨g, hH, hI, hL⟩ := id hJ
    refine lv_iload hx hb dL_law_23 (lv_at hl.1 4 rfl) ?_
    refine lv_aload_n hx hb dL_law_25 rfl (lv_at hl.1 0 rfl) ?_
    refine va_slen hx hb hX hbl (Nat.not_le.mpr hbl) (hH.S hL) dL_law_26 ?_
    refine lv_iconst (v := 3) hx hb dL_law_27 (by decide) ?_
    refine lv_isub hx hb dL_law_28 ?_
    refine lv_icmp_gt (tgt := 509) hx hb dL_law_29 (by decide) (fun h => ?_) (fun h => ?_)
    · refine lv_iconst (v := 1) hx hb dL_law_509 (by decide) ?_
      refine va_forget hL ?_
      refine W.widen (k := 601024) (n := 7293033) (by omega) (by omega) ?_
      exact lw_ret hx hb hr hlocks dL_law_510
    · have hi : 3 * j + 2 < L := lw_lt hL6 (by omega) h
      refine lv_aload_n hx hb dL_law_32 rfl (lv_at hl.1 0 rfl) ?_
      refine lv_iload hx hb dL_law_33 (lv_at hl.1 4 rfl) ?_
      refine va_sld hx hb hX hbl (Nat.not_le.mpr hbl) (hH.S hL) (vp_in_nI (by omega) (by omega)) dL_law_35 ?_
      refine lv_bipush (v := 15) hx hb dL_law_36 (by decide) ?_
      refine lv_iand hx hb dL_law_38 ?_
      generalize xs (nI (3 * j)).toNatClampNeg &&& 15 = op
      have kk : ∀ (H1 : Heap) (locs1 : List Loc) (ls' : Array Slot), LJ D cy s x mm out (1 + 12 * j + 12) H1 locs1 → vg_l ls' 7 (lv5 b x mm out (3 * j)) → W p l e room_1 s m #[Value.ref b] below meth c H1 locs1 (100 + 310 * j + 310) (20000 + 8480 * j + 8480) (lw_Z below #[Value.ref b] s) (F0 m 503 ls' []) := by
        intro H1 locs1 ls' hJ1 hl1
        refine vg_iinc (v := nI (3 * (j + 1))) (k := 4) (lv' := [(4, .int (nI (3 * (j + 1)))), (0, .ref b), (1, .ref x), (2, .ref mm), (3, .ref out)]) hx hb dL_law_503 hl1 rfl ?_ (by decide) rfl (fun ls2 hl2 => ?_)
        · exact nI_add (3 * j) 3
        · refine lv_goto (tgt := 23) hx hb dL_law_506 (by decide) ?_
          rw [show 100 + 310 * j + 310 = 100 + 310 * (j + 1) by omega, show 20000 + 8480 * j + 8480 = 20000 + 8480 * (j + 1) by omega]
          rw [show 1 + 12 * j + 12 = 1 + 12 * (j + 1) by omega] at hJ1
          exact ih (j + 1) H1 locs1 ls2 (by omega) (by omega) hJ1 (hl2.sub [1, 2, 3, 4, 0] rfl)
      have hB : 1 + 12 * j + 12 < 2 ^ 30 := by omega
      have hc : 100 + 310 * j + 310 ≤ 601024 := by omega
      have hs : 20000 + 8480 * j + 8480 ≤ 7293033 := by omega
      by_cases hop : op.toInt < 0 ∨ 10 < op.toInt
      · refine lv_tableOut (tgt := 503) hx hb dL_law_39 hop (by decide) ?_
        refine W.widen (k := 100 + 310 * j + 310) (n := 20000 + 8480 * j + 8480) (by omega) (by omega) ?_
        exact kk H locs ls ⟨g, hH, hI.up (by omega), hL⟩ hl
      · have h11 : op.toInt = 0 ∨ op.toInt = 1 ∨ op.toInt = 2 ∨ op.toInt = 3 ∨ op.toInt = 4 ∨ op.toInt = 5 ∨ op.toInt = 6 ∨ op.toInt = 7 ∨ op.toInt = 8 ∨ op.toInt = 9 ∨ op.toInt = 10 := by omega
        rcases h11 with h | h | h | h | h | h | h | h | h | h | h
        · refine lv_tableIn (tgt := 96) (off := 57) hx hb dL_law_39 (by omega) (by omega) (by rw [h]; rfl) (by decide) ?_
          exact lw_c0 K hJ hB (by omega) hi hl hc hs kk
        · refine lv_tableIn (tgt := 123) (off := 84) hx hb dL_law_39 (by omega) (by omega) (by rw [h]; rfl) (by decide) ?_
          exact lw_c1 K hJ hB (by omega) hi hl hc hs kk
        · refine lv_tableIn (tgt := 167) (off := 128) hx hb dL_law_39 (by omega) (by omega) (by rw [h]; rfl) (by decide) ?_
          exact lw_c2 K hJ hB (by omega) hi hl hc hs kk
        · refine lv_tableIn (tgt := 211) (off := 172) hx hb dL_law_39 (by omega) (by omega) (by rw [h]; rfl) (by decide) ?_
          exact lw_c3 K hJ hB (by omega) hi hl hc hs kk
        · refine lv_tableIn (tgt := 255) (off := 216) hx hb dL_law_39 (by omega) (by omega) (by rw [h]; rfl) (by decide) ?_
          exact lw_c4 K hJ hB (by omega) hi hl hc hs kk
        · refine lv_tableIn (tgt := 307) (off := 268) hx hb dL_law_39 (by omega) (by omega) (by rw [h]; rfl) (by decide) ?_
          exact lw_c5 K hJ hB (by omega) hi hl hc hs kk
        · refine lv_tableIn (tgt := 351) (off := 312) hx hb dL_law_39 (by omega) (by omega) (by rw [h]; rfl) (by decide) ?_
          exact lw_c6 K hJ hB (by omega) hi hl hc hs kk
        · refine lv_tableIn (tgt := 415) (off := 376) hx hb dL_law_39 (by omega) (by omega) (by rw [h]; rfl) (by decide) ?_
          exact lw_c7 K hJ hB (by omega) hi hl hc hs kk
        · refine lv_tableIn (tgt := 428) (off := 389) hx hb dL_law_39 (by omega) (by omega) (by rw [h]; rfl) (by decide) ?_
          exact lw_c8 K hJ hB (by omega) hi hl hc hs kk
        · refine lv_tableIn (tgt := 453) (off := 414) hx hb dL_law_39 (by omega) (by omega) (by rw [h]; rfl) (by decide) ?_
          exact lw_c9 K hJ hB (by omega) hi hl hc hs kk
        · refine lv_tableIn (tgt := 466) (off := 427) hx hb dL_law_39 (by omega) (by omega) (by rw [h]; rfl) (by decide) ?_
          exact lw_c10 K hJ hB (by omega) hi hl hc hs kk
end LWL
